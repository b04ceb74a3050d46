/-! ===== the reference reads: ring, line, all ===== -/
section RW
variable {B : va_E} {T : Int → Int} {n s : Int} {σ : l2_m} {K : Int → l2_m → Prop}
theorem r185 (h9 : σ 186 9 = 0) (hS : RS T n s σ) (hF : ∀ τ : l2_m, frRr σ τ → (rng T n s).1 ≠ 0 → RF (rng T n s).1 (rng T n s).2.1 τ → K 0 τ) (hO : ∀ τ : l2_m, frRr σ τ → (rng T n s).1 = 0 → RS T n (rng T n s).2.1 τ → s ≤ (rng T n s).2.1 → isPr (rng T n s).2.2.1 → isOr (rng T n s).2.2.2.1 (rng T n s).2.2.2.2.1 (rng T n s).2.2.2.2.2 → τ 186 9 = (rng T n s).2.2.1 → τ 186 10 = (rng T n s).2.2.2.1 → τ 186 11 = (rng T n s).2.2.2.2.1 → τ 186 12 = (rng T n s).2.2.2.2.2 → K 0 τ) : wC B 185 [vr 186] σ K := by
  obtain ⟨R, hR⟩ : ∃ R, R = rng T n s := ⟨_, rfl⟩
  rw [← hR] at hF hO
  unfold rng at hR
  obtain ⟨-, -, t15, t16, t17, t18, t19⟩ := tx_e
  have kb := tE_b (T := T) (n := n) (s := s) hS.1.2.2.1
  obtain ⟨s1, e1⟩ : ∃ s1, s1 = tE T n s := ⟨_, rfl⟩
  rw [← e1] at hR kb
  have kb1 := tE_b (T := T) (n := n) (s := s1) (by omega)
  obtain ⟨s2, e2⟩ : ∃ s2, s2 = tE T n s1 := ⟨_, rfl⟩
  rw [← e2] at kb1
  have kb2 := tE_b (T := T) (n := n) (s := s2) (by omega)
  obtain ⟨s3, e3⟩ : ∃ s3, s3 = tE T n s2 := ⟨_, rfl⟩
  rw [← e3] at kb2
  have kb3 := tE_b (T := T) (n := n) (s := s3) (by omega)
  obtain ⟨s4, e4'⟩ : ∃ s4, s4 = tE T n s3 := ⟨_, rfl⟩
  rw [← e4'] at kb3
  have kb4 := tE_b (T := T) (n := n) (s := s4) (by omega)
  obtain ⟨s5, e5'⟩ : ∃ s5, s5 = tE T n s4 := ⟨_, rfl⟩
  rw [← e5'] at kb4
  have kb5 := tE_b (T := T) (n := n) (s := s5) (by omega)
  obtain ⟨s6, e6⟩ : ∃ s6, s6 = tE T n s5 := ⟨_, rfl⟩
  rw [← e6] at kb5
  have kb6 := tE_b (T := T) (n := n) (s := s6) (by omega)
  obtain ⟨s7, e7⟩ : ∃ s7, s7 = tE T n s6 := ⟨_, rfl⟩
  rw [← e7] at kb6
  have kb7 := tE_b (T := T) (n := n) (s := s7) (by omega)
  have fr0 : frRr σ σ := fun _ _ _ => rfl
  have fl : ∀ (f a : Int), R.1 = f → R.2.1 = a → f ≠ 0 → ∀ τ : l2_m, frRr σ τ → RF f a τ → K 0 τ := fun f a q1 q2 hf τ fτ Fτ => hF τ fτ (by rw [q1]; exact hf) (by rw [q1, q2]; exact Fτ)
  refine o185 ?_
  unfold w185
  rw [h9]
  refine ⟨by decide, ?_⟩
  rw [if_neg (by decide)]
  unfold w185_12
  refine nxt hS (fun u1 f1 S1 => ?_)
  rw [← e1] at S1
  have g1 := frRr_N fr0 f1
  refine r180 (o := 15) (by decide) S1 (fun u2 f2 w5 S2 => ?_) (fun u2 f2 w5 F2 => ?_)
  · rw [t15] at w5
    rw [if_pos w5, ← e2] at hR
    rw [← e2] at S2
    have g2 := frRr_N g1 f2
    have hk2 := RS_k S2.1
    unfold rng1 at hR
    refine ⟨(RS_g S2).1, ?_⟩
    by_cases k2 : tK T n s2 = 2
    · rw [if_pos (hk2.2.2.1.mpr k2)]
      rw [if_pos k2] at hR
      have v21 := S2.1.2.2.2.2.2.2.2.1 k2
      have vb := tk2 (T := T) S2.1.2.2.1 k2
      rw [v21]
      refine r184 vb.1 vb.2 (fun hp => ⟨by decide, ?_⟩) (fun hp => ⟨by decide, ?_⟩)
      · rw [if_neg (by decide)]
        rw [if_pos hp, ← e3] at hR
        unfold w185_53
        intro p ep
        rw [v21] at ep
        rw [← ep] at hR hp
        refine nxt S2 (fun u3 f3 S3 => ?_)
        rw [← e3] at S3
        have g3 := frRr_N g2 f3
        unfold rng2 at hR
        refine r180 (o := 16) (by decide) S3 (fun u4 f4 w6 S4 => ?_) (fun u4 f4 w6 F4 => ?_)
        · rw [t16] at w6
          rw [if_pos w6, ← e4'] at hR
          rw [← e4'] at S4
          have g4 := frRr_N g3 f4
          refine ⟨RS_g S4, ?_⟩
          have go : ∀ h : Int, h = rngH T n s4 → (h = -1 ∨ (0 ≤ h ∧ h < 3)) → w185_109 B u4 p h K := by
            intro h eh hh
            rw [← eh] at hR
            unfold w185_109
            intro u5 e5
            obtain ⟨g5, n5⟩ := frRr_u g4 (by decide) e5
            have S5 := RS_fr S4 (fun b j w => n5 b j (by omega))
            have e10 : u5 186 10 = h := by rw [e5, l2_u_self]
            rw [e10]
            refine ⟨⟨by omega, by omega⟩, ?_⟩
            by_cases hm : h = -1
            · rw [if_pos hm]
              rw [if_pos hm] at hR
              refine ⟨by rw [S5.1.2.2.2.1]; decide, ?_⟩
              intro u6 e6'
              obtain ⟨Fw, gw⟩ := RS_flw S5 (by decide) (by decide) e6'
              exact r185c (frRr_N g5 gw) Fw (fl 1 _ (by rw [hR]) (by rw [hR]) (by decide))
            · rw [if_neg hm]
              rw [if_neg hm, ← e5'] at hR
              unfold rngU at hR
              have ub1 := unkF_b (T := T) (n := n) s5
              unfold w185_125
              refine nxt S5 (fun u6 f6 S6 => ?_)
              rw [← e5'] at S6
              have g6 := frRr_N g5 f6
              have d10 : u6 186 10 = h := by rw [f6 186 10 (by omega)]; exact e10
              refine r186 (by decide) (by decide) S6 (fun u7 f7 m1 F7 v7 ev7 => ?_) (fun u7 f7 m1 m2 F7 => absurd m2 (by omega)) (fun u7 f7 m1 m2 S7 v7 ev7 => ?_)
              · rw [if_pos m1] at hR
                obtain ⟨g7, n7⟩ := frRr_u (frRr_N g6 f7) (by decide) ev7
                exact r185d g7 (RF_fr F7 (fun b j w => n7 b j (by omega))) (fl 1 _ (by rw [hR]) (by rw [hR]) (by decide))
              · rw [if_neg m1, ← e6] at hR
                rw [← e6] at S7
                obtain ⟨g7, n7⟩ := frRr_u (frRr_N g6 f7) (by decide) ev7
                have S7' := RS_fr S7 (fun b j w => n7 b j (by omega))
                have e11 : v7 186 11 = unkF T n s5 := by rw [ev7, l2_u_self]
                have x10 : v7 186 10 = h := by rw [n7 186 10 (by omega), f7 186 10 (by omega)]; exact d10
                have ub2 := unkF_b (T := T) (n := n) s6
                rw [e11]
                refine r186 ub1 (by decide) S7' (fun u8 f8 m3 F8 v8 ev8 => ?_) (fun u8 f8 m3 m4 F8 v8 ev8 => ?_) (fun u8 f8 m3 m4 S8 v8 ev8 => ?_)
                · rw [if_pos m3] at hR
                  obtain ⟨g8, n8⟩ := frRr_u (frRr_N g7 f8) (by decide) ev8
                  exact r185e g8 (RF_fr F8 (fun b j w => n8 b j (by omega))) (fl 1 _ (by rw [hR]) (by rw [hR]) (by decide))
                · have m4' : unkF T n s6 = unkF T n s5 := by omega
                  rw [if_neg m3, if_pos m4'] at hR
                  obtain ⟨g8, n8⟩ := frRr_u (frRr_N g7 f8) (by decide) ev8
                  exact r185e g8 (RF_fr F8 (fun b j w => n8 b j (by omega))) (fl 3 _ (by rw [hR]) (by rw [hR]) (by decide))
                · have m4' : ¬ unkF T n s6 = unkF T n s5 := by omega
                  rw [if_neg m3, if_neg m4', ← e7] at hR
                  rw [← e7] at S8
                  obtain ⟨g8, n8⟩ := frRr_u (frRr_N g7 f8) (by decide) ev8
                  have S8' := RS_fr S8 (fun b j w => n8 b j (by omega))
                  have e12 : v8 186 12 = unkF T n s6 := by rw [ev8, l2_u_self]
                  have e11' : v8 186 11 = unkF T n s5 := by rw [n8 186 11 (by omega), f8 186 11 (by omega)]; exact e11
                  have x10' : v8 186 10 = h := by rw [n8 186 10 (by omega), f8 186 10 (by omega)]; exact x10
                  have ub3 := unkF_b (T := T) (n := n) s7
                  rw [e12, e11']
                  refine r186 ub1 ub2 S8' (fun u9 f9 m5 F9 => ⟨(RF_22 F9).1, ?_⟩) (fun u9 f9 m5 m6 F9 => ⟨(RF_22 F9).1, ?_⟩) (fun u9 f9 m5 m6 S9 => ⟨?_, ?_⟩)
                  · rw [if_neg (RF_22 F9).2.1]
                    rw [if_pos m5] at hR
                    exact fl 1 _ (by rw [hR]) (by rw [hR]) (by decide) u9 (frRr_N g8 f9) F9
                  · rw [if_neg (RF_22 F9).2.1]
                    rw [if_neg m5, if_pos m6] at hR
                    exact fl 3 _ (by rw [hR]) (by rw [hR]) (by decide) u9 (frRr_N g8 f9) F9
                  · rw [S9.1.2.2.2.1]; decide
                  · rw [if_pos S9.1.2.2.2.1]
                    rw [if_neg m5, if_neg m6] at hR
                    intro v9 ev9
                    obtain ⟨g9, n9⟩ := frRr_u (frRr_N g8 f9) (by decide) ev9
                    refine hO v9 g9 (by rw [hR]) (by rw [hR]; exact RS_fr S9 (fun b j w => n9 b j (by omega))) (by rw [hR]; show s ≤ tE T n s7; omega) (by rw [hR]; exact hp) (by rw [hR]; exact ⟨by show 0 ≤ h ∧ h < 3; omega, by show 0 ≤ unkF T n s5 ∧ unkF T n s5 < 3; omega, by show 0 ≤ unkF T n s6 ∧ unkF T n s6 < 3; omega, fun w => m4' w.symm⟩) (by rw [hR, ev9, l2_u_self]) (by rw [hR, n9 186 10 (by omega), f9 186 10 (by omega)]; exact x10') (by rw [hR, n9 186 11 (by omega), f9 186 11 (by omega)]; exact e11') (by rw [hR, n9 186 12 (by omega), f9 186 12 (by omega)]; exact e12)
          have w7 := RS_w S4 (o := 17) (by decide)
          have w8 := RS_w S4 (o := 18) (by decide)
          have w9 := RS_w S4 (o := 19) (by decide)
          rw [t17] at w7 ⊢
          rw [t18] at w8 ⊢
          rw [t19] at w9 ⊢
          by_cases x7 : wdF T n s4 (l2_tx 7)
          · rw [if_pos (w7.mpr x7)]
            exact go 0 (by unfold rngH; rw [if_pos x7]) (Or.inr ⟨by decide, by decide⟩)
          · rw [if_neg (fun w => x7 (w7.mp w))]
            by_cases x8 : wdF T n s4 (l2_tx 8)
            · rw [if_pos (w8.mpr x8)]
              exact go 1 (by unfold rngH; rw [if_neg x7, if_pos x8]) (Or.inr ⟨by decide, by decide⟩)
            · rw [if_neg (fun w => x8 (w8.mp w))]
              by_cases x9 : wdF T n s4 (l2_tx 9)
              · rw [if_pos (w9.mpr x9)]
                exact go 2 (by unfold rngH; rw [if_neg x7, if_neg x8, if_pos x9]) (Or.inr ⟨by decide, by decide⟩)
              · rw [if_neg (fun w => x9 (w9.mp w))]
                exact go (-1) (by unfold rngH; rw [if_neg x7, if_neg x8, if_neg x9]) (Or.inl rfl)
        · rw [t16] at w6
          rw [if_neg w6] at hR
          refine ⟨RF_g F4, ?_⟩
          rw [if_neg (RF_w F4 17), if_neg (RF_w F4 18), if_neg (RF_w F4 19)]
          exact r185b (frRr_N g3 f4) (by decide) F4 (fl 1 _ (by rw [hR]) (by rw [hR]) (by decide))
      · rw [if_pos rfl]
        rw [if_neg hp] at hR
        refine ⟨by rw [S2.1.2.2.2.1]; decide, ?_⟩
        intro u3 e3'
        obtain ⟨Fw, gw⟩ := RS_flw S2 (by decide) (by decide) e3'
        exact r185a (frRr_N g2 gw) Fw (fl 2 _ (by rw [hR]) (by rw [hR]) (by decide))
    · rw [if_neg (fun w => k2 (hk2.2.2.1.mp w))]
      rw [if_neg k2] at hR
      refine ⟨by rw [S2.1.2.2.2.1]; decide, ?_⟩
      intro u3 e3'
      obtain ⟨Fw, gw⟩ := RS_flw S2 (by decide) (by decide) e3'
      exact r185a (frRr_N g2 gw) Fw (fl 1 _ (by rw [hR]) (by rw [hR]) (by decide))
  · rw [t15] at w5
    rw [if_neg w5] at hR
    refine ⟨(RF_g F2).1, ?_⟩
    rw [if_neg (by rw [F2.2.2.2.2.1]; decide)]
    refine ⟨(RF_22 F2).1, ?_⟩
    intro u3 e3'
    obtain ⟨Fw, gw⟩ := RF_flw F2 e3'
    exact r185a (frRr_N (frRr_N g1 f2) gw) Fw (fl 1 _ (by rw [hR]) (by rw [hR]) (by decide))
/-- what is read so far -/
def RLF (u : l2_m) (p h a b c : Int) (G : Int → Int → Int) : Prop := u 186 9 = p ∧ (p ≠ 0 → isPr p ∧ isOr h a b ∧ u 186 10 = h ∧ u 186 11 = a ∧ u 186 12 = b) ∧ u 186 13 = c ∧ 0 ≤ c ∧ c ≤ 6 ∧ (p = 0 → c = 0) ∧ ∀ i k : Int, 0 ≤ i → i < 6 → 0 ≤ k → k < 4096 → (i < c → u 188 (4096 * i + k) = G i k ∧ 0 ≤ G i k ∧ G i k < p) ∧ (c ≤ i → u 188 (4096 * i + k) = 0)
def frRL (σ τ : l2_m) : Prop := ∀ b j, b ≠ 188 → ¬ (b = 186 ∧ ((9 ≤ j ∧ j ≤ 13) ∨ (18 ≤ j ∧ j ≤ 23))) → τ b j = σ b j
theorem frRL_t {τ υ : l2_m} (h : frRL σ τ) (h' : frRL τ υ) : frRL σ υ := fun b j w1 w2 => (h' b j w1 w2).trans (h b j w1 w2)
theorem RLF_fr {u v : l2_m} {p h a b c : Int} {G : Int → Int → Int} (hL : RLF u p h a b c G) (f : ∀ b j, b = 188 ∨ (b = 186 ∧ 9 ≤ j ∧ j ≤ 13) → v b j = u b j) : RLF v p h a b c G := by
  obtain ⟨h1, h2, h3, h4, h5, h6, h7⟩ := hL
  refine ⟨by rw [f 186 9 (by omega)]; exact h1, fun hp => ?_, by rw [f 186 13 (by omega)]; exact h3, h4, h5, h6, fun i k i0 i1 k0 k1 => by rw [f 188 _ (by omega)]; exact h7 i k i0 i1 k0 k1⟩
  obtain ⟨k1, k2, k3, k4, k5⟩ := h2 hp
  exact ⟨k1, k2, by rw [f 186 10 (by omega)]; exact k3, by rw [f 186 11 (by omega)]; exact k4, by rw [f 186 12 (by omega)]; exact k5⟩
theorem r183 {p h a b c : Int} {G : Int → Int → Int} {f : Nat} (hS : RS T n s σ) (hL : RLF σ p h a b c G) (hF : ∀ τ : l2_m, frRL σ τ → (rdL T n (f + 1) s p h a b c G).1 ≠ 0 → RF (rdL T n (f + 1) s p h a b c G).1 (rdL T n (f + 1) s p h a b c G).2.1 τ → K 0 τ) (hO : ∀ (τ : l2_m) (z p' h' a' b' c' : Int) (G' : Int → Int → Int), frRL σ τ → RS T n z τ → s ≤ z → p' ≠ 0 → RLF τ p' h' a' b' c' G' → rdL T n (f + 1) s p h a b c G = rdE T n (rdL T n f) z p' h' a' b' c' G' → K 0 τ) : wC B 183 [vr 186] σ K := by
  obtain ⟨R, hR⟩ : ∃ R, R = rdL T n (f + 1) s p h a b c G := ⟨_, rfl⟩
  rw [← hR] at hF hO
  unfold rdL at hR
  obtain ⟨t13, t14, -⟩ := tx_e
  obtain ⟨l1, l2, l3, l4, l5, l6, l7⟩ := id hL
  have h22 : rg (σ 186 22) := by rw [hS.1.2.2.2.1]; decide
  have w3 := RS_w hS (o := 13) (by decide)
  have w4 := RS_w hS (o := 14) (by decide)
  refine o183 ?_
  unfold w183
  refine ⟨RS_g hS, ?_⟩
  rw [t13] at w3 ⊢
  rw [t14] at w4 ⊢
  have fl : ∀ (x y : Int) (τ : l2_m), R = rdX x y → x ≠ 0 → frRL σ τ → RF x y τ → K 0 τ := fun x y τ e hx fτ Fτ => hF τ fτ (by rw [e]; exact hx) (by rw [e]; exact Fτ)
  have NL : ∀ τ : l2_m, frN σ τ → frRL σ τ := fun τ w b j w1 w2 => w b j (by omega)
  have RLr : ∀ τ : l2_m, frRr σ τ → frRL σ τ := fun τ w b j w1 w2 => w b j (by omega)
  by_cases x3 : wdF T n s (l2_tx 3)
  · rw [if_pos (w3.mpr x3)]
    rw [if_pos x3] at hR
    by_cases hp : p = 0
    · rw [if_neg (fun w => w hp)] at hR
      refine r185 (by rw [l1]; exact hp) hS (fun τ f1 q1 q2 => ?_) (fun τ f1 q1 q2 q3 q4 q5 q6 q7 q8 q9 => ?_)
      · rw [if_pos q1] at hR
        exact fl _ _ τ hR q1 (RLr τ f1) q2
      · rw [if_neg (fun w => w q1)] at hR
        obtain ⟨p2, p97, -⟩ := pr_rest _ q4
        have hp0 : (rng T n s).2.2.1 ≠ 0 := by omega
        have hc0 := l6 hp
        refine hO τ _ _ _ _ _ c G (RLr τ f1) q2 q3 hp0 ⟨q6, fun _ => ⟨q4, q5, q7, q8, q9⟩, by rw [f1 186 13 (by omega)]; exact l3, l4, l5, fun w => absurd w hp0, fun i k i0 i1 k0 k1 => ?_⟩ hR
        rw [f1 188 _ (by omega)]
        exact ⟨fun w => by omega, (l7 i k i0 i1 k0 k1).2⟩
    · rw [if_pos hp] at hR
      obtain ⟨k1, k2, k3, k4, k5⟩ := l2 hp
      obtain ⟨p2, p97, -⟩ := pr_rest _ k1
      refine o185 ?_
      unfold w185
      rw [l1]
      refine ⟨⟨by omega, by omega⟩, ?_⟩
      rw [if_pos (by omega)]
      refine ⟨h22, ?_⟩
      intro u eu
      obtain ⟨Fw, gw⟩ := RS_flw hS (by decide) (by decide) eu
      exact r185F (σ := σ) (fun b j w => gw b j (by omega)) Fw (fun τ f1 F1 => fl 3 _ τ hR (by decide) (RLr τ f1) F1)
  · rw [if_neg (fun w => x3 (w3.mp w))]
    rw [if_neg x3] at hR
    by_cases x4 : wdF T n s (l2_tx 4)
    · rw [if_pos (w4.mpr x4)]
      rw [if_pos x4] at hR
      by_cases hp : p = 0
      · rw [if_pos hp] at hR
        have hc0 := l6 hp
        refine o187 ?_
        unfold w187
        rw [l3]
        refine ⟨⟨by omega, by omega⟩, ?_⟩
        rw [if_neg (by omega)]
        unfold w187_14
        rw [l1]
        refine ⟨by rw [hp]; decide, ?_⟩
        rw [if_pos hp]
        refine ⟨h22, ?_⟩
        intro u eu
        obtain ⟨Fw, gw⟩ := RS_flw hS (by decide) (by decide) eu
        exact r187F Fw (fun τ f1 F1 => fl 6 _ τ hR (by decide) (NL τ (fun b j w => (f1 b j w).trans (gw b j w))) F1)
      · rw [if_neg hp] at hR
        obtain ⟨k1, k2, k3, k4, k5⟩ := l2 hp
        obtain ⟨p2, p97, -⟩ := pr_rest _ k1
        by_cases hc : 6 ≤ c
        · rw [if_pos hc] at hR
          refine o187 ?_
          unfold w187
          rw [l3]
          refine ⟨⟨by omega, by omega⟩, ?_⟩
          rw [if_pos (by omega)]
          refine ⟨h22, ?_⟩
          intro u eu
          obtain ⟨Fw, gw⟩ := RS_flw hS (by decide) (by decide) eu
          unfold w187_14
          rw [gw 186 9 (by omega), l1]
          refine ⟨⟨by omega, by omega⟩, ?_⟩
          rw [if_neg hp]
          exact r187F Fw (fun τ f1 F1 => fl 5 _ τ hR (by decide) (NL τ (fun b j w => (f1 b j w).trans (gw b j w))) F1)
        · rw [if_neg hc] at hR
          refine r187 (p := p) (c := c) l1 p2 p97 l3 l4 (by omega) (fun k k0 k1 => (l7 c k l4 (by omega) k0 k1).2 (Int.le_refl _)) hS (fun τ f1 q1 q2 => ?_) (fun τ f1 q1 q2 q3 q4 => ?_)
          · rw [if_pos q1] at hR
            exact fl _ _ τ hR q1 (fun b j w1 w2 => f1 b j (by omega) (by omega)) q2
          · rw [if_neg (fun w => w q1)] at hR
            have hsz : s ≤ (ply T n p s).2.1 := by
              have := q2.1.2.2.1
              exact ply_mono hS.1.2.2.1 q1
            refine hO τ _ p h a b (c + 1) _ (fun b j w1 w2 => f1 b j (by omega) (by omega)) q2 hsz hp ⟨by rw [f1 186 9 (by omega) (by omega)]; exact l1, fun _ => ⟨k1, k2, by rw [f1 186 10 (by omega) (by omega)]; exact k3, by rw [f1 186 11 (by omega) (by omega)]; exact k4, by rw [f1 186 12 (by omega) (by omega)]; exact k5⟩, q3, by omega, by omega, fun w => absurd w hp, fun i k i0 i1 k0 k1 => ?_⟩ hR
            by_cases hi : i = c
            · rw [hi]
              refine ⟨fun _ => ?_, fun w => by omega⟩
              show τ 188 (4096 * c + k) = (if c = c then (ply T n p s).2.2 else G c) k ∧ _
              rw [if_pos rfl]
              exact q4 k k0 k1
            · have e188 : τ 188 (4096 * i + k) = σ 188 (4096 * i + k) := f1 188 _ (by omega) (by omega)
              rw [e188]
              refine ⟨fun w => ?_, fun w => (l7 i k i0 i1 k0 k1).2 (by omega)⟩
              show σ 188 (4096 * i + k) = (if i = c then (ply T n p s).2.2 else G i) k ∧ 0 ≤ (if i = c then (ply T n p s).2.2 else G i) k ∧ (if i = c then (ply T n p s).2.2 else G i) k < p
              rw [if_neg hi]
              exact (l7 i k i0 i1 k0 k1).1 (by omega)
    · rw [if_neg (fun w => x4 (w4.mp w))]
      rw [if_neg x4] at hR
      refine ⟨h22, ?_⟩
      intro u eu
      obtain ⟨Fw, gw⟩ := RS_flw hS (by decide) (by decide) eu
      exact fl 1 _ u hR (by decide) (NL u gw) Fw
end RW
