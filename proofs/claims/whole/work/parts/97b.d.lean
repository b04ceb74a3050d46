/-! ===== ring, lines, the whole text: the class's side ===== -/
section CR3
variable {B : va_E} {T : Int → Int} {n s : Int} {σ : l2_m} {K : Int → l2_m → Prop}
theorem c96 (hS : TS T n s σ) (hF : ∀ τ : l2_m, frRg σ τ → (rng T n s).1 ≠ 0 → τ 49 4 = (rng T n s).1 → τ 49 5 = (rng T n s).2.1 → K 0 τ) (hO : ∀ τ : l2_m, frRg σ τ → (rng T n s).1 = 0 → TS T n (rng T n s).2.1 τ → s ≤ (rng T n s).2.1 → isPr (rng T n s).2.2.1 → isOr (rng T n s).2.2.2.1 (rng T n s).2.2.2.2.1 (rng T n s).2.2.2.2.2 → τ 50 0 = (rng T n s).2.2.1 → τ 49 9 = 1 → τ 52 0 = (rng T n s).2.2.2.1 → τ 52 1 = (rng T n s).2.2.2.2.1 → τ 52 2 = (rng T n s).2.2.2.2.2 → (∀ u : Int, 0 ≤ u → u < 3 → τ 53 u = UW (wt (rng T n s).2.2.2.1 (rng T n s).2.2.2.2.1 (rng T n s).2.2.2.2.2) u) → K 1 τ) : wC B 96 [vr 49] σ K := by
  obtain ⟨R, hR⟩ : ∃ R, R = rng T n s := ⟨_, rfl⟩
  rw [← hR] at hF hO
  unfold rng at hR
  have kb := tE_b (T := T) (n := n) (s := s) hS.2.2.1
  obtain ⟨s1, e1⟩ : ∃ s1, s1 = tE T n s := ⟨_, rfl⟩
  rw [← e1] at hR kb
  have kb1 := tE_b (T := T) (n := n) (s := s1) (by omega)
  obtain ⟨s2, e2⟩ : ∃ s2, s2 = tE T n s1 := ⟨_, rfl⟩
  rw [← e2] at kb1
  have kb2 := tE_b (T := T) (n := n) (s := s2) (by omega)
  obtain ⟨s3, e3⟩ : ∃ s3, s3 = tE T n s2 := ⟨_, rfl⟩
  rw [← e3] at kb2
  have kb3 := tE_b (T := T) (n := n) (s := s3) (by omega)
  have fr0 : frRg σ σ := fun _ _ _ _ => rfl
  refine o96 ?_
  unfold w96
  refine adv hS (fun t1 f1 S1 => ?_)
  rw [← e1] at S1
  have g1 := frRg_T fr0 f1
  refine ⟨TS_g S1, ?_⟩
  by_cases w5 : wdF T n s1 (l2_tx 5)
  · rw [if_pos ((TS_w S1 (l2_tx 5)).mpr w5)]
    rw [if_pos w5, ← e2] at hR
    refine adv S1 (fun t2 f2 S2 => ?_)
    rw [← e2] at S2
    have g2 := frRg_T g1 f2
    rw [S2.2.2.2.2.1]
    unfold rng1 at hR
    refine ⟨⟨by omega, by omega⟩, ?_⟩
    by_cases k2 : tK T n s2 = 2
    · rw [if_pos k2]
      rw [if_pos k2] at hR
      obtain ⟨v1, v2, v3⟩ := TS_2 S2 k2
      rw [v1]
      refine ⟨⟨by omega, by omega⟩, ?_⟩
      by_cases hp : isPr (tV T n s2)
      · rw [if_pos hp]
        rw [if_pos hp] at hR
        obtain ⟨p, ep⟩ : ∃ p, p = tV T n s2 := ⟨_, rfl⟩
        rw [← ep] at hp hR ⊢
        refine c70 (q := 50) (show isMb 50 = true from rfl) hp ?_
        intro t3 q1 q2 q3
        have S3 : TS T n s2 t3 := TS_fr S2 (fun b j z => q1 b j (by omega) (by omega))
        have g3 : frRg σ t3 := fun b j z1 z2 => (q1 b j (by omega) (by omega)).trans (g2 b j z1 z2)
        refine adv S3 (fun t4 f4 S4 => ?_)
        rw [← e3] at S4
        have g4 := frRg_T g3 f4
        have p4 : t4 50 0 = p := by rw [f4 50 0 (by omega)]; exact q2
        refine ⟨TS_g S4, ?_⟩
        rw [← e3] at hR
        unfold rng2 at hR
        by_cases w6 : wdF T n s3 (l2_tx 6)
        · rw [if_pos ((TS_w S4 (l2_tx 6)).mpr w6)]
          rw [if_pos w6] at hR
          refine adv S4 (fun t5 f5 S5 => ?_)
          obtain ⟨s4, e4'⟩ : ∃ s4, s4 = tE T n s3 := ⟨_, rfl⟩
          rw [← e4'] at S5 hR kb3
          have g5 := frRg_T g4 f5
          have p5 : t5 50 0 = p := by rw [f5 50 0 (by omega)]; exact p4
          refine ⟨TS_g S5, ?_⟩
          have kb4 := tE_b (T := T) (n := n) (s := s4) (by omega)
          have go : ∀ h : Int, h = rngH T n s4 → (h = -1 ∨ (0 ≤ h ∧ h < 3)) → w96_127 B t5 h K := by
            intro h eh hh
            rw [← eh] at hR
            unfold w96_127
            refine ⟨⟨by omega, by omega⟩, ?_⟩
            by_cases hm : h = -1
            · rw [if_pos hm]
              rw [if_pos hm] at hR
              intro τ et
              obtain ⟨r1, r2, r3⟩ := frRg_F g5 et
              exact hF τ r1 (by rw [hR]; exact (by decide : (1 : Int) ≠ 0)) (by rw [hR]; exact r2) (by rw [hR, r3]; exact S5.2.2.2.2.2.1)
            · rw [if_neg hm]
              rw [if_neg hm] at hR
              intro t6 et6
              have n6 : ∀ b j, ¬ (b = 49 ∧ j = 9) → t6 b j = t5 b j := fun b j w => by rw [et6]; unfold l2_u; rw [if_neg w]
              have S6 : TS T n s4 t6 := TS_fr S5 (fun b j z => n6 b j (by omega))
              have g6 : frRg σ t6 := fun b j z1 z2 => (n6 b j (by omega)).trans (g5 b j z1 z2)
              refine c97 (p := p) (h := h) (by omega) (by omega) S6 (fun τ r1 r2 r3 r4 => ⟨Or.inl rfl, hF τ (fun b j z1 z2 => (r1 b j z1 z2).trans (g6 b j z1 z2)) (by rw [hR]; exact r2) (by rw [hR]; exact r3) (by rw [hR]; exact r4)⟩) (fun τ r1 r2 r3 r4 r5 r6 r7 r8 r9 r10 r11 r12 => ⟨Or.inr rfl, ?_⟩)
              rw [← hR] at r3 r4 r5 r6 r7 r8 r10 r11 r12
              refine hO τ (fun b j z1 z2 => (r1 b j z1 z2).trans (g6 b j z1 z2)) r3 r6 (by omega) (by rw [r4]; exact hp) (by rw [r5]; exact r8) ?_ ?_ (by rw [r5]; exact r9) r10 r11 (by rw [r5]; exact r12)
              · rw [r2 50 0 (by omega), n6 50 0 (by omega), r4]; exact p5
              · rw [r2 49 9 (by omega), et6, l2_u_self]
          by_cases w7 : wdF T n s4 (l2_tx 7)
          · rw [if_pos ((TS_w S5 (l2_tx 7)).mpr w7)]
            exact go 0 (by unfold rngH; rw [if_pos w7]) (Or.inr ⟨by decide, by decide⟩)
          · rw [if_neg (fun w => w7 ((TS_w S5 (l2_tx 7)).mp w))]
            by_cases w8 : wdF T n s4 (l2_tx 8)
            · rw [if_pos ((TS_w S5 (l2_tx 8)).mpr w8)]
              exact go 1 (by unfold rngH; rw [if_neg w7, if_pos w8]) (Or.inr ⟨by decide, by decide⟩)
            · rw [if_neg (fun w => w8 ((TS_w S5 (l2_tx 8)).mp w))]
              by_cases w9 : wdF T n s4 (l2_tx 9)
              · rw [if_pos ((TS_w S5 (l2_tx 9)).mpr w9)]
                exact go 2 (by unfold rngH; rw [if_neg w7, if_neg w8, if_pos w9]) (Or.inr ⟨by decide, by decide⟩)
              · rw [if_neg (fun w => w9 ((TS_w S5 (l2_tx 9)).mp w))]
                exact go (-1) (by unfold rngH; rw [if_neg w7, if_neg w8, if_neg w9]) (Or.inl rfl)
        · rw [if_neg (fun w => w6 ((TS_w S4 (l2_tx 6)).mp w))]
          rw [if_neg w6] at hR
          intro τ et
          obtain ⟨r1, r2, r3⟩ := frRg_F g4 et
          exact hF τ r1 (by rw [hR]; exact (by decide : (1 : Int) ≠ 0)) (by rw [hR]; exact r2) (by rw [hR, r3]; exact S4.2.2.2.2.2.1)
      · rw [if_neg hp]
        rw [if_neg hp] at hR
        intro τ et
        obtain ⟨r1, r2, r3⟩ := frRg_F g2 et
        exact hF τ r1 (by rw [hR]; exact (by decide : (2 : Int) ≠ 0)) (by rw [hR]; exact r2) (by rw [hR, r3]; exact S2.2.2.2.2.2.1)
    · rw [if_neg k2]
      rw [if_neg k2] at hR
      intro τ et
      obtain ⟨r1, r2, r3⟩ := frRg_F g2 et
      exact hF τ r1 (by rw [hR]; exact (by decide : (1 : Int) ≠ 0)) (by rw [hR]; exact r2) (by rw [hR, r3]; exact S2.2.2.2.2.2.1)
  · rw [if_neg (fun w => w5 ((TS_w S1 (l2_tx 5)).mp w))]
    rw [if_neg w5] at hR
    intro τ et
    obtain ⟨r1, r2, r3⟩ := frRg_F g1 et
    exact hF τ r1 (by rw [hR]; exact (by decide : (1 : Int) ≠ 0)) (by rw [hR]; exact r2) (by rw [hR, r3]; exact S1.2.2.2.2.2.1)
/-- what is read so far -/
def LF (u : l2_m) (p h a b c : Int) (G : Int → Int → Int) : Prop := u 49 9 = (if p = 0 then 0 else 1) ∧ (p ≠ 0 → isPr p ∧ isOr h a b ∧ u 50 0 = p ∧ u 52 0 = h ∧ u 52 1 = a ∧ u 52 2 = b ∧ ∀ v : Int, 0 ≤ v → v < 3 → u 53 v = UW (wt h a b) v) ∧ u 49 3 = c ∧ 0 ≤ c ∧ c ≤ 6 ∧ (p = 0 → c = 0) ∧ ∀ i : Int, 0 ≤ i → i < c → PR u (56 + 3 * Int.toNat i) (wt h a b) (G i)
def frAll (σ u : l2_m) : Prop := ∀ b j, (b < 49 ∨ 73 < b) → u b j = σ b j
theorem LF_fr {u v : l2_m} {p h a b c : Int} {G : Int → Int → Int} (hL : LF u p h a b c G) (f : ∀ b j, (49 ≤ b ∧ b ≤ 73) → ¬ (b = 49 ∧ (j = 4 ∨ j = 5 ∨ j = 8 ∨ (10 ≤ j ∧ j ≤ 12))) → v b j = u b j) : LF v p h a b c G := by
  obtain ⟨h1, h2, h3, h4, h5, h6, h7⟩ := hL
  refine ⟨by rw [f 49 9 (by omega) (by omega)]; exact h1, fun hp => ?_, by rw [f 49 3 (by omega) (by omega)]; exact h3, h4, h5, h6, fun i i0 i1 => ?_⟩
  · obtain ⟨k1, k2, k3, k4, k5, k6, k7⟩ := h2 hp
    exact ⟨k1, k2, by rw [f 50 0 (by omega) (by omega)]; exact k3, by rw [f 52 0 (by omega) (by omega)]; exact k4, by rw [f 52 1 (by omega) (by omega)]; exact k5, by rw [f 52 2 (by omega) (by omega)]; exact k6, fun w w0 w1 => by rw [f 53 w (by omega) (by omega)]; exact k7 w w0 w1⟩
  · have i6 : Int.toNat i < 6 := by omega
    exact PR_congr (h7 i i0 i1) (f _ _ (by omega) (by omega)) (fun j _ _ => f _ _ (by omega) (by omega)) (fun j _ _ => f _ _ (by omega) (by omega))
theorem c93l {t : l2_m} (hT : TX T n t) (hz : t 49 8 = 0) (hL : LF t 0 0 0 0 0 (fun _ _ => 0)) (hf : frAll σ t) (hF : ∀ τ : l2_m, frAll σ τ → (rdL T n 701 0 0 0 0 0 0 (fun _ _ => 0)).1 ≠ 0 → τ 49 4 = (rdL T n 701 0 0 0 0 0 0 (fun _ _ => 0)).1 → τ 49 5 = (rdL T n 701 0 0 0 0 0 0 (fun _ _ => 0)).2.1 → K 0 τ) (hO : ∀ (τ : l2_m) (z p h a b c : Int) (G : Int → Int → Int), frAll σ τ → rdL T n 701 0 0 0 0 0 0 (fun _ _ => 0) = (0, z, p, h, a, b, c, G) → p ≠ 0 → LF τ p h a b c G → K 1 τ) : w93_58 B t 0 K := by
  obtain ⟨R, hR⟩ : ∃ R, R = rdL T n 701 0 0 0 0 0 0 (fun _ _ => 0) := ⟨_, rfl⟩
  rw [← hR] at hF hO
  unfold w93_58
  refine lz2_inv (fun (x : Int) u => ∃ (z p h a b c : Int) (G : Int → Int → Int), TX T n u ∧ u 49 8 = z ∧ 0 ≤ x ∧ x ≤ z ∧ z ≤ n ∧ LF u p h a b c G ∧ R = rdL T n (701 - x).toNat z p h a b c G ∧ frAll σ u) (fun x _ => 701 - x) ?_ ⟨0, 0, 0, 0, 0, 0, fun _ _ => 0, hT, hz, by decide, by decide, hT.2.1, hL, hR, hf⟩
  intro X x u hX ⟨z, p, h, a, b, c, G, Tu, ez, x0, xz, zn, Lu, eR, fu⟩
  have n700 := Tu.2.2.1
  refine ⟨⟨by omega, by omega⟩, ?_⟩
  rw [if_neg (by omega)]
  have ef : (701 - x).toNat = (700 - x).toNat + 1 := by omega
  rw [ef] at eR
  unfold rdL at eR
  refine c103 Tu ez (by omega) zn (fun u1 f1 q8 q10 q11 q12 => ?_)
  have S1 : TS T n z u1 := ⟨TX_fr Tu (fun b j w => f1 b j (by omega)), by omega, zn, q8, q10, q11, q12⟩
  have L1 : LF u1 p h a b c G := LF_fr Lu (fun b j w1 w2 => f1 b j (by omega))
  have fa1 : frAll σ u1 := fun b j w => (f1 b j (by omega)).trans (fu b j w)
  have hb1 := TS_b S1
  have bad : ∀ (f a : Int) (v : l2_m), R = rdX f a → f ≠ 0 → frAll σ v → v 49 4 = f → v 49 5 = a → K 0 v := fun f a v er hf fv e1 e2 => hF v fv (by rw [er]; exact hf) (by rw [er]; exact e1) (by rw [er]; exact e2)
  have fail : ∀ (f : Int) (v τ : l2_m) (z' : Int), R = rdX f (tA T n z') → f ≠ 0 → frAll σ v → TS T n z' v → τ = l2_u (l2_u v 49 4 f) 49 5 (v 49 11) → K 0 τ := by
    intro f v τ z' er hf fv Sv et
    refine bad f _ τ er hf (fun b j w => ?_) ?_ ?_
    · rw [et]; unfold l2_u; rw [if_neg (by omega), if_neg (by omega)]; exact fv b j w
    · rw [et, l2_u_nj (by decide), l2_u_self]
    · rw [et, l2_u_self]; exact Sv.2.2.2.2.2.1
  have aft : ∀ (v : l2_m) (z' p h a b c : Int) (G : Int → Int → Int), frAll σ v → TS T n z' v → z ≤ z' → p ≠ 0 → LF v p h a b c G → R = rdE T n (rdL T n (700 - x).toNat) z' p h a b c G → (rg (v 49 10) ∧ (if (v 49 10) = 0 then (rg (v 49 9) ∧ (if (v 49 9) = 0 then (∀ σ''''' : l2_m, σ''''' = l2_u (l2_u v 49 4 6) 49 5 (v 49 11) → (if (0 : Int) = 0 then K 0 σ''''' else K 1 σ''''')) else K 1 v)) else (rg (v 49 12) ∧ (if (v 49 10) = 3 ∧ (v 49 12) = 59 then X (x + 1) v else (∀ σ'''' : l2_m, σ'''' = l2_u (l2_u v 49 4 1) 49 5 (v 49 11) → K 0 σ''''))))) := by
    intro v z' p h a b c G fv Sv hzz hp Lv er
    have hb' := TS_b Sv
    unfold rdE at er
    refine ⟨(TS_rg Sv).1, ?_⟩
    rw [Sv.2.2.2.2.1]
    by_cases hk : tK T n z' = 0
    · rw [if_pos hk]
      rw [if_pos hk] at er
      have e9 := Lv.1
      rw [if_neg hp] at e9
      rw [e9]
      refine ⟨by decide, ?_⟩
      rw [if_neg (by decide)]
      exact hO v z' p h a b c G fv er hp Lv
    · rw [if_neg hk]
      rw [if_neg hk] at er
      refine ⟨(TS_rg Sv).2, ?_⟩
      have hsi := TS_s Sv 59
      rw [Sv.2.2.2.2.1] at hsi
      by_cases hsg : sgS T n z' 59
      · rw [if_pos (hsi.mpr hsg)]
        rw [if_pos hsg] at er
        have := hb'.2.2.2.2.2.2.2 hk
        exact hX (x + 1) v ⟨tE T n z', p, h, a, b, c, G, Sv.1, Sv.2.2.2.1, by omega, by omega, by omega, Lv, by rw [show (701 - (x + 1)).toNat = (700 - x).toNat by omega]; exact er, fv⟩ (by omega)
      · rw [if_neg (fun w => hsg (hsi.mp w))]
        rw [if_neg hsg] at er
        intro τ et
        exact fail 1 v τ z' er (by decide) fv Sv et
  refine o95 ?_
  unfold w95
  refine ⟨TS_g S1, ?_⟩
  by_cases w3 : wdF T n z (l2_tx 3)
  · rw [if_pos ((TS_w S1 (l2_tx 3)).mpr w3)]
    rw [if_pos w3] at eR
    have e9 := L1.1
    by_cases hp : p = 0
    · rw [if_pos hp] at e9
      rw [e9]
      refine ⟨by decide, ?_⟩
      rw [if_pos rfl]
      rw [if_neg (fun w => w hp)] at eR
      refine c96 S1 (fun v r1 r2 r3 r4 => ⟨Or.inl rfl, by decide, ?_⟩) (fun v r1 r2 r3 r4 r5 r6 r7 r8 r9 r10 r11 r12 => ⟨Or.inr rfl, by decide, ?_⟩)
      · rw [if_pos rfl]
        rw [if_pos r2] at eR
        exact bad _ _ v eR r2 (fun b j w => (r1 b j (by omega) (by omega)).trans (fa1 b j w)) r3 r4
      · rw [if_neg (by decide)]
        rw [if_neg (fun w => w r2)] at eR
        obtain ⟨l1, l2, l3, l4, l5, l6, l7⟩ := L1
        have hp0 : (rng T n z).2.2.1 ≠ 0 := by
          have := pr_rest _ r5
          omega
        refine aft v _ _ _ _ _ c G (fun b j w => (r1 b j (by omega) (by omega)).trans (fa1 b j w)) r3 r4 hp0 ⟨by rw [if_neg hp0]; exact r8, fun _ => ⟨r5, r6, r7, r9, r10, r11, r12⟩, by rw [r1 49 3 (by omega) (by omega)]; exact l3, l4, l5, fun w => absurd w hp0, fun i i0 i1 => ?_⟩ eR
        have := l6 hp
        omega
    · rw [if_neg hp] at e9
      rw [e9]
      refine ⟨by decide, ?_⟩
      rw [if_neg (by decide)]
      rw [if_pos hp] at eR
      intro τ et
      refine ⟨by decide, ?_⟩
      rw [if_pos rfl]
      exact fail 3 u1 τ z eR (by decide) fa1 S1 et
  · rw [if_neg (fun w => w3 ((TS_w S1 (l2_tx 3)).mp w))]
    rw [if_neg w3] at eR
    by_cases w4 : wdF T n z (l2_tx 4)
    · rw [if_pos ((TS_w S1 (l2_tx 4)).mpr w4)]
      rw [if_pos w4] at eR
      obtain ⟨l1, l2, l3, l4, l5, l6, l7⟩ := id L1
      by_cases hp : p = 0
      · rw [if_pos hp] at l1 eR
        rw [l1]
        refine ⟨by decide, ?_⟩
        rw [if_pos rfl]
        intro τ et
        refine ⟨by decide, ?_⟩
        rw [if_pos rfl]
        exact fail 6 u1 τ z eR (by decide) fa1 S1 et
      · rw [if_neg hp] at l1 eR
        rw [l1]
        refine ⟨by decide, ?_⟩
        rw [if_neg (by decide), l3]
        refine ⟨⟨by omega, by omega⟩, ?_⟩
        by_cases hc : c < 6
        · rw [if_pos hc]
          rw [if_neg (by omega)] at eR
          refine ⟨⟨l4, hc⟩, ?_⟩
          obtain ⟨k1, k2, k3, k4, k5, k6, k7⟩ := l2 hp
          obtain ⟨p2, p97, -⟩ := pr_rest _ k1
          have cn : Int.toNat c < 6 := by omega
          refine c98 (W := wt h a b) (p := p) (isP_row (a := 54) (b := 56) (m := 6) rfl l4 hc) (by omega) (wt_ok _ _ _) k3 p2 p97 k7 S1 (fun v r1 r2 r3 r4 => ⟨Or.inl rfl, by decide, ?_⟩) (fun v r1 r2 r3 r4 r5 r6 => ⟨Or.inr rfl, by decide, ?_⟩)
          · rw [if_pos rfl]
            rw [if_pos r2] at eR
            exact bad _ _ v eR r2 (fun b j w => (r1 b j (by omega) (by omega) (by omega) (by omega)).trans (fa1 b j w)) r3 r4
          · rw [if_neg (by decide)]
            rw [if_neg (fun w => w r2)] at eR
            refine aft v _ p h a b (c + 1) _ (fun b j w => (r1 b j (by omega) (by omega) (by omega) (by omega)).trans (fa1 b j w)) r3 r4 hp ⟨by rw [if_neg hp, r1 49 9 (by omega) (by omega) (by omega) (by omega)]; exact l1, fun _ => ⟨k1, k2, by rw [r1 50 0 (by omega) (by omega) (by omega) (by omega)]; exact k3, by rw [r1 52 0 (by omega) (by omega) (by omega) (by omega)]; exact k4, by rw [r1 52 1 (by omega) (by omega) (by omega) (by omega)]; exact k5, by rw [r1 52 2 (by omega) (by omega) (by omega) (by omega)]; exact k6, fun w w0 w1 => by rw [r1 53 w (by omega) (by omega) (by omega) (by omega)]; exact k7 w w0 w1⟩, by rw [r6, l3], by omega, by omega, fun w => absurd w hp, fun i i0 i1 => ?_⟩ eR
            by_cases hi : i = c
            · show PR v _ _ (if i = c then _ else G i)
              rw [if_pos hi, hi]; exact r5
            · show PR v _ _ (if i = c then _ else G i)
              rw [if_neg hi]
              have i6 : Int.toNat i < 6 := by omega
              have ine : Int.toNat i ≠ Int.toNat c := by omega
              exact PR_congr (l7 i i0 (by omega)) (r1 _ _ (by omega) (by omega) (by omega) (by omega)) (fun j _ _ => r1 _ _ (by omega) (by omega) (by omega) (by omega)) (fun j _ _ => r1 _ _ (by omega) (by omega) (by omega) (by omega))
        · rw [if_neg hc]
          rw [if_pos (by omega)] at eR
          intro τ et
          refine ⟨by decide, ?_⟩
          rw [if_pos rfl]
          exact fail 5 u1 τ z eR (by decide) fa1 S1 et
    · rw [if_neg (fun w => w4 ((TS_w S1 (l2_tx 4)).mp w))]
      rw [if_neg w4] at eR
      intro τ et
      refine ⟨by decide, ?_⟩
      rw [if_pos rfl]
      exact fail 1 u1 τ z eR (by decide) fa1 S1 et
/-- the whole text -/
theorem c93 (n0 : 0 ≤ n) (n7 : n ≤ 700) (h33 : ∀ j : Int, 0 ≤ j → j < n → σ 33 j = T j ∧ rg (T j)) (hF : ∀ τ : l2_m, frAll σ τ → (rdL T n 701 0 0 0 0 0 0 (fun _ _ => 0)).1 ≠ 0 → τ 49 4 = (rdL T n 701 0 0 0 0 0 0 (fun _ _ => 0)).1 → τ 49 5 = (rdL T n 701 0 0 0 0 0 0 (fun _ _ => 0)).2.1 → K 0 τ) (hO : ∀ (τ : l2_m) (z p h a b c : Int) (G : Int → Int → Int), frAll σ τ → rdL T n 701 0 0 0 0 0 0 (fun _ _ => 0) = (0, z, p, h, a, b, c, G) → p ≠ 0 → LF τ p h a b c G → K 1 τ) : wC B 93 [vr 49, vr 33, vi n] σ K := by
  refine wC_in (hp_55 B σ) ?_
  have m0 : ∀ b j, b ≠ 55 → n55 σ b j = σ b j := fun b j z => if_neg z
  have m5 : ∀ j, rg (n55 σ 55 j) := fun j => by show rg (if 55 = 55 then wrp (σ 55 j) else _); rw [if_pos rfl]; exact wrp_rg _
  refine o93 ?_
  unfold w93
  refine ⟨⟨by omega, by omega⟩, ?_⟩
  intro σ1 e1
  have em : min n (min ((700 : Nat) : Int) 700) = n := by omega
  rw [em] at e1
  unfold w93_18
  refine lz2_inv (fun (i : Int) u => 0 ≤ i ∧ i ≤ n ∧ (∀ b j, b ≠ 55 → u b j = σ1 b j) ∧ (∀ j, rg (u 55 j)) ∧ (∀ j : Int, 0 ≤ j → j < i → u 55 j = T j)) (fun i _ => n - i) ?_ ⟨by decide, n0, fun _ _ _ => rfl, fun j => by rw [e1, l2_u_ne (by decide)]; exact m5 j, fun j a b => by omega⟩
  intro X i u hX ⟨i0, i1, u1, u2, u3⟩
  have u7 : u 49 7 = n := by rw [u1 49 7 (by decide), e1, l2_u_self]
  rw [u7]
  refine ⟨⟨⟨by omega, by omega⟩, ⟨by omega, by omega⟩⟩, ?_⟩
  by_cases hi : i < n
  · rw [if_pos hi]
    refine ⟨⟨i0, by omega⟩, ?_⟩
    intro u' eu
    have e33 : u 33 i = T i := by rw [u1 33 i (by decide), e1, l2_u_ne (by decide), m0 33 i (by decide)]; exact (h33 i i0 hi).1
    refine hX (i + 1) u' ⟨by omega, by omega, fun b j z => by rw [eu, l2_u_ne z]; exact u1 b j z, fun j => ?_, fun j j0 j1 => ?_⟩ (by omega)
    · rw [eu]
      unfold l2_u
      by_cases hj : j = i
      · rw [if_pos ⟨rfl, hj⟩, e33]; exact (h33 i i0 hi).2
      · rw [if_neg (fun w => hj w.2)]; exact u2 j
    · rw [eu]
      unfold l2_u
      by_cases hj : j = i
      · rw [if_pos ⟨rfl, hj⟩, e33, hj]
      · rw [if_neg (fun w => hj w.2)]; exact u3 j j0 (by omega)
  · rw [if_neg hi]
    intro v1 ev1 v2 ev2 v3 ev3
    have g : ∀ b j, v3 b j = if b = 49 ∧ j = 9 then 0 else if b = 49 ∧ j = 3 then 0 else if b = 49 ∧ j = 8 then 0 else u b j := fun b j => by rw [ev3, ev2, ev1]; rfl
    have g5 : ∀ j, v3 55 j = u 55 j := fun j => by rw [g, if_neg (by omega), if_neg (by omega), if_neg (by omega)]
    refine c93l (T := T) (n := n) (σ := σ) ⟨?_, n0, n7, fun j => by rw [g5]; exact u2 j, fun j j0 j1 => by rw [g5]; exact u3 j j0 (by omega)⟩ ?_ ⟨?_, fun w => absurd rfl w, ?_, by decide, by decide, fun _ => rfl, fun i i0 i1 => by omega⟩ (fun b j w => ?_) hF hO
    · rw [g, if_neg (by decide), if_neg (by decide), if_neg (by decide)]; exact u7
    · rw [g, if_neg (by decide), if_neg (by decide), if_pos ⟨rfl, rfl⟩]
    · rw [g, if_pos ⟨rfl, rfl⟩]; rfl
    · rw [g, if_neg (by decide), if_pos ⟨rfl, rfl⟩]
    · rw [g, if_neg (by omega), if_neg (by omega), if_neg (by omega), u1 b j (by omega), e1, l2_u_ne (by omega)]; exact m0 b j (by omega)
end CR3
