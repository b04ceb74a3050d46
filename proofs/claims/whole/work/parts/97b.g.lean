/-! ===== the reference reads: polynomials, rings, lines ===== -/
section RV
variable {B : va_E} {T : Int → Int} {n s : Int} {σ : l2_m} {K : Int → l2_m → Prop}
/-- behind a term -/
noncomputable def plyT (T : Int → Int) (n p : Int) (f : Nat) (z : Int) (g : Int → Int) : Int × Int × (Int → Int) := if sgS T n z 43 ∨ sgS T n z 45 then (if f = 0 then (5, tA T n z, g) else plyL T n p f (tE T n z) (if sgS T n z 45 then 1 else 0) g) else (0, z, g)
theorem plyL_T (p : Int) (f : Nat) (s neg : Int) (g : Int → Int) : ((trm T n s).1 ≠ 0 → (plyL T n p (f + 1) s neg g).1 = (trm T n s).1 ∧ (plyL T n p (f + 1) s neg g).2.1 = (trm T n s).2.1) ∧ ((trm T n s).1 = 0 → (plyL T n p (f + 1) s neg g).1 = (plyT T n p f (trm T n s).2.1 (accF p neg (trm T n s).2.2.2 (trm T n s).2.2.1 g)).1 ∧ (plyL T n p (f + 1) s neg g).2.1 = (plyT T n p f (trm T n s).2.1 (accF p neg (trm T n s).2.2.2 (trm T n s).2.2.1 g)).2.1 ∧ ((plyL T n p (f + 1) s neg g).1 = 0 → (plyL T n p (f + 1) s neg g).2.2 = (plyT T n p f (trm T n s).2.1 (accF p neg (trm T n s).2.2.2 (trm T n s).2.2.1 g)).2.2)) := by
  refine ⟨fun h => ?_, fun h => ?_⟩
  · unfold plyL; rw [if_pos h]; exact ⟨rfl, rfl⟩
  · unfold plyL plyT
    rw [if_neg (fun w => w h)]
    by_cases hs : sgS T n (trm T n s).2.1 43 ∨ sgS T n (trm T n s).2.1 45
    · rw [if_pos hs, if_pos hs]
      by_cases hf : f = 0
      · rw [if_pos hf, if_pos hf]; exact ⟨rfl, rfl, fun w => absurd w (by decide : ¬ (5 : Int) = 0)⟩
      · rw [if_neg hf, if_neg hf]; exact ⟨rfl, rfl, fun _ => rfl⟩
    · rw [if_neg hs, if_neg hs]; exact ⟨rfl, rfl, fun _ => rfl⟩
def frPr (c : Int) (σ τ : l2_m) : Prop := ∀ b j, ¬ (b = 186 ∧ 18 ≤ j ∧ j ≤ 23) → ¬ (b = 188 ∧ 4096 * c ≤ j ∧ j < 4096 * c + 4096) → τ b j = σ b j
theorem frPr_N {c : Int} {τ υ : l2_m} (h : frPr c σ τ) (h' : frN τ υ) : frPr c σ υ := fun b j w1 w2 => (h' b j w1).trans (h b j w1 w2)
theorem frPr_t {c : Int} {τ υ : l2_m} (h : frPr c σ τ) (h' : frPr c τ υ) : frPr c σ υ := fun b j w1 w2 => (h' b j w1 w2).trans (h b j w1 w2)
theorem r187l {p c R1 R2 : Int} {Rg g : Int → Int} {t : l2_m} {z0 : Int} (hp : σ 186 9 = p) (p2 : 2 ≤ p) (p97 : p ≤ 97) (hc : σ 186 13 = c) (c0 : 0 ≤ c) (c6 : c < 6) (hf : frPr c σ t) (hI : (RS T n z0 t ∧ (∀ k : Int, 0 ≤ k → k < 4096 → t 188 (4096 * c + k) = g k ∧ 0 ≤ g k ∧ g k < p) ∧ R1 = (plyT T n p 11 z0 g).1 ∧ R2 = (plyT T n p 11 z0 g).2.1 ∧ (R1 = 0 → Rg = (plyT T n p 11 z0 g).2.2)) ∨ (R1 ≠ 0 ∧ RF R1 R2 t)) (hF : ∀ τ : l2_m, frPr c σ τ → R1 ≠ 0 → RF R1 R2 τ → K 0 τ) (hO : ∀ τ : l2_m, (∀ b j, ¬ (b = 186 ∧ (j = 13 ∨ (18 ≤ j ∧ j ≤ 23))) → ¬ (b = 188 ∧ 4096 * c ≤ j ∧ j < 4096 * c + 4096) → τ b j = σ b j) → R1 = 0 → RS T n R2 τ → τ 186 13 = c + 1 → (∀ k : Int, 0 ≤ k → k < 4096 → τ 188 (4096 * c + k) = Rg k ∧ 0 ≤ Rg k ∧ Rg k < p) → K 0 τ) : w187_61 B t 1 K := by
  unfold w187_61
  refine lz2_inv (fun (x : Int) u => frPr c σ u ∧ ((1 ≤ x ∧ x ≤ 12 ∧ ∃ (z : Int) (g : Int → Int), RS T n z u ∧ (∀ k : Int, 0 ≤ k → k < 4096 → u 188 (4096 * c + k) = g k ∧ 0 ≤ g k ∧ g k < p) ∧ R1 = (plyT T n p (12 - x).toNat z g).1 ∧ R2 = (plyT T n p (12 - x).toNat z g).2.1 ∧ (R1 = 0 → Rg = (plyT T n p (12 - x).toNat z g).2.2)) ∨ (R1 ≠ 0 ∧ RF R1 R2 u))) (fun x u => if u 186 22 = 0 then 13 - x else 0) ?_ ⟨hf, ?_⟩
  · intro X x u hX ⟨fu, hI⟩
    rcases hI with ⟨x1, x12, z, g, Su, hg, e1, e2, e3⟩ | ⟨r1, r2⟩
    · have u22 : u 186 22 = 0 := Su.1.2.2.2.1
      have hk := RS_k Su.1
      have u9 : u 186 9 = p := by rw [fu 186 9 (by omega) (by omega)]; exact hp
      have u13 : u 186 13 = c := by rw [fu 186 13 (by omega) (by omega)]; exact hc
      have faulted : ∀ (f a x' : Int) (w : l2_m), R1 = f → R2 = a → f ≠ 0 → frPr c σ w → RF f a w → X x' w := fun f a x' w e1 e2 hf fw Fw => by
        refine hX x' w ⟨fw, Or.inr ⟨by rw [e1]; exact hf, by rw [e1, e2]; exact Fw⟩⟩ ?_
        rw [if_neg (RF_22 Fw).2.1, if_pos u22]; omega
      rw [u22]
      refine ⟨by decide, fun _ => (RS_g Su).1, ?_⟩
      unfold plyT at e1 e2 e3
      by_cases hsg : sgS T n z 43 ∨ sgS T n z 45
      · rw [if_pos hsg] at e1 e2 e3
        have hsg' : (u 186 19 = 5) ∨ (u 186 19 = 6) := hsg.imp hk.2.2.2.2.1.mpr hk.2.2.2.2.2.1.mpr
        rw [if_pos ⟨rfl, hsg'⟩]
        unfold w187_85
        refine ⟨⟨by omega, by omega⟩, ?_⟩
        by_cases hx : x = 12
        · rw [if_pos hx]
          rw [if_pos (by omega)] at e1 e2
          refine ⟨by rw [u22]; decide, ?_⟩
          intro w ew
          obtain ⟨Fw, gw⟩ := RS_flw Su (by decide) (by decide) ew
          unfold w187_96
          refine ⟨(RF_g Fw).1, ?_⟩
          rw [if_neg (by rw [Fw.2.2.2.2.1]; decide)]
          unfold w187_110
          refine nxtF Fw ?_
          refine r188F Fw (fun τ f1 F1 => ?_)
          exact faulted 5 _ _ τ e1 e2 (by decide) (frPr_N (frPr_N fu gw) f1) F1
        · rw [if_neg hx]
          rw [if_neg (by omega)] at e1 e2 e3
          obtain ⟨f, ef⟩ : ∃ f : Nat, (12 - x).toNat = f + 1 := ⟨(12 - x).toNat - 1, by omega⟩
          rw [ef] at e1 e2 e3
          have step : ∀ neg : Int, (neg = 0 ∨ neg = 1) → neg = (if sgS T n z 45 then 1 else 0) → w187_110 B u x neg X K := by
            intro neg hn en
            rw [← en] at e1 e2 e3
            obtain ⟨l1, l2⟩ := plyL_T (T := T) (n := n) p f (tE T n z) neg g
            unfold w187_110
            refine nxt Su (fun u1 g1 S1 => ?_)
            have fu1 := frPr_N fu g1
            refine r188 (p := p) (c := c) (g := g) hn (by rw [g1 186 9 (by omega)]; exact u9) p2 p97 (by rw [g1 186 13 (by omega)]; exact u13) c0 c6 (fun k k0 k1 => by rw [g1 188 _ (by omega)]; exact hg k k0 k1) S1 (fun τ f1 q1 q2 => ?_) (fun τ f1 q1 q2 q3 => ?_)
            · obtain ⟨m1, m2⟩ := l1 q1
              exact faulted _ _ _ τ (e1.trans m1) (e2.trans m2) q1 (frPr_N fu1 f1) q2
            · obtain ⟨m1, m2, m3⟩ := l2 q1
              have w22 : τ 186 22 = 0 := q2.1.2.2.2.1
              refine hX (x + 1) τ ⟨frPr_t fu1 f1, Or.inl ⟨by omega, by omega, _, _, q2, q3, ?_, ?_, ?_⟩⟩ ?_
              · rw [show (12 - (x + 1)).toNat = f by omega]; exact e1.trans m1
              · rw [show (12 - (x + 1)).toNat = f by omega]; exact e2.trans m2
              · rw [show (12 - (x + 1)).toNat = f by omega]; exact fun w => (e3 w).trans (m3 (e1.symm.trans w))
              · rw [if_pos w22, if_pos u22]; omega
          unfold w187_96
          refine ⟨(RS_g Su).1, ?_⟩
          by_cases hm : sgS T n z 45
          · rw [if_pos (hk.2.2.2.2.2.1.mpr hm)]
            exact step 1 (Or.inr rfl) (by rw [if_pos hm])
          · rw [if_neg (fun w => hm (hk.2.2.2.2.2.1.mp w))]
            exact step 0 (Or.inl rfl) (by rw [if_neg hm])
      · rw [if_neg hsg] at e1 e2 e3
        have hsg' : ¬ ((u 186 19 = 5) ∨ (u 186 19 = 6)) := fun w => hsg (w.imp hk.2.2.2.2.1.mp hk.2.2.2.2.2.1.mp)
        rw [if_neg (fun w => hsg' w.2)]
        unfold w187_126
        rw [u22]
        refine ⟨by decide, ?_⟩
        rw [if_pos rfl]
        intro τ et
        have tn : ∀ b j, ¬ (b = 186 ∧ j = 13) → τ b j = u b j := fun b j w => by rw [et]; unfold l2_u; rw [if_neg w]
        have e3' := e3 e1
        refine hO τ (fun b j w1 w2 => by rw [tn b j (by omega)]; exact fu b j (by omega) w2) e1 (by rw [e2]; exact RS_fr Su (fun b j w => tn b j (by omega))) (by rw [et, l2_u_self, u13]) (fun k k0 k1 => by rw [tn 188 _ (by omega), e3']; exact hg k k0 k1)
    · have q22 := RF_22 r2
      refine ⟨q22.1, fun z => absurd z q22.2.1, ?_⟩
      rw [if_neg (fun w => q22.2.1 w.1)]
      unfold w187_126
      refine ⟨q22.1, ?_⟩
      rw [if_neg q22.2.1]
      exact hF u fu r1 r2
  · rcases hI with ⟨Su, hg, e1, e2, e3⟩ | hI
    · exact Or.inl ⟨by decide, by decide, z0, g, Su, hg, e1, e2, e3⟩
    · exact Or.inr hI
/-- faulted before -/
theorem r187F {f a : Int} (h : RF f a σ) (hK : ∀ τ : l2_m, frN σ τ → RF f a τ → K 0 τ) : w187_27 B σ K := by
  unfold w187_27
  refine nxtF h ⟨(RF_g h).1, ?_⟩
  rw [if_neg (by rw [h.2.2.2.2.1]; decide)]
  unfold w187_45
  refine ⟨by decide, ?_⟩
  rw [if_pos rfl]
  unfold w187_54
  refine r188F h (fun τ f1 F1 => ?_)
  have q22 := RF_22 F1
  unfold w187_61
  refine lz2_inv (fun (_ : Int) u => u = τ) (fun _ _ => 0) ?_ rfl
  intro X x u hX eu
  subst eu
  refine ⟨q22.1, fun z => absurd z q22.2.1, ?_⟩
  rw [if_neg (fun w => q22.2.1 w.1)]
  unfold w187_126
  refine ⟨q22.1, ?_⟩
  rw [if_neg q22.2.1]
  exact hK u f1 F1
/-- a polynomial; the token at hand is its first word -/
theorem r187 {p c : Int} (hp : σ 186 9 = p) (p2 : 2 ≤ p) (p97 : p ≤ 97) (hc : σ 186 13 = c) (c0 : 0 ≤ c) (c6 : c < 6) (hz : ∀ k : Int, 0 ≤ k → k < 4096 → σ 188 (4096 * c + k) = 0) (hS : RS T n s σ) (hF : ∀ τ : l2_m, frPr c σ τ → (ply T n p s).1 ≠ 0 → RF (ply T n p s).1 (ply T n p s).2.1 τ → K 0 τ) (hO : ∀ τ : l2_m, (∀ b j, ¬ (b = 186 ∧ (j = 13 ∨ (18 ≤ j ∧ j ≤ 23))) → ¬ (b = 188 ∧ 4096 * c ≤ j ∧ j < 4096 * c + 4096) → τ b j = σ b j) → (ply T n p s).1 = 0 → RS T n (ply T n p s).2.1 τ → τ 186 13 = c + 1 → (∀ k : Int, 0 ≤ k → k < 4096 → τ 188 (4096 * c + k) = (ply T n p s).2.2 k ∧ 0 ≤ (ply T n p s).2.2 k ∧ (ply T n p s).2.2 k < p) → K 0 τ) : wC B 187 [vr 186] σ K := by
  have fr0 : frPr c σ σ := fun _ _ _ _ => rfl
  refine o187 ?_
  unfold w187
  rw [hc]
  refine ⟨⟨by omega, by omega⟩, ?_⟩
  rw [if_neg (by omega)]
  unfold w187_14
  rw [hp]
  refine ⟨⟨by omega, by omega⟩, ?_⟩
  rw [if_neg (by omega)]
  unfold w187_27
  refine nxt hS (fun u1 g1 S1 => ?_)
  have hk := RS_k S1.1
  have fu1 := frPr_N fr0 g1
  have go : ∀ (u : l2_m) (neg z : Int), (neg = 0 ∨ neg = 1) → frPr c σ u → frN σ u → RS T n z u → ply T n p s = plyL T n p 12 z neg (fun _ => 0) → w187_54 B u neg K := by
    intro u neg z hn fu fN Su er
    rw [er] at hF hO
    obtain ⟨l1, l2⟩ := plyL_T (T := T) (n := n) p 11 z neg (fun _ => 0)
    unfold w187_54
    refine r188 (p := p) (c := c) (g := fun _ => 0) hn (by rw [fN 186 9 (by omega)]; exact hp) p2 p97 (by rw [fN 186 13 (by omega)]; exact hc) c0 c6 (fun k k0 k1 => by rw [fN 188 _ (by omega)]; exact ⟨hz k k0 k1, by omega, by omega⟩) Su (fun τ f1 q1 q2 => ?_) (fun τ f1 q1 q2 q3 => ?_)
    · obtain ⟨m1, m2⟩ := l1 q1
      refine r187l (T := T) (n := n) (z0 := 0) (g := fun _ => 0) (Rg := (plyL T n p 12 z neg (fun _ => 0)).2.2) (R1 := (plyL T n p 12 z neg (fun _ => 0)).1) (R2 := (plyL T n p 12 z neg (fun _ => 0)).2.1) hp p2 p97 hc c0 c6 (frPr_N fu f1) (Or.inr ⟨by rw [m1]; exact q1, by rw [m1, m2]; exact q2⟩) hF hO
    · obtain ⟨m1, m2, m3⟩ := l2 q1
      exact r187l (T := T) (n := n) (Rg := (plyL T n p 12 z neg (fun _ => 0)).2.2) (R1 := (plyL T n p 12 z neg (fun _ => 0)).1) (R2 := (plyL T n p 12 z neg (fun _ => 0)).2.1) hp p2 p97 hc c0 c6 (frPr_t fu f1) (Or.inl ⟨q2, q3, m1, m2, m3⟩) hF hO
  refine ⟨(RS_g S1).1, ?_⟩
  by_cases hm : sgS T n (tE T n s) 45
  · rw [if_pos (hk.2.2.2.2.2.1.mpr hm)]
    unfold w187_45
    refine ⟨by decide, ?_⟩
    rw [if_neg (by decide)]
    refine nxt S1 (fun u2 g2 S2 => ?_)
    exact go u2 1 _ (Or.inr rfl) (frPr_N fu1 g2) (fun b j w => (g2 b j w).trans (g1 b j w)) S2 (by unfold ply; rw [if_pos hm])
  · rw [if_neg (fun w => hm (hk.2.2.2.2.2.1.mp w))]
    unfold w187_45
    refine ⟨by decide, ?_⟩
    rw [if_pos rfl]
    exact go u1 0 _ (Or.inl rfl) fu1 g1 S1 (by unfold ply; rw [if_neg hm])
/-! rings -/
theorem isPr_c : ∀ x : Fin 98, ((2 ≤ ((x.val : Nat) : Int) ∧ ∀ k : Fin 98, 2 ≤ k.val → k.val < x.val → x.val % k.val ≠ 0) ↔ isPr ((x.val : Nat) : Int)) := by decide +kernel
theorem r184 {x : Int} (x0 : 0 ≤ x) (x1 : x ≤ 9999) (h1 : isPr x → K 1 σ) (h0 : ¬ isPr x → K 0 σ) : wC B 184 [vi x] σ K := by
  have small : x ≤ 97 → ((2 ≤ x ∧ ∀ k : Int, 2 ≤ k → k < x → x % k ≠ 0) ↔ isPr x) := by
    intro hx
    obtain ⟨m, rfl⟩ := Int.eq_ofNat_of_zero_le x0
    have := isPr_c ⟨m, by omega⟩
    rw [← this]
    refine and_congr Iff.rfl ⟨fun w k a b => ?_, fun w k a b => ?_⟩
    · have b' : k.val < m := b
      have := w (k.val : Int) (by omega) (by omega)
      intro z
      apply this
      show (m : Int) % (k.val : Int) = 0
      have : m % k.val = 0 := z
      omega
    · obtain ⟨q, rfl⟩ := Int.eq_ofNat_of_zero_le (show 0 ≤ k by omega)
      have := w ⟨q, by omega⟩ (by show 2 ≤ q; omega) (by show q < m; omega)
      intro z
      apply this
      show m % q = 0
      omega
  have big : ¬ x ≤ 97 → ¬ isPr x := fun hx hp => by
    obtain ⟨-, p97, -⟩ := pr_rest _ hp
    omega
  refine o184 ?_
  unfold w184 w184_2
  refine lz1_inv (fun k => 2 ≤ k ∧ (k ≤ x ∨ k = 2) ∧ ∀ d : Int, 2 ≤ d → d < k → x % d ≠ 0) (fun k => x - k) ?_ ⟨by decide, Or.inr rfl, fun d a b => by omega⟩
  intro X k hX ⟨k2, kx, hI⟩
  refine ⟨⟨⟨by omega, by omega⟩, ⟨by omega, by omega⟩⟩, ?_⟩
  by_cases hk : k < x
  · rw [if_pos hk]
    have hm0 := Int.emod_nonneg x (show k ≠ 0 by omega)
    have hm1 := Int.emod_lt_of_pos x (show 0 < k by omega)
    refine ⟨⟨by omega, x0, ⟨by omega, by omega⟩⟩, ?_⟩
    by_cases hz : x % k = 0
    · rw [if_pos hz]
      refine h0 (fun hp => ?_)
      rcases Int.lt_or_le 97 x with z | z
      · exact big (by omega) hp
      · exact ((small z).mpr hp).2 k k2 hk hz
    · rw [if_neg hz]
      refine hX (k + 1) ⟨by omega, Or.inl (by omega), fun d a b => ?_⟩ (by omega)
      by_cases hd : d = k
      · rw [hd]; exact hz
      · exact hI d a (by omega)
  · rw [if_neg hk]
    unfold b2i
    by_cases hr : 2 ≤ x ∧ x ≤ 97
    · rw [if_pos hr]
      exact h1 ((small hr.2).mp ⟨hr.1, fun d a b => hI d a (by omega)⟩)
    · rw [if_neg hr]
      refine h0 (fun hp => ?_)
      obtain ⟨p2, p97, -⟩ := pr_rest _ hp
      omega
def frRr (σ τ : l2_m) : Prop := ∀ b j, ¬ (b = 186 ∧ ((9 ≤ j ∧ j ≤ 12) ∨ (18 ≤ j ∧ j ≤ 23))) → τ b j = σ b j
theorem frRr_N {τ υ : l2_m} (h : frRr σ τ) (h' : frN τ υ) : frRr σ υ := fun b j w => (h' b j (by omega)).trans (h b j w)
theorem frRr_t {τ υ : l2_m} (h : frRr σ τ) (h' : frRr τ υ) : frRr σ υ := fun b j w => (h' b j w).trans (h b j w)
theorem r180 {o : Nat} (ho : 3 ≤ o ∧ o < 20) (hS : RS T n s σ) (h1 : ∀ τ : l2_m, frN σ τ → wdF T n s (l2_tx o) → RS T n (tE T n s) τ → K 0 τ) (h0 : ∀ τ : l2_m, frN σ τ → ¬ wdF T n s (l2_tx o) → RF 1 (tA T n s) τ → K 0 τ) : wC B 180 [vr 186, vr o] σ K := by
  refine o180 ho ?_
  unfold w180
  refine ⟨RS_g hS, ?_⟩
  by_cases hw : wdF T n s (l2_tx o)
  · rw [if_pos ((RS_w hS ho).mpr hw)]
    unfold w180_13
    exact nxt hS (fun τ f1 S1 => h1 τ f1 hw S1)
  · rw [if_neg (fun w => hw ((RS_w hS ho).mp w))]
    refine ⟨by rw [hS.1.2.2.2.1]; decide, ?_⟩
    intro τ et
    obtain ⟨Fw, gw⟩ := RS_flw hS (by decide) (by decide) et
    unfold w180_13
    exact nxtF Fw (h0 τ gw hw Fw)
theorem r180F {o : Nat} {f a : Int} (ho : 3 ≤ o ∧ o < 20) (h : RF f a σ) (hK : ∀ τ : l2_m, frN σ τ → RF f a τ → K 0 τ) : wC B 180 [vr 186, vr o] σ K := by
  refine o180 ho ?_
  unfold w180
  refine ⟨RF_g h, ?_⟩
  rw [if_neg (RF_w h o)]
  refine ⟨(RF_22 h).1, ?_⟩
  intro τ et
  obtain ⟨Fw, gw⟩ := RF_flw h et
  unfold w180_13
  exact nxtF Fw (hK τ gw Fw)
theorem r186 {x y : Int} (hx : -1 ≤ x ∧ x < 3) (hy : -1 ≤ y ∧ y < 3) (hS : RS T n s σ) (h1 : ∀ τ : l2_m, frN σ τ → unkF T n s = -1 → RF 1 (tA T n s) τ → K (unkF T n s) τ) (h3 : ∀ τ : l2_m, frN σ τ → unkF T n s ≠ -1 → (unkF T n s = x ∨ unkF T n s = y) → RF 3 (tA T n s) τ → K (unkF T n s) τ) (h0 : ∀ τ : l2_m, frN σ τ → unkF T n s ≠ -1 → ¬ (unkF T n s = x ∨ unkF T n s = y) → RS T n (tE T n s) τ → K (unkF T n s) τ) : wC B 186 [vr 186, vi x, vi y] σ K := by
  have h22 : rg (σ 186 22) := by rw [hS.1.2.2.2.1]; decide
  refine o186 ?_
  unfold w186
  refine ⟨RS_g hS, ?_⟩
  intro u eu
  rw [RS_u hS] at eu
  subst eu
  by_cases hm : unkF T n s = -1
  · rw [if_pos hm]
    refine ⟨h22, ?_⟩
    intro τ et
    obtain ⟨Fw, gw⟩ := RS_flw hS (by decide) (by decide) et
    unfold w186_33
    exact nxtF Fw (h1 τ gw hm Fw)
  · rw [if_neg hm]
    refine ⟨⟨by omega, by omega⟩, fun _ => ⟨by omega, by omega⟩, ?_⟩
    by_cases hxy : unkF T n s = x ∨ unkF T n s = y
    · rw [if_pos hxy]
      unfold w186_28
      refine ⟨h22, ?_⟩
      intro τ et
      obtain ⟨Fw, gw⟩ := RS_flw hS (by decide) (by decide) et
      unfold w186_33
      exact nxtF Fw (h3 τ gw hm hxy Fw)
    · rw [if_neg hxy]
      unfold w186_33
      exact nxt hS (fun τ f1 S1 => h0 τ f1 hm hxy S1)
theorem r186F {f a x y : Int} (h : RF f a σ) (hK : ∀ τ : l2_m, frN σ τ → RF f a τ → K (-1) τ) : wC B 186 [vr 186, vi x, vi y] σ K := by
  refine o186 ?_
  unfold w186
  refine ⟨RF_g h, ?_⟩
  intro u eu
  rw [RF_u h] at eu
  subst eu
  rw [if_pos rfl]
  refine ⟨(RF_22 h).1, ?_⟩
  intro τ et
  obtain ⟨Fw, gw⟩ := RF_flw h et
  unfold w186_33
  exact nxtF Fw (hK τ gw Fw)
/-- faulted on the way through a ring -/
theorem r185e {f a p x y : Int} {t : l2_m} (hf : frRr σ t) (h : RF f a t) (hK : ∀ τ : l2_m, frRr σ τ → RF f a τ → K 0 τ) : wC B 186 [vr 186, vi x, vi y] t (fun _ s6 => (rg (s6 186 22) ∧ (if (s6 186 22) = 0 then (∀ s7 : l2_m, s7 = l2_u s6 186 9 p → K 0 s7) else K 0 s6))) := by
  refine r186F h (fun τ f1 F1 => ⟨(RF_22 F1).1, ?_⟩)
  rw [if_neg (RF_22 F1).2.1]
  exact hK τ (frRr_N hf f1) F1
theorem frRr_u {t t' : l2_m} {j x : Int} (hf : frRr σ t) (hj : 9 ≤ j ∧ j ≤ 12) (e : t' = l2_u t 186 j x) : frRr σ t' ∧ ∀ b i, ¬ (b = 186 ∧ i = j) → t' b i = t b i := by
  have h : ∀ b i, ¬ (b = 186 ∧ i = j) → t' b i = t b i := fun b i w => by rw [e]; unfold l2_u; rw [if_neg w]
  exact ⟨fun b i w => (h b i (by omega)).trans (hf b i w), h⟩
theorem r185d {f a p x : Int} {t : l2_m} (hf : frRr σ t) (h : RF f a t) (hK : ∀ τ : l2_m, frRr σ τ → RF f a τ → K 0 τ) : wC B 186 [vr 186, vi x, vi (-1)] t (fun y' s4 => (∀ s5 : l2_m, s5 = l2_u s4 186 12 y' → (wC B 186 [vr 186, vi (s5 186 11), vi (s5 186 12)] s5 (fun _ s6 => (rg (s6 186 22) ∧ (if (s6 186 22) = 0 then (∀ s7 : l2_m, s7 = l2_u s6 186 9 p → K 0 s7) else K 0 s6)))))) := by
  refine r186F h (fun τ f1 F1 s5 e5 => ?_)
  obtain ⟨g1, g2⟩ := frRr_u (frRr_N hf f1) (by decide) e5
  exact r185e g1 (RF_fr F1 (fun b j w => g2 b j (by omega))) hK
theorem r185c {f a p : Int} {t : l2_m} (hf : frRr σ t) (h : RF f a t) (hK : ∀ τ : l2_m, frRr σ τ → RF f a τ → K 0 τ) : w185_125 B t p K := by
  unfold w185_125
  refine nxtF h ?_
  refine r186F h (fun τ f1 F1 s3 e3 => ?_)
  obtain ⟨g1, g2⟩ := frRr_u (frRr_N hf f1) (by decide) e3
  exact r185d g1 (RF_fr F1 (fun b j w => g2 b j (by omega))) hK
theorem r185b {f a p h : Int} {t : l2_m} (hf : frRr σ t) (hh : -1 ≤ h ∧ h < 3) (hR : RF f a t) (hK : ∀ τ : l2_m, frRr σ τ → RF f a τ → K 0 τ) : w185_109 B t p h K := by
  unfold w185_109
  intro t1 e1
  obtain ⟨g1, g2⟩ := frRr_u hf (by decide) e1
  have F1 := RF_fr hR (fun b j w => g2 b j (by omega))
  have e10 : t1 186 10 = h := by rw [e1, l2_u_self]
  rw [e10]
  refine ⟨⟨by omega, by omega⟩, ?_⟩
  by_cases hm : h = -1
  · rw [if_pos hm]
    refine ⟨(RF_22 F1).1, ?_⟩
    intro t2 e2
    obtain ⟨Fw, gw⟩ := RF_flw F1 e2
    exact r185c (frRr_N g1 gw) Fw hK
  · rw [if_neg hm]
    exact r185c g1 F1 hK
theorem r185a {f a : Int} {t : l2_m} (hf : frRr σ t) (hR : RF f a t) (hK : ∀ τ : l2_m, frRr σ τ → RF f a τ → K 0 τ) : w185_53 B t K := by
  unfold w185_53
  intro p _
  refine nxtF hR ?_
  refine r180F (by decide) hR (fun τ f1 F1 => ?_)
  refine ⟨RF_g F1, ?_⟩
  rw [if_neg (RF_w F1 17), if_neg (RF_w F1 18), if_neg (RF_w F1 19)]
  exact r185b (frRr_N hf f1) (by decide) F1 hK
theorem r185F {f a : Int} {t : l2_m} (hf : frRr σ t) (hR : RF f a t) (hK : ∀ τ : l2_m, frRr σ τ → RF f a τ → K 0 τ) : w185_12 B t K := by
  unfold w185_12
  refine nxtF hR ?_
  refine r180F (by decide) hR (fun τ f1 F1 => ?_)
  refine ⟨(RF_g F1).1, ?_⟩
  rw [if_neg (by rw [F1.2.2.2.2.1]; decide)]
  refine ⟨(RF_22 F1).1, ?_⟩
  intro t2 e2
  obtain ⟨Fw, gw⟩ := RF_flw F1 e2
  exact r185a (frRr_N (frRr_N hf f1) gw) Fw hK
theorem tx_e : l2_tx 13 = l2_tx 3 ∧ l2_tx 14 = l2_tx 4 ∧ l2_tx 15 = l2_tx 5 ∧ l2_tx 16 = l2_tx 6 ∧ l2_tx 17 = l2_tx 7 ∧ l2_tx 18 = l2_tx 8 ∧ l2_tx 19 = l2_tx 9 := by decide
end RV
