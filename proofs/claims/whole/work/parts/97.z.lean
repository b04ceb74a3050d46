/-! ===== constant ===== -/
noncomputable def pc1 (P : Int → Prop) (q : Int) : Int := @ite Int (P q) (Classical.propDecidable _) 1 0
theorem pc1_1 {P : Int → Prop} {q : Int} (h : P q) : pc1 P q = 1 := if_pos h
theorem pc1_0 {P : Int → Prop} {q : Int} (h : ¬ P q) : pc1 P q = 0 := if_neg h
theorem pc1_b (P : Int → Prop) (q : Int) : 0 ≤ pc1 P q ∧ pc1 P q ≤ 1 := by
  by_cases h : P q
  · rw [pc1_1 h]; omega
  · rw [pc1_0 h]; omega
theorem pc1_s (P : Int → Prop) {q : Int} (q0 : 0 ≤ q) : 0 ≤ sumN (pc1 P) q.toNat ∧ sumN (pc1 P) q.toNat ≤ q := by
  refine ⟨sumN_nonneg (fun j _ _ => (pc1_b P j).1), ?_⟩
  have := sumN_bound (f := pc1 P) (n := q.toNat) (c := 1) (fun j _ _ => (pc1_b P j).2)
  omega
def cFP (P : Int → Prop) (i x : Int) : Prop := (x = -1 ∧ ∀ q : Int, 0 ≤ q → q < 8 → ¬ (P q ∧ sumN (pc1 P) q.toNat = i)) ∨ (0 ≤ x ∧ x < 8 ∧ (P x ∧ sumN (pc1 P) x.toNat = i) ∧ ∀ q : Int, 0 ≤ q → q < x → ¬ (P q ∧ sumN (pc1 P) q.toNat = i))
theorem cFP_uniq {P : Int → Prop} {i x y : Int} (h : cFP P i x) (h' : cFP P i y) : x = y := by
  rcases h with ⟨e, h⟩ | ⟨x0, x1, x2, x3⟩
  · rcases h' with ⟨e', -⟩ | ⟨y0, y1, y2, y3⟩
    · omega
    · exact absurd y2 (h y y0 y1)
  · rcases h' with ⟨e', h'⟩ | ⟨y0, y1, y2, y3⟩
    · exact absurd x2 (h' x x0 x1)
    · rcases Int.lt_trichotomy x y with z | z | z
      · exact absurd x2 (y3 x x0 z)
      · exact z
      · exact absurd y2 (x3 y y0 z)
def v142_4 (σ : l2_m) (x1 : Int) (x2 : Int) (x3 : Int)  (K : Int → l2_m → Prop) : Prop := lz2 (fun X4 x2 x3 => (rg x3 ∧ (if x3 < 8 then ((0 ≤ x3 ∧ x3 < 8 ∧ rg (σ (162 + 3 * Int.toNat x3) 2) ∧ (σ (162 + 3 * Int.toNat x3) 2 = 1 → rg (σ ((162 + 3 * Int.toNat x3) + 1) 0))) ∧ (if (σ (162 + 3 * Int.toNat x3) 2) = 1 ∧ (σ ((162 + 3 * Int.toNat x3) + 1) 0) = 0 then ((rg x2 ∧ rg x1) ∧ (if x2 = x1 then K x3 σ else X4 (x2 + 1) (x3 + 1))) else X4 x2 (x3 + 1))) else K (-1) σ))) x2 x3
theorem s88b {B : va_E} {σ : l2_m} {K : Int → l2_m → Prop} {o : Nat} (ho : isP o) (h1 : rg (σ o 2)) (h2 : σ o 2 = 1 → rg (σ (o + 1) 0)) (h : K (b2i (σ o 2 = 1 ∧ σ (o + 1) 0 = 0)) σ) : wC B 88 [vr o] σ K := by
  refine o88 ho ?_
  unfold w88
  exact ⟨h1, h2, b2i_p Iff.rfl h⟩
theorem v142_o4 {B : va_E} {σ : l2_m} {x1 : Int} {x2 : Int} {x3 : Int} {K : Int → l2_m → Prop} (h : v142_4 σ x1 x2 x3 K) : wW B 142 4 [vr 32, vi x1, vi x2, vi x3] [] σ K := by
  have ck : pm_code 142 = pc_142 := rfl
  unfold v142_4 at h
  refine h (fun x2 x3 => wW B 142 4 [vr 32, vi x1, vi x2, vi x3] [] σ K) ?_
  clear h
  intro x2 x3 h
  obtain ⟨hs1, h⟩ := h
  refine g_il 5 ck rfl rfl rfl ?_
  refine g_ic 7 ck rfl rfl ?_
  refine g_icge 10 38 ck rfl rfl rfl hs1 (by decide) (fun hc => ?_) (fun hc => ?_)
  · replace h := ite_hf h (Int.not_lt.mpr hc)
    exact r_thr rfl h
  · replace h := ite_ht h (Int.not_le.mp hc)
    obtain ⟨⟨hs2, hs3, hs4, hs5⟩, h⟩ := h
    refine g_al 11 ck rfl rfl rfl ?_
    refine r_gfr 14 158 ck rfl rfl rfl (by decide) ?_
    refine g_il 15 ck rfl rfl rfl ?_
    refine g_aal (b := 162) (m := 8) 16 ck rfl rfl rfl hs2 hs3 ?_
    refine g_cvi (as := []) (rest := []) 19 ck rfl rfl rfl rfl rfl rfl (by decide) (isP_c (isP_row (a := 158) (b := 162) (m := 8) rfl hs2 hs3)) rfl rfl rfl (Nat.le_of_ble_eq_true rfl) (s88b (isP_row (a := 158) (b := 162) (m := 8) rfl hs2 hs3) hs4 hs5 ?_)
    refine g_ifeq 22 32 ck rfl rfl rfl rg_b2i (fun hc => ?_) (fun hc => ?_)
    · replace h := ite_hf h (b2i_f hc)
      refine r_ii 35 ck rfl rfl rfl rfl ?_
      refine g_goto 4 ck rfl rfl ?_
      exact h
    · replace h := ite_ht h (b2i_t hc)
      obtain ⟨⟨hs6, hs7⟩, h⟩ := h
      refine g_il 23 ck rfl rfl rfl ?_
      refine g_il 24 ck rfl rfl rfl ?_
      refine g_icne 27 29 ck rfl rfl rfl hs6 hs7 (fun hc => ?_) (fun hc => ?_)
      · replace h := ite_hf h hc
        refine r_ii 32 ck rfl rfl rfl rfl ?_
        refine r_ii 35 ck rfl rfl rfl rfl ?_
        refine g_goto 4 ck rfl rfl ?_
        exact h
      · replace h := ite_ht h (Classical.not_not.mp hc)
        refine g_il 28 ck rfl rfl rfl ?_
        exact g_ret ck rfl rfl (Or.inr hs2) h
def nmC (σ : l2_m) (q : Int) : Prop := σ (162 + 3 * Int.toNat q) 2 = 1 ∧ σ ((162 + 3 * Int.toNat q) + 1) 0 = 0
theorem c142 {B : va_E} {σ : l2_m} {K : Int → l2_m → Prop} {i : Int} (hi : rg i) (h1 : ∀ q : Int, 0 ≤ q → q < 8 → rg (σ (162 + 3 * Int.toNat q) 2) ∧ (σ (162 + 3 * Int.toNat q) 2 = 1 → rg (σ ((162 + 3 * Int.toNat q) + 1) 0))) (h : ∀ x : Int, cFP (nmC σ) i x → K x σ) : wC B 142 [vr 32, vi i] σ K := by
  have ck : pm_code 142 = pc_142 := rfl
  show wW B 142 0 [vr 32, vi i, pm_un, pm_un] [] σ K
  refine g_ic 1 ck rfl rfl ?_
  refine r_is 2 ck rfl rfl rfl rfl ?_
  refine g_ic 3 ck rfl rfl ?_
  refine r_is 4 ck rfl rfl rfl rfl ?_
  refine v142_o4 ?_
  unfold v142_4
  refine lz2_inv (fun c x => 0 ≤ x ∧ x ≤ 8 ∧ c = sumN (pc1 (nmC σ)) x.toNat ∧ ∀ q : Int, 0 ≤ q → q < x → ¬ (nmC σ q ∧ sumN (pc1 (nmC σ)) q.toNat = i)) (fun _ x => 8 - x) ?_ ⟨by decide, by decide, rfl, fun q q0 q1 => by omega⟩
  intro X c x hX ⟨x0, x1, hc, hI⟩
  refine ⟨⟨by omega, by omega⟩, ?_⟩
  by_cases hx : x < 8
  · rw [if_pos hx]
    refine ⟨⟨x0, hx, (h1 x x0 hx).1, (h1 x x0 hx).2⟩, ?_⟩
    have cb := pc1_s (nmC σ) x0
    by_cases hn : σ (162 + 3 * Int.toNat x) 2 = 1 ∧ σ ((162 + 3 * Int.toNat x) + 1) 0 = 0
    · rw [if_pos hn]
      refine ⟨⟨⟨by omega, by omega⟩, hi⟩, ?_⟩
      by_cases hci : c = i
      · rw [if_pos hci]
        exact h x (Or.inr ⟨x0, hx, ⟨hn, hc.symm.trans hci⟩, hI⟩)
      · rw [if_neg hci]
        refine hX (c + 1) (x + 1) ⟨by omega, by omega, by rw [sumN_step x0, hc, pc1_1 (P := nmC σ) hn], fun q q0 q1 => ?_⟩ (by omega)
        by_cases hq : q = x
        · rw [hq]; exact fun w => hci (hc.trans w.2)
        · exact hI q q0 (by omega)
    · rw [if_neg hn]
      refine hX c (x + 1) ⟨by omega, by omega, by rw [sumN_step x0, hc, pc1_0 (P := nmC σ) hn, Int.add_zero], fun q q0 q1 => ?_⟩ (by omega)
      by_cases hq : q = x
      · rw [hq]; exact fun w => hn w.1
      · exact hI q q0 (by omega)
  · rw [if_neg hx]
    exact h (-1) (Or.inl ⟨rfl, fun q q0 q1 => hI q q0 (by omega)⟩)
theorem r275 {B : va_E} {σ τ : l2_m} {K : Int → l2_m → Prop} {P : Int → Prop} {i : Int} (hi : rg i) (hR : RWF σ) (kt : ∀ b j, 186 ≤ b → b ≤ 210 → τ b j = σ b j) (hP : σ 186 14 = 1 → ∀ q : Int, 0 ≤ q → q < 8 → (P q ↔ cnt (regR σ q) 4096 = 1 ∧ regR σ q 0 ≠ 0)) (h0 : σ 186 14 = 0 → ∀ υ, υ = l2_u (l2_u τ 186 0 0) 186 0 1 → K 0 υ) (h1 : σ 186 14 = 1 → cFP P i (-1) → ∀ υ, υ = l2_u (l2_u τ 186 0 0) 186 0 1 → K 0 υ) (h2 : ∀ x : Int, σ 186 14 = 1 → 0 ≤ x → cFP P i x → K x (l2_u τ 186 0 0)) : wC B 275 [vr 186, vi i] τ K := by
  refine o275 ?_
  unfold w275
  intro υ eu
  have e : ∀ b j, 186 ≤ b → b ≤ 210 → ¬ (b = 186 ∧ j = 0) → υ b j = σ b j := fun b j z z2 w => (u0_at eu w).trans (kt b j z z2)
  have e14 : υ 186 14 = σ 186 14 := e 186 14 (by decide) (by decide) (by decide)
  unfold w275_9
  refine lz2_inv (fun c x => 0 ≤ x ∧ x ≤ 8 ∧ c = sumN (pc1 P) x.toNat ∧ ∀ q : Int, 0 ≤ q → q < x → ¬ (P q ∧ sumN (pc1 P) q.toNat = i)) (fun _ x => 8 - x) ?_ ⟨by decide, by decide, rfl, fun q q0 q1 => by omega⟩
  intro X c x hX ⟨x0, x1, hc, hI⟩
  rw [e14]
  refine ⟨by rcases hR.1 with z | z <;> (rw [z]; decide), ?_⟩
  by_cases ht0 : σ 186 14 = 0
  · rw [if_pos ht0]
    intro ω ew
    exact h0 ht0 ω (by rw [ew, eu])
  · rw [if_neg ht0]
    have ht : σ 186 14 = 1 := hR.1.resolve_left ht0
    obtain ⟨b1, b2, b3, b4, b5, b6⟩ := hR.2.2.2.2.2.2.2.2.2 ht
    obtain ⟨p2, p97, -⟩ := pr_rest _ b1
    refine ⟨⟨by omega, by omega⟩, ?_⟩
    by_cases hx : x < 8
    · rw [if_pos hx]
      have e187 : ∀ j, υ 187 j = σ 187 j := fun j => e 187 j (by decide) (by decide) (by omega)
      have ec : cnt (fun k => υ 187 (4096 * x + k)) 4096 = cnt (regR σ x) 4096 := cnt_congr (fun j _ _ => e187 _)
      have er : ∀ j : Int, 0 ≤ j → j < 4096 → rg (υ 187 (4096 * x + j)) := fun j j0 j1 => by
        rw [e187]; have := b3 x j x0 hx j0 j1; exact ⟨by omega, by omega⟩
      have eb := cnt_bi (regR σ x) (n := 4096) (by decide)
      have hPx := hP ht x x0 hx
      have e0 : υ 187 (4096 * x + 0) = regR σ x 0 := e187 _
      rw [ec, e0]
      refine ⟨⟨x0, hx, er, ⟨by omega, by omega⟩⟩, fun _ => by rw [← e0]; exact er 0 (by decide) (by decide), ?_⟩
      have cb := pc1_s P x0
      by_cases hn : cnt (regR σ x) 4096 = 1 ∧ ¬ regR σ x 0 = 0
      · rw [if_pos hn]
        refine ⟨⟨⟨by omega, by omega⟩, hi⟩, ?_⟩
        by_cases hci : c = i
        · rw [if_pos hci]
          have := h2 x ht x0 (Or.inr ⟨x0, hx, ⟨hPx.mpr hn, hc.symm.trans hci⟩, hI⟩)
          rw [← eu] at this
          exact this
        · rw [if_neg hci]
          refine hX (c + 1) (x + 1) ⟨by omega, by omega, by rw [sumN_step x0, hc, pc1_1 (hPx.mpr hn)], fun q q0 q1 => ?_⟩ (by omega)
          by_cases hq : q = x
          · rw [hq]; exact fun w => hci (hc.trans w.2)
          · exact hI q q0 (by omega)
      · rw [if_neg hn]
        refine hX c (x + 1) ⟨by omega, by omega, by rw [sumN_step x0, hc, pc1_0 (fun w => hn (hPx.mp w)), Int.add_zero], fun q q0 q1 => ?_⟩ (by omega)
        by_cases hq : q = x
        · rw [hq]; exact fun w => hn (hPx.mp w.1)
        · exact hI q q0 (by omega)
    · rw [if_neg hx]
      intro ω ew
      exact h1 ht (Or.inl ⟨rfl, fun q q0 q1 => hI q q0 (by omega)⟩) ω (by rw [ew, eu])
theorem nm_iff {σ : l2_m} {W f : Int → Int} {o : Nat} (h : PR σ o W f) : (σ o 2 = 1 ∧ σ (o + 1) 0 = 0) ↔ (cnt f 4096 = 1 ∧ f 0 ≠ 0) := by
  rw [PR_cnt h]
  constructor
  · rintro ⟨h1, h2⟩
    obtain ⟨k, k0, k1, k2, k3, k4, k5⟩ := PR_lead h (by omega)
    refine ⟨h1, ?_⟩
    have : k = 0 := MW_inj (W := W) k0 k1 (by decide) (by decide) (by rw [MW_0, ← k2, h2])
    rw [this] at k4; exact k4
  · rintro ⟨h1, h2⟩
    obtain ⟨k, k0, k1, k2, k3, k4, k5⟩ := PR_lead h (by omega)
    refine ⟨h1, ?_⟩
    have hc : cnt (upI f k 0) 4096 = 0 := by rw [cnt_upd k0 k1 k4, PR_cnt h, h1]; rfl
    have := cnt_zero hc (k := 0) (by decide) (by decide)
    unfold upI at this
    by_cases hk : k = 0
    · rw [k2, hk, MW_0]
    · rw [if_neg (fun w => hk w.symm)] at this
      exact absurd this h2
/-- what constant does on both sides; its number goes by way of the law's cell 211 -/
theorem pair_constant {F : l2_m → Prop} {B : va_E} {i : Int} (hi : rg i) : ∀ σ : l2_m, CI F σ σ → RWF σ → wC B 142 [vr 32, vi i] σ (fun x τ => τ = σ ∧ -1 ≤ x ∧ x < 8 ∧ ∀ τ' : l2_m, (∀ b j, b ≠ 211 → τ' b j = σ b j) → wC B 275 [vr 186, vi i] τ' (fun y υ => (∀ b, b = 211 → ∀ j, υ b j = τ' b j) ∧ ((x = -1 ∧ υ 186 0 = 1) ∨ (0 ≤ x ∧ x = y ∧ υ 186 0 = 0)) ∧ CI F υ υ ∧ RWF υ)) := by
  intro σ hC hR
  have ci : ∀ (τ' υ : l2_m) , (∀ b j, b ≠ 211 → τ' b j = σ b j) → (∀ b j, ¬ (b = 186 ∧ j = 0) → υ b j = τ' b j) → CI F υ υ ∧ RWF υ := by
    intro τ' υ h1 h2
    have a : ∀ b j, b ≠ 211 → ¬ (b = 186 ∧ j = 0) → υ b j = σ b j := fun b j w1 w2 => (h2 b j w2).trans (h1 b j w1)
    have hdo := hC.2.2.2.2.1
    obtain ⟨B1, B2, B3, B4, B5, B6⟩ := hC.1
    refine ⟨CI_cg hC (fun b j z => a b j (by unfold cpt at z; omega) (by unfold cpt at z; omega)) ?_ (fun b j z w => a b j (by unfold prs at z; omega) (by unfold prs at z; omega)) ?_ ?_, RWF_cg hR (fun b j z w => a b j (by unfold prs at z; omega) (by unfold prs at z; omega)) ?_ ?_⟩
    · unfold dvO; rw [a 74 3 (by omega) (by omega), a 74 4 (by omega) (by omega)]; exact hdo
    · rw [a 32 2 (by omega) (by omega), a 186 1 (by omega) (by omega)]; exact B2
    · rw [a 32 4 (by omega) (by omega), a 186 2 (by omega) (by omega)]; exact B4
    · rw [a 186 1 (by omega) (by omega)]; exact hR.2.2.2.1
    · rw [a 186 2 (by omega) (by omega)]; exact hR.2.2.2.2.1
  have hreg : ∀ q : Int, 0 ≤ q → q < 8 → rg (σ (162 + 3 * Int.toNat q) 2) ∧ (σ (162 + 3 * Int.toNat q) 2 = 1 → rg (σ ((162 + 3 * Int.toNat q) + 1) 0)) := by
    intro q q0 q1
    rcases hR.1 with z | z
    · have := (hC.2.2.1 z).2 q q0 q1
      exact ⟨by rw [this]; decide, fun w => by omega⟩
    · have hp := (hC.2.1 z).2.2.2.2.2.2.2 q q0 q1
      have e0 := hp.1
      have e1 := hp.2.1
      refine ⟨⟨by omega, by omega⟩, fun w => ?_⟩
      obtain ⟨k, k0, k1, k2, k3, k4, k5⟩ := PR_lead hp (by omega)
      rw [k2]; exact MW_rg (wt_ok _ _ _) k
  refine c142 hi hreg (fun x hx => ⟨rfl, ?_, ?_, ?_⟩)
  · rcases hx with ⟨e, -⟩ | ⟨x0, x1, -⟩ <;> omega
  · rcases hx with ⟨e, -⟩ | ⟨x0, x1, -⟩ <;> omega
  · intro τ' ht'
    have k1 : ∀ υ : l2_m, υ = l2_u (l2_u τ' 186 0 0) 186 0 1 → (∀ b, b = 211 → ∀ j, υ b j = τ' b j) ∧ υ 186 0 = 1 ∧ CI F υ υ ∧ RWF υ := by
      intro υ eu
      have a : ∀ b j, ¬ (b = 186 ∧ j = 0) → υ b j = τ' b j := fun b j w => by rw [eu]; unfold l2_u; rw [if_neg w, if_neg w]
      refine ⟨fun b w j => a b j (by omega), ?_, ci τ' υ ht' a⟩
      rw [eu]; unfold l2_u; rw [if_pos ⟨rfl, rfl⟩]
    refine r275 (σ := σ) (P := nmC σ) hi hR (fun b j z w => ht' b j (by omega)) (fun z q q0 q1 => nm_iff ((hC.2.1 z).2.2.2.2.2.2.2 q q0 q1)) (fun z υ eu => ?_) (fun z hc υ eu => ?_) (fun y z y0 hc => ?_)
    · obtain ⟨g1, g2, g3⟩ := k1 υ eu
      refine ⟨g1, Or.inl ⟨?_, g2⟩, g3⟩
      rcases hx with ⟨e, -⟩ | ⟨x0, x1, x2, -⟩
      · exact e
      · have := (hC.2.2.1 z).2 x x0 x1
        have := x2.1.1
        omega
    · obtain ⟨g1, g2, g3⟩ := k1 υ eu
      exact ⟨g1, Or.inl ⟨cFP_uniq hx hc, g2⟩, g3⟩
    · have exy := cFP_uniq hx hc
      have a : ∀ b j, ¬ (b = 186 ∧ j = 0) → l2_u τ' 186 0 0 b j = τ' b j := fun b j w => by unfold l2_u; rw [if_neg w]
      refine ⟨fun b w j => a b j (by omega), Or.inr ⟨by omega, exy, ?_⟩, ci τ' _ ht' a⟩
      unfold l2_u; rw [if_pos ⟨rfl, rfl⟩]
