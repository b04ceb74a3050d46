/-! ===== sorting and settling rows of terms ===== -/
noncomputable def ind (P : Prop) : Int := @ite Int P (Classical.propDecidable P) 1 0
theorem ind_t {P : Prop} (h : P) : ind P = 1 := if_pos h
theorem ind_f {P : Prop} (h : ¬ P) : ind P = 0 := if_neg h
theorem ind_b (P : Prop) : 0 ≤ ind P ∧ ind P ≤ 1 := by
  by_cases h : P
  · rw [ind_t h]; decide
  · rw [ind_f h]; decide
/-- terms in any order, none twice -/
def UR (σ : l2_m) (o : Nat) (W : Int → Int) (f : Int → Int) : Prop := 0 ≤ σ o 2 ∧ σ o 2 ≤ 60 ∧ (∀ i : Int, 0 ≤ i → i < σ o 2 → ∃ k : Int, 0 ≤ k ∧ k < 4096 ∧ σ (o + 1) i = MW W k ∧ σ (o + 2) i = f k ∧ f k ≠ 0) ∧ (∀ i j : Int, 0 ≤ i → i < j → j < σ o 2 → σ (o + 1) i ≠ σ (o + 1) j) ∧ (∀ k : Int, 0 ≤ k → k < 4096 → f k ≠ 0 → ∃ i : Int, 0 ≤ i ∧ i < σ o 2 ∧ σ (o + 1) i = MW W k)
theorem PR_UR {σ : l2_m} {o : Nat} {W f : Int → Int} (h : PR σ o W f) : UR σ o W f := ⟨h.1, h.2.1, h.2.2.1, fun i j a b c => by have := h.2.2.2.1 i j a b c; omega, h.2.2.2.2⟩
/-- all terms have a property that sums show -/
theorem tsum_all {σ τ : l2_m} {o : Nat} {n : Int} (hn : 0 ≤ n) (hs : ∀ w, tsum τ o n w = tsum σ o n w) (P : Int → Int → Prop) (h : ∀ i : Int, 0 ≤ i → i < n → P (σ (o + 1) i) (σ (o + 2) i)) : ∀ i : Int, 0 ≤ i → i < n → P (τ (o + 1) i) (τ (o + 2) i) := by
  intro i a b
  apply Classical.byContradiction
  intro hc
  have e1 : tsum σ o n (fun m c => ind (¬ P m c)) = 0 := sumN_zero (fun j a b => ind_f (fun z => z (h j a (by omega))))
  have e2 := hs (fun m c => ind (¬ P m c))
  rw [e1] at e2
  have := sumN_pos (f := fun i => ind (¬ P (τ (o + 1) i) (τ (o + 2) i))) (n := n.toNat) (j := i) a (by omega) (fun j _ _ => (ind_b _).1)
  unfold tsum at e2
  rw [e2] at this
  rw [ind_t hc] at this
  omega
theorem tsum_ex {σ τ : l2_m} {o : Nat} {n : Int} (hn : 0 ≤ n) (hs : ∀ w, tsum τ o n w = tsum σ o n w) (P : Int → Int → Prop) (h : ∃ i : Int, 0 ≤ i ∧ i < n ∧ P (σ (o + 1) i) (σ (o + 2) i)) : ∃ i : Int, 0 ≤ i ∧ i < n ∧ P (τ (o + 1) i) (τ (o + 2) i) := by
  apply Classical.byContradiction
  intro hc
  have := tsum_all (σ := τ) (τ := σ) hn (fun w => (hs w).symm) (fun m c => ¬ P m c) (fun i a b z => hc ⟨i, a, b, z⟩)
  obtain ⟨i, a, b, z⟩ := h
  exact this i a b z
theorem tsum_inj {σ τ : l2_m} {o : Nat} {n : Int} (hn : 0 ≤ n) (hs : ∀ w, tsum τ o n w = tsum σ o n w) (h : ∀ i j : Int, 0 ≤ i → i < j → j < n → σ (o + 1) i ≠ σ (o + 1) j) : ∀ i j : Int, 0 ≤ i → i < j → j < n → τ (o + 1) i ≠ τ (o + 1) j := by
  intro i j a b c e
  have e2 := hs (fun m _ => ind (m = τ (o + 1) i))
  unfold tsum at e2
  have g1 := sumN_two (f := fun k => ind (τ (o + 1) k = τ (o + 1) i)) (n := n.toNat) (i := i) (j := j) a b (by omega) (fun k _ _ => (ind_b _).1)
  rw [e2, ind_t rfl, ind_t e.symm] at g1
  by_cases hx : ∃ k : Int, 0 ≤ k ∧ k < n ∧ σ (o + 1) k = τ (o + 1) i
  · obtain ⟨k, k1, k2, k3⟩ := hx
    have g2 := sumN_one (f := fun k => ind (σ (o + 1) k = τ (o + 1) i)) (n := n.toNat) (j := k) k1 (by omega) (fun l l1 l2 l3 => by
      apply ind_f
      intro z
      rw [← k3] at z
      rcases Int.lt_or_gt_of_ne l3 with q | q
      · exact h l k l1 q k2 z
      · exact h k l k1 q (by omega) z.symm)
    rw [g2, ind_t k3] at g1
    omega
  · have g2 : sumN (fun k => ind (σ (o + 1) k = τ (o + 1) i)) n.toNat = 0 := sumN_zero (fun l l1 l2 => ind_f (fun z => hx ⟨l, l1, by omega, z⟩))
    rw [g2] at g1
    omega
theorem c90 {B : va_E} {σ : l2_m} {K : Int → l2_m → Prop} {o : Nat} {W f : Int → Int} (ho : isP o) (hW : okW W) (hu : UR σ o W f) (h : ∀ τ : l2_m, frP o σ τ → PR τ o W f → K 0 τ) : wC B 90 [vr o] σ K := by
  obtain ⟨h1, h2, h3, h4, h5⟩ := hu
  refine s90 ho h1 h2 (fun i a b => ?_) (fun τ t1 t2 t3 => h τ t1 ?_)
  · obtain ⟨k, -, -, k3, -, -⟩ := h3 i a b
    rw [k3]; exact MW_rg hW k
  · have e0 : τ o 2 = σ o 2 := t1 o 2 (by omega) (by omega)
    unfold PR
    rw [e0]
    have inj := tsum_inj h1 t3 h4
    refine ⟨h1, h2, tsum_all h1 t3 (fun m c => ∃ k : Int, 0 ≤ k ∧ k < 4096 ∧ m = MW W k ∧ c = f k ∧ f k ≠ 0) h3, fun i j a b c => ?_, fun k a b c => tsum_ex h1 t3 (fun m _ => m = MW W k) (h5 k a b c)⟩
    have := t2 i j a b c
    have := inj i j a b c
    omega
/-- what the terms with one mark come to -/
def mgs (σ : l2_m) (o : Nat) (n : Int) (m : Int) : Int := tsum σ o n (fun a c => if a = m then c else 0)
/-- only a polynomial, its count too, has changed -/
def frQ (o : Nat) (σ τ : l2_m) : Prop := ∀ b j, b ≠ o → b ≠ o + 1 → b ≠ o + 2 → τ b j = σ b j
theorem app_at {σ : l2_m} {o : Nat} {m c : Int} (h : σ o 2 < 60) (b : Nat) (j : Int) : app σ o m c b j = if b = o ∧ j = 2 then σ o 2 + 1 else if b = o + 2 ∧ j = σ o 2 then c else if b = o + 1 ∧ j = σ o 2 then m else σ b j := by
  unfold app
  rw [if_pos h]
  rfl
