/-! ===== sums over places; sort ===== -/
def upI (f : Int → Int) (j x : Int) : Int → Int := fun i => if i = j then x else f i
theorem sumN_add (f g : Int → Int) (n : Nat) : sumN (fun i => f i + g i) n = sumN f n + sumN g n := by
  induction n with
  | zero => rfl
  | succ n ih => show sumN _ n + (f n + g n) = sumN f n + f n + (sumN g n + g n); rw [ih]; omega
theorem sumN_mul (c : Int) (f : Int → Int) (n : Nat) : sumN (fun i => c * f i) n = c * sumN f n := by
  induction n with
  | zero => exact (Int.mul_zero c).symm
  | succ n ih => show sumN _ n + c * f n = c * (sumN f n + f n); rw [ih, Int.mul_add]
theorem sumN_zero {f : Int → Int} {n : Nat} (h : ∀ j : Int, 0 ≤ j → j < n → f j = 0) : sumN f n = 0 := by
  induction n with
  | zero => rfl
  | succ n ih => show sumN f n + f n = 0; rw [ih (fun j a b => h j a (by omega)), h n (by omega) (by omega)]; rfl
theorem sumN_nonneg {f : Int → Int} {n : Nat} (h : ∀ j : Int, 0 ≤ j → j < n → 0 ≤ f j) : 0 ≤ sumN f n := by
  induction n with
  | zero => exact Int.le_refl _
  | succ n ih =>
    show 0 ≤ sumN f n + f n
    have := ih (fun j a b => h j a (by omega))
    have := h n (by omega) (by omega)
    omega
theorem sumN_le {f g : Int → Int} {n : Nat} (h : ∀ j : Int, 0 ≤ j → j < n → f j ≤ g j) : sumN f n ≤ sumN g n := by
  induction n with
  | zero => exact Int.le_refl _
  | succ n ih =>
    show sumN f n + f n ≤ sumN g n + g n
    have := ih (fun j a b => h j a (by omega))
    have := h n (by omega) (by omega)
    omega
theorem sumN_bound {f : Int → Int} {n : Nat} {c : Int} (h : ∀ j : Int, 0 ≤ j → j < n → f j ≤ c) : sumN f n ≤ c * n := by
  induction n with
  | zero => show (0 : Int) ≤ c * 0; rw [Int.mul_zero]; exact Int.le_refl _
  | succ n ih =>
    show sumN f n + f n ≤ c * ((n : Int) + 1)
    have := ih (fun j a b => h j a (by omega))
    have := h n (by omega) (by omega)
    rw [Int.mul_add]
    omega
theorem sumN_upd {f : Int → Int} {n : Nat} {j x : Int} (h0 : 0 ≤ j) (h1 : j < n) : sumN (upI f j x) n = sumN f n - f j + x := by
  induction n with
  | zero => omega
  | succ n ih =>
    show sumN (upI f j x) n + upI f j x n = sumN f n + f n - f j + x
    by_cases hj : j = n
    · subst hj
      have : sumN (upI f (n : Int) x) n = sumN f n := sumN_congr (fun i a b => by unfold upI; rw [if_neg (by omega)])
      rw [this]
      unfold upI
      rw [if_pos rfl]
      omega
    · rw [ih (by omega)]
      unfold upI
      rw [if_neg (by omega)]
      omega
/-- one place alone -/
theorem sumN_one {f : Int → Int} {n : Nat} {j : Int} (h0 : 0 ≤ j) (h1 : j < n) (h : ∀ i : Int, 0 ≤ i → i < n → i ≠ j → f i = 0) : sumN f n = f j := by
  have e : sumN (upI f j 0) n = 0 := sumN_zero (fun i a b => by
    unfold upI
    split
    · rfl
    · exact h i a b (by assumption))
  have := sumN_upd (f := f) (x := 0) h0 h1
  omega
/-- a place with something makes a sum positive -/
theorem sumN_pos {f : Int → Int} {n : Nat} {j : Int} (h0 : 0 ≤ j) (h1 : j < n) (h : ∀ i : Int, 0 ≤ i → i < n → 0 ≤ f i) : f j ≤ sumN f n := by
  have := sumN_upd (f := f) (x := 0) h0 h1
  have : 0 ≤ sumN (upI f j 0) n := sumN_nonneg (fun i a b => by
    unfold upI
    split
    · exact Int.le_refl _
    · exact h i a b)
  omega
theorem sumN_ex {f : Int → Int} {n : Nat} (h : sumN f n ≠ 0) : ∃ j : Int, 0 ≤ j ∧ j < n ∧ f j ≠ 0 := by
  apply Classical.byContradiction
  intro hn
  apply h
  exact sumN_zero (fun j a b => Classical.byContradiction (fun hc => hn ⟨j, a, b, hc⟩))
theorem sumN_two {f : Int → Int} {n : Nat} {i j : Int} (h0 : 0 ≤ i) (h1 : i < j) (h2 : j < n) (h : ∀ i : Int, 0 ≤ i → i < n → 0 ≤ f i) : f i + f j ≤ sumN f n := by
  have a1 := sumN_upd (f := f) (n := n) (j := j) (x := 0) (by omega) h2
  have a2 := sumN_pos (f := upI f j 0) (n := n) (j := i) h0 (by omega) (fun k a b => by
    unfold upI
    split
    · exact Int.le_refl _
    · exact h k a b)
  have a3 : upI f j 0 i = f i := by unfold upI; rw [if_neg (by omega)]
  omega
/-- what all terms of a polynomial come to, by weights -/
def tsum (σ : l2_m) (o : Nat) (n : Int) (w : Int → Int → Int) : Int := sumN (fun i => w (σ (o + 1) i) (σ (o + 2) i)) n.toNat
/-- only a polynomial has changed -/
def frP (o : Nat) (σ τ : l2_m) : Prop := ∀ b j, b ≠ o + 1 → b ≠ o + 2 → τ b j = σ b j
theorem s90 {B : va_E} {σ : l2_m} {K : Int → l2_m → Prop} {o : Nat} (ho : isP o) (h1 : 0 ≤ σ o 2) (h2 : σ o 2 ≤ 60) (hr : ∀ i : Int, 0 ≤ i → i < σ o 2 → rg (σ (o + 1) i)) (h : ∀ τ : l2_m, frP o σ τ → (∀ i j : Int, 0 ≤ i → i < j → j < σ o 2 → τ (o + 1) j ≤ τ (o + 1) i) → (∀ w, tsum τ o (σ o 2) w = tsum σ o (σ o 2) w) → K 0 τ) : wC B 90 [vr o] σ K := by
  generalize hN : σ o 2 = N at h1 h2 hr h
  refine o90 ho ?_
  unfold w90 w90_2
  refine lz2_inv (fun (x : Int) τ => 1 ≤ x ∧ (x ≤ N ∨ x = 1) ∧ frP o σ τ ∧ (∀ i : Int, 0 ≤ i → i < N → rg (τ (o + 1) i)) ∧ (∀ i j : Int, 0 ≤ i → i < j → j < x → j < N → τ (o + 1) j ≤ τ (o + 1) i) ∧ (∀ w, tsum τ o N w = tsum σ o N w)) (fun x _ => N - x) ?_ ?_
  · rintro X x τ hX ⟨i1, i2, i3, i4, i5, i6⟩
    have fN : τ o 2 = N := by rw [← hN]; exact i3 o 2 (by omega) (by omega)
    rw [fN]
    refine ⟨⟨⟨by omega, by omega⟩, ⟨by omega, by omega⟩⟩, ?_⟩
    split
    · rename_i hx
      refine ⟨⟨by omega, by omega⟩, ?_⟩
      intro x2 e2 x3 e3
      have r2 : rg x2 := by rw [e2]; exact i4 x (by omega) hx
      unfold w90_27
      refine lz2_inv (fun (y : Int) υ => 0 ≤ y ∧ y ≤ x ∧ frP o σ υ ∧ (∀ i : Int, 0 ≤ i → i < N → rg (υ (o + 1) i)) ∧ (∀ i j : Int, 0 ≤ i → i < j → j ≤ x → i ≠ y → j ≠ y → υ (o + 1) j ≤ υ (o + 1) i) ∧ (∀ j : Int, y < j → j ≤ x → υ (o + 1) j < x2) ∧ (∀ w, sumN (upI (fun i => w (υ (o + 1) i) (υ (o + 2) i)) y (w x2 x3)) N.toNat = tsum σ o N w)) (fun y _ => y) ?_ ?_
      · rintro Y y υ hY ⟨j1, j2, j3, j4, j5, j6, j7⟩
        refine ⟨⟨by omega, by omega⟩, fun hy => ⟨by omega, by omega, j4 _ (by omega) (by omega), r2⟩, ?_⟩
        split
        · rename_i hc
          refine ⟨⟨j1, by omega⟩, ?_⟩
          intro υ1 u1 υ2 u2
          have v1 : ∀ b j, υ2 b j = if b = o + 2 ∧ j = y then υ (o + 2) (y - 1) else if b = o + 1 ∧ j = y then υ (o + 1) (y - 1) else υ b j := by
            intro b j
            rw [u2, u1]
            unfold l2_u
            rw [if_neg (show ¬ (o + 2 = o + 1 ∧ y - 1 = y) from by omega)]
          clear u1 u2
          refine hY _ _ ⟨by omega, by omega, ?_, ?_, ?_, ?_, ?_⟩ (by omega)
          · intro b j hb1 hb2
            rw [v1, if_neg (fun z => hb2 z.1), if_neg (fun z => hb1 z.1)]
            exact j3 b j hb1 hb2
          · intro i a b
            rw [v1, if_neg (by omega)]
            split
            · exact j4 _ (by omega) (by omega)
            · exact j4 i a b
          · intro i j a b c d e
            have vm : ∀ j, υ2 (o + 1) j = if j = y then υ (o + 1) (y - 1) else υ (o + 1) j := fun j => by
              rw [v1, if_neg (by omega)]
              by_cases hj : j = y
              · rw [if_pos ⟨rfl, hj⟩, if_pos hj]
              · rw [if_neg (fun z => hj z.2), if_neg hj]
            rw [vm, vm]
            by_cases hi : i = y
            · rw [if_pos hi, if_neg (by omega)]
              exact j5 (y - 1) j (by omega) (by omega) (by omega) (by omega) (by omega)
            · rw [if_neg hi]
              by_cases hj : j = y
              · rw [if_pos hj]
                exact j5 i (y - 1) (by omega) (by omega) (by omega) (by omega) (by omega)
              · rw [if_neg hj]
                exact j5 i j (by omega) (by omega) (by omega) (by omega) (by omega)
          · intro j a b
            rw [v1, if_neg (by omega)]
            have q1 := j6 j
            grind
          · intro w
            rw [← j7 w]
            have s1 := sumN_upd (f := fun i => w (υ2 (o + 1) i) (υ2 (o + 2) i)) (n := N.toNat) (j := y + -1) (x := w x2 x3) (by omega) (by omega)
            have s2 := sumN_upd (f := fun i => w (υ (o + 1) i) (υ (o + 2) i)) (n := N.toNat) (j := y) (x := w x2 x3) (by omega) (by omega)
            have s3 : sumN (fun i => w (υ2 (o + 1) i) (υ2 (o + 2) i)) N.toNat = sumN (upI (fun i => w (υ (o + 1) i) (υ (o + 2) i)) y (w (υ (o + 1) (y - 1)) (υ (o + 2) (y - 1)))) N.toNat := sumN_congr (fun i a b => by
              unfold upI
              rw [v1, v1]
              by_cases hi : i = y
              · subst hi; simp
              · simp [hi])
            have s4 := sumN_upd (f := fun i => w (υ (o + 1) i) (υ (o + 2) i)) (n := N.toNat) (j := y) (x := w (υ (o + 1) (y - 1)) (υ (o + 2) (y - 1))) (by omega) (by omega)
            have s5 : w (υ2 (o + 1) (y + -1)) (υ2 (o + 2) (y + -1)) = w (υ (o + 1) (y - 1)) (υ (o + 2) (y - 1)) := by
              have e : y + -1 = y - 1 := by omega
              rw [e, v1, v1, if_neg (by omega), if_neg (by omega), if_neg (by omega), if_neg (by omega)]
            rw [s1, s2, s3, s4, s5]
            omega
        · rename_i hc
          unfold w90_83
          refine ⟨⟨j1, by omega⟩, ?_⟩
          intro υ1 u1 υ2 u2
          have v1 : ∀ b j, υ2 b j = if b = o + 2 ∧ j = y then x3 else if b = o + 1 ∧ j = y then x2 else υ b j := by
            intro b j
            rw [u2, u1]
            unfold l2_u
            rfl
          clear u1 u2
          refine hX _ _ ⟨by omega, by omega, ?_, ?_, ?_, ?_⟩ (by omega)
          · intro b j hb1 hb2
            rw [v1, if_neg (fun z => hb2 z.1), if_neg (fun z => hb1 z.1)]
            exact j3 b j hb1 hb2
          · intro i a b
            rw [v1, if_neg (by omega)]
            split
            · exact r2
            · exact j4 i a b
          · intro i j a b c d
            have vm : ∀ j, υ2 (o + 1) j = if j = y then x2 else υ (o + 1) j := fun j => by
              rw [v1, if_neg (by omega)]
              by_cases hj : j = y
              · rw [if_pos ⟨rfl, hj⟩, if_pos hj]
              · rw [if_neg (fun z => hj z.2), if_neg hj]
            rw [vm, vm]
            by_cases hi : i = y
            · rw [if_pos hi, if_neg (by omega)]
              have := j6 j (by omega) (by omega)
              omega
            · rw [if_neg hi]
              by_cases hj : j = y
              · rw [if_pos hj]
                by_cases hk : i = y - 1
                · rw [hk]; omega
                · have := j5 i (y - 1) (by omega) (by omega) (by omega) (by omega) (by omega)
                  omega
              · rw [if_neg hj]
                exact j5 i j (by omega) (by omega) (by omega) (by omega) (by omega)
          · intro w
            rw [← j7 w]
            unfold tsum
            refine sumN_congr (fun i a b => ?_)
            unfold upI
            rw [v1, v1]
            by_cases hi : i = y
            · subst hi; simp
            · simp [hi]
      · refine ⟨by omega, by omega, i3, i4, ?_, fun j a b => by omega, ?_⟩
        · intro i j a b c d e
          exact i5 i j a b (by omega) (by omega)
        · intro w
          rw [← i6 w]
          unfold tsum
          refine sumN_congr (fun i a b => ?_)
          unfold upI
          split
          · rename_i hi; rw [hi, e2, e3]
          · rfl
    · rename_i hx
      exact h τ i3 (fun i j a b c => i5 i j a b (by omega) c) i6
  · exact ⟨by omega, Or.inr rfl, fun b j _ _ => rfl, hr, fun i j a b c d => by omega, fun w => rfl⟩
