/-! 25 TermDesk$Commons.topOf([III)I -/
def w25_4 (B : va_E) (σ : l2_m) (o0 : Nat) (n0 : Nat) (x1 : Int) (x3 : Int)  (K : Int → l2_m → Prop) : Prop := lz1 (fun X4 x3 => (rg x3 ∧ ((¬ (x3 < 0) → 0 ≤ (x1 + x3) ∧ (x1 + x3) < (n0 : Int) ∧ rg (σ o0 (x1 + x3))) ∧ (if (x3 < 0) ∨ ¬ ((σ o0 (x1 + x3)) = 0) then K x3 σ else X4 (x3 + (-1)))))) x3
theorem o25_4 {B : va_E} {σ : l2_m} {o0 : Nat} {n0 : Nat} {x1 : Int} {x3 : Int} {u2 : Value}  {K : Int → l2_m → Prop} (ho0 : l2_al o0 = some n0) (hu2 : (u2.category == 1) = true)  (h : w25_4 B σ o0 n0 x1 x3  K) : wW B 25 4 [vr o0, vi x1, u2, vi x3] [] σ K := by
  have ck : pm_code 25 = pc_25 := rfl
  unfold w25_4 at h
  refine h (fun x3 => ∀ u2 : Value, (u2.category == 1) = true → wW B 25 4 [vr o0, vi x1, u2, vi x3] [] σ K) ?_ u2 hu2
  clear h
  intro x3 h u2 hu2
  replace h := (And.imp_right mg_2s) h
  obtain ⟨s1, h⟩ := h
  refine g_il 5 ck rfl rfl rfl ?_
  refine g_if 8 22 ck rfl rfl rfl s1 (fun hc => ?_) (fun hc => ?_)
  · replace h := ite_ht h hc
    refine g_il 23 ck rfl rfl rfl ?_
    exact g_ret ck rfl rfl (Or.inl (by decide)) h
  · replace h := ite_hf h hc
    obtain ⟨⟨s2, s3, s4⟩, h⟩ := h
    refine g_al 9 ck rfl rfl rfl ?_
    refine g_il 10 ck rfl rfl rfl ?_
    refine g_il 11 ck rfl rfl rfl ?_
    refine g_add 12 ck rfl rfl ?_
    refine g_ial (m := n0) 13 ck rfl rfl ho0 s2 s3 ?_
    refine g_if 16 22 ck rfl rfl rfl s4 (fun hc => ?_) (fun hc => ?_)
    · replace h := ite_hf h hc
      refine g_il 23 ck rfl rfl rfl ?_
      exact g_ret ck rfl rfl (Or.inl (by decide)) h
    · replace h := ite_ht h (Classical.not_not.mp hc)
      refine r_ii 19 ck rfl rfl hu2 rfl ?_
      refine g_goto 4 ck rfl rfl ?_
      exact h _ hu2
def w25 (B : va_E) (σ : l2_m) (o0 : Nat) (x1 : Int) (x2 : Int) (n0 : Nat) (K : Int → l2_m → Prop) : Prop := (∀ x3 : Int, x3 = (x2 - 1) → w25_4 B σ o0 n0 x1 x3 K)
theorem o25 {B : va_E} {σ : l2_m} {o0 : Nat} {x1 : Int} {x2 : Int} {n0 : Nat} {K : Int → l2_m → Prop} (ho0 : l2_al o0 = some n0)  (h : w25 B σ o0 x1 x2 n0  K) : wC B 25 [vr o0, vi x1, vi x2] σ K := by
  have ck : pm_code 25 = pc_25 := rfl
  unfold w25 at h
  show wW B 25 0 [vr o0, vi x1, vi x2, pm_un] [] σ K
  refine g_il 1 ck rfl rfl rfl ?_
  refine g_ic 2 ck rfl rfl ?_
  refine g_sub 3 ck rfl rfl ?_
  refine r_is 4 ck rfl rfl rfl rfl ?_
  replace h := h _ rfl
  exact o25_4 ho0 rfl h
/-! 28 TermDesk$Commons.reduceRow([IIII)V -/
def w28_56 (B : va_E) (σ : l2_m) (o1 : Nat) (x3 : Int) (x4 : Int) (x5 : Int) (x6 : Int) (x7 : Int) (x8 : Int) (X31 : Int → l2_m → Prop) (K : Int → l2_m → Prop) : Prop := lz2 (fun X56 x8 σ => ((rg x8 ∧ rg x3) ∧ (if x3 < x8 then X31 (x6 + (-1)) σ else ((0 ≤ (x6 + x8) ∧ (x6 + x8) < 32 ∧ 0 ≤ x8 ∧ x8 < 32 ∧ rg ((σ o1 (x6 + x8)) + (x7 * (σ 124 x8))) ∧ rg x5 ∧ 0 < x5 ∧ 0 ≤ ((σ o1 (x6 + x8)) + (x7 * (σ 124 x8)))) ∧ ∀ σ' : l2_m, σ' = l2_u σ o1 (x6 + x8) (((σ o1 (x6 + x8)) + (x7 * (σ 124 x8))) % x5) → X56 (x8 + 1) σ')))) x8 σ
theorem o28_56 {B : va_E} {σ : l2_m} {o1 : Nat} {x3 : Int} {x4 : Int} {x5 : Int} {x6 : Int} {x7 : Int} {x8 : Int} {u2 : Value} {X31 : Int → l2_m → Prop} {K : Int → l2_m → Prop} (ho1 : l2_al o1 = some 32) (hu2 : (u2.category == 1) = true) (hX31 : ∀ (x6 : Int) (σ : l2_m) (u2 : Value) (u7 : Value) (u8 : Value), (u2.category == 1) = true → (u7.category == 1) = true → (u8.category == 1) = true → X31 x6 σ → wW B 28 31 [vr 109, vr o1, u2, vi x3, vi x4, vi x5, vi x6, u7, u8] [] σ K) (h : w28_56 B σ o1 x3 x4 x5 x6 x7 x8 X31 K) : wW B 28 56 [vr 109, vr o1, u2, vi x3, vi x4, vi x5, vi x6, vi x7, vi x8] [] σ K := by
  have ck : pm_code 28 = pc_28 := rfl
  unfold w28_56 at h
  refine h (fun x8 σ => ∀ u2 : Value, (u2.category == 1) = true → wW B 28 56 [vr 109, vr o1, u2, vi x3, vi x4, vi x5, vi x6, vi x7, vi x8] [] σ K) ?_ u2 hu2
  clear h
  intro x8 σ h u2 hu2
  obtain ⟨⟨s1, s2⟩, h⟩ := h
  refine g_il 58 ck rfl rfl rfl ?_
  refine g_il 59 ck rfl rfl rfl ?_
  refine g_ii2 62 96 ck rfl rfl rfl s1 s2 (fun hc => ?_) (fun hc => ?_)
  · replace h := ite_ht h hc
    refine r_ii 99 ck rfl rfl rfl rfl ?_
    refine g_goto 31 ck rfl rfl ?_
    exact hX31 _ _ _ _ _ hu2 rfl rfl h
  · replace h := ite_hf h hc
    obtain ⟨⟨s3, s4, s5, s6, s7, s8, s9, s10⟩, h⟩ := h
    refine g_al 63 ck rfl rfl rfl ?_
    refine g_il 65 ck rfl rfl rfl ?_
    refine g_il 67 ck rfl rfl rfl ?_
    refine g_add 68 ck rfl rfl ?_
    refine g_al 69 ck rfl rfl rfl ?_
    refine g_il 71 ck rfl rfl rfl ?_
    refine g_il 73 ck rfl rfl rfl ?_
    refine g_add 74 ck rfl rfl ?_
    refine g_ial (m := 32) 75 ck rfl rfl ho1 s3 s4 ?_
    refine g_il 77 ck rfl rfl rfl ?_
    refine g_al 78 ck rfl rfl rfl ?_
    refine r_gfr 81 124 ck rfl rfl rfl (by decide) ?_
    refine g_il 83 ck rfl rfl rfl ?_
    refine g_ial (m := 32) 84 ck rfl rfl rfl s5 s6 ?_
    refine g_mul 85 ck rfl rfl ?_
    refine g_add 86 ck rfl rfl ?_
    refine g_il 88 ck rfl rfl rfl ?_
    refine g_rem 89 ck rfl rfl s7 s8 s10 s9 ?_
    refine g_ias (m := 32) 90 ck rfl rfl ho1 s3 s4 ?_
    replace h := h _ rfl
    refine r_ii 93 ck rfl rfl rfl rfl ?_
    refine g_goto 56 ck rfl rfl ?_
    exact h _ hu2
def w28_31 (B : va_E) (σ : l2_m) (o1 : Nat) (x3 : Int) (x4 : Int) (x5 : Int) (x6 : Int)  (K : Int → l2_m → Prop) : Prop := lz2 (fun X31 x6 σ => (rg x6 ∧ (if x6 < 0 then K 0 σ else ((0 ≤ (x6 + x3) ∧ (x6 + x3) < 32 ∧ rg ((σ o1 (x6 + x3)) * x4) ∧ rg x5 ∧ 0 < x5 ∧ 0 ≤ ((σ o1 (x6 + x3)) * x4)) ∧ ∀ x7 : Int, x7 = (x5 - (((σ o1 (x6 + x3)) * x4) % x5)) → w28_56 B σ o1 x3 x4 x5 x6 x7 0 X31 K)))) x6 σ
theorem o28_31 {B : va_E} {σ : l2_m} {o1 : Nat} {x3 : Int} {x4 : Int} {x5 : Int} {x6 : Int} {u2 : Value} {u7 : Value} {u8 : Value}  {K : Int → l2_m → Prop} (ho1 : l2_al o1 = some 32) (hu2 : (u2.category == 1) = true) (hu7 : (u7.category == 1) = true) (hu8 : (u8.category == 1) = true)  (h : w28_31 B σ o1 x3 x4 x5 x6  K) : wW B 28 31 [vr 109, vr o1, u2, vi x3, vi x4, vi x5, vi x6, u7, u8] [] σ K := by
  have ck : pm_code 28 = pc_28 := rfl
  unfold w28_31 at h
  refine h (fun x6 σ => ∀ u2 : Value, (u2.category == 1) = true → ∀ u7 : Value, (u7.category == 1) = true → ∀ u8 : Value, (u8.category == 1) = true → wW B 28 31 [vr 109, vr o1, u2, vi x3, vi x4, vi x5, vi x6, u7, u8] [] σ K) ?_ u2 hu2 u7 hu7 u8 hu8
  clear h
  intro x6 σ h u2 hu2 u7 hu7 u8 hu8
  obtain ⟨s1, h⟩ := h
  refine g_il 33 ck rfl rfl rfl ?_
  refine g_if 36 102 ck rfl rfl rfl s1 (fun hc => ?_) (fun hc => ?_)
  · replace h := ite_ht h hc
    exact g_retv ck rfl rfl h
  · replace h := ite_hf h hc
    obtain ⟨⟨s2, s3, s4, s5, s6, s7⟩, h⟩ := h
    refine g_il 38 ck rfl rfl rfl ?_
    refine g_al 39 ck rfl rfl rfl ?_
    refine g_il 41 ck rfl rfl rfl ?_
    refine g_il 42 ck rfl rfl rfl ?_
    refine g_add 43 ck rfl rfl ?_
    refine g_ial (m := 32) 44 ck rfl rfl ho1 s2 s3 ?_
    refine g_il 46 ck rfl rfl rfl ?_
    refine g_mul 47 ck rfl rfl ?_
    refine g_il 49 ck rfl rfl rfl ?_
    refine g_rem 50 ck rfl rfl s4 s5 s7 s6 ?_
    refine g_sub 51 ck rfl rfl ?_
    refine r_is 53 ck rfl rfl rfl rfl ?_
    replace h := h _ rfl
    refine g_ic 54 ck rfl rfl ?_
    refine r_is 56 ck rfl rfl rfl rfl ?_
    exact o28_56 ho1 hu2 (fun _ _ u2 u7 u8 hu2 hu7 hu8 hx => hx u2 hu2 u7 hu7 u8 hu8) h
def w28 (B : va_E) (σ : l2_m) (o1 : Nat) (x2 : Int) (x3 : Int) (x4 : Int) (K : Int → l2_m → Prop) : Prop := (∀ x5 : Int, x5 = (σ 34 0) → rg x5 ∧ (if x5 < 2 then K 0 σ else (rg x3 ∧ ((¬ (x3 < 0) → rg x2) ∧ (if (x3 < 0) ∨ ¬ (x2 < 32) then K 0 σ else (∀ x6 : Int, x6 = (x2 - x3) → w28_31 B σ o1 x3 x4 x5 x6 K))))))
theorem o28 {B : va_E} {σ : l2_m} {o1 : Nat} {x2 : Int} {x3 : Int} {x4 : Int} {K : Int → l2_m → Prop} (ho1 : l2_al o1 = some 32)  (h : w28 B σ o1 x2 x3 x4  K) : wC B 28 [vr 109, vr o1, vi x2, vi x3, vi x4] σ K := by
  have ck : pm_code 28 = pc_28 := rfl
  unfold w28 at h
  show wW B 28 0 [vr 109, vr o1, vi x2, vi x3, vi x4, pm_un, pm_un, pm_un, pm_un] [] σ K
  replace h := (fun h x e => (And.imp_right (ite_mp id (And.imp_right mg_2s))) (h x e)) h
  refine g_al 1 ck rfl rfl rfl ?_
  refine r_gfr 4 34 ck rfl rfl rfl (by decide) ?_
  refine r_gfi 7 0 ck rfl rfl rfl rfl ?_
  refine r_is 9 ck rfl rfl rfl rfl ?_
  replace h := h _ rfl
  obtain ⟨s1, h⟩ := h
  refine g_il 11 ck rfl rfl rfl ?_
  refine g_ic 12 ck rfl rfl ?_
  refine g_ii2 15 25 ck rfl rfl rfl s1 (by decide) (fun hc => ?_) (fun hc => ?_)
  · replace h := ite_ht h hc
    exact g_retv ck rfl rfl h
  · replace h := ite_hf h hc
    obtain ⟨s2, h⟩ := h
    refine g_il 16 ck rfl rfl rfl ?_
    refine g_if 19 25 ck rfl rfl rfl s2 (fun hc => ?_) (fun hc => ?_)
    · replace h := ite_ht h hc
      exact g_retv ck rfl rfl h
    · replace h := ite_hf h hc
      obtain ⟨s3, h⟩ := h
      refine g_il 20 ck rfl rfl rfl ?_
      refine g_ic 22 ck rfl rfl ?_
      refine g_ii2 25 26 ck rfl rfl rfl s3 (by decide) (fun hc => ?_) (fun hc => ?_)
      · replace h := ite_ht h hc
        refine g_il 27 ck rfl rfl rfl ?_
        refine g_il 28 ck rfl rfl rfl ?_
        refine g_sub 29 ck rfl rfl ?_
        refine r_is 31 ck rfl rfl rfl rfl ?_
        replace h := h _ rfl
        exact o28_31 ho1 rfl rfl rfl h
      · replace h := ite_hf h hc
        exact g_retv ck rfl rfl h
/-! 49 TermDesk$Divider.quotientTerms()I -/
def w49_4 (B : va_E) (σ : l2_m) (x1 : Int) (x2 : Int)  (K : Int → l2_m → Prop) : Prop := lz2 (fun X4 x1 x2 => (rg x2 ∧ (if x2 < 8 then ((0 ≤ x2 ∧ x2 < 8) ∧ ∀ x1' : Int, x1' = (x1 + (σ (85 + 3 * Int.toNat x2) 2)) → X4 x1' (x2 + 1)) else K x1 σ))) x1 x2
theorem o49_4 {B : va_E} {σ : l2_m} {x1 : Int} {x2 : Int}   {K : Int → l2_m → Prop}    (h : w49_4 B σ x1 x2  K) : wW B 49 4 [vr 74, vi x1, vi x2] [] σ K := by
  have ck : pm_code 49 = pc_49 := rfl
  unfold w49_4 at h
  refine h (fun x1 x2 => wW B 49 4 [vr 74, vi x1, vi x2] [] σ K) ?_
  clear h
  intro x1 x2 h
  obtain ⟨s1, h⟩ := h
  refine g_il 5 ck rfl rfl rfl ?_
  refine g_ic 7 ck rfl rfl ?_
  refine g_ii2 10 28 ck rfl rfl rfl s1 (by decide) (fun hc => ?_) (fun hc => ?_)
  · replace h := ite_hf h (Int.not_lt.mpr hc)
    refine g_il 29 ck rfl rfl rfl ?_
    exact g_ret ck rfl rfl (Or.inl (by decide)) h
  · replace h := ite_ht h (Int.not_le.mp hc)
    obtain ⟨⟨s2, s3⟩, h⟩ := h
    refine g_il 11 ck rfl rfl rfl ?_
    refine g_al 12 ck rfl rfl rfl ?_
    refine r_gfr 15 75 ck rfl rfl rfl (by decide) ?_
    refine g_il 16 ck rfl rfl rfl ?_
    refine g_aal (b := 85) (m := 8) 17 ck rfl rfl rfl s2 s3 ?_
    refine r_gfi 20 2 ck rfl rfl (isP_2 (isP_row (a := 75) (b := 85) (m := 8) rfl s2 s3)) rfl ?_
    refine g_add 21 ck rfl rfl ?_
    refine r_is 22 ck rfl rfl rfl rfl ?_
    replace h := h _ rfl
    refine r_ii 25 ck rfl rfl rfl rfl ?_
    refine g_goto 4 ck rfl rfl ?_
    exact h
def w49 (B : va_E) (σ : l2_m)  (K : Int → l2_m → Prop) : Prop := w49_4 B σ 0 0 K
theorem o49 {B : va_E} {σ : l2_m}  {K : Int → l2_m → Prop}   (h : w49 B σ   K) : wC B 49 [vr 74] σ K := by
  have ck : pm_code 49 = pc_49 := rfl
  unfold w49 at h
  show wW B 49 0 [vr 74, pm_un, pm_un] [] σ K
  refine g_ic 1 ck rfl rfl ?_
  refine r_is 2 ck rfl rfl rfl rfl ?_
  refine g_ic 3 ck rfl rfl ?_
  refine r_is 4 ck rfl rfl rfl rfl ?_
  exact o49_4  h
/-! 56 TermDesk$Field.ofNumber(I)I -/
def w56 (B : va_E) (σ : l2_m) (x1 : Int) (K : Int → l2_m → Prop) : Prop := (rg x1 ∧ ((¬ (x1 < 0) → rg (σ 110 3)) ∧ (if (x1 < 0) ∨ ¬ x1 < (σ 110 3) then K (σ 110 7) σ else ((0 ≤ x1 ∧ x1 < 9409) ∧ K (σ 111 x1) σ))))
theorem o56 {B : va_E} {σ : l2_m} {x1 : Int} {K : Int → l2_m → Prop}   (h : w56 B σ x1  K) : wC B 56 [vr 110, vi x1] σ K := by
  have ck : pm_code 56 = pc_56 := rfl
  unfold w56 at h
  show wW B 56 0 [vr 110, vi x1] [] σ K
  replace h := (And.imp_right mg_2s) h
  obtain ⟨s1, h⟩ := h
  refine g_il 1 ck rfl rfl rfl ?_
  refine g_if 4 21 ck rfl rfl rfl s1 (fun hc => ?_) (fun hc => ?_)
  · replace h := ite_ht h hc
    refine g_al 22 ck rfl rfl rfl ?_
    refine r_gfi 25 7 ck rfl rfl rfl rfl ?_
    exact g_ret ck rfl rfl (Or.inl (by decide)) h
  · replace h := ite_hf h hc
    obtain ⟨s2, h⟩ := h
    refine g_il 5 ck rfl rfl rfl ?_
    refine g_al 6 ck rfl rfl rfl ?_
    refine r_gfi 9 3 ck rfl rfl rfl rfl ?_
    refine g_ii2 12 21 ck rfl rfl rfl s1 s2 (fun hc => ?_) (fun hc => ?_)
    · replace h := ite_hf h (Int.not_lt.mpr hc)
      refine g_al 22 ck rfl rfl rfl ?_
      refine r_gfi 25 7 ck rfl rfl rfl rfl ?_
      exact g_ret ck rfl rfl (Or.inl (by decide)) h
    · replace h := ite_ht h (Int.not_le.mp hc)
      obtain ⟨⟨s3, s4⟩, h⟩ := h
      refine g_al 13 ck rfl rfl rfl ?_
      refine r_gfr 16 111 ck rfl rfl rfl (by decide) ?_
      refine g_il 17 ck rfl rfl rfl ?_
      refine g_ial (m := 9409) 18 ck rfl rfl rfl s3 s4 ?_
      refine g_goto 25 ck rfl rfl ?_
      exact g_ret ck rfl rfl (Or.inl (by decide)) h
/-! 58 TermDesk$Field.product(II)I -/
def w58 (B : va_E) (σ : l2_m) (x1 : Int) (x2 : Int) (K : Int → l2_m → Prop) : Prop := ((rg x1 ∧ rg (σ 110 7)) ∧ ((¬ x1 = (σ 110 7) → rg x2) ∧ (if x1 = (σ 110 7) ∨ x2 = (σ 110 7) then K (σ 110 7) σ else (rg (x1 + x2) ∧ (if (x1 + x2) < (σ 110 7) then K (x1 + x2) σ else K ((x1 + x2) - (σ 110 7)) σ)))))
theorem o58 {B : va_E} {σ : l2_m} {x1 : Int} {x2 : Int} {K : Int → l2_m → Prop}   (h : w58 B σ x1 x2  K) : wC B 58 [vr 110, vi x1, vi x2] σ K := by
  have ck : pm_code 58 = pc_58 := rfl
  unfold w58 at h
  show wW B 58 0 [vr 110, vi x1, vi x2] [] σ K
  replace h := (And.imp_right mg_1s) h
  obtain ⟨⟨s1, s2⟩, h⟩ := h
  refine g_il 1 ck rfl rfl rfl ?_
  refine g_al 2 ck rfl rfl rfl ?_
  refine r_gfi 5 7 ck rfl rfl rfl rfl ?_
  refine g_ii2 8 16 ck rfl rfl rfl s1 s2 (fun hc => ?_) (fun hc => ?_)
  · replace h := ite_ht h hc
    refine g_al 17 ck rfl rfl rfl ?_
    refine r_gfi 20 7 ck rfl rfl rfl rfl ?_
    exact g_ret ck rfl rfl (Or.inl (by decide)) h
  · replace h := ite_hf h hc
    obtain ⟨s3, h⟩ := h
    refine g_il 9 ck rfl rfl rfl ?_
    refine g_al 10 ck rfl rfl rfl ?_
    refine r_gfi 13 7 ck rfl rfl rfl rfl ?_
    refine g_ii2 16 21 ck rfl rfl rfl s3 s2 (fun hc => ?_) (fun hc => ?_)
    · replace h := ite_hf h hc
      obtain ⟨s4, h⟩ := h
      refine g_il 22 ck rfl rfl rfl ?_
      refine g_il 23 ck rfl rfl rfl ?_
      refine g_add 24 ck rfl rfl ?_
      refine g_al 25 ck rfl rfl rfl ?_
      refine r_gfi 28 7 ck rfl rfl rfl rfl ?_
      refine g_ii2 31 37 ck rfl rfl rfl s4 s2 (fun hc => ?_) (fun hc => ?_)
      · replace h := ite_hf h (Int.not_lt.mpr hc)
        refine g_il 38 ck rfl rfl rfl ?_
        refine g_il 39 ck rfl rfl rfl ?_
        refine g_add 40 ck rfl rfl ?_
        refine g_al 41 ck rfl rfl rfl ?_
        refine r_gfi 44 7 ck rfl rfl rfl rfl ?_
        refine g_sub 45 ck rfl rfl ?_
        exact g_ret ck rfl rfl (Or.inl (by decide)) h
      · replace h := ite_ht h (Int.not_le.mp hc)
        refine g_il 32 ck rfl rfl rfl ?_
        refine g_il 33 ck rfl rfl rfl ?_
        refine g_add 34 ck rfl rfl ?_
        refine g_goto 45 ck rfl rfl ?_
        exact g_ret ck rfl rfl (Or.inl (by decide)) h
    · replace h := ite_ht h (Classical.not_not.mp hc)
      refine g_al 17 ck rfl rfl rfl ?_
      refine r_gfi 20 7 ck rfl rfl rfl rfl ?_
      exact g_ret ck rfl rfl (Or.inl (by decide)) h
/-! 61 TermDesk$Field.inverse(I)I -/
def w61 (B : va_E) (σ : l2_m) (x1 : Int) (K : Int → l2_m → Prop) : Prop := ((rg x1 ∧ rg (σ 110 7)) ∧ (if x1 = (σ 110 7) ∨ (x1 = 0) then K x1 σ else K ((σ 110 7) - x1) σ))
theorem o61 {B : va_E} {σ : l2_m} {x1 : Int} {K : Int → l2_m → Prop}   (h : w61 B σ x1  K) : wC B 61 [vr 110, vi x1] σ K := by
  have ck : pm_code 61 = pc_61 := rfl
  unfold w61 at h
  show wW B 61 0 [vr 110, vi x1] [] σ K
  replace h := (And.imp_right mg_1) h
  obtain ⟨⟨s1, s2⟩, h⟩ := h
  refine g_il 1 ck rfl rfl rfl ?_
  refine g_al 2 ck rfl rfl rfl ?_
  refine r_gfi 5 7 ck rfl rfl rfl rfl ?_
  refine g_ii2 8 12 ck rfl rfl rfl s1 s2 (fun hc => ?_) (fun hc => ?_)
  · replace h := ite_ht h hc
    refine g_il 13 ck rfl rfl rfl ?_
    refine g_goto 22 ck rfl rfl ?_
    exact g_ret ck rfl rfl (Or.inl (by decide)) h
  · replace h := ite_hf h hc
    refine g_il 9 ck rfl rfl rfl ?_
    refine g_if 12 16 ck rfl rfl rfl s1 (fun hc => ?_) (fun hc => ?_)
    · replace h := ite_hf h hc
      refine g_al 17 ck rfl rfl rfl ?_
      refine r_gfi 20 7 ck rfl rfl rfl rfl ?_
      refine g_il 21 ck rfl rfl rfl ?_
      refine g_sub 22 ck rfl rfl ?_
      exact g_ret ck rfl rfl (Or.inl (by decide)) h
    · replace h := ite_ht h (Classical.not_not.mp hc)
      refine g_il 13 ck rfl rfl rfl ?_
      refine g_goto 22 ck rfl rfl ?_
      exact g_ret ck rfl rfl (Or.inl (by decide)) h
/-! 63 TermDesk$History.forget()V -/
def w63 (B : va_E) (σ : l2_m)  (K : Int → l2_m → Prop) : Prop := (∀ σ' : l2_m, σ' = l2_u σ 128 6 0 → K 0 σ')
theorem o63 {B : va_E} {σ : l2_m}  {K : Int → l2_m → Prop}   (h : w63 B σ   K) : wC B 63 [vr 128] σ K := by
  have ck : pm_code 63 = pc_63 := rfl
  unfold w63 at h
  show wW B 63 0 [vr 128] [] σ K
  refine g_al 1 ck rfl rfl rfl ?_
  refine g_ic 2 ck rfl rfl ?_
  refine g_pfi 5 ck rfl rfl rfl 6 rfl rfl ?_
  replace h := h _ rfl
  exact g_retv ck rfl rfl h
/-! 69 TermDesk$Modulus.isPrime(I)Z -/
def w69_2 (B : va_E) (σ : l2_m) (x0 : Int) (x1 : Int)  (K : Int → l2_m → Prop) : Prop := lz1 (fun X2 x1 => (rg x1 ∧ (if x1 < 25 then ((0 ≤ x1 ∧ x1 < 25 ∧ rg x0) ∧ (if (l2_PR 1 x1) = x0 then K 1 σ else X2 (x1 + 1))) else K 0 σ))) x1
theorem o69_2 {B : va_E} {σ : l2_m} {x0 : Int} {x1 : Int}   {K : Int → l2_m → Prop}    (h : w69_2 B σ x0 x1  K) : wW B 69 2 [vi x0, vi x1] [] σ K := by
  have ck : pm_code 69 = pc_69 := rfl
  unfold w69_2 at h
  refine h (fun x1 => wW B 69 2 [vi x0, vi x1] [] σ K) ?_
  clear h
  intro x1 h
  obtain ⟨s1, h⟩ := h
  refine g_il 3 ck rfl rfl rfl ?_
  refine g_gs 6 ck rfl rfl ?_
  refine g_lens 7 ck rfl rfl (by decide) ?_
  refine g_ii2 10 27 ck rfl rfl rfl s1 (by decide) (fun hc => ?_) (fun hc => ?_)
  · replace h := ite_hf h (Int.not_lt.mpr hc)
    refine g_ic 28 ck rfl rfl ?_
    exact g_retb ck rfl rfl (Or.inl rfl) h
  · replace h := ite_ht h (Int.not_le.mp hc)
    obtain ⟨⟨s2, s3, s4⟩, h⟩ := h
    refine g_gs 13 ck rfl rfl ?_
    refine g_il 14 ck rfl rfl rfl ?_
    refine g_ials 15 ck rfl rfl (by decide) s2 s3 ?_
    refine g_il 16 ck rfl rfl rfl ?_
    refine g_ii2 19 21 ck rfl rfl rfl (rg_PR _ _) s4 (fun hc => ?_) (fun hc => ?_)
    · replace h := ite_hf h hc
      refine r_ii 24 ck rfl rfl rfl rfl ?_
      refine g_goto 2 ck rfl rfl ?_
      exact h
    · replace h := ite_ht h (Classical.not_not.mp hc)
      refine g_ic 20 ck rfl rfl ?_
      exact g_retb ck rfl rfl (Or.inr rfl) h
def w69 (B : va_E) (σ : l2_m) (x0 : Int) (K : Int → l2_m → Prop) : Prop := w69_2 B σ x0 0 K
theorem o69 {B : va_E} {σ : l2_m} {x0 : Int} {K : Int → l2_m → Prop}   (h : w69 B σ x0  K) : wC B 69 [vi x0] σ K := by
  have ck : pm_code 69 = pc_69 := rfl
  unfold w69 at h
  show wW B 69 0 [vi x0, pm_un] [] σ K
  refine g_ic 1 ck rfl rfl ?_
  refine r_is 2 ck rfl rfl rfl rfl ?_
  exact o69_2  h
/-! 71 TermDesk$Modulus.has(I)Z -/
def w71 (B : va_E) (σ : l2_m) (o0 : Nat) (x1 : Int) (K : Int → l2_m → Prop) : Prop := (rg x1 ∧ ((¬ (x1 < 0) → rg (σ o0 0)) ∧ (if (x1 < 0) ∨ ¬ x1 < (σ o0 0) then K 0 σ else K 1 σ)))
theorem o71 {B : va_E} {σ : l2_m} {o0 : Nat} {x1 : Int} {K : Int → l2_m → Prop} (ho0 : isM o0)  (h : w71 B σ o0 x1  K) : wC B 71 [vr o0, vi x1] σ K := by
  have ck : pm_code 71 = pc_71 := rfl
  unfold w71 at h
  show wW B 71 0 [vr o0, vi x1] [] σ K
  replace h := (And.imp_right mg_2s) h
  obtain ⟨s1, h⟩ := h
  refine g_il 1 ck rfl rfl rfl ?_
  refine g_if 4 16 ck rfl rfl rfl s1 (fun hc => ?_) (fun hc => ?_)
  · replace h := ite_ht h hc
    refine g_ic 17 ck rfl rfl ?_
    exact g_retb ck rfl rfl (Or.inl rfl) h
  · replace h := ite_hf h hc
    obtain ⟨s2, h⟩ := h
    refine g_il 5 ck rfl rfl rfl ?_
    refine g_al 6 ck rfl rfl rfl ?_
    refine r_gfi 9 0 ck rfl rfl (isM_0 ho0) rfl ?_
    refine g_ii2 12 16 ck rfl rfl rfl s1 s2 (fun hc => ?_) (fun hc => ?_)
    · replace h := ite_hf h (Int.not_lt.mpr hc)
      refine g_ic 17 ck rfl rfl ?_
      exact g_retb ck rfl rfl (Or.inl rfl) h
    · replace h := ite_ht h (Int.not_le.mp hc)
      refine g_ic 13 ck rfl rfl ?_
      refine g_goto 17 ck rfl rfl ?_
      exact g_retb ck rfl rfl (Or.inr rfl) h
/-! 72 TermDesk$Modulus.reduce(I)I -/
def w72 (B : va_E) (σ : l2_m) (o0 : Nat) (x1 : Int) (K : Int → l2_m → Prop) : Prop := (rg (σ o0 0) ∧ (if (σ o0 0) < 2 then K 0 σ else ((rg x1 ∧ 0 < (σ o0 0)) ∧ ∀ x2 : Int, x2 = (Int.tmod x1 (σ o0 0)) → rg x2 ∧ (if x2 < 0 then K (x2 + (σ o0 0)) σ else K x2 σ))))
theorem o72 {B : va_E} {σ : l2_m} {o0 : Nat} {x1 : Int} {K : Int → l2_m → Prop} (ho0 : isM o0)  (h : w72 B σ o0 x1  K) : wC B 72 [vr o0, vi x1] σ K := by
  have ck : pm_code 72 = pc_72 := rfl
  unfold w72 at h
  show wW B 72 0 [vr o0, vi x1, pm_un] [] σ K
  obtain ⟨s1, h⟩ := h
  refine g_al 1 ck rfl rfl rfl ?_
  refine r_gfi 4 0 ck rfl rfl (isM_0 ho0) rfl ?_
  refine g_ic 5 ck rfl rfl ?_
  refine g_ii2 8 10 ck rfl rfl rfl s1 (by decide) (fun hc => ?_) (fun hc => ?_)
  · replace h := ite_hf h (Int.not_lt.mpr hc)
    obtain ⟨⟨s2, s3⟩, h⟩ := h
    refine g_il 11 ck rfl rfl rfl ?_
    refine g_al 12 ck rfl rfl rfl ?_
    refine r_gfi 15 0 ck rfl rfl (isM_0 ho0) rfl ?_
    refine g_remt 16 ck rfl rfl s2 s1 s3 ?_
    refine r_is 17 ck rfl rfl rfl rfl ?_
    replace h := h _ rfl
    obtain ⟨s4, h⟩ := h
    refine g_il 18 ck rfl rfl rfl ?_
    refine g_if 21 30 ck rfl rfl rfl s4 (fun hc => ?_) (fun hc => ?_)
    · replace h := ite_hf h (Int.not_lt.mpr hc)
      refine g_il 31 ck rfl rfl rfl ?_
      exact g_ret ck rfl rfl (Or.inl (by decide)) h
    · replace h := ite_ht h (Int.not_le.mp hc)
      refine g_il 22 ck rfl rfl rfl ?_
      refine g_al 23 ck rfl rfl rfl ?_
      refine r_gfi 26 0 ck rfl rfl (isM_0 ho0) rfl ?_
      refine g_add 27 ck rfl rfl ?_
      refine g_goto 31 ck rfl rfl ?_
      exact g_ret ck rfl rfl (Or.inl (by decide)) h
  · replace h := ite_ht h (Int.not_le.mp hc)
    refine g_ic 9 ck rfl rfl ?_
    exact g_ret ck rfl rfl (Or.inl (by decide)) h
/-! 73 TermDesk$Modulus.inverseOf(I)I -/
def w73 (B : va_E) (σ : l2_m) (o0 : Nat) (x1 : Int) (K : Int → l2_m → Prop) : Prop := (rg x1 ∧ (((0 < x1) → rg (σ o0 0)) ∧ (if (0 < x1) ∧ x1 < (σ o0 0) then ((0 ≤ x1 ∧ x1 < 98) ∧ K (σ (o0 + 1) x1) σ) else K 0 σ)))
theorem o73 {B : va_E} {σ : l2_m} {o0 : Nat} {x1 : Int} {K : Int → l2_m → Prop} (ho0 : isM o0)  (h : w73 B σ o0 x1  K) : wC B 73 [vr o0, vi x1] σ K := by
  have ck : pm_code 73 = pc_73 := rfl
  unfold w73 at h
  show wW B 73 0 [vr o0, vi x1] [] σ K
  replace h := (And.imp_right mg_3s) h
  obtain ⟨s1, h⟩ := h
  refine g_il 1 ck rfl rfl rfl ?_
  refine g_if 4 21 ck rfl rfl rfl s1 (fun hc => ?_) (fun hc => ?_)
  · replace h := ite_hf h (Int.not_lt.mpr hc)
    refine g_ic 22 ck rfl rfl ?_
    exact g_ret ck rfl rfl (Or.inl (by decide)) h
  · replace h := ite_ht h (Int.not_le.mp hc)
    obtain ⟨s2, h⟩ := h
    refine g_il 5 ck rfl rfl rfl ?_
    refine g_al 6 ck rfl rfl rfl ?_
    refine r_gfi 9 0 ck rfl rfl (isM_0 ho0) rfl ?_
    refine g_ii2 12 21 ck rfl rfl rfl s1 s2 (fun hc => ?_) (fun hc => ?_)
    · replace h := ite_hf h (Int.not_lt.mpr hc)
      refine g_ic 22 ck rfl rfl ?_
      exact g_ret ck rfl rfl (Or.inl (by decide)) h
    · replace h := ite_ht h (Int.not_le.mp hc)
      obtain ⟨⟨s3, s4⟩, h⟩ := h
      refine g_al 13 ck rfl rfl rfl ?_
      refine r_gfr 16 _ ck rfl rfl (isM_1 ho0) (isX_g (isM_c ho0)) ?_
      refine g_il 17 ck rfl rfl rfl ?_
      refine g_ial (m := 98) 18 ck rfl rfl (isM_m ho0) s3 s4 ?_
      refine g_goto 22 ck rfl rfl ?_
      exact g_ret ck rfl rfl (Or.inl (by decide)) h
/-! 76 TermDesk$Order.weigh(III)V -/
def w76 (B : va_E) (σ : l2_m) (o0 : Nat) (x1 : Int) (x2 : Int) (x3 : Int) (K : Int → l2_m → Prop) : Prop := ((0 ≤ (5 * (σ o0 1)) ∧ (5 * (σ o0 1)) < 32 ∧ 0 ≤ (x1 * 32768) ∧ 0 ≤ ((1 : Int) * 2 ^ (Int.toNat (5 * (σ o0 1)))) ∧ (x1 * 32768) < 2147483648 ∧ ((1 : Int) * 2 ^ (Int.toNat (5 * (σ o0 1)))) < 2147483648 ∧ 0 ≤ (σ o0 1) ∧ (σ o0 1) < 3) ∧ ∀ σ' : l2_m, σ' = l2_u σ (o0 + 1) (σ o0 1) (ior (x1 * 32768) ((1 : Int) * 2 ^ (Int.toNat (5 * (σ o0 1))))) → (0 ≤ (5 * (σ' o0 2)) ∧ (5 * (σ' o0 2)) < 32 ∧ 0 ≤ (x2 * 32768) ∧ 0 ≤ ((1 : Int) * 2 ^ (Int.toNat (5 * (σ' o0 2)))) ∧ (x2 * 32768) < 2147483648 ∧ ((1 : Int) * 2 ^ (Int.toNat (5 * (σ' o0 2)))) < 2147483648 ∧ 0 ≤ (σ' o0 2) ∧ (σ' o0 2) < 3) ∧ ∀ σ'' : l2_m, σ'' = l2_u σ' (o0 + 1) (σ' o0 2) (ior (x2 * 32768) ((1 : Int) * 2 ^ (Int.toNat (5 * (σ' o0 2))))) → (0 ≤ (5 * (σ'' o0 3)) ∧ (5 * (σ'' o0 3)) < 32 ∧ 0 ≤ (x3 * 32768) ∧ 0 ≤ ((1 : Int) * 2 ^ (Int.toNat (5 * (σ'' o0 3)))) ∧ (x3 * 32768) < 2147483648 ∧ ((1 : Int) * 2 ^ (Int.toNat (5 * (σ'' o0 3)))) < 2147483648 ∧ 0 ≤ (σ'' o0 3) ∧ (σ'' o0 3) < 3) ∧ ∀ σ''' : l2_m, σ''' = l2_u σ'' (o0 + 1) (σ'' o0 3) (ior (x3 * 32768) ((1 : Int) * 2 ^ (Int.toNat (5 * (σ'' o0 3))))) → K 0 σ''')
theorem o76 {B : va_E} {σ : l2_m} {o0 : Nat} {x1 : Int} {x2 : Int} {x3 : Int} {K : Int → l2_m → Prop} (ho0 : isO o0)  (h : w76 B σ o0 x1 x2 x3  K) : wC B 76 [vr o0, vi x1, vi x2, vi x3] σ K := by
  have ck : pm_code 76 = pc_76 := rfl
  unfold w76 at h
  show wW B 76 0 [vr o0, vi x1, vi x2, vi x3] [] σ K
  obtain ⟨⟨s1, s2, s3, s4, s5, s6, s7, s8⟩, h⟩ := h
  refine g_al 1 ck rfl rfl rfl ?_
  refine r_gfr 4 _ ck rfl rfl (isO_4 ho0) (isX_g (isO_c ho0)) ?_
  refine g_al 5 ck rfl rfl rfl ?_
  refine r_gfi 8 1 ck rfl rfl (isO_1 ho0) rfl ?_
  refine g_il 9 ck rfl rfl rfl ?_
  refine g_ic 11 ck rfl rfl ?_
  refine r_shlk 32768 12 ck rfl rfl (by decide) (by decide) (by decide) ?_
  refine g_ic 13 ck rfl rfl ?_
  refine g_ic 14 ck rfl rfl ?_
  refine g_al 15 ck rfl rfl rfl ?_
  refine r_gfi 18 1 ck rfl rfl (isO_1 ho0) rfl ?_
  refine g_mul 19 ck rfl rfl ?_
  refine g_shl 20 ck rfl rfl s1 s2 ?_
  refine g_or 21 ck rfl rfl s3 s4 s5 s6 ?_
  refine g_ias (m := 3) 22 ck rfl rfl (isO_m ho0) s7 s8 ?_
  replace h := h _ rfl
  obtain ⟨⟨s9, s10, s11, s12, s13, s14, s15, s16⟩, h⟩ := h
  refine g_al 23 ck rfl rfl rfl ?_
  refine r_gfr 26 _ ck rfl rfl (isO_4 ho0) (isX_g (isO_c ho0)) ?_
  refine g_al 27 ck rfl rfl rfl ?_
  refine r_gfi 30 2 ck rfl rfl (isO_2 ho0) rfl ?_
  refine g_il 31 ck rfl rfl rfl ?_
  refine g_ic 33 ck rfl rfl ?_
  refine r_shlk 32768 34 ck rfl rfl (by decide) (by decide) (by decide) ?_
  refine g_ic 35 ck rfl rfl ?_
  refine g_ic 36 ck rfl rfl ?_
  refine g_al 37 ck rfl rfl rfl ?_
  refine r_gfi 40 2 ck rfl rfl (isO_2 ho0) rfl ?_
  refine g_mul 41 ck rfl rfl ?_
  refine g_shl 42 ck rfl rfl s9 s10 ?_
  refine g_or 43 ck rfl rfl s11 s12 s13 s14 ?_
  refine g_ias (m := 3) 44 ck rfl rfl (isO_m ho0) s15 s16 ?_
  replace h := h _ rfl
  obtain ⟨⟨s17, s18, s19, s20, s21, s22, s23, s24⟩, h⟩ := h
  refine g_al 45 ck rfl rfl rfl ?_
  refine r_gfr 48 _ ck rfl rfl (isO_4 ho0) (isX_g (isO_c ho0)) ?_
  refine g_al 49 ck rfl rfl rfl ?_
  refine r_gfi 52 3 ck rfl rfl (isO_3 ho0) rfl ?_
  refine g_il 53 ck rfl rfl rfl ?_
  refine g_ic 55 ck rfl rfl ?_
  refine r_shlk 32768 56 ck rfl rfl (by decide) (by decide) (by decide) ?_
  refine g_ic 57 ck rfl rfl ?_
  refine g_ic 58 ck rfl rfl ?_
  refine g_al 59 ck rfl rfl rfl ?_
  refine r_gfi 62 3 ck rfl rfl (isO_3 ho0) rfl ?_
  refine g_mul 63 ck rfl rfl ?_
  refine g_shl 64 ck rfl rfl s17 s18 ?_
  refine g_or 65 ck rfl rfl s19 s20 s21 s22 ?_
  refine g_ias (m := 3) 66 ck rfl rfl (isO_m ho0) s23 s24 ?_
  replace h := h _ rfl
  exact g_retv ck rfl rfl h
/-! 77 TermDesk$Order.isThat(III)Z -/
def w77 (B : va_E) (σ : l2_m) (o0 : Nat) (x1 : Int) (x2 : Int) (x3 : Int) (K : Int → l2_m → Prop) : Prop := ((rg (σ o0 0) ∧ rg x1) ∧ (if (σ o0 0) = x1 then ((rg (σ o0 1) ∧ rg x2) ∧ ((((σ o0 1) = x2) → rg (σ o0 2) ∧ rg x3) ∧ (if ((σ o0 1) = x2) ∧ ((σ o0 2) = x3) then K 1 σ else K 0 σ))) else K 0 σ))
theorem o77 {B : va_E} {σ : l2_m} {o0 : Nat} {x1 : Int} {x2 : Int} {x3 : Int} {K : Int → l2_m → Prop} (ho0 : isO o0)  (h : w77 B σ o0 x1 x2 x3  K) : wC B 77 [vr o0, vi x1, vi x2, vi x3] σ K := by
  have ck : pm_code 77 = pc_77 := rfl
  unfold w77 at h
  show wW B 77 0 [vr o0, vi x1, vi x2, vi x3] [] σ K
  replace h := (And.imp_right (ite_mp (And.imp_right mg_3s) id)) h
  obtain ⟨⟨s1, s2⟩, h⟩ := h
  refine g_al 1 ck rfl rfl rfl ?_
  refine r_gfi 4 0 ck rfl rfl (isO_0 ho0) rfl ?_
  refine g_il 5 ck rfl rfl rfl ?_
  refine g_ii2 8 28 ck rfl rfl rfl s1 s2 (fun hc => ?_) (fun hc => ?_)
  · replace h := ite_hf h hc
    refine g_ic 29 ck rfl rfl ?_
    exact g_retb ck rfl rfl (Or.inl rfl) h
  · replace h := ite_ht h (Classical.not_not.mp hc)
    obtain ⟨⟨s3, s4⟩, h⟩ := h
    refine g_al 9 ck rfl rfl rfl ?_
    refine r_gfi 12 1 ck rfl rfl (isO_1 ho0) rfl ?_
    refine g_il 13 ck rfl rfl rfl ?_
    refine g_ii2 16 28 ck rfl rfl rfl s3 s4 (fun hc => ?_) (fun hc => ?_)
    · replace h := ite_hf h hc
      refine g_ic 29 ck rfl rfl ?_
      exact g_retb ck rfl rfl (Or.inl rfl) h
    · replace h := ite_ht h (Classical.not_not.mp hc)
      obtain ⟨⟨s5, s6⟩, h⟩ := h
      refine g_al 17 ck rfl rfl rfl ?_
      refine r_gfi 20 2 ck rfl rfl (isO_2 ho0) rfl ?_
      refine g_il 21 ck rfl rfl rfl ?_
      refine g_ii2 24 28 ck rfl rfl rfl s5 s6 (fun hc => ?_) (fun hc => ?_)
      · replace h := ite_hf h hc
        refine g_ic 29 ck rfl rfl ?_
        exact g_retb ck rfl rfl (Or.inl rfl) h
      · replace h := ite_ht h (Classical.not_not.mp hc)
        refine g_ic 25 ck rfl rfl ?_
        refine g_goto 29 ck rfl rfl ?_
        exact g_retb ck rfl rfl (Or.inr rfl) h
/-! 78 TermDesk$Order.markOf(III)I -/
def w78 (B : va_E) (σ : l2_m) (o0 : Nat) (x1 : Int) (x2 : Int) (x3 : Int) (K : Int → l2_m → Prop) : Prop := K (((x1 * (σ (o0 + 1) 0)) + (x2 * (σ (o0 + 1) 1))) + (x3 * (σ (o0 + 1) 2))) σ
theorem o78 {B : va_E} {σ : l2_m} {o0 : Nat} {x1 : Int} {x2 : Int} {x3 : Int} {K : Int → l2_m → Prop} (ho0 : isO o0)  (h : w78 B σ o0 x1 x2 x3  K) : wC B 78 [vr o0, vi x1, vi x2, vi x3] σ K := by
  have ck : pm_code 78 = pc_78 := rfl
  unfold w78 at h
  show wW B 78 0 [vr o0, vi x1, vi x2, vi x3] [] σ K
  refine g_il 1 ck rfl rfl rfl ?_
  refine g_al 2 ck rfl rfl rfl ?_
  refine r_gfr 5 _ ck rfl rfl (isO_4 ho0) (isX_g (isO_c ho0)) ?_
  refine g_ic 6 ck rfl rfl ?_
  refine g_ial (m := 3) 7 ck rfl rfl (isO_m ho0) (by decide) (by decide) ?_
  refine g_mul 8 ck rfl rfl ?_
  refine g_il 9 ck rfl rfl rfl ?_
  refine g_al 10 ck rfl rfl rfl ?_
  refine r_gfr 13 _ ck rfl rfl (isO_4 ho0) (isX_g (isO_c ho0)) ?_
  refine g_ic 14 ck rfl rfl ?_
  refine g_ial (m := 3) 15 ck rfl rfl (isO_m ho0) (by decide) (by decide) ?_
  refine g_mul 16 ck rfl rfl ?_
  refine g_add 17 ck rfl rfl ?_
  refine g_il 18 ck rfl rfl rfl ?_
  refine g_al 19 ck rfl rfl rfl ?_
  refine r_gfr 22 _ ck rfl rfl (isO_4 ho0) (isX_g (isO_c ho0)) ?_
  refine g_ic 23 ck rfl rfl ?_
  refine g_ial (m := 3) 24 ck rfl rfl (isO_m ho0) (by decide) (by decide) ?_
  refine g_mul 25 ck rfl rfl ?_
  refine g_add 26 ck rfl rfl ?_
  exact g_ret ck rfl rfl (Or.inl (by decide)) h
/-! 80 TermDesk$Order.marksDivide(II)Z -/
def w80 (B : va_E) (σ : l2_m) (x0 : Int) (x1 : Int) (K : Int → l2_m → Prop) : Prop := ((0 ≤ (x1 % 32768) ∧ (x1 % 32768) < 2147483648) ∧ ∀ x2 : Int, x2 = (ior (x1 % 32768) 16912) → (0 ≤ (x2 - (x0 % 32768)) ∧ (x2 - (x0 % 32768)) < 2147483648 ∧ rg (iand (x2 - (x0 % 32768)) 16912)) ∧ (if (iand (x2 - (x0 % 32768)) 16912) = 16912 then K 1 σ else K 0 σ))
theorem o80 {B : va_E} {σ : l2_m} {x0 : Int} {x1 : Int} {K : Int → l2_m → Prop}   (h : w80 B σ x0 x1  K) : wC B 80 [vi x0, vi x1] σ K := by
  have ck : pm_code 80 = pc_80 := rfl
  unfold w80 at h
  show wW B 80 0 [vi x0, vi x1, pm_un] [] σ K
  obtain ⟨⟨s1, s2⟩, h⟩ := h
  refine g_il 1 ck rfl rfl rfl ?_
  refine g_ic 4 ck rfl rfl ?_
  refine r_andk 32768 15 5 ck rfl rfl (by decide) (by decide) (by decide) ?_
  refine g_ic 8 ck rfl rfl ?_
  refine g_or 9 ck rfl rfl s1 (by decide) s2 (by decide) ?_
  refine r_is 10 ck rfl rfl rfl rfl ?_
  replace h := h _ rfl
  obtain ⟨⟨s3, s4, s5⟩, h⟩ := h
  refine g_il 11 ck rfl rfl rfl ?_
  refine g_il 12 ck rfl rfl rfl ?_
  refine g_ic 15 ck rfl rfl ?_
  refine r_andk 32768 15 16 ck rfl rfl (by decide) (by decide) (by decide) ?_
  refine g_sub 17 ck rfl rfl ?_
  refine g_ic 20 ck rfl rfl ?_
  refine g_and 21 ck rfl rfl s3 (by decide) s4 (by decide) ?_
  refine g_ic 24 ck rfl rfl ?_
  refine g_ii2 27 31 ck rfl rfl rfl s5 (by decide) (fun hc => ?_) (fun hc => ?_)
  · replace h := ite_hf h hc
    refine g_ic 32 ck rfl rfl ?_
    exact g_retb ck rfl rfl (Or.inl rfl) h
  · replace h := ite_ht h (Classical.not_not.mp hc)
    refine g_ic 28 ck rfl rfl ?_
    refine g_goto 32 ck rfl rfl ?_
    exact g_retb ck rfl rfl (Or.inr rfl) h
/-! 82 TermDesk$Poly.append(II)Z -/
def w82 (B : va_E) (σ : l2_m) (o0 : Nat) (x1 : Int) (x2 : Int) (K : Int → l2_m → Prop) : Prop := (rg (σ o0 2) ∧ (if ((σ o0 2) < 0) ∨ ¬ ((σ o0 2) < 60) then K 0 σ else ((0 ≤ (σ o0 2) ∧ (σ o0 2) < 60) ∧ ∀ σ' : l2_m, σ' = l2_u σ (o0 + 1) (σ o0 2) x1 → (0 ≤ (σ' o0 2) ∧ (σ' o0 2) < 60) ∧ ∀ σ'' : l2_m, σ'' = l2_u σ' (o0 + 2) (σ' o0 2) x2 → ∀ σ''' : l2_m, σ''' = l2_u σ'' o0 2 ((σ'' o0 2) + 1) → K 1 σ''')))
theorem o82 {B : va_E} {σ : l2_m} {o0 : Nat} {x1 : Int} {x2 : Int} {K : Int → l2_m → Prop} (ho0 : isP o0)  (h : w82 B σ o0 x1 x2  K) : wC B 82 [vr o0, vi x1, vi x2] σ K := by
  have ck : pm_code 82 = pc_82 := rfl
  unfold w82 at h
  show wW B 82 0 [vr o0, vi x1, vi x2] [] σ K
  replace h := (And.imp_right mg_2) h
  obtain ⟨s1, h⟩ := h
  refine g_al 1 ck rfl rfl rfl ?_
  refine r_gfi 4 2 ck rfl rfl (isP_2 ho0) rfl ?_
  refine g_if 7 16 ck rfl rfl rfl s1 (fun hc => ?_) (fun hc => ?_)
  · replace h := ite_ht h hc
    refine g_ic 17 ck rfl rfl ?_
    exact g_retb ck rfl rfl (Or.inl rfl) h
  · replace h := ite_hf h hc
    refine g_al 8 ck rfl rfl rfl ?_
    refine r_gfi 11 2 ck rfl rfl (isP_2 ho0) rfl ?_
    refine g_ic 13 ck rfl rfl ?_
    refine g_ii2 16 18 ck rfl rfl rfl s1 (by decide) (fun hc => ?_) (fun hc => ?_)
    · replace h := ite_ht h hc
      obtain ⟨⟨s2, s3⟩, h⟩ := h
      refine g_al 19 ck rfl rfl rfl ?_
      refine r_gfr 22 _ ck rfl rfl (isP_0 ho0) (isX_g (isP_c ho0)) ?_
      refine g_al 23 ck rfl rfl rfl ?_
      refine r_gfi 26 2 ck rfl rfl (isP_2 ho0) rfl ?_
      refine g_il 27 ck rfl rfl rfl ?_
      refine g_ias (m := 60) 28 ck rfl rfl (isP_m ho0) s2 s3 ?_
      replace h := h _ rfl
      obtain ⟨⟨s4, s5⟩, h⟩ := h
      refine g_al 29 ck rfl rfl rfl ?_
      refine r_gfr 32 _ ck rfl rfl (isP_1 ho0) (isX_g (isP_c ho0)) ?_
      refine g_al 33 ck rfl rfl rfl ?_
      refine r_gfi 36 2 ck rfl rfl (isP_2 ho0) rfl ?_
      refine g_il 37 ck rfl rfl rfl ?_
      refine g_ias (m := 60) 38 ck rfl rfl (isP_k ho0) s4 s5 ?_
      replace h := h _ rfl
      refine g_al 39 ck rfl rfl rfl ?_
      refine g_dup 40 ck rfl rfl rfl ?_
      refine r_gfi 43 2 ck rfl rfl (isP_2 ho0) rfl ?_
      refine g_ic 44 ck rfl rfl ?_
      refine g_add 45 ck rfl rfl ?_
      refine g_pfi 48 ck rfl rfl (isP_2 ho0) 2 rfl rfl ?_
      replace h := h _ rfl
      refine g_ic 49 ck rfl rfl ?_
      exact g_retb ck rfl rfl (Or.inr rfl) h
    · replace h := ite_hf h hc
      refine g_ic 17 ck rfl rfl ?_
      exact g_retb ck rfl rfl (Or.inl rfl) h
/-! 83 TermDesk$Poly.copyFrom(LTermDesk$Poly;)V -/
def w83_10 (B : va_E) (σ : l2_m) (o0 : Nat) (o1 : Nat) (x2 : Int)  (K : Int → l2_m → Prop) : Prop := lz2 (fun X10 x2 σ => ((rg x2 ∧ rg (σ o0 2)) ∧ (if x2 < (σ o0 2) then ((0 ≤ x2 ∧ x2 < 60) ∧ ∀ σ' : l2_m, σ' = l2_u σ (o0 + 1) x2 (σ (o1 + 1) x2) → ∀ σ'' : l2_m, σ'' = l2_u σ' (o0 + 2) x2 (σ' (o1 + 2) x2) → X10 (x2 + 1) σ'') else K 0 σ))) x2 σ
theorem o83_10 {B : va_E} {σ : l2_m} {o0 : Nat} {o1 : Nat} {x2 : Int}   {K : Int → l2_m → Prop} (ho0 : isP o0) (ho1 : isP o1)   (h : w83_10 B σ o0 o1 x2  K) : wW B 83 10 [vr o0, vr o1, vi x2] [] σ K := by
  have ck : pm_code 83 = pc_83 := rfl
  unfold w83_10 at h
  refine h (fun x2 σ => wW B 83 10 [vr o0, vr o1, vi x2] [] σ K) ?_
  clear h
  intro x2 σ h
  obtain ⟨⟨s1, s2⟩, h⟩ := h
  refine g_il 11 ck rfl rfl rfl ?_
  refine g_al 12 ck rfl rfl rfl ?_
  refine r_gfi 15 2 ck rfl rfl (isP_2 ho0) rfl ?_
  refine g_ii2 18 48 ck rfl rfl rfl s1 s2 (fun hc => ?_) (fun hc => ?_)
  · replace h := ite_hf h (Int.not_lt.mpr hc)
    exact g_retv ck rfl rfl h
  · replace h := ite_ht h (Int.not_le.mp hc)
    obtain ⟨⟨s3, s4⟩, h⟩ := h
    refine g_al 19 ck rfl rfl rfl ?_
    refine r_gfr 22 _ ck rfl rfl (isP_0 ho0) (isX_g (isP_c ho0)) ?_
    refine g_il 23 ck rfl rfl rfl ?_
    refine g_al 24 ck rfl rfl rfl ?_
    refine r_gfr 27 _ ck rfl rfl (isP_0 ho1) (isX_g (isP_c ho1)) ?_
    refine g_il 28 ck rfl rfl rfl ?_
    refine g_ial (m := 60) 29 ck rfl rfl (isP_m ho1) s3 s4 ?_
    refine g_ias (m := 60) 30 ck rfl rfl (isP_m ho0) s3 s4 ?_
    replace h := h _ rfl
    refine g_al 31 ck rfl rfl rfl ?_
    refine r_gfr 34 _ ck rfl rfl (isP_1 ho0) (isX_g (isP_c ho0)) ?_
    refine g_il 35 ck rfl rfl rfl ?_
    refine g_al 36 ck rfl rfl rfl ?_
    refine r_gfr 39 _ ck rfl rfl (isP_1 ho1) (isX_g (isP_c ho1)) ?_
    refine g_il 40 ck rfl rfl rfl ?_
    refine g_ial (m := 60) 41 ck rfl rfl (isP_k ho1) s3 s4 ?_
    refine g_ias (m := 60) 42 ck rfl rfl (isP_k ho0) s3 s4 ?_
    replace h := h _ rfl
    refine r_ii 45 ck rfl rfl rfl rfl ?_
    refine g_goto 10 ck rfl rfl ?_
    exact h
def w83 (B : va_E) (σ : l2_m) (o0 : Nat) (o1 : Nat) (K : Int → l2_m → Prop) : Prop := (∀ σ' : l2_m, σ' = l2_u σ o0 2 (σ o1 2) → w83_10 B σ' o0 o1 0 K)
theorem o83 {B : va_E} {σ : l2_m} {o0 : Nat} {o1 : Nat} {K : Int → l2_m → Prop} (ho0 : isP o0) (ho1 : isP o1)  (h : w83 B σ o0 o1  K) : wC B 83 [vr o0, vr o1] σ K := by
  have ck : pm_code 83 = pc_83 := rfl
  unfold w83 at h
  show wW B 83 0 [vr o0, vr o1, pm_un] [] σ K
  refine g_al 1 ck rfl rfl rfl ?_
  refine g_al 2 ck rfl rfl rfl ?_
  refine r_gfi 5 2 ck rfl rfl (isP_2 ho1) rfl ?_
  refine g_pfi 8 ck rfl rfl (isP_2 ho0) 2 rfl rfl ?_
  replace h := h _ rfl
  refine g_ic 9 ck rfl rfl ?_
  refine r_is 10 ck rfl rfl rfl rfl ?_
  exact o83_10 ho0 ho1 h
/-! 84 TermDesk$Poly.leadMark()I -/
def w84 (B : va_E) (σ : l2_m) (o0 : Nat) (K : Int → l2_m → Prop) : Prop := (rg (σ o0 2) ∧ (if 0 < (σ o0 2) then K (σ (o0 + 1) 0) σ else K 0 σ))
theorem o84 {B : va_E} {σ : l2_m} {o0 : Nat} {K : Int → l2_m → Prop} (ho0 : isP o0)  (h : w84 B σ o0  K) : wC B 84 [vr o0] σ K := by
  have ck : pm_code 84 = pc_84 := rfl
  unfold w84 at h
  show wW B 84 0 [vr o0] [] σ K
  obtain ⟨s1, h⟩ := h
  refine g_al 1 ck rfl rfl rfl ?_
  refine r_gfi 4 2 ck rfl rfl (isP_2 ho0) rfl ?_
  refine g_if 7 16 ck rfl rfl rfl s1 (fun hc => ?_) (fun hc => ?_)
  · replace h := ite_hf h (Int.not_lt.mpr hc)
    refine g_ic 17 ck rfl rfl ?_
    exact g_ret ck rfl rfl (Or.inl (by decide)) h
  · replace h := ite_ht h (Int.not_le.mp hc)
    refine g_al 8 ck rfl rfl rfl ?_
    refine r_gfr 11 _ ck rfl rfl (isP_0 ho0) (isX_g (isP_c ho0)) ?_
    refine g_ic 12 ck rfl rfl ?_
    refine g_ial (m := 60) 13 ck rfl rfl (isP_m ho0) (by decide) (by decide) ?_
    refine g_goto 17 ck rfl rfl ?_
    exact g_ret ck rfl rfl (Or.inl (by decide)) h
/-! 85 TermDesk$Poly.leadCoef()I -/
def w85 (B : va_E) (σ : l2_m) (o0 : Nat) (K : Int → l2_m → Prop) : Prop := (rg (σ o0 2) ∧ (if 0 < (σ o0 2) then K (σ (o0 + 2) 0) σ else K 0 σ))
theorem o85 {B : va_E} {σ : l2_m} {o0 : Nat} {K : Int → l2_m → Prop} (ho0 : isP o0)  (h : w85 B σ o0  K) : wC B 85 [vr o0] σ K := by
  have ck : pm_code 85 = pc_85 := rfl
  unfold w85 at h
  show wW B 85 0 [vr o0] [] σ K
  obtain ⟨s1, h⟩ := h
  refine g_al 1 ck rfl rfl rfl ?_
  refine r_gfi 4 2 ck rfl rfl (isP_2 ho0) rfl ?_
  refine g_if 7 16 ck rfl rfl rfl s1 (fun hc => ?_) (fun hc => ?_)
  · replace h := ite_hf h (Int.not_lt.mpr hc)
    refine g_ic 17 ck rfl rfl ?_
    exact g_ret ck rfl rfl (Or.inl (by decide)) h
  · replace h := ite_ht h (Int.not_le.mp hc)
    refine g_al 8 ck rfl rfl rfl ?_
    refine r_gfr 11 _ ck rfl rfl (isP_1 ho0) (isX_g (isP_c ho0)) ?_
    refine g_ic 12 ck rfl rfl ?_
    refine g_ial (m := 60) 13 ck rfl rfl (isP_k ho0) (by decide) (by decide) ?_
    refine g_goto 17 ck rfl rfl ?_
    exact g_ret ck rfl rfl (Or.inl (by decide)) h
/-! 86 TermDesk$Poly.coefAt(I)I -/
def w86_2 (B : va_E) (σ : l2_m) (o0 : Nat) (x1 : Int) (x2 : Int)  (K : Int → l2_m → Prop) : Prop := lz1 (fun X2 x2 => ((rg x2 ∧ rg (σ o0 2)) ∧ (if x2 < (σ o0 2) then ((0 ≤ x2 ∧ x2 < 60 ∧ rg (σ (o0 + 1) x2) ∧ rg x1) ∧ (if (σ (o0 + 1) x2) = x1 then K (σ (o0 + 2) x2) σ else X2 (x2 + 1))) else K 0 σ))) x2
theorem o86_2 {B : va_E} {σ : l2_m} {o0 : Nat} {x1 : Int} {x2 : Int}   {K : Int → l2_m → Prop} (ho0 : isP o0)   (h : w86_2 B σ o0 x1 x2  K) : wW B 86 2 [vr o0, vi x1, vi x2] [] σ K := by
  have ck : pm_code 86 = pc_86 := rfl
  unfold w86_2 at h
  refine h (fun x2 => wW B 86 2 [vr o0, vi x1, vi x2] [] σ K) ?_
  clear h
  intro x2 h
  obtain ⟨⟨s1, s2⟩, h⟩ := h
  refine g_il 3 ck rfl rfl rfl ?_
  refine g_al 4 ck rfl rfl rfl ?_
  refine r_gfi 7 2 ck rfl rfl (isP_2 ho0) rfl ?_
  refine g_ii2 10 33 ck rfl rfl rfl s1 s2 (fun hc => ?_) (fun hc => ?_)
  · replace h := ite_hf h (Int.not_lt.mpr hc)
    refine g_ic 34 ck rfl rfl ?_
    exact g_ret ck rfl rfl (Or.inl (by decide)) h
  · replace h := ite_ht h (Int.not_le.mp hc)
    obtain ⟨⟨s3, s4, s5, s6⟩, h⟩ := h
    refine g_al 11 ck rfl rfl rfl ?_
    refine r_gfr 14 _ ck rfl rfl (isP_0 ho0) (isX_g (isP_c ho0)) ?_
    refine g_il 15 ck rfl rfl rfl ?_
    refine g_ial (m := 60) 16 ck rfl rfl (isP_m ho0) s3 s4 ?_
    refine g_il 17 ck rfl rfl rfl ?_
    refine g_ii2 20 27 ck rfl rfl rfl s5 s6 (fun hc => ?_) (fun hc => ?_)
    · replace h := ite_hf h hc
      refine r_ii 30 ck rfl rfl rfl rfl ?_
      refine g_goto 2 ck rfl rfl ?_
      exact h
    · replace h := ite_ht h (Classical.not_not.mp hc)
      refine g_al 21 ck rfl rfl rfl ?_
      refine r_gfr 24 _ ck rfl rfl (isP_1 ho0) (isX_g (isP_c ho0)) ?_
      refine g_il 25 ck rfl rfl rfl ?_
      refine g_ial (m := 60) 26 ck rfl rfl (isP_k ho0) s3 s4 ?_
      exact g_ret ck rfl rfl (Or.inl (by decide)) h
def w86 (B : va_E) (σ : l2_m) (o0 : Nat) (x1 : Int) (K : Int → l2_m → Prop) : Prop := w86_2 B σ o0 x1 0 K
theorem o86 {B : va_E} {σ : l2_m} {o0 : Nat} {x1 : Int} {K : Int → l2_m → Prop} (ho0 : isP o0)  (h : w86 B σ o0 x1  K) : wC B 86 [vr o0, vi x1] σ K := by
  have ck : pm_code 86 = pc_86 := rfl
  unfold w86 at h
  show wW B 86 0 [vr o0, vi x1, pm_un] [] σ K
  refine g_ic 1 ck rfl rfl ?_
  refine r_is 2 ck rfl rfl rfl rfl ?_
  exact o86_2 ho0 h
/-! 87 TermDesk$Poly.isLike(LTermDesk$Poly;)Z -/
def w87_15 (B : va_E) (σ : l2_m) (o0 : Nat) (o1 : Nat) (x2 : Int)  (K : Int → l2_m → Prop) : Prop := lz1 (fun X15 x2 => ((rg x2 ∧ rg (σ o0 2)) ∧ (if x2 < (σ o0 2) then ((0 ≤ x2 ∧ x2 < 60 ∧ rg (σ (o0 + 1) x2) ∧ rg (σ (o1 + 1) x2)) ∧ ((((σ (o0 + 1) x2) = (σ (o1 + 1) x2)) → rg (σ (o0 + 2) x2) ∧ rg (σ (o1 + 2) x2)) ∧ (if ((σ (o0 + 1) x2) = (σ (o1 + 1) x2)) ∧ ((σ (o0 + 2) x2) = (σ (o1 + 2) x2)) then X15 (x2 + 1) else K 0 σ))) else K 1 σ))) x2
theorem o87_15 {B : va_E} {σ : l2_m} {o0 : Nat} {o1 : Nat} {x2 : Int}   {K : Int → l2_m → Prop} (ho0 : isP o0) (ho1 : isP o1)   (h : w87_15 B σ o0 o1 x2  K) : wW B 87 15 [vr o0, vr o1, vi x2] [] σ K := by
  have ck : pm_code 87 = pc_87 := rfl
  unfold w87_15 at h
  refine h (fun x2 => wW B 87 15 [vr o0, vr o1, vi x2] [] σ K) ?_
  clear h
  intro x2 h
  replace h := (And.imp_right (ite_mp (And.imp_right mg_3s) id)) h
  obtain ⟨⟨s1, s2⟩, h⟩ := h
  refine g_il 16 ck rfl rfl rfl ?_
  refine g_al 17 ck rfl rfl rfl ?_
  refine r_gfi 20 2 ck rfl rfl (isP_2 ho0) rfl ?_
  refine g_ii2 23 61 ck rfl rfl rfl s1 s2 (fun hc => ?_) (fun hc => ?_)
  · replace h := ite_hf h (Int.not_lt.mpr hc)
    refine g_ic 62 ck rfl rfl ?_
    exact g_retb ck rfl rfl (Or.inr rfl) h
  · replace h := ite_ht h (Int.not_le.mp hc)
    obtain ⟨⟨s3, s4, s5, s6⟩, h⟩ := h
    refine g_al 24 ck rfl rfl rfl ?_
    refine r_gfr 27 _ ck rfl rfl (isP_0 ho0) (isX_g (isP_c ho0)) ?_
    refine g_il 28 ck rfl rfl rfl ?_
    refine g_ial (m := 60) 29 ck rfl rfl (isP_m ho0) s3 s4 ?_
    refine g_al 30 ck rfl rfl rfl ?_
    refine r_gfr 33 _ ck rfl rfl (isP_0 ho1) (isX_g (isP_c ho1)) ?_
    refine g_il 34 ck rfl rfl rfl ?_
    refine g_ial (m := 60) 35 ck rfl rfl (isP_m ho1) s3 s4 ?_
    refine g_ii2 38 53 ck rfl rfl rfl s5 s6 (fun hc => ?_) (fun hc => ?_)
    · replace h := ite_hf h hc
      refine g_ic 54 ck rfl rfl ?_
      exact g_retb ck rfl rfl (Or.inl rfl) h
    · replace h := ite_ht h (Classical.not_not.mp hc)
      obtain ⟨⟨s7, s8⟩, h⟩ := h
      refine g_al 39 ck rfl rfl rfl ?_
      refine r_gfr 42 _ ck rfl rfl (isP_1 ho0) (isX_g (isP_c ho0)) ?_
      refine g_il 43 ck rfl rfl rfl ?_
      refine g_ial (m := 60) 44 ck rfl rfl (isP_k ho0) s3 s4 ?_
      refine g_al 45 ck rfl rfl rfl ?_
      refine r_gfr 48 _ ck rfl rfl (isP_1 ho1) (isX_g (isP_c ho1)) ?_
      refine g_il 49 ck rfl rfl rfl ?_
      refine g_ial (m := 60) 50 ck rfl rfl (isP_k ho1) s3 s4 ?_
      refine g_ii2 53 55 ck rfl rfl rfl s7 s8 (fun hc => ?_) (fun hc => ?_)
      · replace h := ite_ht h hc
        refine r_ii 58 ck rfl rfl rfl rfl ?_
        refine g_goto 15 ck rfl rfl ?_
        exact h
      · replace h := ite_hf h hc
        refine g_ic 54 ck rfl rfl ?_
        exact g_retb ck rfl rfl (Or.inl rfl) h
def w87 (B : va_E) (σ : l2_m) (o0 : Nat) (o1 : Nat) (K : Int → l2_m → Prop) : Prop := ((rg (σ o0 2) ∧ rg (σ o1 2)) ∧ (if (σ o0 2) = (σ o1 2) then w87_15 B σ o0 o1 0 K else K 0 σ))
theorem o87 {B : va_E} {σ : l2_m} {o0 : Nat} {o1 : Nat} {K : Int → l2_m → Prop} (ho0 : isP o0) (ho1 : isP o1)  (h : w87 B σ o0 o1  K) : wC B 87 [vr o0, vr o1] σ K := by
  have ck : pm_code 87 = pc_87 := rfl
  unfold w87 at h
  show wW B 87 0 [vr o0, vr o1, pm_un] [] σ K
  obtain ⟨⟨s1, s2⟩, h⟩ := h
  refine g_al 1 ck rfl rfl rfl ?_
  refine r_gfi 4 2 ck rfl rfl (isP_2 ho0) rfl ?_
  refine g_al 5 ck rfl rfl rfl ?_
  refine r_gfi 8 2 ck rfl rfl (isP_2 ho1) rfl ?_
  refine g_ii2 11 13 ck rfl rfl rfl s1 s2 (fun hc => ?_) (fun hc => ?_)
  · replace h := ite_ht h hc
    refine g_ic 14 ck rfl rfl ?_
    refine r_is 15 ck rfl rfl rfl rfl ?_
    exact o87_15 ho0 ho1 h
  · replace h := ite_hf h hc
    refine g_ic 12 ck rfl rfl ?_
    exact g_retb ck rfl rfl (Or.inl rfl) h
/-! 88 TermDesk$Poly.isNumber()Z -/
def w88 (B : va_E) (σ : l2_m) (o0 : Nat) (K : Int → l2_m → Prop) : Prop := (rg (σ o0 2) ∧ ((((σ o0 2) = 1) → rg (σ (o0 + 1) 0)) ∧ (if ((σ o0 2) = 1) ∧ ((σ (o0 + 1) 0) = 0) then K 1 σ else K 0 σ)))
theorem o88 {B : va_E} {σ : l2_m} {o0 : Nat} {K : Int → l2_m → Prop} (ho0 : isP o0)  (h : w88 B σ o0  K) : wC B 88 [vr o0] σ K := by
  have ck : pm_code 88 = pc_88 := rfl
  unfold w88 at h
  show wW B 88 0 [vr o0] [] σ K
  replace h := (And.imp_right mg_3s) h
  obtain ⟨s1, h⟩ := h
  refine g_al 1 ck rfl rfl rfl ?_
  refine r_gfi 4 2 ck rfl rfl (isP_2 ho0) rfl ?_
  refine g_ic 5 ck rfl rfl ?_
  refine g_ii2 8 21 ck rfl rfl rfl s1 (by decide) (fun hc => ?_) (fun hc => ?_)
  · replace h := ite_hf h hc
    refine g_ic 22 ck rfl rfl ?_
    exact g_retb ck rfl rfl (Or.inl rfl) h
  · replace h := ite_ht h (Classical.not_not.mp hc)
    obtain ⟨s2, h⟩ := h
    refine g_al 9 ck rfl rfl rfl ?_
    refine r_gfr 12 _ ck rfl rfl (isP_0 ho0) (isX_g (isP_c ho0)) ?_
    refine g_ic 13 ck rfl rfl ?_
    refine g_ial (m := 60) 14 ck rfl rfl (isP_m ho0) (by decide) (by decide) ?_
    refine g_if 17 21 ck rfl rfl rfl s2 (fun hc => ?_) (fun hc => ?_)
    · replace h := ite_hf h hc
      refine g_ic 22 ck rfl rfl ?_
      exact g_retb ck rfl rfl (Or.inl rfl) h
    · replace h := ite_ht h (Classical.not_not.mp hc)
      refine g_ic 18 ck rfl rfl ?_
      refine g_goto 22 ck rfl rfl ?_
      exact g_retb ck rfl rfl (Or.inr rfl) h
/-! 90 TermDesk$Poly.sort()V -/
def w90_83 (B : va_E) (σ : l2_m) (o0 : Nat) (x1 : Int) (x2 : Int) (x3 : Int) (x4 : Int) (X2 : Int → l2_m → Prop) (K : Int → l2_m → Prop) : Prop := ((0 ≤ x4 ∧ x4 < 60) ∧ ∀ σ' : l2_m, σ' = l2_u σ (o0 + 1) x4 x2 → ∀ σ'' : l2_m, σ'' = l2_u σ' (o0 + 2) x4 x3 → X2 (x1 + 1) σ'')
theorem o90_83 {B : va_E} {σ : l2_m} {o0 : Nat} {x1 : Int} {x2 : Int} {x3 : Int} {x4 : Int}  {X2 : Int → l2_m → Prop} {K : Int → l2_m → Prop} (ho0 : isP o0)  (hX2 : ∀ (x1 : Int) (σ : l2_m) (u2 : Value) (u3 : Value) (u4 : Value), (u2.category == 1) = true → (u3.category == 1) = true → (u4.category == 1) = true → X2 x1 σ → wW B 90 2 [vr o0, vi x1, u2, u3, u4] [] σ K) (h : w90_83 B σ o0 x1 x2 x3 x4 X2 K) : wW B 90 83 [vr o0, vi x1, vi x2, vi x3, vi x4] [] σ K := by
  have ck : pm_code 90 = pc_90 := rfl
  unfold w90_83 at h
  obtain ⟨⟨s1, s2⟩, h⟩ := h
  refine g_al 84 ck rfl rfl rfl ?_
  refine r_gfr 87 _ ck rfl rfl (isP_0 ho0) (isX_g (isP_c ho0)) ?_
  refine g_il 89 ck rfl rfl rfl ?_
  refine g_il 90 ck rfl rfl rfl ?_
  refine g_ias (m := 60) 91 ck rfl rfl (isP_m ho0) s1 s2 ?_
  replace h := h _ rfl
  refine g_al 92 ck rfl rfl rfl ?_
  refine r_gfr 95 _ ck rfl rfl (isP_1 ho0) (isX_g (isP_c ho0)) ?_
  refine g_il 97 ck rfl rfl rfl ?_
  refine g_il 98 ck rfl rfl rfl ?_
  refine g_ias (m := 60) 99 ck rfl rfl (isP_k ho0) s1 s2 ?_
  replace h := h _ rfl
  refine r_ii 102 ck rfl rfl rfl rfl ?_
  refine g_goto 2 ck rfl rfl ?_
  exact hX2 _ _ _ _ _ rfl rfl rfl h
def w90_27 (B : va_E) (σ : l2_m) (o0 : Nat) (x1 : Int) (x2 : Int) (x3 : Int) (x4 : Int) (X2 : Int → l2_m → Prop) (K : Int → l2_m → Prop) : Prop := lz2 (fun X27 x4 σ => (rg x4 ∧ (((0 < x4) → 0 ≤ (x4 - 1) ∧ (x4 - 1) < 60 ∧ rg (σ (o0 + 1) (x4 - 1)) ∧ rg x2) ∧ (if (0 < x4) ∧ ((σ (o0 + 1) (x4 - 1)) < x2) then ((0 ≤ x4 ∧ x4 < 60) ∧ ∀ σ' : l2_m, σ' = l2_u σ (o0 + 1) x4 (σ (o0 + 1) (x4 - 1)) → ∀ σ'' : l2_m, σ'' = l2_u σ' (o0 + 2) x4 (σ' (o0 + 2) (x4 - 1)) → X27 (x4 + (-1)) σ'') else w90_83 B σ o0 x1 x2 x3 x4 X2 K)))) x4 σ
theorem o90_27 {B : va_E} {σ : l2_m} {o0 : Nat} {x1 : Int} {x2 : Int} {x3 : Int} {x4 : Int}  {X2 : Int → l2_m → Prop} {K : Int → l2_m → Prop} (ho0 : isP o0)  (hX2 : ∀ (x1 : Int) (σ : l2_m) (u2 : Value) (u3 : Value) (u4 : Value), (u2.category == 1) = true → (u3.category == 1) = true → (u4.category == 1) = true → X2 x1 σ → wW B 90 2 [vr o0, vi x1, u2, u3, u4] [] σ K) (h : w90_27 B σ o0 x1 x2 x3 x4 X2 K) : wW B 90 27 [vr o0, vi x1, vi x2, vi x3, vi x4] [] σ K := by
  have ck : pm_code 90 = pc_90 := rfl
  unfold w90_27 at h
  refine h (fun x4 σ => wW B 90 27 [vr o0, vi x1, vi x2, vi x3, vi x4] [] σ K) ?_
  clear h
  intro x4 σ h
  replace h := (And.imp_right mg_3s) h
  obtain ⟨s1, h⟩ := h
  refine g_il 29 ck rfl rfl rfl ?_
  refine g_if 32 83 ck rfl rfl rfl s1 (fun hc => ?_) (fun hc => ?_)
  · replace h := ite_hf h (Int.not_lt.mpr hc)
    exact o90_83 ho0 hX2 h
  · replace h := ite_ht h (Int.not_le.mp hc)
    obtain ⟨⟨s2, s3, s4, s5⟩, h⟩ := h
    refine g_al 33 ck rfl rfl rfl ?_
    refine r_gfr 36 _ ck rfl rfl (isP_0 ho0) (isX_g (isP_c ho0)) ?_
    refine g_il 38 ck rfl rfl rfl ?_
    refine g_ic 39 ck rfl rfl ?_
    refine g_sub 40 ck rfl rfl ?_
    refine g_ial (m := 60) 41 ck rfl rfl (isP_m ho0) s2 s3 ?_
    refine g_il 42 ck rfl rfl rfl ?_
    refine g_ii2 45 83 ck rfl rfl rfl s4 s5 (fun hc => ?_) (fun hc => ?_)
    · replace h := ite_hf h (Int.not_lt.mpr hc)
      exact o90_83 ho0 hX2 h
    · replace h := ite_ht h (Int.not_le.mp hc)
      obtain ⟨⟨s6, s7⟩, h⟩ := h
      refine g_al 46 ck rfl rfl rfl ?_
      refine r_gfr 49 _ ck rfl rfl (isP_0 ho0) (isX_g (isP_c ho0)) ?_
      refine g_il 51 ck rfl rfl rfl ?_
      refine g_al 52 ck rfl rfl rfl ?_
      refine r_gfr 55 _ ck rfl rfl (isP_0 ho0) (isX_g (isP_c ho0)) ?_
      refine g_il 57 ck rfl rfl rfl ?_
      refine g_ic 58 ck rfl rfl ?_
      refine g_sub 59 ck rfl rfl ?_
      refine g_ial (m := 60) 60 ck rfl rfl (isP_m ho0) s2 s3 ?_
      refine g_ias (m := 60) 61 ck rfl rfl (isP_m ho0) s6 s7 ?_
      replace h := h _ rfl
      refine g_al 62 ck rfl rfl rfl ?_
      refine r_gfr 65 _ ck rfl rfl (isP_1 ho0) (isX_g (isP_c ho0)) ?_
      refine g_il 67 ck rfl rfl rfl ?_
      refine g_al 68 ck rfl rfl rfl ?_
      refine r_gfr 71 _ ck rfl rfl (isP_1 ho0) (isX_g (isP_c ho0)) ?_
      refine g_il 73 ck rfl rfl rfl ?_
      refine g_ic 74 ck rfl rfl ?_
      refine g_sub 75 ck rfl rfl ?_
      refine g_ial (m := 60) 76 ck rfl rfl (isP_k ho0) s2 s3 ?_
      refine g_ias (m := 60) 77 ck rfl rfl (isP_k ho0) s6 s7 ?_
      replace h := h _ rfl
      refine r_ii 80 ck rfl rfl rfl rfl ?_
      refine g_goto 27 ck rfl rfl ?_
      exact h
def w90_2 (B : va_E) (σ : l2_m) (o0 : Nat) (x1 : Int)  (K : Int → l2_m → Prop) : Prop := lz2 (fun X2 x1 σ => ((rg x1 ∧ rg (σ o0 2)) ∧ (if x1 < (σ o0 2) then ((0 ≤ x1 ∧ x1 < 60) ∧ ∀ x2 : Int, x2 = (σ (o0 + 1) x1) → ∀ x3 : Int, x3 = (σ (o0 + 2) x1) → w90_27 B σ o0 x1 x2 x3 x1 X2 K) else K 0 σ))) x1 σ
theorem o90_2 {B : va_E} {σ : l2_m} {o0 : Nat} {x1 : Int} {u2 : Value} {u3 : Value} {u4 : Value}  {K : Int → l2_m → Prop} (ho0 : isP o0) (hu2 : (u2.category == 1) = true) (hu3 : (u3.category == 1) = true) (hu4 : (u4.category == 1) = true)  (h : w90_2 B σ o0 x1  K) : wW B 90 2 [vr o0, vi x1, u2, u3, u4] [] σ K := by
  have ck : pm_code 90 = pc_90 := rfl
  unfold w90_2 at h
  refine h (fun x1 σ => ∀ u2 : Value, (u2.category == 1) = true → ∀ u3 : Value, (u3.category == 1) = true → ∀ u4 : Value, (u4.category == 1) = true → wW B 90 2 [vr o0, vi x1, u2, u3, u4] [] σ K) ?_ u2 hu2 u3 hu3 u4 hu4
  clear h
  intro x1 σ h u2 hu2 u3 hu3 u4 hu4
  obtain ⟨⟨s1, s2⟩, h⟩ := h
  refine g_il 3 ck rfl rfl rfl ?_
  refine g_al 4 ck rfl rfl rfl ?_
  refine r_gfi 7 2 ck rfl rfl (isP_2 ho0) rfl ?_
  refine g_ii2 10 105 ck rfl rfl rfl s1 s2 (fun hc => ?_) (fun hc => ?_)
  · replace h := ite_hf h (Int.not_lt.mpr hc)
    exact g_retv ck rfl rfl h
  · replace h := ite_ht h (Int.not_le.mp hc)
    obtain ⟨⟨s3, s4⟩, h⟩ := h
    refine g_al 11 ck rfl rfl rfl ?_
    refine r_gfr 14 _ ck rfl rfl (isP_0 ho0) (isX_g (isP_c ho0)) ?_
    refine g_il 15 ck rfl rfl rfl ?_
    refine g_ial (m := 60) 16 ck rfl rfl (isP_m ho0) s3 s4 ?_
    refine r_is 17 ck rfl rfl rfl rfl ?_
    replace h := h _ rfl
    refine g_al 18 ck rfl rfl rfl ?_
    refine r_gfr 21 _ ck rfl rfl (isP_1 ho0) (isX_g (isP_c ho0)) ?_
    refine g_il 22 ck rfl rfl rfl ?_
    refine g_ial (m := 60) 23 ck rfl rfl (isP_k ho0) s3 s4 ?_
    refine r_is 24 ck rfl rfl rfl rfl ?_
    replace h := h _ rfl
    refine g_il 25 ck rfl rfl rfl ?_
    refine r_is 27 ck rfl rfl rfl rfl ?_
    exact o90_27 ho0 (fun _ _ u2 u3 u4 hu2 hu3 hu4 hx => hx u2 hu2 u3 hu3 u4 hu4) h
def w90 (B : va_E) (σ : l2_m) (o0 : Nat) (K : Int → l2_m → Prop) : Prop := w90_2 B σ o0 1 K
theorem o90 {B : va_E} {σ : l2_m} {o0 : Nat} {K : Int → l2_m → Prop} (ho0 : isP o0)  (h : w90 B σ o0  K) : wC B 90 [vr o0] σ K := by
  have ck : pm_code 90 = pc_90 := rfl
  unfold w90 at h
  show wW B 90 0 [vr o0, pm_un, pm_un, pm_un, pm_un] [] σ K
  refine g_ic 1 ck rfl rfl ?_
  refine r_is 2 ck rfl rfl rfl rfl ?_
  exact o90_2 ho0 rfl rfl rfl h
/-! 94 TermDesk$Reader.fail(I)Z -/
def w94 (B : va_E) (σ : l2_m) (x1 : Int) (K : Int → l2_m → Prop) : Prop := (∀ σ' : l2_m, σ' = l2_u σ 49 4 x1 → ∀ σ'' : l2_m, σ'' = l2_u σ' 49 5 (σ' 49 11) → K 0 σ'')
theorem o94 {B : va_E} {σ : l2_m} {x1 : Int} {K : Int → l2_m → Prop}   (h : w94 B σ x1  K) : wC B 94 [vr 49, vi x1] σ K := by
  have ck : pm_code 94 = pc_94 := rfl
  unfold w94 at h
  show wW B 94 0 [vr 49, vi x1] [] σ K
  refine g_al 1 ck rfl rfl rfl ?_
  refine g_il 2 ck rfl rfl rfl ?_
  refine g_pfi 5 ck rfl rfl rfl 4 rfl rfl ?_
  replace h := h _ rfl
  refine g_al 6 ck rfl rfl rfl ?_
  refine g_al 7 ck rfl rfl rfl ?_
  refine r_gfi 10 11 ck rfl rfl rfl rfl ?_
  refine g_pfi 13 ck rfl rfl rfl 5 rfl rfl ?_
  replace h := h _ rfl
  refine g_ic 14 ck rfl rfl ?_
  exact g_retb ck rfl rfl (Or.inl rfl) h
/-! 100 TermDesk$Reader.isSign(C)Z -/
def w100 (B : va_E) (σ : l2_m) (x1 : Int) (K : Int → l2_m → Prop) : Prop := (rg (σ 49 10) ∧ ((((σ 49 10) = 3) → rg (σ 49 12) ∧ rg x1) ∧ (if ((σ 49 10) = 3) ∧ ((σ 49 12) = x1) then K 1 σ else K 0 σ)))
theorem o100 {B : va_E} {σ : l2_m} {x1 : Int} {K : Int → l2_m → Prop}   (h : w100 B σ x1  K) : wC B 100 [vr 49, vi x1] σ K := by
  have ck : pm_code 100 = pc_100 := rfl
  unfold w100 at h
  show wW B 100 0 [vr 49, vi x1] [] σ K
  replace h := (And.imp_right mg_3s) h
  obtain ⟨s1, h⟩ := h
  refine g_al 1 ck rfl rfl rfl ?_
  refine r_gfi 4 10 ck rfl rfl rfl rfl ?_
  refine g_ic 5 ck rfl rfl ?_
  refine g_ii2 8 20 ck rfl rfl rfl s1 (by decide) (fun hc => ?_) (fun hc => ?_)
  · replace h := ite_hf h hc
    refine g_ic 21 ck rfl rfl ?_
    exact g_retb ck rfl rfl (Or.inl rfl) h
  · replace h := ite_ht h (Classical.not_not.mp hc)
    obtain ⟨⟨s2, s3⟩, h⟩ := h
    refine g_al 9 ck rfl rfl rfl ?_
    refine r_gfi 12 12 ck rfl rfl rfl rfl ?_
    refine g_il 13 ck rfl rfl rfl ?_
    refine g_ii2 16 20 ck rfl rfl rfl s2 s3 (fun hc => ?_) (fun hc => ?_)
    · replace h := ite_hf h hc
      refine g_ic 21 ck rfl rfl ?_
      exact g_retb ck rfl rfl (Or.inl rfl) h
    · replace h := ite_ht h (Classical.not_not.mp hc)
      refine g_ic 17 ck rfl rfl ?_
      refine g_goto 21 ck rfl rfl ?_
      exact g_retb ck rfl rfl (Or.inr rfl) h
/-! 101 TermDesk$Reader.isWord(Ljava/lang/String;)Z -/
def w101_28 (B : va_E) (σ : l2_m) (o1 : Nat) (x2 : Int)  (K : Int → l2_m → Prop) : Prop := lz1 (fun X28 x2 => (rg x2 ∧ (if x2 < ((l2_tx o1).length : Int) then ((0 ≤ ((σ 49 11) + x2) ∧ ((σ 49 11) + x2) < 700 ∧ 0 ≤ x2 ∧ x2 < ((l2_tx o1).length : Int) ∧ rg (σ 55 ((σ 49 11) + x2))) ∧ (if (σ 55 ((σ 49 11) + x2)) = ((l2_tx o1).getD (Int.toNat x2) 0) then X28 (x2 + 1) else K 0 σ)) else K 1 σ))) x2
theorem o101_28 {B : va_E} {σ : l2_m} {o1 : Nat} {x2 : Int}   {K : Int → l2_m → Prop} (ho1 : 3 ≤ o1 ∧ o1 < 20)   (h : w101_28 B σ o1 x2  K) : wW B 101 28 [vr 49, vr o1, vi x2] [] σ K := by
  have ck : pm_code 101 = pc_101 := rfl
  unfold w101_28 at h
  refine h (fun x2 => wW B 101 28 [vr 49, vr o1, vi x2] [] σ K) ?_
  clear h
  intro x2 h
  obtain ⟨s1, h⟩ := h
  refine g_il 29 ck rfl rfl rfl ?_
  refine g_al 30 ck rfl rfl rfl ?_
  refine g_tlen 33 ck rfl rfl ho1.1 ho1.2 (Nat.le_of_ble_eq_true rfl) ?_
  refine g_ii2 36 63 ck rfl rfl rfl s1 (rg_tl _) (fun hc => ?_) (fun hc => ?_)
  · replace h := ite_hf h (Int.not_lt.mpr hc)
    refine g_ic 64 ck rfl rfl ?_
    exact g_retb ck rfl rfl (Or.inr rfl) h
  · replace h := ite_ht h (Int.not_le.mp hc)
    obtain ⟨⟨s2, s3, s4, s5, s6⟩, h⟩ := h
    refine g_al 37 ck rfl rfl rfl ?_
    refine r_gfr 40 55 ck rfl rfl rfl (by decide) ?_
    refine g_al 41 ck rfl rfl rfl ?_
    refine r_gfi 44 11 ck rfl rfl rfl rfl ?_
    refine g_il 45 ck rfl rfl rfl ?_
    refine g_add 46 ck rfl rfl ?_
    refine g_ial (m := 700) 47 ck rfl rfl rfl s2 s3 ?_
    refine g_al 48 ck rfl rfl rfl ?_
    refine g_il 49 ck rfl rfl rfl ?_
    refine g_tch 52 ck rfl rfl ho1.1 ho1.2 s4 s5 (Nat.le_of_ble_eq_true rfl) ?_
    refine g_ii2 55 57 ck rfl rfl rfl s6 (rg_tc _ _) (fun hc => ?_) (fun hc => ?_)
    · replace h := ite_ht h hc
      refine r_ii 60 ck rfl rfl rfl rfl ?_
      refine g_goto 28 ck rfl rfl ?_
      exact h
    · replace h := ite_hf h hc
      refine g_ic 56 ck rfl rfl ?_
      exact g_retb ck rfl rfl (Or.inl rfl) h
def w101 (B : va_E) (σ : l2_m) (o1 : Nat) (K : Int → l2_m → Prop) : Prop := (rg (σ 49 10) ∧ ((((σ 49 10) = 1) → rg ((σ 49 8) - (σ 49 11))) ∧ (if ((σ 49 10) = 1) ∧ (((σ 49 8) - (σ 49 11)) = ((l2_tx o1).length : Int)) then w101_28 B σ o1 0 K else K 0 σ)))
theorem o101 {B : va_E} {σ : l2_m} {o1 : Nat} {K : Int → l2_m → Prop} (ho1 : 3 ≤ o1 ∧ o1 < 20)  (h : w101 B σ o1  K) : wC B 101 [vr 49, vr o1] σ K := by
  have ck : pm_code 101 = pc_101 := rfl
  unfold w101 at h
  show wW B 101 0 [vr 49, vr o1, pm_un] [] σ K
  replace h := (And.imp_right mg_3s) h
  obtain ⟨s1, h⟩ := h
  refine g_al 1 ck rfl rfl rfl ?_
  refine r_gfi 4 10 ck rfl rfl rfl rfl ?_
  refine g_ic 5 ck rfl rfl ?_
  refine g_ii2 8 24 ck rfl rfl rfl s1 (by decide) (fun hc => ?_) (fun hc => ?_)
  · replace h := ite_hf h hc
    refine g_ic 25 ck rfl rfl ?_
    exact g_retb ck rfl rfl (Or.inl rfl) h
  · replace h := ite_ht h (Classical.not_not.mp hc)
    obtain ⟨s2, h⟩ := h
    refine g_al 9 ck rfl rfl rfl ?_
    refine r_gfi 12 8 ck rfl rfl rfl rfl ?_
    refine g_al 13 ck rfl rfl rfl ?_
    refine r_gfi 16 11 ck rfl rfl rfl rfl ?_
    refine g_sub 17 ck rfl rfl ?_
    refine g_al 18 ck rfl rfl rfl ?_
    refine g_tlen 21 ck rfl rfl ho1.1 ho1.2 (Nat.le_of_ble_eq_true rfl) ?_
    refine g_ii2 24 26 ck rfl rfl rfl s2 (rg_tl _) (fun hc => ?_) (fun hc => ?_)
    · replace h := ite_ht h hc
      refine g_ic 27 ck rfl rfl ?_
      refine r_is 28 ck rfl rfl rfl rfl ?_
      exact o101_28 ho1 h
    · replace h := ite_hf h hc
      refine g_ic 25 ck rfl rfl ?_
      exact g_retb ck rfl rfl (Or.inl rfl) h
/-! 102 TermDesk$Reader.unknownMet()I -/
def w102 (B : va_E) (σ : l2_m)  (K : Int → l2_m → Prop) : Prop := (rg (σ 49 10) ∧ ((((σ 49 10) = 1) → rg ((σ 49 8) - (σ 49 11))) ∧ (if ((σ 49 10) = 1) ∧ (((σ 49 8) - (σ 49 11)) = 1) then ((0 ≤ (σ 49 11) ∧ (σ 49 11) < 700) ∧ ∀ x1 : Int, x1 = (σ 55 (σ 49 11)) → rg x1 ∧ (if (x1 < 120) ∨ (122 < x1) then K (-1) σ else K (x1 - 120) σ)) else K (-1) σ)))
theorem o102 {B : va_E} {σ : l2_m}  {K : Int → l2_m → Prop}   (h : w102 B σ   K) : wC B 102 [vr 49] σ K := by
  have ck : pm_code 102 = pc_102 := rfl
  unfold w102 at h
  show wW B 102 0 [vr 49, pm_un] [] σ K
  replace h := (And.imp_right (fun h => ite_mp (And.imp_right (ite_mp (And.imp_right (fun h x e => (And.imp_right mg_1) (h x e))) id)) id (mg_3s h))) h
  obtain ⟨s1, h⟩ := h
  refine g_al 1 ck rfl rfl rfl ?_
  refine r_gfi 4 10 ck rfl rfl rfl rfl ?_
  refine g_ic 5 ck rfl rfl ?_
  refine g_ii2 8 21 ck rfl rfl rfl s1 (by decide) (fun hc => ?_) (fun hc => ?_)
  · replace h := ite_hf h hc
    refine g_ic 22 ck rfl rfl ?_
    exact g_ret ck rfl rfl (Or.inl (by decide)) h
  · replace h := ite_ht h (Classical.not_not.mp hc)
    obtain ⟨s2, h⟩ := h
    refine g_al 9 ck rfl rfl rfl ?_
    refine r_gfi 12 8 ck rfl rfl rfl rfl ?_
    refine g_al 13 ck rfl rfl rfl ?_
    refine r_gfi 16 11 ck rfl rfl rfl rfl ?_
    refine g_sub 17 ck rfl rfl ?_
    refine g_ic 18 ck rfl rfl ?_
    refine g_ii2 21 23 ck rfl rfl rfl s2 (by decide) (fun hc => ?_) (fun hc => ?_)
    · replace h := ite_ht h hc
      obtain ⟨⟨s3, s4⟩, h⟩ := h
      refine g_al 24 ck rfl rfl rfl ?_
      refine r_gfr 27 55 ck rfl rfl rfl (by decide) ?_
      refine g_al 28 ck rfl rfl rfl ?_
      refine r_gfi 31 11 ck rfl rfl rfl rfl ?_
      refine g_ial (m := 700) 32 ck rfl rfl rfl s3 s4 ?_
      refine r_is 33 ck rfl rfl rfl rfl ?_
      replace h := h _ rfl
      obtain ⟨s5, h⟩ := h
      refine g_il 34 ck rfl rfl rfl ?_
      refine g_ic 36 ck rfl rfl ?_
      refine g_ii2 39 52 ck rfl rfl rfl s5 (by decide) (fun hc => ?_) (fun hc => ?_)
      · replace h := ite_ht h hc
        refine g_ic 53 ck rfl rfl ?_
        exact g_ret ck rfl rfl (Or.inl (by decide)) h
      · replace h := ite_hf h hc
        refine g_il 40 ck rfl rfl rfl ?_
        refine g_ic 42 ck rfl rfl ?_
        refine g_ii2 45 52 ck rfl rfl rfl s5 (by decide) (fun hc => ?_) (fun hc => ?_)
        · replace h := ite_ht h hc
          refine g_ic 53 ck rfl rfl ?_
          exact g_ret ck rfl rfl (Or.inl (by decide)) h
        · replace h := ite_hf h hc
          refine g_il 46 ck rfl rfl rfl ?_
          refine g_ic 48 ck rfl rfl ?_
          refine g_sub 49 ck rfl rfl ?_
          refine g_goto 53 ck rfl rfl ?_
          exact g_ret ck rfl rfl (Or.inl (by decide)) h
    · replace h := ite_hf h hc
      refine g_ic 22 ck rfl rfl ?_
      exact g_ret ck rfl rfl (Or.inl (by decide)) h
/-! 104 TermDesk$Reader.isLetter(I)Z -/
def w104 (B : va_E) (σ : l2_m) (x0 : Int) (K : Int → l2_m → Prop) : Prop := (rg x0 ∧ (if (x0 < 97) ∨ (122 < x0) then K 0 σ else K 1 σ))
theorem o104 {B : va_E} {σ : l2_m} {x0 : Int} {K : Int → l2_m → Prop}   (h : w104 B σ x0  K) : wC B 104 [vi x0] σ K := by
  have ck : pm_code 104 = pc_104 := rfl
  unfold w104 at h
  show wW B 104 0 [vi x0] [] σ K
  replace h := (And.imp_right mg_1) h
  obtain ⟨s1, h⟩ := h
  refine g_il 1 ck rfl rfl rfl ?_
  refine g_ic 3 ck rfl rfl ?_
  refine g_ii2 6 16 ck rfl rfl rfl s1 (by decide) (fun hc => ?_) (fun hc => ?_)
  · replace h := ite_ht h hc
    refine g_ic 17 ck rfl rfl ?_
    exact g_retb ck rfl rfl (Or.inl rfl) h
  · replace h := ite_hf h hc
    refine g_il 7 ck rfl rfl rfl ?_
    refine g_ic 9 ck rfl rfl ?_
    refine g_ii2 12 16 ck rfl rfl rfl s1 (by decide) (fun hc => ?_) (fun hc => ?_)
    · replace h := ite_ht h hc
      refine g_ic 17 ck rfl rfl ?_
      exact g_retb ck rfl rfl (Or.inl rfl) h
    · replace h := ite_hf h hc
      refine g_ic 13 ck rfl rfl ?_
      refine g_goto 17 ck rfl rfl ?_
      exact g_retb ck rfl rfl (Or.inr rfl) h
/-! 105 TermDesk$Reader.isDigit(I)Z -/
def w105 (B : va_E) (σ : l2_m) (x0 : Int) (K : Int → l2_m → Prop) : Prop := (rg x0 ∧ (if (x0 < 48) ∨ (57 < x0) then K 0 σ else K 1 σ))
theorem o105 {B : va_E} {σ : l2_m} {x0 : Int} {K : Int → l2_m → Prop}   (h : w105 B σ x0  K) : wC B 105 [vi x0] σ K := by
  have ck : pm_code 105 = pc_105 := rfl
  unfold w105 at h
  show wW B 105 0 [vi x0] [] σ K
  replace h := (And.imp_right mg_1) h
  obtain ⟨s1, h⟩ := h
  refine g_il 1 ck rfl rfl rfl ?_
  refine g_ic 3 ck rfl rfl ?_
  refine g_ii2 6 16 ck rfl rfl rfl s1 (by decide) (fun hc => ?_) (fun hc => ?_)
  · replace h := ite_ht h hc
    refine g_ic 17 ck rfl rfl ?_
    exact g_retb ck rfl rfl (Or.inl rfl) h
  · replace h := ite_hf h hc
    refine g_il 7 ck rfl rfl rfl ?_
    refine g_ic 9 ck rfl rfl ?_
    refine g_ii2 12 16 ck rfl rfl rfl s1 (by decide) (fun hc => ?_) (fun hc => ?_)
    · replace h := ite_ht h hc
      refine g_ic 17 ck rfl rfl ?_
      exact g_retb ck rfl rfl (Or.inl rfl) h
    · replace h := ite_hf h hc
      refine g_ic 13 ck rfl rfl ?_
      refine g_goto 17 ck rfl rfl ?_
      exact g_retb ck rfl rfl (Or.inr rfl) h
/-! 109 TermDesk.fault()I -/
def w109 (B : va_E) (σ : l2_m)  (K : Int → l2_m → Prop) : Prop := K (σ 32 3) σ
theorem o109 {B : va_E} {σ : l2_m}  {K : Int → l2_m → Prop}   (h : w109 B σ   K) : wC B 109 [vr 32] σ K := by
  have ck : pm_code 109 = pc_109 := rfl
  unfold w109 at h
  show wW B 109 0 [vr 32] [] σ K
  refine g_al 1 ck rfl rfl rfl ?_
  refine r_gfi 4 3 ck rfl rfl rfl rfl ?_
  exact g_ret ck rfl rfl (Or.inl (by decide)) h
/-! 110 TermDesk.where()I -/
def w110 (B : va_E) (σ : l2_m)  (K : Int → l2_m → Prop) : Prop := K (σ 32 4) σ
theorem o110 {B : va_E} {σ : l2_m}  {K : Int → l2_m → Prop}   (h : w110 B σ   K) : wC B 110 [vr 32] σ K := by
  have ck : pm_code 110 = pc_110 := rfl
  unfold w110 at h
  show wW B 110 0 [vr 32] [] σ K
  refine g_al 1 ck rfl rfl rfl ?_
  refine r_gfi 4 4 ck rfl rfl rfl rfl ?_
  exact g_ret ck rfl rfl (Or.inl (by decide)) h
/-! 144 TermDesk.trouble()I -/
def w144 (B : va_E) (σ : l2_m)  (K : Int → l2_m → Prop) : Prop := K (σ 32 2) σ
theorem o144 {B : va_E} {σ : l2_m}  {K : Int → l2_m → Prop}   (h : w144 B σ   K) : wC B 144 [vr 32] σ K := by
  have ck : pm_code 144 = pc_144 := rfl
  unfold w144 at h
  show wW B 144 0 [vr 32] [] σ K
  refine g_al 1 ck rfl rfl rfl ?_
  refine r_gfi 4 2 ck rfl rfl rfl rfl ?_
  exact g_ret ck rfl rfl (Or.inl (by decide)) h
/-! 145 TermDesk.refuse(I)I -/
def w145 (B : va_E) (σ : l2_m) (x1 : Int) (K : Int → l2_m → Prop) : Prop := (∀ σ' : l2_m, σ' = l2_u σ 32 2 x1 → ∀ σ'' : l2_m, σ'' = l2_u σ' 32 4 (-1) → K (-1) σ'')
theorem o145 {B : va_E} {σ : l2_m} {x1 : Int} {K : Int → l2_m → Prop}   (h : w145 B σ x1  K) : wC B 145 [vr 32, vi x1] σ K := by
  have ck : pm_code 145 = pc_145 := rfl
  unfold w145 at h
  show wW B 145 0 [vr 32, vi x1] [] σ K
  refine g_al 1 ck rfl rfl rfl ?_
  refine g_il 2 ck rfl rfl rfl ?_
  refine g_pfi 5 ck rfl rfl rfl 2 rfl rfl ?_
  replace h := h _ rfl
  refine g_al 6 ck rfl rfl rfl ?_
  refine g_ic 7 ck rfl rfl ?_
  refine g_pfi 10 ck rfl rfl rfl 4 rfl rfl ?_
  replace h := h _ rfl
  refine g_ic 11 ck rfl rfl ?_
  exact g_ret ck rfl rfl (Or.inl (by decide)) h
/-! 146 TermDesk.accept(I)I -/
def w146 (B : va_E) (σ : l2_m) (x1 : Int) (K : Int → l2_m → Prop) : Prop := (∀ σ' : l2_m, σ' = l2_u σ 32 2 0 → ∀ σ'' : l2_m, σ'' = l2_u σ' 32 4 (-1) → K x1 σ'')
theorem o146 {B : va_E} {σ : l2_m} {x1 : Int} {K : Int → l2_m → Prop}   (h : w146 B σ x1  K) : wC B 146 [vr 32, vi x1] σ K := by
  have ck : pm_code 146 = pc_146 := rfl
  unfold w146 at h
  show wW B 146 0 [vr 32, vi x1] [] σ K
  refine g_al 1 ck rfl rfl rfl ?_
  refine g_ic 2 ck rfl rfl ?_
  refine g_pfi 5 ck rfl rfl rfl 2 rfl rfl ?_
  replace h := h _ rfl
  refine g_al 6 ck rfl rfl rfl ?_
  refine g_ic 7 ck rfl rfl ?_
  refine g_pfi 10 ck rfl rfl rfl 4 rfl rfl ?_
  replace h := h _ rfl
  refine g_il 11 ck rfl rfl rfl ?_
  exact g_ret ck rfl rfl (Or.inl (by decide)) h
/-! 147 TermDesk.isRegister(I)Z -/
def w147 (B : va_E) (σ : l2_m) (x1 : Int) (K : Int → l2_m → Prop) : Prop := (rg (σ 32 5) ∧ ((¬ ((σ 32 5) = 0) → rg x1) ∧ (if ((σ 32 5) = 0) ∨ ((x1 < 0) ∨ ¬ (x1 < 8)) then K 0 σ else K 1 σ)))
theorem o147 {B : va_E} {σ : l2_m} {x1 : Int} {K : Int → l2_m → Prop}   (h : w147 B σ x1  K) : wC B 147 [vr 32, vi x1] σ K := by
  have ck : pm_code 147 = pc_147 := rfl
  unfold w147 at h
  show wW B 147 0 [vr 32, vi x1] [] σ K
  replace h := (And.imp_right (fun h => ite_mp id (And.imp_right mg_2) (mg_1s h))) h
  obtain ⟨s1, h⟩ := h
  refine g_al 1 ck rfl rfl rfl ?_
  refine r_gfi 4 5 ck rfl rfl rfl rfl ?_
  refine g_if 7 21 ck rfl rfl rfl s1 (fun hc => ?_) (fun hc => ?_)
  · replace h := ite_ht h hc
    refine g_ic 22 ck rfl rfl ?_
    exact g_retb ck rfl rfl (Or.inl rfl) h
  · replace h := ite_hf h hc
    obtain ⟨s2, h⟩ := h
    refine g_il 8 ck rfl rfl rfl ?_
    refine g_if 11 21 ck rfl rfl rfl s2 (fun hc => ?_) (fun hc => ?_)
    · replace h := ite_ht h hc
      refine g_ic 22 ck rfl rfl ?_
      exact g_retb ck rfl rfl (Or.inl rfl) h
    · replace h := ite_hf h hc
      refine g_il 12 ck rfl rfl rfl ?_
      refine g_ic 14 ck rfl rfl ?_
      refine g_ii2 17 21 ck rfl rfl rfl s2 (by decide) (fun hc => ?_) (fun hc => ?_)
      · replace h := ite_hf h (Int.not_lt.mpr hc)
        refine g_ic 22 ck rfl rfl ?_
        exact g_retb ck rfl rfl (Or.inl rfl) h
      · replace h := ite_ht h (Int.not_le.mp hc)
        refine g_ic 18 ck rfl rfl ?_
        refine g_goto 22 ck rfl rfl ?_
        exact g_retb ck rfl rfl (Or.inr rfl) h
/-! 148 TermDesk.isUnknown(I)Z -/
def w148 (B : va_E) (σ : l2_m) (x0 : Int) (K : Int → l2_m → Prop) : Prop := (rg x0 ∧ (if (x0 < 0) ∨ ¬ (x0 < 3) then K 0 σ else K 1 σ))
theorem o148 {B : va_E} {σ : l2_m} {x0 : Int} {K : Int → l2_m → Prop}   (h : w148 B σ x0  K) : wC B 148 [vi x0] σ K := by
  have ck : pm_code 148 = pc_148 := rfl
  unfold w148 at h
  show wW B 148 0 [vi x0] [] σ K
  replace h := (And.imp_right mg_2) h
  obtain ⟨s1, h⟩ := h
  refine g_il 1 ck rfl rfl rfl ?_
  refine g_if 4 13 ck rfl rfl rfl s1 (fun hc => ?_) (fun hc => ?_)
  · replace h := ite_ht h hc
    refine g_ic 14 ck rfl rfl ?_
    exact g_retb ck rfl rfl (Or.inl rfl) h
  · replace h := ite_hf h hc
    refine g_il 5 ck rfl rfl rfl ?_
    refine g_ic 6 ck rfl rfl ?_
    refine g_ii2 9 13 ck rfl rfl rfl s1 (by decide) (fun hc => ?_) (fun hc => ?_)
    · replace h := ite_hf h (Int.not_lt.mpr hc)
      refine g_ic 14 ck rfl rfl ?_
      exact g_retb ck rfl rfl (Or.inl rfl) h
    · replace h := ite_ht h (Int.not_le.mp hc)
      refine g_ic 10 ck rfl rfl ?_
      refine g_goto 14 ck rfl rfl ?_
      exact g_retb ck rfl rfl (Or.inr rfl) h
/-! 150 TermDesk.isExponent(I)Z -/
def w150 (B : va_E) (σ : l2_m) (x0 : Int) (K : Int → l2_m → Prop) : Prop := (rg x0 ∧ (if (x0 < 0) ∨ (15 < x0) then K 0 σ else K 1 σ))
theorem o150 {B : va_E} {σ : l2_m} {x0 : Int} {K : Int → l2_m → Prop}   (h : w150 B σ x0  K) : wC B 150 [vi x0] σ K := by
  have ck : pm_code 150 = pc_150 := rfl
  unfold w150 at h
  show wW B 150 0 [vi x0] [] σ K
  replace h := (And.imp_right mg_1) h
  obtain ⟨s1, h⟩ := h
  refine g_il 1 ck rfl rfl rfl ?_
  refine g_if 4 14 ck rfl rfl rfl s1 (fun hc => ?_) (fun hc => ?_)
  · replace h := ite_ht h hc
    refine g_ic 15 ck rfl rfl ?_
    exact g_retb ck rfl rfl (Or.inl rfl) h
  · replace h := ite_hf h hc
    refine g_il 5 ck rfl rfl rfl ?_
    refine g_ic 7 ck rfl rfl ?_
    refine g_ii2 10 14 ck rfl rfl rfl s1 (by decide) (fun hc => ?_) (fun hc => ?_)
    · replace h := ite_ht h hc
      refine g_ic 15 ck rfl rfl ?_
      exact g_retb ck rfl rfl (Or.inl rfl) h
    · replace h := ite_hf h hc
      refine g_ic 11 ck rfl rfl ?_
      refine g_goto 15 ck rfl rfl ?_
      exact g_retb ck rfl rfl (Or.inr rfl) h
/-! 152 TermDesk.isIn(II)Z -/
def w152 (B : va_E) (σ : l2_m) (x0 : Int) (x1 : Int) (K : Int → l2_m → Prop) : Prop := ((rg x0 ∧ 0 ≤ x1 ∧ x1 < 32) ∧ (if ((x0 / 2 ^ (Int.toNat x1)) % 2) = 0 then K 0 σ else K 1 σ))
theorem o152 {B : va_E} {σ : l2_m} {x0 : Int} {x1 : Int} {K : Int → l2_m → Prop}   (h : w152 B σ x0 x1  K) : wC B 152 [vi x0, vi x1] σ K := by
  have ck : pm_code 152 = pc_152 := rfl
  unfold w152 at h
  show wW B 152 0 [vi x0, vi x1] [] σ K
  obtain ⟨⟨s1, s2, s3⟩, h⟩ := h
  refine g_il 1 ck rfl rfl rfl ?_
  refine g_il 2 ck rfl rfl rfl ?_
  refine g_shr 3 ck rfl rfl s1 s2 s3 ?_
  refine g_ic 4 ck rfl rfl ?_
  refine r_andk 2 1 5 ck rfl rfl (by decide) (by decide) (by decide) ?_
  refine g_if 8 12 ck rfl rfl rfl (rg_mod _ (by decide) (by decide)) (fun hc => ?_) (fun hc => ?_)
  · replace h := ite_ht h hc
    refine g_ic 13 ck rfl rfl ?_
    exact g_retb ck rfl rfl (Or.inl rfl) h
  · replace h := ite_hf h hc
    refine g_ic 9 ck rfl rfl ?_
    refine g_goto 13 ck rfl rfl ?_
    exact g_retb ck rfl rfl (Or.inr rfl) h
/-! 154 TermDesk.exponentOf(II)I -/
def w154 (B : va_E) (σ : l2_m) (x0 : Int) (x1 : Int) (K : Int → l2_m → Prop) : Prop := ((rg x0 ∧ 0 ≤ (5 * x1) ∧ (5 * x1) < 32) ∧ K ((x0 / 2 ^ (Int.toNat (5 * x1))) % 32) σ)
theorem o154 {B : va_E} {σ : l2_m} {x0 : Int} {x1 : Int} {K : Int → l2_m → Prop}   (h : w154 B σ x0 x1  K) : wC B 154 [vi x0, vi x1] σ K := by
  have ck : pm_code 154 = pc_154 := rfl
  unfold w154 at h
  show wW B 154 0 [vi x0, vi x1] [] σ K
  obtain ⟨⟨s1, s2, s3⟩, h⟩ := h
  refine g_il 1 ck rfl rfl rfl ?_
  refine g_ic 2 ck rfl rfl ?_
  refine g_il 3 ck rfl rfl rfl ?_
  refine g_mul 4 ck rfl rfl ?_
  refine g_shr 5 ck rfl rfl s1 s2 s3 ?_
  refine g_ic 7 ck rfl rfl ?_
  refine r_andk 32 5 8 ck rfl rfl (by decide) (by decide) (by decide) ?_
  exact g_ret ck rfl rfl (Or.inl (by decide)) h
/-! 156 TermDesk.takeBytes(I)V -/
def w156_3 (B : va_E) (σ : l2_m) (x1 : Int) (x2 : Int)  (K : Int → l2_m → Prop) : Prop := lz2 (fun X3 x2 σ => (rg x2 ∧ (if x2 < 0 then K 0 σ else (rg (σ 32 1) ∧ (if (σ 32 1) < 700 then ((rg x1 ∧ 0 ≤ x2 ∧ x2 < 32 ∧ 0 ≤ (σ 32 1) ∧ (σ 32 1) < 700) ∧ ∀ σ' : l2_m, σ' = l2_u σ 33 (σ 32 1) ((x1 / 2 ^ (Int.toNat x2)) % 256) → ∀ σ'' : l2_m, σ'' = l2_u σ' 32 1 ((σ' 32 1) + 1) → X3 (x2 + (-8)) σ'') else X3 (x2 + (-8)) σ))))) x2 σ
theorem o156_3 {B : va_E} {σ : l2_m} {x1 : Int} {x2 : Int}   {K : Int → l2_m → Prop}    (h : w156_3 B σ x1 x2  K) : wW B 156 3 [vr 32, vi x1, vi x2] [] σ K := by
  have ck : pm_code 156 = pc_156 := rfl
  unfold w156_3 at h
  refine h (fun x2 σ => wW B 156 3 [vr 32, vi x1, vi x2] [] σ K) ?_
  clear h
  intro x2 σ h
  obtain ⟨s1, h⟩ := h
  refine g_il 4 ck rfl rfl rfl ?_
  refine g_if 7 49 ck rfl rfl rfl s1 (fun hc => ?_) (fun hc => ?_)
  · replace h := ite_ht h hc
    exact g_retv ck rfl rfl h
  · replace h := ite_hf h hc
    obtain ⟨s2, h⟩ := h
    refine g_al 8 ck rfl rfl rfl ?_
    refine r_gfi 11 1 ck rfl rfl rfl rfl ?_
    refine g_ic 14 ck rfl rfl ?_
    refine g_ii2 17 43 ck rfl rfl rfl s2 (by decide) (fun hc => ?_) (fun hc => ?_)
    · replace h := ite_hf h (Int.not_lt.mpr hc)
      refine r_ii 46 ck rfl rfl rfl rfl ?_
      refine g_goto 3 ck rfl rfl ?_
      exact h
    · replace h := ite_ht h (Int.not_le.mp hc)
      obtain ⟨⟨s3, s4, s5, s6, s7⟩, h⟩ := h
      refine g_al 18 ck rfl rfl rfl ?_
      refine r_gfr 21 33 ck rfl rfl rfl (by decide) ?_
      refine g_al 22 ck rfl rfl rfl ?_
      refine r_gfi 25 1 ck rfl rfl rfl rfl ?_
      refine g_il 26 ck rfl rfl rfl ?_
      refine g_il 27 ck rfl rfl rfl ?_
      refine g_shr 28 ck rfl rfl s3 s4 s5 ?_
      refine g_ic 31 ck rfl rfl ?_
      refine r_andk 256 8 32 ck rfl rfl (by decide) (by decide) (by decide) ?_
      refine g_ias (m := 700) 33 ck rfl rfl rfl s6 s7 ?_
      replace h := h _ rfl
      refine g_al 34 ck rfl rfl rfl ?_
      refine g_dup 35 ck rfl rfl rfl ?_
      refine r_gfi 38 1 ck rfl rfl rfl rfl ?_
      refine g_ic 39 ck rfl rfl ?_
      refine g_add 40 ck rfl rfl ?_
      refine g_pfi 43 ck rfl rfl rfl 1 rfl rfl ?_
      replace h := h _ rfl
      refine r_ii 46 ck rfl rfl rfl rfl ?_
      refine g_goto 3 ck rfl rfl ?_
      exact h
def w156 (B : va_E) (σ : l2_m) (x1 : Int) (K : Int → l2_m → Prop) : Prop := w156_3 B σ x1 24 K
theorem o156 {B : va_E} {σ : l2_m} {x1 : Int} {K : Int → l2_m → Prop}   (h : w156 B σ x1  K) : wC B 156 [vr 32, vi x1] σ K := by
  have ck : pm_code 156 = pc_156 := rfl
  unfold w156 at h
  show wW B 156 0 [vr 32, vi x1, pm_un] [] σ K
  refine g_ic 2 ck rfl rfl ?_
  refine r_is 3 ck rfl rfl rfl rfl ?_
  exact o156_3  h
/-! 158 TermDesk.countFilled()I -/
def w158_4 (B : va_E) (σ : l2_m) (x1 : Int) (x2 : Int)  (K : Int → l2_m → Prop) : Prop := lz2 (fun X4 x1 x2 => (rg x2 ∧ (if x2 < 8 then ((0 ≤ x2 ∧ x2 < 8 ∧ rg (σ (162 + 3 * Int.toNat x2) 2)) ∧ (if 0 < (σ (162 + 3 * Int.toNat x2) 2) then (∀ x1'' : Int, x1'' = (x1 + 1) → X4 x1'' (x2 + 1)) else (∀ x1' : Int, x1' = (x1 + 0) → X4 x1' (x2 + 1)))) else K x1 σ))) x1 x2
theorem o158_4 {B : va_E} {σ : l2_m} {x1 : Int} {x2 : Int}   {K : Int → l2_m → Prop}    (h : w158_4 B σ x1 x2  K) : wW B 158 4 [vr 32, vi x1, vi x2] [] σ K := by
  have ck : pm_code 158 = pc_158 := rfl
  unfold w158_4 at h
  refine h (fun x1 x2 => wW B 158 4 [vr 32, vi x1, vi x2] [] σ K) ?_
  clear h
  intro x1 x2 h
  obtain ⟨s1, h⟩ := h
  refine g_il 5 ck rfl rfl rfl ?_
  refine g_ic 7 ck rfl rfl ?_
  refine g_ii2 10 36 ck rfl rfl rfl s1 (by decide) (fun hc => ?_) (fun hc => ?_)
  · replace h := ite_hf h (Int.not_lt.mpr hc)
    refine g_il 37 ck rfl rfl rfl ?_
    exact g_ret ck rfl rfl (Or.inl (by decide)) h
  · replace h := ite_ht h (Int.not_le.mp hc)
    obtain ⟨⟨s2, s3, s4⟩, h⟩ := h
    refine g_il 11 ck rfl rfl rfl ?_
    refine g_al 12 ck rfl rfl rfl ?_
    refine r_gfr 15 158 ck rfl rfl rfl (by decide) ?_
    refine g_il 16 ck rfl rfl rfl ?_
    refine g_aal (b := 162) (m := 8) 17 ck rfl rfl rfl s2 s3 ?_
    refine r_gfi 20 2 ck rfl rfl (isP_2 (isP_row (a := 158) (b := 162) (m := 8) rfl s2 s3)) rfl ?_
    refine g_if 23 27 ck rfl rfl rfl s4 (fun hc => ?_) (fun hc => ?_)
    · replace h := ite_hf h (Int.not_lt.mpr hc)
      refine g_ic 28 ck rfl rfl ?_
      refine g_add 29 ck rfl rfl ?_
      refine r_is 30 ck rfl rfl rfl rfl ?_
      replace h := h _ rfl
      refine r_ii 33 ck rfl rfl rfl rfl ?_
      refine g_goto 4 ck rfl rfl ?_
      exact h
    · replace h := ite_ht h (Int.not_le.mp hc)
      refine g_ic 24 ck rfl rfl ?_
      refine g_goto 28 ck rfl rfl ?_
      refine g_add 29 ck rfl rfl ?_
      refine r_is 30 ck rfl rfl rfl rfl ?_
      replace h := h _ rfl
      refine r_ii 33 ck rfl rfl rfl rfl ?_
      refine g_goto 4 ck rfl rfl ?_
      exact h
def w158 (B : va_E) (σ : l2_m)  (K : Int → l2_m → Prop) : Prop := w158_4 B σ 0 0 K
theorem o158 {B : va_E} {σ : l2_m}  {K : Int → l2_m → Prop}   (h : w158 B σ   K) : wC B 158 [vr 32] σ K := by
  have ck : pm_code 158 = pc_158 := rfl
  unfold w158 at h
  show wW B 158 0 [vr 32, pm_un, pm_un] [] σ K
  refine g_ic 1 ck rfl rfl ?_
  refine r_is 2 ck rfl rfl rfl rfl ?_
  refine g_ic 3 ck rfl rfl ?_
  refine r_is 4 ck rfl rfl rfl rfl ?_
  exact o158_4  h
/-! 159 TermDesk.countTerms()I -/
def w159_4 (B : va_E) (σ : l2_m) (x1 : Int) (x2 : Int)  (K : Int → l2_m → Prop) : Prop := lz2 (fun X4 x1 x2 => (rg x2 ∧ (if x2 < 8 then ((0 ≤ x2 ∧ x2 < 8) ∧ ∀ x1' : Int, x1' = (x1 + (σ (162 + 3 * Int.toNat x2) 2)) → X4 x1' (x2 + 1)) else K x1 σ))) x1 x2
theorem o159_4 {B : va_E} {σ : l2_m} {x1 : Int} {x2 : Int}   {K : Int → l2_m → Prop}    (h : w159_4 B σ x1 x2  K) : wW B 159 4 [vr 32, vi x1, vi x2] [] σ K := by
  have ck : pm_code 159 = pc_159 := rfl
  unfold w159_4 at h
  refine h (fun x1 x2 => wW B 159 4 [vr 32, vi x1, vi x2] [] σ K) ?_
  clear h
  intro x1 x2 h
  obtain ⟨s1, h⟩ := h
  refine g_il 5 ck rfl rfl rfl ?_
  refine g_ic 7 ck rfl rfl ?_
  refine g_ii2 10 28 ck rfl rfl rfl s1 (by decide) (fun hc => ?_) (fun hc => ?_)
  · replace h := ite_hf h (Int.not_lt.mpr hc)
    refine g_il 29 ck rfl rfl rfl ?_
    exact g_ret ck rfl rfl (Or.inl (by decide)) h
  · replace h := ite_ht h (Int.not_le.mp hc)
    obtain ⟨⟨s2, s3⟩, h⟩ := h
    refine g_il 11 ck rfl rfl rfl ?_
    refine g_al 12 ck rfl rfl rfl ?_
    refine r_gfr 15 158 ck rfl rfl rfl (by decide) ?_
    refine g_il 16 ck rfl rfl rfl ?_
    refine g_aal (b := 162) (m := 8) 17 ck rfl rfl rfl s2 s3 ?_
    refine r_gfi 20 2 ck rfl rfl (isP_2 (isP_row (a := 158) (b := 162) (m := 8) rfl s2 s3)) rfl ?_
    refine g_add 21 ck rfl rfl ?_
    refine r_is 22 ck rfl rfl rfl rfl ?_
    replace h := h _ rfl
    refine r_ii 25 ck rfl rfl rfl rfl ?_
    refine g_goto 4 ck rfl rfl ?_
    exact h
def w159 (B : va_E) (σ : l2_m)  (K : Int → l2_m → Prop) : Prop := w159_4 B σ 0 0 K
theorem o159 {B : va_E} {σ : l2_m}  {K : Int → l2_m → Prop}   (h : w159 B σ   K) : wC B 159 [vr 32] σ K := by
  have ck : pm_code 159 = pc_159 := rfl
  unfold w159 at h
  show wW B 159 0 [vr 32, pm_un, pm_un] [] σ K
  refine g_ic 1 ck rfl rfl ?_
  refine r_is 2 ck rfl rfl rfl rfl ?_
  refine g_ic 3 ck rfl rfl ?_
  refine r_is 4 ck rfl rfl rfl rfl ?_
  exact o159_4  h
/-! 160 TermDesk.firstZero()I -/
def w160_2 (B : va_E) (σ : l2_m) (x1 : Int)  (K : Int → l2_m → Prop) : Prop := lz1 (fun X2 x1 => (rg x1 ∧ (if x1 < 8 then ((0 ≤ x1 ∧ x1 < 8 ∧ rg (σ (162 + 3 * Int.toNat x1) 2)) ∧ (if (σ (162 + 3 * Int.toNat x1) 2) = 0 then K x1 σ else X2 (x1 + 1))) else K (-1) σ))) x1
theorem o160_2 {B : va_E} {σ : l2_m} {x1 : Int}   {K : Int → l2_m → Prop}    (h : w160_2 B σ x1  K) : wW B 160 2 [vr 32, vi x1] [] σ K := by
  have ck : pm_code 160 = pc_160 := rfl
  unfold w160_2 at h
  refine h (fun x1 => wW B 160 2 [vr 32, vi x1] [] σ K) ?_
  clear h
  intro x1 h
  obtain ⟨s1, h⟩ := h
  refine g_il 3 ck rfl rfl rfl ?_
  refine g_ic 5 ck rfl rfl ?_
  refine g_ii2 8 28 ck rfl rfl rfl s1 (by decide) (fun hc => ?_) (fun hc => ?_)
  · replace h := ite_hf h (Int.not_lt.mpr hc)
    refine g_ic 29 ck rfl rfl ?_
    exact g_ret ck rfl rfl (Or.inl (by decide)) h
  · replace h := ite_ht h (Int.not_le.mp hc)
    obtain ⟨⟨s2, s3, s4⟩, h⟩ := h
    refine g_al 9 ck rfl rfl rfl ?_
    refine r_gfr 12 158 ck rfl rfl rfl (by decide) ?_
    refine g_il 13 ck rfl rfl rfl ?_
    refine g_aal (b := 162) (m := 8) 14 ck rfl rfl rfl s2 s3 ?_
    refine r_gfi 17 2 ck rfl rfl (isP_2 (isP_row (a := 158) (b := 162) (m := 8) rfl s2 s3)) rfl ?_
    refine g_if 20 22 ck rfl rfl rfl s4 (fun hc => ?_) (fun hc => ?_)
    · replace h := ite_hf h hc
      refine r_ii 25 ck rfl rfl rfl rfl ?_
      refine g_goto 2 ck rfl rfl ?_
      exact h
    · replace h := ite_ht h (Classical.not_not.mp hc)
      refine g_il 21 ck rfl rfl rfl ?_
      exact g_ret ck rfl rfl (Or.inl (by decide)) h
def w160 (B : va_E) (σ : l2_m)  (K : Int → l2_m → Prop) : Prop := w160_2 B σ 0 K
theorem o160 {B : va_E} {σ : l2_m}  {K : Int → l2_m → Prop}   (h : w160 B σ   K) : wC B 160 [vr 32] σ K := by
  have ck : pm_code 160 = pc_160 := rfl
  unfold w160 at h
  show wW B 160 0 [vr 32, pm_un] [] σ K
  refine g_ic 1 ck rfl rfl ?_
  refine r_is 2 ck rfl rfl rfl rfl ?_
  exact o160_2  h
/-! 281 java/lang/Integer.compare(II)I -/
def w281 (B : va_E) (σ : l2_m) (x0 : Int) (x1 : Int) (K : Int → l2_m → Prop) : Prop := ((rg x0 ∧ rg x1) ∧ (if x0 < x1 then K (-1) σ else (if x0 = x1 then K 0 σ else K 1 σ)))
theorem o281 {B : va_E} {σ : l2_m} {x0 : Int} {x1 : Int} {K : Int → l2_m → Prop}   (h : w281 B σ x0 x1  K) : wC B 281 [vi x0, vi x1] σ K := by
  have ck : pm_code 281 = pc_281 := rfl
  unfold w281 at h
  show wW B 281 0 [vi x0, vi x1] [] σ K
  obtain ⟨⟨s1, s2⟩, h⟩ := h
  refine g_il 1 ck rfl rfl rfl ?_
  refine g_il 2 ck rfl rfl rfl ?_
  refine g_ii2 5 9 ck rfl rfl rfl s1 s2 (fun hc => ?_) (fun hc => ?_)
  · replace h := ite_hf h (Int.not_lt.mpr hc)
    refine g_il 10 ck rfl rfl rfl ?_
    refine g_il 11 ck rfl rfl rfl ?_
    refine g_ii2 14 18 ck rfl rfl rfl s1 s2 (fun hc => ?_) (fun hc => ?_)
    · replace h := ite_hf h hc
      refine g_ic 19 ck rfl rfl ?_
      exact g_ret ck rfl rfl (Or.inl (by decide)) h
    · replace h := ite_ht h (Classical.not_not.mp hc)
      refine g_ic 15 ck rfl rfl ?_
      refine g_goto 19 ck rfl rfl ?_
      exact g_ret ck rfl rfl (Or.inl (by decide)) h
  · replace h := ite_ht h (Int.not_le.mp hc)
    refine g_ic 6 ck rfl rfl ?_
    refine g_goto 19 ck rfl rfl ?_
    exact g_ret ck rfl rfl (Or.inl (by decide)) h
/-! 280 java/util/Arrays.fill([II)V -/
def w280_5 (B : va_E) (σ : l2_m) (o0 : Nat) (n0 : Nat) (x1 : Int) (x2 : Int) (x3 : Int)  (K : Int → l2_m → Prop) : Prop := lz2 (fun X5 x2 σ => ((rg x2 ∧ rg x3) ∧ (if x2 < x3 then ((0 ≤ x2 ∧ x2 < (n0 : Int)) ∧ ∀ σ' : l2_m, σ' = l2_u σ o0 x2 x1 → X5 (x2 + 1) σ') else K 0 σ))) x2 σ
theorem o280_5 {B : va_E} {σ : l2_m} {o0 : Nat} {n0 : Nat} {x1 : Int} {x2 : Int} {x3 : Int}   {K : Int → l2_m → Prop} (ho0 : l2_al o0 = some n0)   (h : w280_5 B σ o0 n0 x1 x2 x3  K) : wW B 280 5 [vr o0, vi x1, vi x2, vi x3] [] σ K := by
  have ck : pm_code 280 = pc_280 := rfl
  unfold w280_5 at h
  refine h (fun x2 σ => wW B 280 5 [vr o0, vi x1, vi x2, vi x3] [] σ K) ?_
  clear h
  intro x2 σ h
  obtain ⟨⟨s1, s2⟩, h⟩ := h
  refine g_il 6 ck rfl rfl rfl ?_
  refine g_il 7 ck rfl rfl rfl ?_
  refine g_ii2 10 20 ck rfl rfl rfl s1 s2 (fun hc => ?_) (fun hc => ?_)
  · replace h := ite_hf h (Int.not_lt.mpr hc)
    exact g_retv ck rfl rfl h
  · replace h := ite_ht h (Int.not_le.mp hc)
    obtain ⟨⟨s3, s4⟩, h⟩ := h
    refine g_al 11 ck rfl rfl rfl ?_
    refine g_il 12 ck rfl rfl rfl ?_
    refine g_il 13 ck rfl rfl rfl ?_
    refine g_ias (m := n0) 14 ck rfl rfl ho0 s3 s4 ?_
    replace h := h _ rfl
    refine r_ii 17 ck rfl rfl rfl rfl ?_
    refine g_goto 5 ck rfl rfl ?_
    exact h
def w280 (B : va_E) (σ : l2_m) (o0 : Nat) (x1 : Int) (n0 : Nat) (K : Int → l2_m → Prop) : Prop := (∀ x3 : Int, x3 = ((n0 : Nat) : Int) → w280_5 B σ o0 n0 x1 0 x3 K)
theorem o280 {B : va_E} {σ : l2_m} {o0 : Nat} {x1 : Int} {n0 : Nat} {K : Int → l2_m → Prop} (ho0 : l2_al o0 = some n0)  (h : w280 B σ o0 x1 n0  K) : wC B 280 [vr o0, vi x1] σ K := by
  have ck : pm_code 280 = pc_280 := rfl
  unfold w280 at h
  show wW B 280 0 [vr o0, vi x1, pm_un, pm_un] [] σ K
  refine g_ic 1 ck rfl rfl ?_
  refine r_is 2 ck rfl rfl rfl rfl ?_
  refine g_al 3 ck rfl rfl rfl ?_
  refine g_len 4 ck rfl rfl (show l2_al o0 = some n0 from ho0) ?_
  refine r_is 5 ck rfl rfl rfl rfl ?_
  replace h := h _ rfl
  exact o280_5 ho0 h
/-! 167 TermDeskModel.thrown()I -/
def w167 (B : va_E) (σ : l2_m)  (K : Int → l2_m → Prop) : Prop := K (σ 186 0) σ
theorem o167 {B : va_E} {σ : l2_m}  {K : Int → l2_m → Prop}   (h : w167 B σ   K) : wC B 167 [vr 186] σ K := by
  have ck : pm_code 167 = pc_167 := rfl
  unfold w167 at h
  show wW B 167 0 [vr 186] [] σ K
  refine g_al 1 ck rfl rfl rfl ?_
  refine r_gfi 4 0 ck rfl rfl rfl rfl ?_
  exact g_ret ck rfl rfl (Or.inl (by decide)) h
/-! 168 TermDeskModel.refused(I)I -/
def w168 (B : va_E) (σ : l2_m) (x1 : Int) (K : Int → l2_m → Prop) : Prop := (∀ σ' : l2_m, σ' = l2_u σ 186 1 x1 → ∀ σ'' : l2_m, σ'' = l2_u σ' 186 2 (-1) → K (-1) σ'')
theorem o168 {B : va_E} {σ : l2_m} {x1 : Int} {K : Int → l2_m → Prop}   (h : w168 B σ x1  K) : wC B 168 [vr 186, vi x1] σ K := by
  have ck : pm_code 168 = pc_168 := rfl
  unfold w168 at h
  show wW B 168 0 [vr 186, vi x1] [] σ K
  refine g_al 1 ck rfl rfl rfl ?_
  refine g_il 2 ck rfl rfl rfl ?_
  refine g_pfi 5 ck rfl rfl rfl 1 rfl rfl ?_
  replace h := h _ rfl
  refine g_al 6 ck rfl rfl rfl ?_
  refine g_ic 7 ck rfl rfl ?_
  refine g_pfi 10 ck rfl rfl rfl 2 rfl rfl ?_
  replace h := h _ rfl
  refine g_ic 11 ck rfl rfl ?_
  exact g_ret ck rfl rfl (Or.inl (by decide)) h
/-! 169 TermDeskModel.good(I)I -/
def w169 (B : va_E) (σ : l2_m) (x1 : Int) (K : Int → l2_m → Prop) : Prop := (∀ σ' : l2_m, σ' = l2_u σ 186 1 0 → ∀ σ'' : l2_m, σ'' = l2_u σ' 186 2 (-1) → K x1 σ'')
theorem o169 {B : va_E} {σ : l2_m} {x1 : Int} {K : Int → l2_m → Prop}   (h : w169 B σ x1  K) : wC B 169 [vr 186, vi x1] σ K := by
  have ck : pm_code 169 = pc_169 := rfl
  unfold w169 at h
  show wW B 169 0 [vr 186, vi x1] [] σ K
  refine g_al 1 ck rfl rfl rfl ?_
  refine g_ic 2 ck rfl rfl ?_
  refine g_pfi 5 ck rfl rfl rfl 1 rfl rfl ?_
  replace h := h _ rfl
  refine g_al 6 ck rfl rfl rfl ?_
  refine g_ic 7 ck rfl rfl ?_
  refine g_pfi 10 ck rfl rfl rfl 2 rfl rfl ?_
  replace h := h _ rfl
  refine g_il 11 ck rfl rfl rfl ?_
  exact g_ret ck rfl rfl (Or.inl (by decide)) h
/-! 170 TermDeskModel.in(III)Z -/
def w170 (B : va_E) (σ : l2_m) (x0 : Int) (x1 : Int) (x2 : Int) (K : Int → l2_m → Prop) : Prop := ((rg x0 ∧ rg x1) ∧ ((¬ (x0 < x1) → rg x2) ∧ (if (x0 < x1) ∨ (x2 < x0) then K 0 σ else K 1 σ)))
theorem o170 {B : va_E} {σ : l2_m} {x0 : Int} {x1 : Int} {x2 : Int} {K : Int → l2_m → Prop}   (h : w170 B σ x0 x1 x2  K) : wC B 170 [vi x0, vi x1, vi x2] σ K := by
  have ck : pm_code 170 = pc_170 := rfl
  unfold w170 at h
  show wW B 170 0 [vi x0, vi x1, vi x2] [] σ K
  replace h := (And.imp_right mg_1s) h
  obtain ⟨⟨s1, s2⟩, h⟩ := h
  refine g_il 1 ck rfl rfl rfl ?_
  refine g_il 2 ck rfl rfl rfl ?_
  refine g_ii2 5 14 ck rfl rfl rfl s1 s2 (fun hc => ?_) (fun hc => ?_)
  · replace h := ite_ht h hc
    refine g_ic 15 ck rfl rfl ?_
    exact g_retb ck rfl rfl (Or.inl rfl) h
  · replace h := ite_hf h hc
    obtain ⟨s3, h⟩ := h
    refine g_il 6 ck rfl rfl rfl ?_
    refine g_il 7 ck rfl rfl rfl ?_
    refine g_ii2 10 14 ck rfl rfl rfl s1 s3 (fun hc => ?_) (fun hc => ?_)
    · replace h := ite_ht h hc
      refine g_ic 15 ck rfl rfl ?_
      exact g_retb ck rfl rfl (Or.inl rfl) h
    · replace h := ite_hf h hc
      refine g_ic 11 ck rfl rfl ?_
      refine g_goto 15 ck rfl rfl ?_
      exact g_retb ck rfl rfl (Or.inr rfl) h
/-! 171 TermDeskModel.exponent(II)I -/
def w171 (B : va_E) (σ : l2_m) (x0 : Int) (x1 : Int) (K : Int → l2_m → Prop) : Prop := ((rg x0 ∧ 0 ≤ (4 * x1) ∧ (4 * x1) < 32) ∧ K ((x0 / 2 ^ (Int.toNat (4 * x1))) % 16) σ)
theorem o171 {B : va_E} {σ : l2_m} {x0 : Int} {x1 : Int} {K : Int → l2_m → Prop}   (h : w171 B σ x0 x1  K) : wC B 171 [vi x0, vi x1] σ K := by
  have ck : pm_code 171 = pc_171 := rfl
  unfold w171 at h
  show wW B 171 0 [vi x0, vi x1] [] σ K
  obtain ⟨⟨s1, s2, s3⟩, h⟩ := h
  refine g_il 1 ck rfl rfl rfl ?_
  refine g_ic 2 ck rfl rfl ?_
  refine g_il 3 ck rfl rfl rfl ?_
  refine g_mul 4 ck rfl rfl ?_
  refine g_shr 5 ck rfl rfl s1 s2 s3 ?_
  refine g_ic 7 ck rfl rfl ?_
  refine r_andk 16 4 8 ck rfl rfl (by decide) (by decide) (by decide) ?_
  exact g_ret ck rfl rfl (Or.inl (by decide)) h
/-! 173 TermDeskModel.keyOf(III)I -/
def w173 (B : va_E) (σ : l2_m) (x0 : Int) (x1 : Int) (x2 : Int) (K : Int → l2_m → Prop) : Prop := ((0 ≤ x0 ∧ 0 ≤ (x1 * 16) ∧ x0 < 2147483648 ∧ (x1 * 16) < 2147483648 ∧ 0 ≤ (ior x0 (x1 * 16)) ∧ 0 ≤ (x2 * 256) ∧ (ior x0 (x1 * 16)) < 2147483648 ∧ (x2 * 256) < 2147483648) ∧ K (ior (ior x0 (x1 * 16)) (x2 * 256)) σ)
theorem o173 {B : va_E} {σ : l2_m} {x0 : Int} {x1 : Int} {x2 : Int} {K : Int → l2_m → Prop}   (h : w173 B σ x0 x1 x2  K) : wC B 173 [vi x0, vi x1, vi x2] σ K := by
  have ck : pm_code 173 = pc_173 := rfl
  unfold w173 at h
  show wW B 173 0 [vi x0, vi x1, vi x2] [] σ K
  obtain ⟨⟨s1, s2, s3, s4, s5, s6, s7, s8⟩, h⟩ := h
  refine g_il 1 ck rfl rfl rfl ?_
  refine g_il 2 ck rfl rfl rfl ?_
  refine g_ic 3 ck rfl rfl ?_
  refine r_shlk 16 4 ck rfl rfl (by decide) (by decide) (by decide) ?_
  refine g_or 5 ck rfl rfl s1 s2 s3 s4 ?_
  refine g_il 6 ck rfl rfl rfl ?_
  refine g_ic 8 ck rfl rfl ?_
  refine r_shlk 256 9 ck rfl rfl (by decide) (by decide) (by decide) ?_
  refine g_or 10 ck rfl rfl s5 s6 s7 s8 ?_
  exact g_ret ck rfl rfl (Or.inl (by decide)) h
/-! 174 TermDeskModel.byteAt(I)I -/
def w174 (B : va_E) (σ : l2_m) (x1 : Int) (K : Int → l2_m → Prop) : Prop := ((rg x1 ∧ rg (σ 186 17)) ∧ (if x1 < (σ 186 17) then ((0 ≤ x1 ∧ x1 < 700) ∧ K ((σ 189 x1) % 256) σ) else K (-1) σ))
theorem o174 {B : va_E} {σ : l2_m} {x1 : Int} {K : Int → l2_m → Prop}   (h : w174 B σ x1  K) : wC B 174 [vr 186, vi x1] σ K := by
  have ck : pm_code 174 = pc_174 := rfl
  unfold w174 at h
  show wW B 174 0 [vr 186, vi x1] [] σ K
  obtain ⟨⟨s1, s2⟩, h⟩ := h
  refine g_il 1 ck rfl rfl rfl ?_
  refine g_al 2 ck rfl rfl rfl ?_
  refine r_gfi 5 17 ck rfl rfl rfl rfl ?_
  refine g_ii2 8 21 ck rfl rfl rfl s1 s2 (fun hc => ?_) (fun hc => ?_)
  · replace h := ite_hf h (Int.not_lt.mpr hc)
    refine g_ic 22 ck rfl rfl ?_
    exact g_ret ck rfl rfl (Or.inl (by decide)) h
  · replace h := ite_ht h (Int.not_le.mp hc)
    obtain ⟨⟨s3, s4⟩, h⟩ := h
    refine g_al 9 ck rfl rfl rfl ?_
    refine r_gfr 12 189 ck rfl rfl rfl (by decide) ?_
    refine g_il 13 ck rfl rfl rfl ?_
    refine g_bal 14 ck rfl rfl s3 s4 ?_
    refine g_ic 17 ck rfl rfl ?_
    refine r_andk 256 8 18 ck rfl rfl (by decide) (by decide) (by decide) ?_
    refine g_goto 22 ck rfl rfl ?_
    exact g_ret ck rfl rfl (Or.inl (by decide)) h
/-! 178 TermDeskModel.flaw(I)V -/
def w178 (B : va_E) (σ : l2_m) (x1 : Int) (K : Int → l2_m → Prop) : Prop := (rg (σ 186 22) ∧ (if (σ 186 22) = 0 then (∀ σ'' : l2_m, σ'' = l2_u σ 186 22 x1 → ∀ σ''' : l2_m, σ''' = l2_u σ'' 186 19 0 → K 0 σ''') else (∀ σ' : l2_m, σ' = l2_u σ 186 19 0 → K 0 σ')))
theorem o178 {B : va_E} {σ : l2_m} {x1 : Int} {K : Int → l2_m → Prop}   (h : w178 B σ x1  K) : wC B 178 [vr 186, vi x1] σ K := by
  have ck : pm_code 178 = pc_178 := rfl
  unfold w178 at h
  show wW B 178 0 [vr 186, vi x1] [] σ K
  obtain ⟨s1, h⟩ := h
  refine g_al 1 ck rfl rfl rfl ?_
  refine r_gfi 4 22 ck rfl rfl rfl rfl ?_
  refine g_if 7 12 ck rfl rfl rfl s1 (fun hc => ?_) (fun hc => ?_)
  · replace h := ite_hf h hc
    refine g_al 13 ck rfl rfl rfl ?_
    refine g_ic 14 ck rfl rfl ?_
    refine g_pfi 17 ck rfl rfl rfl 19 rfl rfl ?_
    replace h := h _ rfl
    exact g_retv ck rfl rfl h
  · replace h := ite_ht h (Classical.not_not.mp hc)
    refine g_al 8 ck rfl rfl rfl ?_
    refine g_il 9 ck rfl rfl rfl ?_
    refine g_pfi 12 ck rfl rfl rfl 22 rfl rfl ?_
    replace h := h _ rfl
    refine g_al 13 ck rfl rfl rfl ?_
    refine g_ic 14 ck rfl rfl ?_
    refine g_pfi 17 ck rfl rfl rfl 19 rfl rfl ?_
    replace h := h _ rfl
    exact g_retv ck rfl rfl h
/-! 179 TermDeskModel.isWord(Ljava/lang/String;)Z -/
def w179_5 (B : va_E) (σ : l2_m) (o1 : Nat) (x2 : Int) (x4 : Int)  (K : Int → l2_m → Prop) : Prop := lz2 (fun X5 x2 x4 => (rg x4 ∧ (if x4 < ((l2_tx o1).length : Int) then ((0 ≤ x4 ∧ x4 < ((l2_tx o1).length : Int) ∧ 0 ≤ (x2 * 256) ∧ 0 ≤ ((l2_tx o1).getD (Int.toNat x4) 0) ∧ (x2 * 256) < 9223372036854775808 ∧ ((l2_tx o1).getD (Int.toNat x4) 0) < 9223372036854775808) ∧ ∀ x2' : Int, x2' = (ior (x2 * 256) ((l2_tx o1).getD (Int.toNat x4) 0)) → X5 x2' (x4 + 1)) else (rg (σ 186 19) ∧ ((((σ 186 19) = 2) → 0 ≤ (σ 186 23) ∧ 0 ≤ x2 ∧ (σ 186 23) < 9223372036854775808 ∧ x2 < 9223372036854775808) ∧ (if ((σ 186 19) = 2) ∧ ((lcm (σ 186 23) x2) = 0) then K 1 σ else K 0 σ)))))) x2 x4
theorem o179_5 {B : va_E} {σ : l2_m} {o1 : Nat} {x2 : Int} {x4 : Int} {u3 : Value}  {K : Int → l2_m → Prop} (ho1 : 3 ≤ o1 ∧ o1 < 20) (hu3 : (u3.category == 1) = true)  (h : w179_5 B σ o1 x2 x4  K) : wW B 179 5 [vr 186, vr o1, vl x2, u3, vi x4] [] σ K := by
  have ck : pm_code 179 = pc_179 := rfl
  unfold w179_5 at h
  refine h (fun x2 x4 => ∀ u3 : Value, (u3.category == 1) = true → wW B 179 5 [vr 186, vr o1, vl x2, u3, vi x4] [] σ K) ?_ u3 hu3
  clear h
  intro x2 x4 h u3 hu3
  replace h := (And.imp_right (ite_mp id (And.imp_right mg_3s))) h
  obtain ⟨s1, h⟩ := h
  refine g_il 7 ck rfl rfl rfl ?_
  refine g_al 8 ck rfl rfl rfl ?_
  refine g_tlen 11 ck rfl rfl ho1.1 ho1.2 (Nat.le_of_ble_eq_true rfl) ?_
  refine g_ii2 14 33 ck rfl rfl rfl s1 (rg_tl _) (fun hc => ?_) (fun hc => ?_)
  · replace h := ite_hf h (Int.not_lt.mpr hc)
    obtain ⟨s2, h⟩ := h
    refine g_al 34 ck rfl rfl rfl ?_
    refine r_gfi 37 19 ck rfl rfl rfl rfl ?_
    refine g_ic 38 ck rfl rfl ?_
    refine g_ii2 41 54 ck rfl rfl rfl s2 (by decide) (fun hc => ?_) (fun hc => ?_)
    · replace h := ite_hf h hc
      refine g_ic 55 ck rfl rfl ?_
      exact g_retb ck rfl rfl (Or.inl rfl) h
    · replace h := ite_ht h (Classical.not_not.mp hc)
      obtain ⟨⟨s3, s4, s5, s6⟩, h⟩ := h
      refine g_al 42 ck rfl rfl rfl ?_
      refine r_gfl 45 23 ck rfl rfl rfl rfl ?_
      refine g_ll 46 ck rfl rfl rfl ?_
      refine r_lcmp 47 ck rfl rfl s3 s4 s5 s6 ?_
      refine g_if 50 54 ck rfl rfl rfl (rg_lcm _ _) (fun hc => ?_) (fun hc => ?_)
      · replace h := ite_hf h hc
        refine g_ic 55 ck rfl rfl ?_
        exact g_retb ck rfl rfl (Or.inl rfl) h
      · replace h := ite_ht h (Classical.not_not.mp hc)
        refine g_ic 51 ck rfl rfl ?_
        refine g_goto 55 ck rfl rfl ?_
        exact g_retb ck rfl rfl (Or.inr rfl) h
  · replace h := ite_ht h (Int.not_le.mp hc)
    obtain ⟨⟨s7, s8, s9, s10, s11, s12⟩, h⟩ := h
    refine g_ll 15 ck rfl rfl rfl ?_
    refine g_ic 17 ck rfl rfl ?_
    refine r_lshl 18 ck rfl rfl ?_
    refine g_al 19 ck rfl rfl rfl ?_
    refine g_il 21 ck rfl rfl rfl ?_
    refine g_tch 24 ck rfl rfl ho1.1 ho1.2 s7 s8 (Nat.le_of_ble_eq_true rfl) ?_
    refine r_i2l 25 ck rfl rfl (rg_tc _ _) ?_
    refine r_lor 26 ck rfl rfl s9 s10 s11 s12 ?_
    refine r_ls 27 ck rfl rfl rfl rfl ?_
    replace h := h _ rfl
    refine r_ii 30 ck rfl rfl rfl rfl ?_
    refine g_goto 5 ck rfl rfl ?_
    exact h _ rfl
def w179 (B : va_E) (σ : l2_m) (o1 : Nat) (K : Int → l2_m → Prop) : Prop := (∀ x2 : Int, x2 = 0 → w179_5 B σ o1 x2 0 K)
theorem o179 {B : va_E} {σ : l2_m} {o1 : Nat} {K : Int → l2_m → Prop} (ho1 : 3 ≤ o1 ∧ o1 < 20)  (h : w179 B σ o1  K) : wC B 179 [vr 186, vr o1] σ K := by
  have ck : pm_code 179 = pc_179 := rfl
  unfold w179 at h
  show wW B 179 0 [vr 186, vr o1, pm_un, pm_un, pm_un] [] σ K
  refine r_lc0 1 ck rfl rfl ?_
  refine r_ls 2 ck rfl rfl rfl rfl ?_
  replace h := h _ rfl
  refine g_ic 3 ck rfl rfl ?_
  refine r_is 5 ck rfl rfl rfl rfl ?_
  exact o179_5 ho1 rfl h
/-! 189 TermDeskModel.feed(IIIII)I -/
def w189_76 (B : va_E) (σ : l2_m) (x1 : Int) (x2 : Int) (x3 : Int) (x4 : Int) (x5 : Int) (x6 : Int) (z0 : Int) (X23 : Int → l2_m → Prop) (K : Int → l2_m → Prop) : Prop := ((rg x6 ∧ 0 ≤ x6 ∧ rg z0 ∧ 0 ≤ (24 - (8 * (x6 % 4))) ∧ (24 - (8 * (x6 % 4))) < 32 ∧ 0 ≤ (σ 186 16) ∧ (σ 186 16) < 700) ∧ ∀ σ' : l2_m, σ' = l2_u σ 189 (σ 186 16) (byt (byt (z0 / 2 ^ (Int.toNat (24 - (8 * (x6 % 4))))))) → ∀ σ'' : l2_m, σ'' = l2_u σ' 186 16 ((σ' 186 16) + 1) → X23 (x6 + 1) σ'')
theorem o189_76 {B : va_E} {σ : l2_m} {x1 : Int} {x2 : Int} {x3 : Int} {x4 : Int} {x5 : Int} {x6 : Int} {z0 : Int} {u7 : Value} {X23 : Int → l2_m → Prop} {K : Int → l2_m → Prop}  (hu7 : (u7.category == 1) = true) (hX23 : ∀ (x6 : Int) (σ : l2_m) (u7 : Value), (u7.category == 1) = true → X23 x6 σ → wW B 189 23 [vr 186, vi x1, vi x2, vi x3, vi x4, vi x5, vi x6, u7] [] σ K) (h : w189_76 B σ x1 x2 x3 x4 x5 x6 z0 X23 K) : wW B 189 76 [vr 186, vi x1, vi x2, vi x3, vi x4, vi x5, vi x6, u7] [vi z0] σ K := by
  have ck : pm_code 189 = pc_189 := rfl
  unfold w189_76 at h
  obtain ⟨⟨s1, s2, s3, s4, s5, s6, s7⟩, h⟩ := h
  refine r_is 78 ck rfl rfl rfl rfl ?_
  refine g_al 79 ck rfl rfl rfl ?_
  refine r_gfr 82 189 ck rfl rfl rfl (by decide) ?_
  refine g_al 83 ck rfl rfl rfl ?_
  refine r_gfi 86 16 ck rfl rfl rfl rfl ?_
  refine g_il 88 ck rfl rfl rfl ?_
  refine g_ic 90 ck rfl rfl ?_
  refine g_ic 92 ck rfl rfl ?_
  refine g_il 94 ck rfl rfl rfl ?_
  refine g_ic 95 ck rfl rfl ?_
  refine g_rem 96 ck rfl rfl s1 (by decide) s2 (by decide) ?_
  refine g_mul 97 ck rfl rfl ?_
  refine g_sub 98 ck rfl rfl ?_
  refine g_shr 99 ck rfl rfl s3 s4 s5 ?_
  refine g_i2b 100 ck rfl rfl ?_
  refine g_bas 101 ck rfl rfl s6 s7 ?_
  replace h := h _ rfl
  refine g_al 102 ck rfl rfl rfl ?_
  refine g_dup 103 ck rfl rfl rfl ?_
  refine r_gfi 106 16 ck rfl rfl rfl rfl ?_
  refine g_ic 107 ck rfl rfl ?_
  refine g_add 108 ck rfl rfl ?_
  refine g_pfi 111 ck rfl rfl rfl 16 rfl rfl ?_
  replace h := h _ rfl
  refine r_ii 114 ck rfl rfl rfl rfl ?_
  refine g_goto 23 ck rfl rfl ?_
  exact hX23 _ _ _ rfl h
def w189_23 (B : va_E) (σ : l2_m) (x1 : Int) (x2 : Int) (x3 : Int) (x4 : Int) (x5 : Int) (x6 : Int)  (K : Int → l2_m → Prop) : Prop := lz2 (fun X23 x6 σ => (rg x6 ∧ (if x6 < 20 then (if x6 < 4 then w189_76 B σ x1 x2 x3 x4 x5 x6 x1 X23 K else (if x6 < 8 then w189_76 B σ x1 x2 x3 x4 x5 x6 x2 X23 K else (if x6 < 12 then w189_76 B σ x1 x2 x3 x4 x5 x6 x3 X23 K else (if x6 < 16 then w189_76 B σ x1 x2 x3 x4 x5 x6 x4 X23 K else w189_76 B σ x1 x2 x3 x4 x5 x6 x5 X23 K)))) else K (σ 186 16) σ))) x6 σ
theorem o189_23 {B : va_E} {σ : l2_m} {x1 : Int} {x2 : Int} {x3 : Int} {x4 : Int} {x5 : Int} {x6 : Int} {u7 : Value}  {K : Int → l2_m → Prop}  (hu7 : (u7.category == 1) = true)  (h : w189_23 B σ x1 x2 x3 x4 x5 x6  K) : wW B 189 23 [vr 186, vi x1, vi x2, vi x3, vi x4, vi x5, vi x6, u7] [] σ K := by
  have ck : pm_code 189 = pc_189 := rfl
  unfold w189_23 at h
  refine h (fun x6 σ => ∀ u7 : Value, (u7.category == 1) = true → wW B 189 23 [vr 186, vi x1, vi x2, vi x3, vi x4, vi x5, vi x6, u7] [] σ K) ?_ u7 hu7
  clear h
  intro x6 σ h u7 hu7
  obtain ⟨s1, h⟩ := h
  refine g_il 25 ck rfl rfl rfl ?_
  refine g_ic 27 ck rfl rfl ?_
  refine g_ii2 30 117 ck rfl rfl rfl s1 (by decide) (fun hc => ?_) (fun hc => ?_)
  · replace h := ite_hf h (Int.not_lt.mpr hc)
    refine g_al 118 ck rfl rfl rfl ?_
    refine r_gfi 121 16 ck rfl rfl rfl rfl ?_
    exact g_ret ck rfl rfl (Or.inl (by decide)) h
  · replace h := ite_ht h (Int.not_le.mp hc)
    refine g_il 32 ck rfl rfl rfl ?_
    refine g_ic 33 ck rfl rfl ?_
    refine g_ii2 36 40 ck rfl rfl rfl s1 (by decide) (fun hc => ?_) (fun hc => ?_)
    · replace h := ite_hf h (Int.not_lt.mpr hc)
      refine g_il 42 ck rfl rfl rfl ?_
      refine g_ic 44 ck rfl rfl ?_
      refine g_ii2 47 51 ck rfl rfl rfl s1 (by decide) (fun hc => ?_) (fun hc => ?_)
      · replace h := ite_hf h (Int.not_lt.mpr hc)
        refine g_il 53 ck rfl rfl rfl ?_
        refine g_ic 55 ck rfl rfl ?_
        refine g_ii2 58 62 ck rfl rfl rfl s1 (by decide) (fun hc => ?_) (fun hc => ?_)
        · replace h := ite_hf h (Int.not_lt.mpr hc)
          refine g_il 64 ck rfl rfl rfl ?_
          refine g_ic 66 ck rfl rfl ?_
          refine g_ii2 69 74 ck rfl rfl rfl s1 (by decide) (fun hc => ?_) (fun hc => ?_)
          · replace h := ite_hf h (Int.not_lt.mpr hc)
            refine g_il 76 ck rfl rfl rfl ?_
            exact o189_76 hu7 (fun _ _ u7 hu7 hx => hx u7 hu7) h
          · replace h := ite_ht h (Int.not_le.mp hc)
            refine g_il 71 ck rfl rfl rfl ?_
            refine g_goto 76 ck rfl rfl ?_
            exact o189_76 hu7 (fun _ _ u7 hu7 hx => hx u7 hu7) h
        · replace h := ite_ht h (Int.not_le.mp hc)
          refine g_il 59 ck rfl rfl rfl ?_
          refine g_goto 76 ck rfl rfl ?_
          exact o189_76 hu7 (fun _ _ u7 hu7 hx => hx u7 hu7) h
      · replace h := ite_ht h (Int.not_le.mp hc)
        refine g_il 48 ck rfl rfl rfl ?_
        refine g_goto 76 ck rfl rfl ?_
        exact o189_76 hu7 (fun _ _ u7 hu7 hx => hx u7 hu7) h
    · replace h := ite_ht h (Int.not_le.mp hc)
      refine g_il 37 ck rfl rfl rfl ?_
      refine g_goto 76 ck rfl rfl ?_
      exact o189_76 hu7 (fun _ _ u7 hu7 hx => hx u7 hu7) h
def w189 (B : va_E) (σ : l2_m) (x1 : Int) (x2 : Int) (x3 : Int) (x4 : Int) (x5 : Int) (K : Int → l2_m → Prop) : Prop := (∀ σ' : l2_m, σ' = l2_u σ 186 0 0 → rg ((σ' 186 16) + 20) ∧ (if 700 < ((σ' 186 16) + 20) then K (-1) σ' else w189_23 B σ' x1 x2 x3 x4 x5 0 K))
theorem o189 {B : va_E} {σ : l2_m} {x1 : Int} {x2 : Int} {x3 : Int} {x4 : Int} {x5 : Int} {K : Int → l2_m → Prop}   (h : w189 B σ x1 x2 x3 x4 x5  K) : wC B 189 [vr 186, vi x1, vi x2, vi x3, vi x4, vi x5] σ K := by
  have ck : pm_code 189 = pc_189 := rfl
  unfold w189 at h
  show wW B 189 0 [vr 186, vi x1, vi x2, vi x3, vi x4, vi x5, pm_un, pm_un] [] σ K
  refine g_al 1 ck rfl rfl rfl ?_
  refine g_ic 2 ck rfl rfl ?_
  refine g_pfi 5 ck rfl rfl rfl 0 rfl rfl ?_
  replace h := h _ rfl
  obtain ⟨s1, h⟩ := h
  refine g_al 6 ck rfl rfl rfl ?_
  refine r_gfi 9 16 ck rfl rfl rfl rfl ?_
  refine g_ic 11 ck rfl rfl ?_
  refine g_add 12 ck rfl rfl ?_
  refine g_ic 15 ck rfl rfl ?_
  refine g_ii2 18 20 ck rfl rfl rfl s1 (by decide) (fun hc => ?_) (fun hc => ?_)
  · replace h := ite_hf h (Int.not_lt.mpr hc)
    refine g_ic 21 ck rfl rfl ?_
    refine r_is 23 ck rfl rfl rfl rfl ?_
    exact o189_23 rfl h
  · replace h := ite_ht h (Int.not_le.mp hc)
    refine g_ic 19 ck rfl rfl ?_
    exact g_ret ck rfl rfl (Or.inl (by decide)) h
/-! 191 TermDeskModel.fault()I -/
def w191 (B : va_E) (σ : l2_m)  (K : Int → l2_m → Prop) : Prop := (∀ σ' : l2_m, σ' = l2_u σ 186 0 0 → K (σ' 186 22) σ')
theorem o191 {B : va_E} {σ : l2_m}  {K : Int → l2_m → Prop}   (h : w191 B σ   K) : wC B 191 [vr 186] σ K := by
  have ck : pm_code 191 = pc_191 := rfl
  unfold w191 at h
  show wW B 191 0 [vr 186] [] σ K
  refine g_al 1 ck rfl rfl rfl ?_
  refine g_ic 2 ck rfl rfl ?_
  refine g_pfi 5 ck rfl rfl rfl 0 rfl rfl ?_
  replace h := h _ rfl
  refine g_al 6 ck rfl rfl rfl ?_
  refine r_gfi 9 22 ck rfl rfl rfl rfl ?_
  exact g_ret ck rfl rfl (Or.inl (by decide)) h
/-! 192 TermDeskModel.where()I -/
def w192 (B : va_E) (σ : l2_m)  (K : Int → l2_m → Prop) : Prop := (∀ σ' : l2_m, σ' = l2_u σ 186 0 0 → K (σ' 186 2) σ')
theorem o192 {B : va_E} {σ : l2_m}  {K : Int → l2_m → Prop}   (h : w192 B σ   K) : wC B 192 [vr 186] σ K := by
  have ck : pm_code 192 = pc_192 := rfl
  unfold w192 at h
  show wW B 192 0 [vr 186] [] σ K
  refine g_al 1 ck rfl rfl rfl ?_
  refine g_ic 2 ck rfl rfl ?_
  refine g_pfi 5 ck rfl rfl rfl 0 rfl rfl ?_
  replace h := h _ rfl
  refine g_al 6 ck rfl rfl rfl ?_
  refine r_gfi 9 2 ck rfl rfl rfl rfl ?_
  exact g_ret ck rfl rfl (Or.inl (by decide)) h
/-! 193 TermDeskModel.third()I -/
def w193 (B : va_E) (σ : l2_m)  (K : Int → l2_m → Prop) : Prop := K ((3 - (σ 186 7)) - (σ 186 8)) σ
theorem o193 {B : va_E} {σ : l2_m}  {K : Int → l2_m → Prop}   (h : w193 B σ   K) : wC B 193 [vr 186] σ K := by
  have ck : pm_code 193 = pc_193 := rfl
  unfold w193 at h
  show wW B 193 0 [vr 186] [] σ K
  refine g_ic 1 ck rfl rfl ?_
  refine g_al 2 ck rfl rfl rfl ?_
  refine r_gfi 5 7 ck rfl rfl rfl rfl ?_
  refine g_sub 6 ck rfl rfl ?_
  refine g_al 7 ck rfl rfl rfl ?_
  refine r_gfi 10 8 ck rfl rfl rfl rfl ?_
  refine g_sub 11 ck rfl rfl ?_
  exact g_ret ck rfl rfl (Or.inl (by decide)) h
/-! 201 TermDeskModel.coef(II)I -/
def w201 (B : va_E) (σ : l2_m) (x1 : Int) (x2 : Int) (K : Int → l2_m → Prop) : Prop := ((0 ≤ ((4096 * x1) + x2) ∧ ((4096 * x1) + x2) < 32768) ∧ K (σ 187 ((4096 * x1) + x2)) σ)
theorem o201 {B : va_E} {σ : l2_m} {x1 : Int} {x2 : Int} {K : Int → l2_m → Prop}   (h : w201 B σ x1 x2  K) : wC B 201 [vr 186, vi x1, vi x2] σ K := by
  have ck : pm_code 201 = pc_201 := rfl
  unfold w201 at h
  show wW B 201 0 [vr 186, vi x1, vi x2] [] σ K
  obtain ⟨⟨s1, s2⟩, h⟩ := h
  refine g_al 1 ck rfl rfl rfl ?_
  refine r_gfr 4 187 ck rfl rfl rfl (by decide) ?_
  refine g_ic 7 ck rfl rfl ?_
  refine g_il 8 ck rfl rfl rfl ?_
  refine g_mul 9 ck rfl rfl ?_
  refine g_il 10 ck rfl rfl rfl ?_
  refine g_add 11 ck rfl rfl ?_
  refine g_ial (m := 32768) 12 ck rfl rfl rfl s1 s2 ?_
  exact g_ret ck rfl rfl (Or.inl (by decide)) h
/-! 213 TermDeskModel.power(II)I -/
def w213_5 (B : va_E) (σ : l2_m) (x1 : Int) (x2 : Int) (x3 : Int) (x4 : Int)  (K : Int → l2_m → Prop) : Prop := lz2 (fun X5 x3 x4 => ((rg x4 ∧ rg x2) ∧ (if x4 < x2 then ((rg (x3 * x1) ∧ rg (σ 186 5) ∧ 0 < (σ 186 5) ∧ 0 ≤ (x3 * x1)) ∧ ∀ x3' : Int, x3' = ((x3 * x1) % (σ 186 5)) → X5 x3' (x4 + 1)) else K x3 σ))) x3 x4
theorem o213_5 {B : va_E} {σ : l2_m} {x1 : Int} {x2 : Int} {x3 : Int} {x4 : Int}   {K : Int → l2_m → Prop}    (h : w213_5 B σ x1 x2 x3 x4  K) : wW B 213 5 [vr 186, vi x1, vi x2, vi x3, vi x4] [] σ K := by
  have ck : pm_code 213 = pc_213 := rfl
  unfold w213_5 at h
  refine h (fun x3 x4 => wW B 213 5 [vr 186, vi x1, vi x2, vi x3, vi x4] [] σ K) ?_
  clear h
  intro x3 x4 h
  obtain ⟨⟨s1, s2⟩, h⟩ := h
  refine g_il 7 ck rfl rfl rfl ?_
  refine g_il 8 ck rfl rfl rfl ?_
  refine g_ii2 11 26 ck rfl rfl rfl s1 s2 (fun hc => ?_) (fun hc => ?_)
  · replace h := ite_hf h (Int.not_lt.mpr hc)
    refine g_il 27 ck rfl rfl rfl ?_
    exact g_ret ck rfl rfl (Or.inl (by decide)) h
  · replace h := ite_ht h (Int.not_le.mp hc)
    obtain ⟨⟨s3, s4, s5, s6⟩, h⟩ := h
    refine g_il 12 ck rfl rfl rfl ?_
    refine g_il 13 ck rfl rfl rfl ?_
    refine g_mul 14 ck rfl rfl ?_
    refine g_al 15 ck rfl rfl rfl ?_
    refine r_gfi 18 5 ck rfl rfl rfl rfl ?_
    refine g_rem 19 ck rfl rfl s3 s4 s6 s5 ?_
    refine r_is 20 ck rfl rfl rfl rfl ?_
    replace h := h _ rfl
    refine r_ii 23 ck rfl rfl rfl rfl ?_
    refine g_goto 5 ck rfl rfl ?_
    exact h
def w213 (B : va_E) (σ : l2_m) (x1 : Int) (x2 : Int) (K : Int → l2_m → Prop) : Prop := w213_5 B σ x1 x2 1 0 K
theorem o213 {B : va_E} {σ : l2_m} {x1 : Int} {x2 : Int} {K : Int → l2_m → Prop}   (h : w213 B σ x1 x2  K) : wC B 213 [vr 186, vi x1, vi x2] σ K := by
  have ck : pm_code 213 = pc_213 := rfl
  unfold w213 at h
  show wW B 213 0 [vr 186, vi x1, vi x2, pm_un, pm_un] [] σ K
  refine g_ic 1 ck rfl rfl ?_
  refine r_is 2 ck rfl rfl rfl rfl ?_
  refine g_ic 3 ck rfl rfl ?_
  refine r_is 5 ck rfl rfl rfl rfl ?_
  exact o213_5  h
/-! 222 TermDeskModel.clears()V -/
def w222_2 (B : va_E) (σ : l2_m) (x1 : Int)  (K : Int → l2_m → Prop) : Prop := lz2 (fun X2 x1 σ => (rg x1 ∧ (if x1 < 4096 then ((0 ≤ x1 ∧ x1 < 4096) ∧ ∀ σ'' : l2_m, σ'' = l2_u σ 192 x1 0 → X2 (x1 + 1) σ'') else (∀ σ' : l2_m, σ' = l2_u σ 186 29 1 → K 0 σ')))) x1 σ
theorem o222_2 {B : va_E} {σ : l2_m} {x1 : Int}   {K : Int → l2_m → Prop}    (h : w222_2 B σ x1  K) : wW B 222 2 [vr 186, vi x1] [] σ K := by
  have ck : pm_code 222 = pc_222 := rfl
  unfold w222_2 at h
  refine h (fun x1 σ => wW B 222 2 [vr 186, vi x1] [] σ K) ?_
  clear h
  intro x1 σ h
  obtain ⟨s1, h⟩ := h
  refine g_il 3 ck rfl rfl rfl ?_
  refine g_ic 6 ck rfl rfl ?_
  refine g_ii2 9 22 ck rfl rfl rfl s1 (by decide) (fun hc => ?_) (fun hc => ?_)
  · replace h := ite_hf h (Int.not_lt.mpr hc)
    refine g_al 23 ck rfl rfl rfl ?_
    refine g_ic 24 ck rfl rfl ?_
    refine g_pfb 27 ck rfl rfl rfl 29 rfl (Or.inr rfl) ?_
    replace h := h _ rfl
    exact g_retv ck rfl rfl h
  · replace h := ite_ht h (Int.not_le.mp hc)
    obtain ⟨⟨s2, s3⟩, h⟩ := h
    refine g_al 10 ck rfl rfl rfl ?_
    refine r_gfr 13 192 ck rfl rfl rfl (by decide) ?_
    refine g_il 14 ck rfl rfl rfl ?_
    refine g_ic 15 ck rfl rfl ?_
    refine g_ias (m := 4096) 16 ck rfl rfl rfl s2 s3 ?_
    replace h := h _ rfl
    refine r_ii 19 ck rfl rfl rfl rfl ?_
    refine g_goto 2 ck rfl rfl ?_
    exact h
def w222 (B : va_E) (σ : l2_m)  (K : Int → l2_m → Prop) : Prop := w222_2 B σ 0 K
theorem o222 {B : va_E} {σ : l2_m}  {K : Int → l2_m → Prop}   (h : w222 B σ   K) : wC B 222 [vr 186] σ K := by
  have ck : pm_code 222 = pc_222 := rfl
  unfold w222 at h
  show wW B 222 0 [vr 186, pm_un] [] σ K
  refine g_ic 1 ck rfl rfl ?_
  refine r_is 2 ck rfl rfl rfl rfl ?_
  exact o222_2  h
/-! 223 TermDeskModel.workTerms()I -/
def w223_4 (B : va_E) (σ : l2_m) (x1 : Int) (x2 : Int)  (K : Int → l2_m → Prop) : Prop := lz2 (fun X4 x1 x2 => (rg x2 ∧ (if x2 < 4096 then ((0 ≤ x2 ∧ x2 < 4096 ∧ rg (σ 192 x2)) ∧ (if (σ 192 x2) = 0 then (∀ x1' : Int, x1' = (x1 + 0) → X4 x1' (x2 + 1)) else (∀ x1'' : Int, x1'' = (x1 + 1) → X4 x1'' (x2 + 1)))) else K x1 σ))) x1 x2
theorem o223_4 {B : va_E} {σ : l2_m} {x1 : Int} {x2 : Int}   {K : Int → l2_m → Prop}    (h : w223_4 B σ x1 x2  K) : wW B 223 4 [vr 186, vi x1, vi x2] [] σ K := by
  have ck : pm_code 223 = pc_223 := rfl
  unfold w223_4 at h
  refine h (fun x1 x2 => wW B 223 4 [vr 186, vi x1, vi x2] [] σ K) ?_
  clear h
  intro x1 x2 h
  obtain ⟨s1, h⟩ := h
  refine g_il 5 ck rfl rfl rfl ?_
  refine g_ic 8 ck rfl rfl ?_
  refine g_ii2 11 34 ck rfl rfl rfl s1 (by decide) (fun hc => ?_) (fun hc => ?_)
  · replace h := ite_hf h (Int.not_lt.mpr hc)
    refine g_il 35 ck rfl rfl rfl ?_
    exact g_ret ck rfl rfl (Or.inl (by decide)) h
  · replace h := ite_ht h (Int.not_le.mp hc)
    obtain ⟨⟨s2, s3, s4⟩, h⟩ := h
    refine g_il 12 ck rfl rfl rfl ?_
    refine g_al 13 ck rfl rfl rfl ?_
    refine r_gfr 16 192 ck rfl rfl rfl (by decide) ?_
    refine g_il 17 ck rfl rfl rfl ?_
    refine g_ial (m := 4096) 18 ck rfl rfl rfl s2 s3 ?_
    refine g_if 21 25 ck rfl rfl rfl s4 (fun hc => ?_) (fun hc => ?_)
    · replace h := ite_ht h hc
      refine g_ic 26 ck rfl rfl ?_
      refine g_add 27 ck rfl rfl ?_
      refine r_is 28 ck rfl rfl rfl rfl ?_
      replace h := h _ rfl
      refine r_ii 31 ck rfl rfl rfl rfl ?_
      refine g_goto 4 ck rfl rfl ?_
      exact h
    · replace h := ite_hf h hc
      refine g_ic 22 ck rfl rfl ?_
      refine g_goto 26 ck rfl rfl ?_
      refine g_add 27 ck rfl rfl ?_
      refine r_is 28 ck rfl rfl rfl rfl ?_
      replace h := h _ rfl
      refine r_ii 31 ck rfl rfl rfl rfl ?_
      refine g_goto 4 ck rfl rfl ?_
      exact h
def w223 (B : va_E) (σ : l2_m)  (K : Int → l2_m → Prop) : Prop := w223_4 B σ 0 0 K
theorem o223 {B : va_E} {σ : l2_m}  {K : Int → l2_m → Prop}   (h : w223 B σ   K) : wC B 223 [vr 186] σ K := by
  have ck : pm_code 223 = pc_223 := rfl
  unfold w223 at h
  show wW B 223 0 [vr 186, pm_un, pm_un] [] σ K
  refine g_ic 1 ck rfl rfl ?_
  refine r_is 2 ck rfl rfl rfl rfl ?_
  refine g_ic 3 ck rfl rfl ?_
  refine r_is 4 ck rfl rfl rfl rfl ?_
  exact o223_4  h
/-! 226 TermDeskModel.inverse(I)I -/
def w226_2 (B : va_E) (σ : l2_m) (x1 : Int) (x2 : Int)  (K : Int → l2_m → Prop) : Prop := lz1 (fun X2 x2 => ((rg (x2 * x1) ∧ rg (σ 186 5) ∧ 0 < (σ 186 5) ∧ 0 ≤ (x2 * x1) ∧ rg ((x2 * x1) % (σ 186 5))) ∧ (if ((x2 * x1) % (σ 186 5)) = 1 then K x2 σ else X2 (x2 + 1)))) x2
theorem o226_2 {B : va_E} {σ : l2_m} {x1 : Int} {x2 : Int}   {K : Int → l2_m → Prop}    (h : w226_2 B σ x1 x2  K) : wW B 226 2 [vr 186, vi x1, vi x2] [] σ K := by
  have ck : pm_code 226 = pc_226 := rfl
  unfold w226_2 at h
  refine h (fun x2 => wW B 226 2 [vr 186, vi x1, vi x2] [] σ K) ?_
  clear h
  intro x2 h
  obtain ⟨⟨s1, s2, s3, s4, s5⟩, h⟩ := h
  refine g_il 3 ck rfl rfl rfl ?_
  refine g_il 4 ck rfl rfl rfl ?_
  refine g_mul 5 ck rfl rfl ?_
  refine g_al 6 ck rfl rfl rfl ?_
  refine r_gfi 9 5 ck rfl rfl rfl rfl ?_
  refine g_rem 10 ck rfl rfl s1 s2 s4 s3 ?_
  refine g_ic 11 ck rfl rfl ?_
  refine g_ii2 14 20 ck rfl rfl rfl s5 (by decide) (fun hc => ?_) (fun hc => ?_)
  · replace h := ite_ht h hc
    refine g_il 21 ck rfl rfl rfl ?_
    exact g_ret ck rfl rfl (Or.inl (by decide)) h
  · replace h := ite_hf h hc
    refine r_ii 17 ck rfl rfl rfl rfl ?_
    refine g_goto 2 ck rfl rfl ?_
    exact h
def w226 (B : va_E) (σ : l2_m) (x1 : Int) (K : Int → l2_m → Prop) : Prop := w226_2 B σ x1 1 K
theorem o226 {B : va_E} {σ : l2_m} {x1 : Int} {K : Int → l2_m → Prop}   (h : w226 B σ x1  K) : wC B 226 [vr 186, vi x1] σ K := by
  have ck : pm_code 226 = pc_226 := rfl
  unfold w226 at h
  show wW B 226 0 [vr 186, vi x1, pm_un] [] σ K
  refine g_ic 1 ck rfl rfl ?_
  refine r_is 2 ck rfl rfl rfl rfl ?_
  exact o226_2  h
/-! 253 TermDeskModel.heightOf([II)I -/
def w253_4 (B : va_E) (σ : l2_m) (o0 : Nat) (n0 : Nat) (x1 : Int) (x2 : Int)  (K : Int → l2_m → Prop) : Prop := lz1 (fun X4 x2 => (rg x2 ∧ (if x2 < 0 then K (-1) σ else ((0 ≤ (x1 + x2) ∧ (x1 + x2) < (n0 : Int) ∧ rg (σ o0 (x1 + x2))) ∧ (if (σ o0 (x1 + x2)) = 0 then X4 (x2 + (-1)) else K x2 σ))))) x2
theorem o253_4 {B : va_E} {σ : l2_m} {o0 : Nat} {n0 : Nat} {x1 : Int} {x2 : Int}   {K : Int → l2_m → Prop} (ho0 : l2_al o0 = some n0)   (h : w253_4 B σ o0 n0 x1 x2  K) : wW B 253 4 [vr o0, vi x1, vi x2] [] σ K := by
  have ck : pm_code 253 = pc_253 := rfl
  unfold w253_4 at h
  refine h (fun x2 => wW B 253 4 [vr o0, vi x1, vi x2] [] σ K) ?_
  clear h
  intro x2 h
  obtain ⟨s1, h⟩ := h
  refine g_il 5 ck rfl rfl rfl ?_
  refine g_if 8 24 ck rfl rfl rfl s1 (fun hc => ?_) (fun hc => ?_)
  · replace h := ite_ht h hc
    refine g_ic 25 ck rfl rfl ?_
    exact g_ret ck rfl rfl (Or.inl (by decide)) h
  · replace h := ite_hf h hc
    obtain ⟨⟨s2, s3, s4⟩, h⟩ := h
    refine g_al 9 ck rfl rfl rfl ?_
    refine g_il 10 ck rfl rfl rfl ?_
    refine g_il 11 ck rfl rfl rfl ?_
    refine g_add 12 ck rfl rfl ?_
    refine g_ial (m := n0) 13 ck rfl rfl ho0 s2 s3 ?_
    refine g_if 16 18 ck rfl rfl rfl s4 (fun hc => ?_) (fun hc => ?_)
    · replace h := ite_ht h hc
      refine r_ii 21 ck rfl rfl rfl rfl ?_
      refine g_goto 4 ck rfl rfl ?_
      exact h
    · replace h := ite_hf h hc
      refine g_il 17 ck rfl rfl rfl ?_
      exact g_ret ck rfl rfl (Or.inl (by decide)) h
def w253 (B : va_E) (σ : l2_m) (o0 : Nat) (x1 : Int) (n0 : Nat) (K : Int → l2_m → Prop) : Prop := w253_4 B σ o0 n0 x1 2303 K
theorem o253 {B : va_E} {σ : l2_m} {o0 : Nat} {x1 : Int} {n0 : Nat} {K : Int → l2_m → Prop} (ho0 : l2_al o0 = some n0)  (h : w253 B σ o0 x1 n0  K) : wC B 253 [vr o0, vi x1] σ K := by
  have ck : pm_code 253 = pc_253 := rfl
  unfold w253 at h
  show wW B 253 0 [vr o0, vi x1, pm_un] [] σ K
  refine g_ic 3 ck rfl rfl ?_
  refine r_is 4 ck rfl rfl rfl rfl ?_
  exact o253_4 ho0 h
/-! 256 TermDeskModel.copies([II[I)V -/
def w256_2 (B : va_E) (σ : l2_m) (o0 : Nat) (x1 : Int) (o2 : Nat) (x3 : Int)  (K : Int → l2_m → Prop) : Prop := lz2 (fun X2 x3 σ => (rg x3 ∧ (if x3 < 2304 then ((0 ≤ (x1 + x3) ∧ (x1 + x3) < 36864 ∧ 0 ≤ x3 ∧ x3 < 2304) ∧ ∀ σ' : l2_m, σ' = l2_u σ o2 x3 (σ o0 (x1 + x3)) → X2 (x3 + 1) σ') else K 0 σ))) x3 σ
theorem o256_2 {B : va_E} {σ : l2_m} {o0 : Nat} {x1 : Int} {o2 : Nat} {x3 : Int}   {K : Int → l2_m → Prop} (ho0 : l2_al o0 = some 36864) (ho2 : l2_al o2 = some 2304)   (h : w256_2 B σ o0 x1 o2 x3  K) : wW B 256 2 [vr o0, vi x1, vr o2, vi x3] [] σ K := by
  have ck : pm_code 256 = pc_256 := rfl
  unfold w256_2 at h
  refine h (fun x3 σ => wW B 256 2 [vr o0, vi x1, vr o2, vi x3] [] σ K) ?_
  clear h
  intro x3 σ h
  obtain ⟨s1, h⟩ := h
  refine g_il 3 ck rfl rfl rfl ?_
  refine g_ic 6 ck rfl rfl ?_
  refine g_ii2 9 23 ck rfl rfl rfl s1 (by decide) (fun hc => ?_) (fun hc => ?_)
  · replace h := ite_hf h (Int.not_lt.mpr hc)
    exact g_retv ck rfl rfl h
  · replace h := ite_ht h (Int.not_le.mp hc)
    obtain ⟨⟨s2, s3, s4, s5⟩, h⟩ := h
    refine g_al 10 ck rfl rfl rfl ?_
    refine g_il 11 ck rfl rfl rfl ?_
    refine g_al 12 ck rfl rfl rfl ?_
    refine g_il 13 ck rfl rfl rfl ?_
    refine g_il 14 ck rfl rfl rfl ?_
    refine g_add 15 ck rfl rfl ?_
    refine g_ial (m := 36864) 16 ck rfl rfl ho0 s2 s3 ?_
    refine g_ias (m := 2304) 17 ck rfl rfl ho2 s4 s5 ?_
    replace h := h _ rfl
    refine r_ii 20 ck rfl rfl rfl rfl ?_
    refine g_goto 2 ck rfl rfl ?_
    exact h
def w256 (B : va_E) (σ : l2_m) (o0 : Nat) (x1 : Int) (o2 : Nat) (K : Int → l2_m → Prop) : Prop := w256_2 B σ o0 x1 o2 0 K
theorem o256 {B : va_E} {σ : l2_m} {o0 : Nat} {x1 : Int} {o2 : Nat} {K : Int → l2_m → Prop} (ho0 : l2_al o0 = some 36864) (ho2 : l2_al o2 = some 2304)  (h : w256 B σ o0 x1 o2  K) : wC B 256 [vr o0, vi x1, vr o2] σ K := by
  have ck : pm_code 256 = pc_256 := rfl
  unfold w256 at h
  show wW B 256 0 [vr o0, vi x1, vr o2, pm_un] [] σ K
  refine g_ic 1 ck rfl rfl ?_
  refine r_is 2 ck rfl rfl rfl rfl ?_
  exact o256_2 ho0 ho2 h
/-! 278 TermDeskModel.trouble()I -/
def w278 (B : va_E) (σ : l2_m)  (K : Int → l2_m → Prop) : Prop := (∀ σ' : l2_m, σ' = l2_u σ 186 0 0 → K (σ' 186 1) σ')
theorem o278 {B : va_E} {σ : l2_m}  {K : Int → l2_m → Prop}   (h : w278 B σ   K) : wC B 278 [vr 186] σ K := by
  have ck : pm_code 278 = pc_278 := rfl
  unfold w278 at h
  show wW B 278 0 [vr 186] [] σ K
  refine g_al 1 ck rfl rfl rfl ?_
  refine g_ic 2 ck rfl rfl ?_
  refine g_pfi 5 ck rfl rfl rfl 0 rfl rfl ?_
  replace h := h _ rfl
  refine g_al 6 ck rfl rfl rfl ?_
  refine r_gfi 9 1 ck rfl rfl rfl rfl ?_
  exact g_ret ck rfl rfl (Or.inl (by decide)) h
