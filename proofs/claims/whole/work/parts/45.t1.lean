/-! 155 TermDesk.totalOf(I)I -/
def w155 (B : va_E) (σ : l2_m) (x0 : Int) (K : Int → l2_m → Prop) : Prop := (rg x0 ∧ K (((e5 x0 0) + (e5 x0 1)) + (e5 x0 2)) σ)
theorem o155 {B : va_E} {σ : l2_m} {x0 : Int} {K : Int → l2_m → Prop}   (h : w155 B σ x0  K) : wC B 155 [vi x0] σ K := by
  have ck : pm_code 155 = pc_155 := rfl
  unfold w155 at h
  show wW B 155 0 [vi x0] [] σ K
  obtain ⟨s1, h⟩ := h
  refine g_il 1 ck rfl rfl rfl ?_
  refine g_ic 2 ck rfl rfl ?_
  refine g_csi (as := [_, _]) (rest := []) 5 ck rfl rfl rfl rfl rfl (by decide) rfl rfl rfl (Nat.le_of_ble_eq_true rfl) (s154 s1 (by decide) (by decide) ?_)
  refine g_il 6 ck rfl rfl rfl ?_
  refine g_ic 7 ck rfl rfl ?_
  refine g_csi (as := [_, _]) (rest := [_]) 10 ck rfl rfl rfl rfl rfl (by decide) rfl rfl rfl (Nat.le_of_ble_eq_true rfl) (s154 s1 (by decide) (by decide) ?_)
  refine g_add 11 ck rfl rfl ?_
  refine g_il 12 ck rfl rfl rfl ?_
  refine g_ic 13 ck rfl rfl ?_
  refine g_csi (as := [_, _]) (rest := [_]) 16 ck rfl rfl rfl rfl rfl (by decide) rfl rfl rfl (Nat.le_of_ble_eq_true rfl) (s154 s1 (by decide) (by decide) ?_)
  refine g_add 17 ck rfl rfl ?_
  exact g_ret ck rfl rfl (Or.inl (by decide)) h
/-! 79 TermDesk$Order.markAnew(I)I -/
def w79 (B : va_E) (σ : l2_m) (o0 : Nat) (x1 : Int) (K : Int → l2_m → Prop) : Prop := (rg x1 ∧ K ((((e5 x1 0) * (σ (o0 + 1) 0)) + ((e5 x1 1) * (σ (o0 + 1) 1))) + ((e5 x1 2) * (σ (o0 + 1) 2))) σ)
theorem o79 {B : va_E} {σ : l2_m} {o0 : Nat} {x1 : Int} {K : Int → l2_m → Prop} (ho0 : isO o0)  (h : w79 B σ o0 x1  K) : wC B 79 [vr o0, vi x1] σ K := by
  have ck : pm_code 79 = pc_79 := rfl
  unfold w79 at h
  show wW B 79 0 [vr o0, vi x1] [] σ K
  obtain ⟨s1, h⟩ := h
  refine g_al 1 ck rfl rfl rfl ?_
  refine g_il 2 ck rfl rfl rfl ?_
  refine g_ic 3 ck rfl rfl ?_
  refine g_csi (as := [_, _]) (rest := [_]) 6 ck rfl rfl rfl rfl rfl (by decide) rfl rfl rfl (Nat.le_of_ble_eq_true rfl) (s154 s1 (by decide) (by decide) ?_)
  refine g_il 7 ck rfl rfl rfl ?_
  refine g_ic 8 ck rfl rfl ?_
  refine g_csi (as := [_, _]) (rest := [_, _]) 11 ck rfl rfl rfl rfl rfl (by decide) rfl rfl rfl (Nat.le_of_ble_eq_true rfl) (s154 s1 (by decide) (by decide) ?_)
  refine g_il 12 ck rfl rfl rfl ?_
  refine g_ic 13 ck rfl rfl ?_
  refine g_csi (as := [_, _]) (rest := [_, _, _]) 16 ck rfl rfl rfl rfl rfl (by decide) rfl rfl rfl (Nat.le_of_ble_eq_true rfl) (s154 s1 (by decide) (by decide) ?_)
  refine g_cvi (as := [_, _, _]) (rest := []) 19 ck rfl rfl rfl rfl rfl rfl (by decide) (isO_c ho0) rfl rfl rfl (Nat.le_of_ble_eq_true rfl) (s78 ho0 ?_)
  exact g_ret ck rfl rfl (Or.inl (by decide)) h
/-! 149 TermDesk.isOrder(III)Z -/
def w149 (B : va_E) (σ : l2_m) (x0 : Int) (x1 : Int) (x2 : Int) (K : Int → l2_m → Prop) : Prop := (rg x0 ∧ (if (x0 < 0) ∨ (2 < x0) then K 0 σ else (rg x1 ∧ (((0 ≤ x1 ∧ x1 < 3) → rg x2) ∧ (if (0 ≤ x1 ∧ x1 < 3) ∧ ((0 ≤ x2 ∧ x2 < 3) ∧ ¬ (x1 = x2)) then K 1 σ else K 0 σ)))))
theorem o149 {B : va_E} {σ : l2_m} {x0 : Int} {x1 : Int} {x2 : Int} {K : Int → l2_m → Prop}   (h : w149 B σ x0 x1 x2  K) : wC B 149 [vi x0, vi x1, vi x2] σ K := by
  have ck : pm_code 149 = pc_149 := rfl
  unfold w149 at h
  show wW B 149 0 [vi x0, vi x1, vi x2] [] σ K
  replace h := (And.imp_right (fun h => ite_mp id (ite_mp id (And.imp_right (fun h => ite_mp (And.imp_right mg_4) id (mg_3s h)))) (mg_1 h))) h
  obtain ⟨s1, h⟩ := h
  refine g_il 1 ck rfl rfl rfl ?_
  refine g_if 4 32 ck rfl rfl rfl s1 (fun hc => ?_) (fun hc => ?_)
  · replace h := ite_ht h hc
    refine g_ic 33 ck rfl rfl ?_
    exact g_retb ck rfl rfl (Or.inl rfl) h
  · replace h := ite_hf h hc
    refine g_il 5 ck rfl rfl rfl ?_
    refine g_ic 6 ck rfl rfl ?_
    refine g_ii2 9 32 ck rfl rfl rfl s1 (by decide) (fun hc => ?_) (fun hc => ?_)
    · replace h := ite_ht h hc
      refine g_ic 33 ck rfl rfl ?_
      exact g_retb ck rfl rfl (Or.inl rfl) h
    · replace h := ite_hf h hc
      obtain ⟨s2, h⟩ := h
      refine g_il 10 ck rfl rfl rfl ?_
      refine g_csi (as := [_]) (rest := []) 13 ck rfl rfl rfl rfl rfl (by decide) rfl rfl rfl (Nat.le_of_ble_eq_true rfl) (s148 s2 ?_)
      refine g_if 16 32 ck rfl rfl rfl rg_b2i (fun hc => ?_) (fun hc => ?_)
      · replace h := ite_hf h (b2i_f hc)
        refine g_ic 33 ck rfl rfl ?_
        exact g_retb ck rfl rfl (Or.inl rfl) h
      · replace h := ite_ht h (b2i_t hc)
        obtain ⟨s3, h⟩ := h
        refine g_il 17 ck rfl rfl rfl ?_
        refine g_csi (as := [_]) (rest := []) 20 ck rfl rfl rfl rfl rfl (by decide) rfl rfl rfl (Nat.le_of_ble_eq_true rfl) (s148 s3 ?_)
        refine g_if 23 32 ck rfl rfl rfl rg_b2i (fun hc => ?_) (fun hc => ?_)
        · replace h := ite_hf h (b2i_f hc)
          refine g_ic 33 ck rfl rfl ?_
          exact g_retb ck rfl rfl (Or.inl rfl) h
        · replace h := ite_ht h (b2i_t hc)
          refine g_il 24 ck rfl rfl rfl ?_
          refine g_il 25 ck rfl rfl rfl ?_
          refine g_ii2 28 32 ck rfl rfl rfl s2 s3 (fun hc => ?_) (fun hc => ?_)
          · replace h := ite_ht h hc
            refine g_ic 33 ck rfl rfl ?_
            exact g_retb ck rfl rfl (Or.inl rfl) h
          · replace h := ite_hf h hc
            refine g_ic 29 ck rfl rfl ?_
            refine g_goto 33 ck rfl rfl ?_
            exact g_retb ck rfl rfl (Or.inr rfl) h
/-! 151 TermDesk.areExponents(III)Z -/
def w151 (B : va_E) (σ : l2_m) (x0 : Int) (x1 : Int) (x2 : Int) (K : Int → l2_m → Prop) : Prop := (rg x0 ∧ (if 0 ≤ x0 ∧ x0 < 16 then (rg x1 ∧ (((0 ≤ x1 ∧ x1 < 16) → rg x2) ∧ (if (0 ≤ x1 ∧ x1 < 16) ∧ (0 ≤ x2 ∧ x2 < 16) then K 1 σ else K 0 σ))) else K 0 σ))
theorem o151 {B : va_E} {σ : l2_m} {x0 : Int} {x1 : Int} {x2 : Int} {K : Int → l2_m → Prop}   (h : w151 B σ x0 x1 x2  K) : wC B 151 [vi x0, vi x1, vi x2] σ K := by
  have ck : pm_code 151 = pc_151 := rfl
  unfold w151 at h
  show wW B 151 0 [vi x0, vi x1, vi x2] [] σ K
  replace h := (And.imp_right (ite_mp (And.imp_right mg_3s) id)) h
  obtain ⟨s1, h⟩ := h
  refine g_il 1 ck rfl rfl rfl ?_
  refine g_csi (as := [_]) (rest := []) 4 ck rfl rfl rfl rfl rfl (by decide) rfl rfl rfl (Nat.le_of_ble_eq_true rfl) (s150 s1 ?_)
  refine g_if 7 25 ck rfl rfl rfl rg_b2i (fun hc => ?_) (fun hc => ?_)
  · replace h := ite_hf h (b2i_f hc)
    refine g_ic 26 ck rfl rfl ?_
    exact g_retb ck rfl rfl (Or.inl rfl) h
  · replace h := ite_ht h (b2i_t hc)
    obtain ⟨s2, h⟩ := h
    refine g_il 8 ck rfl rfl rfl ?_
    refine g_csi (as := [_]) (rest := []) 11 ck rfl rfl rfl rfl rfl (by decide) rfl rfl rfl (Nat.le_of_ble_eq_true rfl) (s150 s2 ?_)
    refine g_if 14 25 ck rfl rfl rfl rg_b2i (fun hc => ?_) (fun hc => ?_)
    · replace h := ite_hf h (b2i_f hc)
      refine g_ic 26 ck rfl rfl ?_
      exact g_retb ck rfl rfl (Or.inl rfl) h
    · replace h := ite_ht h (b2i_t hc)
      obtain ⟨s3, h⟩ := h
      refine g_il 15 ck rfl rfl rfl ?_
      refine g_csi (as := [_]) (rest := []) 18 ck rfl rfl rfl rfl rfl (by decide) rfl rfl rfl (Nat.le_of_ble_eq_true rfl) (s150 s3 ?_)
      refine g_if 21 25 ck rfl rfl rfl rg_b2i (fun hc => ?_) (fun hc => ?_)
      · replace h := ite_hf h (b2i_f hc)
        refine g_ic 26 ck rfl rfl ?_
        exact g_retb ck rfl rfl (Or.inl rfl) h
      · replace h := ite_ht h (b2i_t hc)
        refine g_ic 22 ck rfl rfl ?_
        refine g_goto 26 ck rfl rfl ?_
        exact g_retb ck rfl rfl (Or.inr rfl) h
/-! 12 TermDesk$Arithmetic.power(II)I -/
def w12_5 (B : va_E) (σ : l2_m) (x1 : Int) (x2 : Int) (x3 : Int) (x4 : Int)  (K : Int → l2_m → Prop) : Prop := lz2 (fun X5 x3 x4 => ((rg x4 ∧ rg x2) ∧ (if x4 < x2 then ((2 ≤ (σ 34 0) ∧ (σ 34 0) ≤ 97 ∧ rg (x3 * x1)) ∧ ∀ x3' : Int, x3' = ((x3 * x1) % (σ 34 0)) → X5 x3' (x4 + 1)) else K x3 σ))) x3 x4
theorem o12_5 {B : va_E} {σ : l2_m} {x1 : Int} {x2 : Int} {x3 : Int} {x4 : Int}   {K : Int → l2_m → Prop}    (h : w12_5 B σ x1 x2 x3 x4  K) : wW B 12 5 [vr 38, vi x1, vi x2, vi x3, vi x4] [] σ K := by
  have ck : pm_code 12 = pc_12 := rfl
  unfold w12_5 at h
  refine h (fun x3 x4 => wW B 12 5 [vr 38, vi x1, vi x2, vi x3, vi x4] [] σ K) ?_
  clear h
  intro x3 x4 h
  obtain ⟨⟨s1, s2⟩, h⟩ := h
  refine g_il 7 ck rfl rfl rfl ?_
  refine g_il 8 ck rfl rfl rfl ?_
  refine g_ii2 11 28 ck rfl rfl rfl s1 s2 (fun hc => ?_) (fun hc => ?_)
  · replace h := ite_hf h (Int.not_lt.mpr hc)
    refine g_il 29 ck rfl rfl rfl ?_
    exact g_ret ck rfl rfl (Or.inl (by decide)) h
  · replace h := ite_ht h (Int.not_le.mp hc)
    obtain ⟨⟨s3, s4, s5⟩, h⟩ := h
    refine g_al 12 ck rfl rfl rfl ?_
    refine r_gfr 15 34 ck rfl rfl rfl (by decide) ?_
    refine g_il 16 ck rfl rfl rfl ?_
    refine g_il 17 ck rfl rfl rfl ?_
    refine g_mul 18 ck rfl rfl ?_
    refine g_cvi (as := [_]) (rest := []) 21 ck rfl rfl rfl rfl rfl rfl (by decide) rfl rfl rfl rfl (Nat.le_of_ble_eq_true rfl) (s72 rfl s3 s4 s5 ?_)
    refine r_is 22 ck rfl rfl rfl rfl ?_
    replace h := h _ rfl
    refine r_ii 25 ck rfl rfl rfl rfl ?_
    refine g_goto 5 ck rfl rfl ?_
    exact h
def w12 (B : va_E) (σ : l2_m) (x1 : Int) (x2 : Int) (K : Int → l2_m → Prop) : Prop := w12_5 B σ x1 x2 1 0 K
theorem o12 {B : va_E} {σ : l2_m} {x1 : Int} {x2 : Int} {K : Int → l2_m → Prop}   (h : w12 B σ x1 x2  K) : wC B 12 [vr 38, vi x1, vi x2] σ K := by
  have ck : pm_code 12 = pc_12 := rfl
  unfold w12 at h
  show wW B 12 0 [vr 38, vi x1, vi x2, pm_un, pm_un] [] σ K
  refine g_ic 1 ck rfl rfl ?_
  refine r_is 2 ck rfl rfl rfl rfl ?_
  refine g_ic 3 ck rfl rfl ?_
  refine r_is 5 ck rfl rfl rfl rfl ?_
  exact o12_5  h
/-! 9 TermDesk$Arithmetic.leastBoth(II)I -/
def w9_5 (B : va_E) (σ : l2_m) (x1 : Int) (x2 : Int) (x3 : Int) (x4 : Int)  (K : Int → l2_m → Prop) : Prop := lz2 (fun X5 x3 x4 => (rg x4 ∧ (if x4 < 3 then ((rg x1 ∧ 0 ≤ x4 ∧ x4 < 3 ∧ rg x2) ∧ ∀ x5 : Int, x5 = (max (e5 x1 x4) (e5 x2 x4)) → ∀ x3' : Int, x3' = (x3 + (x5 * (σ 37 x4))) → X5 x3' (x4 + 1)) else K x3 σ))) x3 x4
theorem o9_5 {B : va_E} {σ : l2_m} {x1 : Int} {x2 : Int} {x3 : Int} {x4 : Int} {u5 : Value}  {K : Int → l2_m → Prop}  (hu5 : (u5.category == 1) = true)  (h : w9_5 B σ x1 x2 x3 x4  K) : wW B 9 5 [vr 38, vi x1, vi x2, vi x3, vi x4, u5] [] σ K := by
  have ck : pm_code 9 = pc_9 := rfl
  unfold w9_5 at h
  refine h (fun x3 x4 => ∀ u5 : Value, (u5.category == 1) = true → wW B 9 5 [vr 38, vi x1, vi x2, vi x3, vi x4, u5] [] σ K) ?_ u5 hu5
  clear h
  intro x3 x4 h u5 hu5
  obtain ⟨s1, h⟩ := h
  refine g_il 7 ck rfl rfl rfl ?_
  refine g_ic 8 ck rfl rfl ?_
  refine g_ii2 11 50 ck rfl rfl rfl s1 (by decide) (fun hc => ?_) (fun hc => ?_)
  · replace h := ite_hf h (Int.not_lt.mpr hc)
    refine g_il 51 ck rfl rfl rfl ?_
    exact g_ret ck rfl rfl (Or.inl (by decide)) h
  · replace h := ite_ht h (Int.not_le.mp hc)
    obtain ⟨⟨s2, s3, s4, s5⟩, h⟩ := h
    refine g_il 12 ck rfl rfl rfl ?_
    refine g_il 14 ck rfl rfl rfl ?_
    refine g_csi (as := [_, _]) (rest := []) 17 ck rfl rfl rfl rfl rfl (by decide) rfl rfl rfl (Nat.le_of_ble_eq_true rfl) (s154 s2 s3 s4 ?_)
    refine g_il 18 ck rfl rfl rfl ?_
    refine g_il 20 ck rfl rfl rfl ?_
    refine g_csi (as := [_, _]) (rest := [_]) 23 ck rfl rfl rfl rfl rfl (by decide) rfl rfl rfl (Nat.le_of_ble_eq_true rfl) (s154 s5 s3 s4 ?_)
    refine g_max 26 ck rfl rfl (rg_e5 _ _) (rg_e5 _ _) (Nat.le_of_ble_eq_true rfl) ?_
    refine r_is 28 ck rfl rfl rfl rfl ?_
    replace h := h _ rfl
    refine g_il 29 ck rfl rfl rfl ?_
    refine g_il 31 ck rfl rfl rfl ?_
    refine g_al 32 ck rfl rfl rfl ?_
    refine r_gfr 35 36 ck rfl rfl rfl (by decide) ?_
    refine r_gfr 38 37 ck rfl rfl rfl (by decide) ?_
    refine g_il 40 ck rfl rfl rfl ?_
    refine g_ial (m := 3) 41 ck rfl rfl rfl s3 s4 ?_
    refine g_mul 42 ck rfl rfl ?_
    refine g_add 43 ck rfl rfl ?_
    refine r_is 44 ck rfl rfl rfl rfl ?_
    replace h := h _ rfl
    refine r_ii 47 ck rfl rfl rfl rfl ?_
    refine g_goto 5 ck rfl rfl ?_
    exact h _ rfl
def w9 (B : va_E) (σ : l2_m) (x1 : Int) (x2 : Int) (K : Int → l2_m → Prop) : Prop := w9_5 B σ x1 x2 0 0 K
theorem o9 {B : va_E} {σ : l2_m} {x1 : Int} {x2 : Int} {K : Int → l2_m → Prop}   (h : w9 B σ x1 x2  K) : wC B 9 [vr 38, vi x1, vi x2] σ K := by
  have ck : pm_code 9 = pc_9 := rfl
  unfold w9 at h
  show wW B 9 0 [vr 38, vi x1, vi x2, pm_un, pm_un, pm_un] [] σ K
  refine g_ic 1 ck rfl rfl ?_
  refine r_is 2 ck rfl rfl rfl rfl ?_
  refine g_ic 3 ck rfl rfl ?_
  refine r_is 5 ck rfl rfl rfl rfl ?_
  exact o9_5 rfl h
/-! 59 TermDesk$Field.sum(II)I -/
def w59_16 (B : va_E) (σ : l2_m) (x1 : Int) (x2 : Int)  (K : Int → l2_m → Prop) : Prop := ((rg x1 ∧ rg (σ 110 7)) ∧ (if x1 = (σ 110 7) then K x2 σ else K x1 σ))
theorem o59_16 {B : va_E} {σ : l2_m} {x1 : Int} {x2 : Int} {u3 : Value}  {K : Int → l2_m → Prop}  (hu3 : (u3.category == 1) = true)  (h : w59_16 B σ x1 x2  K) : wW B 59 16 [vr 110, vi x1, vi x2, u3] [] σ K := by
  have ck : pm_code 59 = pc_59 := rfl
  unfold w59_16 at h
  obtain ⟨⟨s1, s2⟩, h⟩ := h
  refine g_il 17 ck rfl rfl rfl ?_
  refine g_al 18 ck rfl rfl rfl ?_
  refine r_gfi 21 7 ck rfl rfl rfl rfl ?_
  refine g_ii2 24 28 ck rfl rfl rfl s1 s2 (fun hc => ?_) (fun hc => ?_)
  · replace h := ite_hf h hc
    refine g_il 29 ck rfl rfl rfl ?_
    exact g_ret ck rfl rfl (Or.inl (by decide)) h
  · replace h := ite_ht h (Classical.not_not.mp hc)
    refine g_il 25 ck rfl rfl rfl ?_
    refine g_goto 29 ck rfl rfl ?_
    exact g_ret ck rfl rfl (Or.inl (by decide)) h
def w59_49 (B : va_E) (σ : l2_m) (x1 : Int) (z0 : Int)  (K : Int → l2_m → Prop) : Prop := (rg z0 ∧ (if (z0 < 0) ∨ ¬ (z0 < 9409) then K (σ 110 7) σ else ((0 ≤ z0 ∧ z0 < 9409 ∧ 0 ≤ x1 ∧ x1 ≤ (σ 110 7) ∧ 0 ≤ (σ 112 z0) ∧ (σ 112 z0) ≤ (σ 110 7) ∧ (σ 110 7) ≤ 10000) ∧ K (fmul (σ 110 7) x1 (σ 112 z0)) σ)))
theorem o59_49 {B : va_E} {σ : l2_m} {x1 : Int} {z0 : Int} {u2 : Value} {u3 : Value}  {K : Int → l2_m → Prop}  (hu2 : (u2.category == 1) = true) (hu3 : (u3.category == 1) = true)  (h : w59_49 B σ x1 z0  K) : wW B 59 49 [vr 110, vi x1, u2, u3] [vi z0] σ K := by
  have ck : pm_code 59 = pc_59 := rfl
  unfold w59_49 at h
  replace h := (And.imp_right mg_2) h
  obtain ⟨s1, h⟩ := h
  refine r_is 50 ck rfl rfl hu2 rfl ?_
  refine g_il 51 ck rfl rfl rfl ?_
  refine g_if 54 61 ck rfl rfl rfl s1 (fun hc => ?_) (fun hc => ?_)
  · replace h := ite_ht h hc
    refine g_al 62 ck rfl rfl rfl ?_
    refine r_gfi 65 7 ck rfl rfl rfl rfl ?_
    exact g_ret ck rfl rfl (Or.inl (by decide)) h
  · replace h := ite_hf h hc
    refine g_il 55 ck rfl rfl rfl ?_
    refine g_ic 58 ck rfl rfl ?_
    refine g_ii2 61 66 ck rfl rfl rfl s1 (by decide) (fun hc => ?_) (fun hc => ?_)
    · replace h := ite_ht h hc
      obtain ⟨⟨s2, s3, s4, s5, s6, s7, s8⟩, h⟩ := h
      refine g_al 67 ck rfl rfl rfl ?_
      refine g_il 68 ck rfl rfl rfl ?_
      refine g_al 69 ck rfl rfl rfl ?_
      refine r_gfr 72 112 ck rfl rfl rfl (by decide) ?_
      refine g_il 73 ck rfl rfl rfl ?_
      refine g_ial (m := 9409) 74 ck rfl rfl rfl s2 s3 ?_
      refine g_cvi (as := [_, _]) (rest := []) 77 ck rfl rfl rfl rfl rfl rfl (by decide) rfl rfl rfl rfl (Nat.le_of_ble_eq_true rfl) (s58 s4 s5 s6 s7 s8 ?_)
      exact g_ret ck rfl rfl (Or.inl (by decide)) h
    · replace h := ite_hf h hc
      refine g_al 62 ck rfl rfl rfl ?_
      refine r_gfi 65 7 ck rfl rfl rfl rfl ?_
      exact g_ret ck rfl rfl (Or.inl (by decide)) h
def w59 (B : va_E) (σ : l2_m) (x1 : Int) (x2 : Int) (K : Int → l2_m → Prop) : Prop := ((rg x1 ∧ rg (σ 110 7)) ∧ ((¬ x1 = (σ 110 7) → rg x2) ∧ (if x1 = (σ 110 7) ∨ x2 = (σ 110 7) then w59_16 B σ x1 x2 K else (if x2 < x1 then w59_49 B σ x1 ((x2 - x1) + (σ 110 7)) K else w59_49 B σ x1 (x2 - x1) K))))
theorem o59 {B : va_E} {σ : l2_m} {x1 : Int} {x2 : Int} {K : Int → l2_m → Prop}   (h : w59 B σ x1 x2  K) : wC B 59 [vr 110, vi x1, vi x2] σ K := by
  have ck : pm_code 59 = pc_59 := rfl
  unfold w59 at h
  show wW B 59 0 [vr 110, vi x1, vi x2, pm_un] [] σ K
  replace h := (And.imp_right mg_1s) h
  obtain ⟨⟨s1, s2⟩, h⟩ := h
  refine g_il 1 ck rfl rfl rfl ?_
  refine g_al 2 ck rfl rfl rfl ?_
  refine r_gfi 5 7 ck rfl rfl rfl rfl ?_
  refine g_ii2 8 16 ck rfl rfl rfl s1 s2 (fun hc => ?_) (fun hc => ?_)
  · replace h := ite_ht h hc
    exact o59_16 rfl h
  · replace h := ite_hf h hc
    obtain ⟨s3, h⟩ := h
    refine g_il 9 ck rfl rfl rfl ?_
    refine g_al 10 ck rfl rfl rfl ?_
    refine r_gfi 13 7 ck rfl rfl rfl rfl ?_
    refine g_ii2 16 30 ck rfl rfl rfl s3 s2 (fun hc => ?_) (fun hc => ?_)
    · replace h := ite_hf h hc
      refine g_il 31 ck rfl rfl rfl ?_
      refine g_il 32 ck rfl rfl rfl ?_
      refine g_ii2 35 46 ck rfl rfl rfl s3 s1 (fun hc => ?_) (fun hc => ?_)
      · replace h := ite_hf h (Int.not_lt.mpr hc)
        refine g_il 47 ck rfl rfl rfl ?_
        refine g_il 48 ck rfl rfl rfl ?_
        refine g_sub 49 ck rfl rfl ?_
        exact o59_49 rfl rfl h
      · replace h := ite_ht h (Int.not_le.mp hc)
        refine g_il 36 ck rfl rfl rfl ?_
        refine g_il 37 ck rfl rfl rfl ?_
        refine g_sub 38 ck rfl rfl ?_
        refine g_al 39 ck rfl rfl rfl ?_
        refine r_gfi 42 7 ck rfl rfl rfl rfl ?_
        refine g_add 43 ck rfl rfl ?_
        refine g_goto 49 ck rfl rfl ?_
        exact o59_49 rfl rfl h
    · replace h := ite_ht h (Classical.not_not.mp hc)
      exact o59_16 rfl h
/-! 60 TermDesk$Field.negative(I)I -/
def w60 (B : va_E) (σ : l2_m) (x1 : Int) (K : Int → l2_m → Prop) : Prop := ((0 ≤ x1 ∧ x1 ≤ (σ 110 7) ∧ 0 ≤ (σ 110 5) ∧ (σ 110 5) ≤ (σ 110 7) ∧ (σ 110 7) ≤ 10000) ∧ K (fmul (σ 110 7) x1 (σ 110 5)) σ)
theorem o60 {B : va_E} {σ : l2_m} {x1 : Int} {K : Int → l2_m → Prop}   (h : w60 B σ x1  K) : wC B 60 [vr 110, vi x1] σ K := by
  have ck : pm_code 60 = pc_60 := rfl
  unfold w60 at h
  show wW B 60 0 [vr 110, vi x1] [] σ K
  obtain ⟨⟨s1, s2, s3, s4, s5⟩, h⟩ := h
  refine g_al 1 ck rfl rfl rfl ?_
  refine g_il 2 ck rfl rfl rfl ?_
  refine g_al 3 ck rfl rfl rfl ?_
  refine r_gfi 6 5 ck rfl rfl rfl rfl ?_
  refine g_cvi (as := [_, _]) (rest := []) 9 ck rfl rfl rfl rfl rfl rfl (by decide) rfl rfl rfl rfl (Nat.le_of_ble_eq_true rfl) (s58 s1 s2 s3 s4 s5 ?_)
  exact g_ret ck rfl rfl (Or.inl (by decide)) h
/-! 57 TermDesk$Field.numberOf(I)I -/
def w57 (B : va_E) (σ : l2_m) (x1 : Int) (K : Int → l2_m → Prop) : Prop := ((rg x1 ∧ rg (σ 110 7)) ∧ (if x1 = (σ 110 7) then K 0 σ else (rg (σ 110 6) ∧ ∀ x2 : Int, x2 = (max (σ 110 6) 1) → (0 < x2 ∧ 0 ≤ x1) ∧ ∀ x3 : Int, x3 = (x1 / x2) → rg (x1 % x2) ∧ ((((x1 % x2) = 0) → rg x3) ∧ (if ((x1 % x2) = 0) ∧ ¬ ((x3 < 0) ∨ ¬ x3 < ((98 : Nat) : Int)) then ((0 ≤ x3 ∧ x3 < 98) ∧ K (σ 113 x3) σ) else K (-1) σ)))))
theorem o57 {B : va_E} {σ : l2_m} {x1 : Int} {K : Int → l2_m → Prop}   (h : w57 B σ x1  K) : wC B 57 [vr 110, vi x1] σ K := by
  have ck : pm_code 57 = pc_57 := rfl
  unfold w57 at h
  show wW B 57 0 [vr 110, vi x1, pm_un, pm_un] [] σ K
  replace h := (And.imp_right (ite_mp id (And.imp_right (fun h x e => (And.imp_right (fun h x e => (And.imp_right (fun h => ite_mp (And.imp_right mg_2) id (mg_4s h))) (h x e))) (h x e))))) h
  obtain ⟨⟨s1, s2⟩, h⟩ := h
  refine g_il 1 ck rfl rfl rfl ?_
  refine g_al 2 ck rfl rfl rfl ?_
  refine r_gfi 5 7 ck rfl rfl rfl rfl ?_
  refine g_ii2 8 10 ck rfl rfl rfl s1 s2 (fun hc => ?_) (fun hc => ?_)
  · replace h := ite_hf h hc
    obtain ⟨s3, h⟩ := h
    refine g_al 11 ck rfl rfl rfl ?_
    refine r_gfi 14 6 ck rfl rfl rfl rfl ?_
    refine g_ic 15 ck rfl rfl ?_
    refine g_max 18 ck rfl rfl s3 (by decide) (Nat.le_of_ble_eq_true rfl) ?_
    refine r_is 19 ck rfl rfl rfl rfl ?_
    replace h := h _ rfl
    obtain ⟨⟨s4, s5⟩, h⟩ := h
    refine g_il 20 ck rfl rfl rfl ?_
    refine g_il 21 ck rfl rfl rfl ?_
    refine g_div 22 ck rfl rfl s1 (rg_max s3 (by decide)) s5 s4 ?_
    refine r_is 23 ck rfl rfl rfl rfl ?_
    replace h := h _ rfl
    obtain ⟨s6, h⟩ := h
    refine g_il 24 ck rfl rfl rfl ?_
    refine g_il 25 ck rfl rfl rfl ?_
    refine g_rem 26 ck rfl rfl s1 (rg_max s3 (by decide)) s5 s4 ?_
    refine g_if 29 51 ck rfl rfl rfl s6 (fun hc => ?_) (fun hc => ?_)
    · replace h := ite_hf h hc
      refine g_ic 52 ck rfl rfl ?_
      exact g_ret ck rfl rfl (Or.inl (by decide)) h
    · replace h := ite_ht h (Classical.not_not.mp hc)
      obtain ⟨s7, h⟩ := h
      refine g_il 30 ck rfl rfl rfl ?_
      refine g_if 33 51 ck rfl rfl rfl s7 (fun hc => ?_) (fun hc => ?_)
      · replace h := ite_ht h hc
        refine g_ic 52 ck rfl rfl ?_
        exact g_ret ck rfl rfl (Or.inl (by decide)) h
      · replace h := ite_hf h hc
        refine g_il 34 ck rfl rfl rfl ?_
        refine g_al 35 ck rfl rfl rfl ?_
        refine r_gfr 38 113 ck rfl rfl rfl (by decide) ?_
        refine g_len 39 ck rfl rfl (show l2_al 113 = some 98 from rfl) ?_
        refine g_ii2 42 51 ck rfl rfl rfl s7 (by decide) (fun hc => ?_) (fun hc => ?_)
        · replace h := ite_hf h (Int.not_lt.mpr hc)
          refine g_ic 52 ck rfl rfl ?_
          exact g_ret ck rfl rfl (Or.inl (by decide)) h
        · replace h := ite_ht h (Int.not_le.mp hc)
          obtain ⟨⟨s8, s9⟩, h⟩ := h
          refine g_al 43 ck rfl rfl rfl ?_
          refine r_gfr 46 113 ck rfl rfl rfl (by decide) ?_
          refine g_il 47 ck rfl rfl rfl ?_
          refine g_ial (m := 98) 48 ck rfl rfl rfl s8 s9 ?_
          refine g_goto 52 ck rfl rfl ?_
          exact g_ret ck rfl rfl (Or.inl (by decide)) h
  · replace h := ite_ht h (Classical.not_not.mp hc)
    refine g_ic 9 ck rfl rfl ?_
    exact g_ret ck rfl rfl (Or.inl (by decide)) h
/-! 172 TermDeskModel.degreeOf(I)I -/
def w172 (B : va_E) (σ : l2_m) (x0 : Int) (K : Int → l2_m → Prop) : Prop := (rg x0 ∧ K (((e4 x0 0) + (e4 x0 1)) + (e4 x0 2)) σ)
theorem o172 {B : va_E} {σ : l2_m} {x0 : Int} {K : Int → l2_m → Prop}   (h : w172 B σ x0  K) : wC B 172 [vi x0] σ K := by
  have ck : pm_code 172 = pc_172 := rfl
  unfold w172 at h
  show wW B 172 0 [vi x0] [] σ K
  obtain ⟨s1, h⟩ := h
  refine g_il 1 ck rfl rfl rfl ?_
  refine g_ic 2 ck rfl rfl ?_
  refine g_csi (as := [_, _]) (rest := []) 5 ck rfl rfl rfl rfl rfl (by decide) rfl rfl rfl (Nat.le_of_ble_eq_true rfl) (s171 s1 (by decide) (by decide) ?_)
  refine g_il 6 ck rfl rfl rfl ?_
  refine g_ic 7 ck rfl rfl ?_
  refine g_csi (as := [_, _]) (rest := [_]) 10 ck rfl rfl rfl rfl rfl (by decide) rfl rfl rfl (Nat.le_of_ble_eq_true rfl) (s171 s1 (by decide) (by decide) ?_)
  refine g_add 11 ck rfl rfl ?_
  refine g_il 12 ck rfl rfl rfl ?_
  refine g_ic 13 ck rfl rfl ?_
  refine g_csi (as := [_, _]) (rest := [_]) 16 ck rfl rfl rfl rfl rfl (by decide) rfl rfl rfl (Nat.le_of_ble_eq_true rfl) (s171 s1 (by decide) (by decide) ?_)
  refine g_add 17 ck rfl rfl ?_
  exact g_ret ck rfl rfl (Or.inl (by decide)) h
/-! 197 TermDeskModel.isReg(I)Z -/
def w197 (B : va_E) (σ : l2_m) (x1 : Int) (K : Int → l2_m → Prop) : Prop := (rg (σ 186 14) ∧ ((¬ ((σ 186 14) = 0) → rg x1) ∧ (if ((σ 186 14) = 0) ∨ ¬ (0 ≤ x1 ∧ x1 ≤ 7) then K 0 σ else K 1 σ)))
theorem o197 {B : va_E} {σ : l2_m} {x1 : Int} {K : Int → l2_m → Prop}   (h : w197 B σ x1  K) : wC B 197 [vr 186, vi x1] σ K := by
  have ck : pm_code 197 = pc_197 := rfl
  unfold w197 at h
  show wW B 197 0 [vr 186, vi x1] [] σ K
  replace h := (And.imp_right mg_2s) h
  obtain ⟨s1, h⟩ := h
  refine g_al 1 ck rfl rfl rfl ?_
  refine r_gfi 4 14 ck rfl rfl rfl rfl ?_
  refine g_if 7 21 ck rfl rfl rfl s1 (fun hc => ?_) (fun hc => ?_)
  · replace h := ite_ht h hc
    refine g_ic 22 ck rfl rfl ?_
    exact g_retb ck rfl rfl (Or.inl rfl) h
  · replace h := ite_hf h hc
    obtain ⟨s2, h⟩ := h
    refine g_il 8 ck rfl rfl rfl ?_
    refine g_ic 9 ck rfl rfl ?_
    refine g_ic 11 ck rfl rfl ?_
    refine g_csi (as := [_, _, _]) (rest := []) 14 ck rfl rfl rfl rfl rfl (by decide) rfl rfl rfl (Nat.le_of_ble_eq_true rfl) (s170 s2 (by decide) (by decide) ?_)
    refine g_if 17 21 ck rfl rfl rfl rg_b2i (fun hc => ?_) (fun hc => ?_)
    · replace h := ite_hf h (b2i_f hc)
      refine g_ic 22 ck rfl rfl ?_
      exact g_retb ck rfl rfl (Or.inl rfl) h
    · replace h := ite_ht h (b2i_t hc)
      refine g_ic 18 ck rfl rfl ?_
      refine g_goto 22 ck rfl rfl ?_
      exact g_retb ck rfl rfl (Or.inr rfl) h
/-! 198 TermDeskModel.isUnknown(I)Z -/
def w198 (B : va_E) (σ : l2_m) (x0 : Int) (K : Int → l2_m → Prop) : Prop := (rg x0 ∧ K (b2i (0 ≤ x0 ∧ x0 ≤ 2)) σ)
theorem o198 {B : va_E} {σ : l2_m} {x0 : Int} {K : Int → l2_m → Prop}   (h : w198 B σ x0  K) : wC B 198 [vi x0] σ K := by
  have ck : pm_code 198 = pc_198 := rfl
  unfold w198 at h
  show wW B 198 0 [vi x0] [] σ K
  obtain ⟨s1, h⟩ := h
  refine g_il 1 ck rfl rfl rfl ?_
  refine g_ic 2 ck rfl rfl ?_
  refine g_ic 3 ck rfl rfl ?_
  refine g_csi (as := [_, _, _]) (rest := []) 6 ck rfl rfl rfl rfl rfl (by decide) rfl rfl rfl (Nat.le_of_ble_eq_true rfl) (s170 s1 (by decide) (by decide) ?_)
  exact g_retb ck rfl rfl b2i_01 h
/-! 199 TermDeskModel.isValue(I)Z -/
def w199 (B : va_E) (σ : l2_m) (x1 : Int) (K : Int → l2_m → Prop) : Prop := ((rg x1 ∧ rg ((σ 186 5) - 1)) ∧ K (b2i (0 ≤ x1 ∧ x1 ≤ ((σ 186 5) - 1))) σ)
theorem o199 {B : va_E} {σ : l2_m} {x1 : Int} {K : Int → l2_m → Prop}   (h : w199 B σ x1  K) : wC B 199 [vr 186, vi x1] σ K := by
  have ck : pm_code 199 = pc_199 := rfl
  unfold w199 at h
  show wW B 199 0 [vr 186, vi x1] [] σ K
  obtain ⟨⟨s1, s2⟩, h⟩ := h
  refine g_il 1 ck rfl rfl rfl ?_
  refine g_ic 2 ck rfl rfl ?_
  refine g_al 3 ck rfl rfl rfl ?_
  refine r_gfi 6 5 ck rfl rfl rfl rfl ?_
  refine g_ic 7 ck rfl rfl ?_
  refine g_sub 8 ck rfl rfl ?_
  refine g_csi (as := [_, _, _]) (rest := []) 11 ck rfl rfl rfl rfl rfl (by decide) rfl rfl rfl (Nat.le_of_ble_eq_true rfl) (s170 s1 (by decide) s2 ?_)
  exact g_retb ck rfl rfl b2i_01 h
/-! 200 TermDeskModel.isExponent(I)Z -/
def w200 (B : va_E) (σ : l2_m) (x0 : Int) (K : Int → l2_m → Prop) : Prop := (rg x0 ∧ K (b2i (0 ≤ x0 ∧ x0 ≤ 15)) σ)
theorem o200 {B : va_E} {σ : l2_m} {x0 : Int} {K : Int → l2_m → Prop}   (h : w200 B σ x0  K) : wC B 200 [vi x0] σ K := by
  have ck : pm_code 200 = pc_200 := rfl
  unfold w200 at h
  show wW B 200 0 [vi x0] [] σ K
  obtain ⟨s1, h⟩ := h
  refine g_il 1 ck rfl rfl rfl ?_
  refine g_ic 2 ck rfl rfl ?_
  refine g_ic 4 ck rfl rfl ?_
  refine g_csi (as := [_, _, _]) (rest := []) 7 ck rfl rfl rfl rfl rfl (by decide) rfl rfl rfl (Nat.le_of_ble_eq_true rfl) (s170 s1 (by decide) (by decide) ?_)
  exact g_retb ck rfl rfl b2i_01 h
/-! 202 TermDeskModel.termsOf(I)I -/
def w202_4 (B : va_E) (σ : l2_m) (x1 : Int) (x2 : Int) (x3 : Int)  (K : Int → l2_m → Prop) : Prop := lz2 (fun X4 x2 x3 => (rg x3 ∧ (if x3 < 4096 then ((0 ≤ x1 ∧ x1 < 8 ∧ 0 ≤ x3 ∧ x3 < 4096 ∧ rg (σ 187 (4096 * x1 + x3))) ∧ (if (σ 187 (4096 * x1 + x3)) = 0 then (∀ x2' : Int, x2' = (x2 + 0) → X4 x2' (x3 + 1)) else (∀ x2'' : Int, x2'' = (x2 + 1) → X4 x2'' (x3 + 1)))) else K x2 σ))) x2 x3
theorem o202_4 {B : va_E} {σ : l2_m} {x1 : Int} {x2 : Int} {x3 : Int}   {K : Int → l2_m → Prop}    (h : w202_4 B σ x1 x2 x3  K) : wW B 202 4 [vr 186, vi x1, vi x2, vi x3] [] σ K := by
  have ck : pm_code 202 = pc_202 := rfl
  unfold w202_4 at h
  refine h (fun x2 x3 => wW B 202 4 [vr 186, vi x1, vi x2, vi x3] [] σ K) ?_
  clear h
  intro x2 x3 h
  obtain ⟨s1, h⟩ := h
  refine g_il 5 ck rfl rfl rfl ?_
  refine g_ic 8 ck rfl rfl ?_
  refine g_ii2 11 34 ck rfl rfl rfl s1 (by decide) (fun hc => ?_) (fun hc => ?_)
  · replace h := ite_hf h (Int.not_lt.mpr hc)
    refine g_il 35 ck rfl rfl rfl ?_
    exact g_ret ck rfl rfl (Or.inl (by decide)) h
  · replace h := ite_ht h (Int.not_le.mp hc)
    obtain ⟨⟨s2, s3, s4, s5, s6⟩, h⟩ := h
    refine g_il 12 ck rfl rfl rfl ?_
    refine g_al 13 ck rfl rfl rfl ?_
    refine g_il 14 ck rfl rfl rfl ?_
    refine g_il 15 ck rfl rfl rfl ?_
    refine g_cvi (as := [_, _]) (rest := [_]) 18 ck rfl rfl rfl rfl rfl rfl (by decide) rfl rfl rfl rfl (Nat.le_of_ble_eq_true rfl) (s201 s2 s3 s4 s5 ?_)
    refine g_if 21 25 ck rfl rfl rfl s6 (fun hc => ?_) (fun hc => ?_)
    · replace h := ite_ht h hc
      refine g_ic 26 ck rfl rfl ?_
      refine g_add 27 ck rfl rfl ?_
      refine r_is 28 ck rfl rfl rfl rfl ?_
      replace h := h _ rfl
      refine r_ii 31 ck rfl rfl rfl rfl ?_
      refine g_goto 4 ck rfl rfl ?_
      exact h
    · replace h := ite_hf h hc
      refine g_ic 22 ck rfl rfl ?_
      refine g_goto 26 ck rfl rfl ?_
      refine g_add 27 ck rfl rfl ?_
      refine r_is 28 ck rfl rfl rfl rfl ?_
      replace h := h _ rfl
      refine r_ii 31 ck rfl rfl rfl rfl ?_
      refine g_goto 4 ck rfl rfl ?_
      exact h
def w202 (B : va_E) (σ : l2_m) (x1 : Int) (K : Int → l2_m → Prop) : Prop := w202_4 B σ x1 0 0 K
theorem o202 {B : va_E} {σ : l2_m} {x1 : Int} {K : Int → l2_m → Prop}   (h : w202 B σ x1  K) : wC B 202 [vr 186, vi x1] σ K := by
  have ck : pm_code 202 = pc_202 := rfl
  unfold w202 at h
  show wW B 202 0 [vr 186, vi x1, pm_un, pm_un] [] σ K
  refine g_ic 1 ck rfl rfl ?_
  refine r_is 2 ck rfl rfl rfl rfl ?_
  refine g_ic 3 ck rfl rfl ?_
  refine r_is 4 ck rfl rfl rfl rfl ?_
  exact o202_4  h
/-! 210 TermDeskModel.degreeBy(II)I -/
def w210_6 (B : va_E) (σ : l2_m) (x1 : Int) (x2 : Int) (x3 : Int) (x4 : Int)  (K : Int → l2_m → Prop) : Prop := lz2 (fun X6 x3 x4 => (rg x4 ∧ (if x4 < 4096 then ((0 ≤ x1 ∧ x1 < 8 ∧ 0 ≤ x4 ∧ x4 < 4096 ∧ rg (σ 187 (4096 * x1 + x4))) ∧ ((¬ ((σ 187 (4096 * x1 + x4)) = 0) → 0 ≤ x2 ∧ x2 < 3 ∧ rg x3) ∧ (if ((σ 187 (4096 * x1 + x4)) = 0) ∨ ¬ x3 < (e4 x4 x2) then X6 x3 (x4 + 1) else (∀ x3' : Int, x3' = (e4 x4 x2) → X6 x3' (x4 + 1))))) else K x3 σ))) x3 x4
theorem o210_6 {B : va_E} {σ : l2_m} {x1 : Int} {x2 : Int} {x3 : Int} {x4 : Int}   {K : Int → l2_m → Prop}    (h : w210_6 B σ x1 x2 x3 x4  K) : wW B 210 6 [vr 186, vi x1, vi x2, vi x3, vi x4] [] σ K := by
  have ck : pm_code 210 = pc_210 := rfl
  unfold w210_6 at h
  refine h (fun x3 x4 => wW B 210 6 [vr 186, vi x1, vi x2, vi x3, vi x4] [] σ K) ?_
  clear h
  intro x3 x4 h
  replace h := (And.imp_right (ite_mp (And.imp_right mg_2s) id)) h
  obtain ⟨s1, h⟩ := h
  refine g_il 8 ck rfl rfl rfl ?_
  refine g_ic 11 ck rfl rfl ?_
  refine g_ii2 14 47 ck rfl rfl rfl s1 (by decide) (fun hc => ?_) (fun hc => ?_)
  · replace h := ite_hf h (Int.not_lt.mpr hc)
    refine g_il 48 ck rfl rfl rfl ?_
    exact g_ret ck rfl rfl (Or.inl (by decide)) h
  · replace h := ite_ht h (Int.not_le.mp hc)
    obtain ⟨⟨s2, s3, s4, s5, s6⟩, h⟩ := h
    refine g_al 15 ck rfl rfl rfl ?_
    refine g_il 16 ck rfl rfl rfl ?_
    refine g_il 18 ck rfl rfl rfl ?_
    refine g_cvi (as := [_, _]) (rest := []) 21 ck rfl rfl rfl rfl rfl rfl (by decide) rfl rfl rfl rfl (Nat.le_of_ble_eq_true rfl) (s201 s2 s3 s4 s5 ?_)
    refine g_if 24 41 ck rfl rfl rfl s6 (fun hc => ?_) (fun hc => ?_)
    · replace h := ite_ht h hc
      refine r_ii 44 ck rfl rfl rfl rfl ?_
      refine g_goto 6 ck rfl rfl ?_
      exact h
    · replace h := ite_hf h hc
      obtain ⟨⟨s7, s8, s9⟩, h⟩ := h
      refine g_il 26 ck rfl rfl rfl ?_
      refine g_il 27 ck rfl rfl rfl ?_
      refine g_csi (as := [_, _]) (rest := []) 30 ck rfl rfl rfl rfl rfl (by decide) rfl rfl rfl (Nat.le_of_ble_eq_true rfl) (s171 s1 s7 s8 ?_)
      refine g_il 31 ck rfl rfl rfl ?_
      refine g_ii2 34 41 ck rfl rfl rfl (rg_e4 _ _) s9 (fun hc => ?_) (fun hc => ?_)
      · replace h := ite_hf h (Int.not_lt.mpr hc)
        refine r_ii 44 ck rfl rfl rfl rfl ?_
        refine g_goto 6 ck rfl rfl ?_
        exact h
      · replace h := ite_ht h (Int.not_le.mp hc)
        refine g_il 36 ck rfl rfl rfl ?_
        refine g_il 37 ck rfl rfl rfl ?_
        refine g_csi (as := [_, _]) (rest := []) 40 ck rfl rfl rfl rfl rfl (by decide) rfl rfl rfl (Nat.le_of_ble_eq_true rfl) (s171 s1 s7 s8 ?_)
        refine r_is 41 ck rfl rfl rfl rfl ?_
        replace h := h _ rfl
        refine r_ii 44 ck rfl rfl rfl rfl ?_
        refine g_goto 6 ck rfl rfl ?_
        exact h
def w210 (B : va_E) (σ : l2_m) (x1 : Int) (x2 : Int) (K : Int → l2_m → Prop) : Prop := w210_6 B σ x1 x2 (-2) 0 K
theorem o210 {B : va_E} {σ : l2_m} {x1 : Int} {x2 : Int} {K : Int → l2_m → Prop}   (h : w210 B σ x1 x2  K) : wC B 210 [vr 186, vi x1, vi x2] σ K := by
  have ck : pm_code 210 = pc_210 := rfl
  unfold w210 at h
  show wW B 210 0 [vr 186, vi x1, vi x2, pm_un, pm_un] [] σ K
  refine g_ic 2 ck rfl rfl ?_
  refine r_is 3 ck rfl rfl rfl rfl ?_
  refine g_ic 4 ck rfl rfl ?_
  refine r_is 6 ck rfl rfl rfl rfl ?_
  exact o210_6  h
/-! 225 TermDeskModel.sum(II)I -/
def w225_4 (B : va_E) (σ : l2_m) (x0 : Int) (x1 : Int) (x2 : Int) (x3 : Int)  (K : Int → l2_m → Prop) : Prop := lz2 (fun X4 x2 x3 => (rg x3 ∧ (if x3 < 3 then ((rg x0 ∧ 0 ≤ x3 ∧ x3 < 3 ∧ rg x1) ∧ ∀ x4 : Int, x4 = ((e4 x0 x3) + (e4 x1 x3)) → rg x4 ∧ (if 15 < x4 then K (-1) σ else ((0 ≤ (4 * x3) ∧ (4 * x3) < 32 ∧ 0 ≤ x2 ∧ 0 ≤ (x4 * 2 ^ (Int.toNat (4 * x3))) ∧ x2 < 2147483648 ∧ (x4 * 2 ^ (Int.toNat (4 * x3))) < 2147483648) ∧ ∀ x2' : Int, x2' = (ior x2 (x4 * 2 ^ (Int.toNat (4 * x3)))) → X4 x2' (x3 + 1)))) else K x2 σ))) x2 x3
theorem o225_4 {B : va_E} {σ : l2_m} {x0 : Int} {x1 : Int} {x2 : Int} {x3 : Int} {u4 : Value}  {K : Int → l2_m → Prop}  (hu4 : (u4.category == 1) = true)  (h : w225_4 B σ x0 x1 x2 x3  K) : wW B 225 4 [vi x0, vi x1, vi x2, vi x3, u4] [] σ K := by
  have ck : pm_code 225 = pc_225 := rfl
  unfold w225_4 at h
  refine h (fun x2 x3 => ∀ u4 : Value, (u4.category == 1) = true → wW B 225 4 [vi x0, vi x1, vi x2, vi x3, u4] [] σ K) ?_ u4 hu4
  clear h
  intro x2 x3 h u4 hu4
  obtain ⟨s1, h⟩ := h
  refine g_il 5 ck rfl rfl rfl ?_
  refine g_ic 6 ck rfl rfl ?_
  refine g_ii2 9 46 ck rfl rfl rfl s1 (by decide) (fun hc => ?_) (fun hc => ?_)
  · replace h := ite_hf h (Int.not_lt.mpr hc)
    refine g_il 47 ck rfl rfl rfl ?_
    exact g_ret ck rfl rfl (Or.inl (by decide)) h
  · replace h := ite_ht h (Int.not_le.mp hc)
    obtain ⟨⟨s2, s3, s4, s5⟩, h⟩ := h
    refine g_il 10 ck rfl rfl rfl ?_
    refine g_il 11 ck rfl rfl rfl ?_
    refine g_csi (as := [_, _]) (rest := []) 14 ck rfl rfl rfl rfl rfl (by decide) rfl rfl rfl (Nat.le_of_ble_eq_true rfl) (s171 s2 s3 s4 ?_)
    refine g_il 15 ck rfl rfl rfl ?_
    refine g_il 16 ck rfl rfl rfl ?_
    refine g_csi (as := [_, _]) (rest := [_]) 19 ck rfl rfl rfl rfl rfl (by decide) rfl rfl rfl (Nat.le_of_ble_eq_true rfl) (s171 s5 s3 s4 ?_)
    refine g_add 20 ck rfl rfl ?_
    refine r_is 22 ck rfl rfl rfl rfl ?_
    replace h := h _ rfl
    obtain ⟨s6, h⟩ := h
    refine g_il 24 ck rfl rfl rfl ?_
    refine g_ic 26 ck rfl rfl ?_
    refine g_ii2 29 31 ck rfl rfl rfl s6 (by decide) (fun hc => ?_) (fun hc => ?_)
    · replace h := ite_hf h (Int.not_lt.mpr hc)
      obtain ⟨⟨s7, s8, s9, s10, s11, s12⟩, h⟩ := h
      refine g_il 32 ck rfl rfl rfl ?_
      refine g_il 34 ck rfl rfl rfl ?_
      refine g_ic 35 ck rfl rfl ?_
      refine g_il 36 ck rfl rfl rfl ?_
      refine g_mul 37 ck rfl rfl ?_
      refine g_shl 38 ck rfl rfl s7 s8 ?_
      refine g_or 39 ck rfl rfl s9 s10 s11 s12 ?_
      refine r_is 40 ck rfl rfl rfl rfl ?_
      replace h := h _ rfl
      refine r_ii 43 ck rfl rfl rfl rfl ?_
      refine g_goto 4 ck rfl rfl ?_
      exact h _ rfl
    · replace h := ite_ht h (Int.not_le.mp hc)
      refine g_ic 30 ck rfl rfl ?_
      exact g_ret ck rfl rfl (Or.inl (by decide)) h
def w225 (B : va_E) (σ : l2_m) (x0 : Int) (x1 : Int) (K : Int → l2_m → Prop) : Prop := w225_4 B σ x0 x1 0 0 K
theorem o225 {B : va_E} {σ : l2_m} {x0 : Int} {x1 : Int} {K : Int → l2_m → Prop}   (h : w225 B σ x0 x1  K) : wC B 225 [vi x0, vi x1] σ K := by
  have ck : pm_code 225 = pc_225 := rfl
  unfold w225 at h
  show wW B 225 0 [vi x0, vi x1, pm_un, pm_un, pm_un] [] σ K
  refine g_ic 1 ck rfl rfl ?_
  refine r_is 2 ck rfl rfl rfl rfl ?_
  refine g_ic 3 ck rfl rfl ?_
  refine r_is 4 ck rfl rfl rfl rfl ?_
  exact o225_4 rfl h
/-! 228 TermDeskModel.isUnder(II)Z -/
def w228_2 (B : va_E) (σ : l2_m) (x0 : Int) (x1 : Int) (x2 : Int)  (K : Int → l2_m → Prop) : Prop := lz1 (fun X2 x2 => (rg x2 ∧ (if x2 < 3 then ((rg x0 ∧ 0 ≤ x2 ∧ x2 < 3 ∧ rg x1) ∧ (if (e4 x1 x2) < (e4 x0 x2) then K 0 σ else X2 (x2 + 1))) else K 1 σ))) x2
theorem o228_2 {B : va_E} {σ : l2_m} {x0 : Int} {x1 : Int} {x2 : Int}   {K : Int → l2_m → Prop}    (h : w228_2 B σ x0 x1 x2  K) : wW B 228 2 [vi x0, vi x1, vi x2] [] σ K := by
  have ck : pm_code 228 = pc_228 := rfl
  unfold w228_2 at h
  refine h (fun x2 => wW B 228 2 [vi x0, vi x1, vi x2] [] σ K) ?_
  clear h
  intro x2 h
  obtain ⟨s1, h⟩ := h
  refine g_il 3 ck rfl rfl rfl ?_
  refine g_ic 4 ck rfl rfl ?_
  refine g_ii2 7 28 ck rfl rfl rfl s1 (by decide) (fun hc => ?_) (fun hc => ?_)
  · replace h := ite_hf h (Int.not_lt.mpr hc)
    refine g_ic 29 ck rfl rfl ?_
    exact g_retb ck rfl rfl (Or.inr rfl) h
  · replace h := ite_ht h (Int.not_le.mp hc)
    obtain ⟨⟨s2, s3, s4, s5⟩, h⟩ := h
    refine g_il 8 ck rfl rfl rfl ?_
    refine g_il 9 ck rfl rfl rfl ?_
    refine g_csi (as := [_, _]) (rest := []) 12 ck rfl rfl rfl rfl rfl (by decide) rfl rfl rfl (Nat.le_of_ble_eq_true rfl) (s171 s2 s3 s4 ?_)
    refine g_il 13 ck rfl rfl rfl ?_
    refine g_il 14 ck rfl rfl rfl ?_
    refine g_csi (as := [_, _]) (rest := [_]) 17 ck rfl rfl rfl rfl rfl (by decide) rfl rfl rfl (Nat.le_of_ble_eq_true rfl) (s171 s5 s3 s4 ?_)
    refine g_ii2 20 22 ck rfl rfl rfl (rg_e4 _ _) (rg_e4 _ _) (fun hc => ?_) (fun hc => ?_)
    · replace h := ite_hf h (Int.not_lt.mpr hc)
      refine r_ii 25 ck rfl rfl rfl rfl ?_
      refine g_goto 2 ck rfl rfl ?_
      exact h
    · replace h := ite_ht h (Int.not_le.mp hc)
      refine g_ic 21 ck rfl rfl ?_
      exact g_retb ck rfl rfl (Or.inl rfl) h
def w228 (B : va_E) (σ : l2_m) (x0 : Int) (x1 : Int) (K : Int → l2_m → Prop) : Prop := w228_2 B σ x0 x1 0 K
theorem o228 {B : va_E} {σ : l2_m} {x0 : Int} {x1 : Int} {K : Int → l2_m → Prop}   (h : w228 B σ x0 x1  K) : wC B 228 [vi x0, vi x1] σ K := by
  have ck : pm_code 228 = pc_228 := rfl
  unfold w228 at h
  show wW B 228 0 [vi x0, vi x1, pm_un] [] σ K
  refine g_ic 1 ck rfl rfl ?_
  refine r_is 2 ck rfl rfl rfl rfl ?_
  exact o228_2  h
/-! 66 TermDesk$History.goOn()V -/
def w66 (B : va_E) (σ : l2_m)  (K : Int → l2_m → Prop) : Prop := ((rg ((σ 128 5) + 1) ∧ 0 ≤ ((σ 128 5) + 1)) ∧ ∀ σ' : l2_m, σ' = l2_u σ 128 5 (((σ 128 5) + 1) % 8) → rg ((σ' 128 6) + 1) ∧ ∀ σ'' : l2_m, σ'' = l2_u σ' 128 6 (min ((σ' 128 6) + 1) 8) → K 0 σ'')
theorem o66 {B : va_E} {σ : l2_m}  {K : Int → l2_m → Prop}   (h : w66 B σ   K) : wC B 66 [vr 128] σ K := by
  have ck : pm_code 66 = pc_66 := rfl
  unfold w66 at h
  show wW B 66 0 [vr 128] [] σ K
  obtain ⟨⟨s1, s2⟩, h⟩ := h
  refine g_al 1 ck rfl rfl rfl ?_
  refine g_al 2 ck rfl rfl rfl ?_
  refine r_gfi 5 5 ck rfl rfl rfl rfl ?_
  refine g_ic 6 ck rfl rfl ?_
  refine g_add 7 ck rfl rfl ?_
  refine g_ic 9 ck rfl rfl ?_
  refine g_rem 10 ck rfl rfl s1 (by decide) s2 (by decide) ?_
  refine g_pfi 13 ck rfl rfl rfl 5 rfl rfl ?_
  replace h := h _ rfl
  obtain ⟨s3, h⟩ := h
  refine g_al 14 ck rfl rfl rfl ?_
  refine g_al 15 ck rfl rfl rfl ?_
  refine r_gfi 18 6 ck rfl rfl rfl rfl ?_
  refine g_ic 19 ck rfl rfl ?_
  refine g_add 20 ck rfl rfl ?_
  refine g_ic 22 ck rfl rfl ?_
  refine g_min 25 ck rfl rfl s3 (by decide) (Nat.le_of_ble_eq_true rfl) ?_
  refine g_pfi 28 ck rfl rfl rfl 6 rfl rfl ?_
  replace h := h _ rfl
  exact g_retv ck rfl rfl h
/-! 67 TermDesk$History.takeNewest()I -/
def w67 (B : va_E) (σ : l2_m)  (K : Int → l2_m → Prop) : Prop := ((rg (((σ 128 5) + 8) - 1) ∧ 0 ≤ (((σ 128 5) + 8) - 1)) ∧ ∀ σ' : l2_m, σ' = l2_u σ 128 5 ((((σ 128 5) + 8) - 1) % 8) → rg ((σ' 128 6) - 1) ∧ ∀ σ'' : l2_m, σ'' = l2_u σ' 128 6 (max ((σ' 128 6) - 1) 0) → K (σ'' 128 5) σ'')
theorem o67 {B : va_E} {σ : l2_m}  {K : Int → l2_m → Prop}   (h : w67 B σ   K) : wC B 67 [vr 128] σ K := by
  have ck : pm_code 67 = pc_67 := rfl
  unfold w67 at h
  show wW B 67 0 [vr 128] [] σ K
  obtain ⟨⟨s1, s2⟩, h⟩ := h
  refine g_al 1 ck rfl rfl rfl ?_
  refine g_al 2 ck rfl rfl rfl ?_
  refine r_gfi 5 5 ck rfl rfl rfl rfl ?_
  refine g_ic 7 ck rfl rfl ?_
  refine g_add 8 ck rfl rfl ?_
  refine g_ic 9 ck rfl rfl ?_
  refine g_sub 10 ck rfl rfl ?_
  refine g_ic 12 ck rfl rfl ?_
  refine g_rem 13 ck rfl rfl s1 (by decide) s2 (by decide) ?_
  refine g_pfi 16 ck rfl rfl rfl 5 rfl rfl ?_
  replace h := h _ rfl
  obtain ⟨s3, h⟩ := h
  refine g_al 17 ck rfl rfl rfl ?_
  refine g_al 18 ck rfl rfl rfl ?_
  refine r_gfi 21 6 ck rfl rfl rfl rfl ?_
  refine g_ic 22 ck rfl rfl ?_
  refine g_sub 23 ck rfl rfl ?_
  refine g_ic 24 ck rfl rfl ?_
  refine g_max 27 ck rfl rfl s3 (by decide) (Nat.le_of_ble_eq_true rfl) ?_
  refine g_pfi 30 ck rfl rfl rfl 6 rfl rfl ?_
  replace h := h _ rfl
  refine g_al 31 ck rfl rfl rfl ?_
  refine r_gfi 34 5 ck rfl rfl rfl rfl ?_
  exact g_ret ck rfl rfl (Or.inl (by decide)) h
/-! 254 TermDeskModel.degreeX([I)I -/
def w254_3 (B : va_E) (σ : l2_m) (o0 : Nat) (x1 : Int)  (K : Int → l2_m → Prop) : Prop := lz1 (fun X3 x1 => (rg x1 ∧ (if x1 < 0 then K (-1) σ else ((0 ≤ (2304 * x1) ∧ (2304 * x1) + 2304 ≤ ((36864 : Nat) : Int) ∧ (∀ j : Int, 0 ≤ j → j < 2304 → rg (σ o0 ((2304 * x1) + j))) ∧ rg (top (fun j => σ o0 ((2304 * x1) + j)) 2304)) ∧ (if (top (fun j => σ o0 ((2304 * x1) + j)) 2304) = (-1) then X3 (x1 + (-1)) else K x1 σ))))) x1
theorem o254_3 {B : va_E} {σ : l2_m} {o0 : Nat} {x1 : Int}   {K : Int → l2_m → Prop} (ho0 : l2_al o0 = some 36864)   (h : w254_3 B σ o0 x1  K) : wW B 254 3 [vr o0, vi x1] [] σ K := by
  have ck : pm_code 254 = pc_254 := rfl
  unfold w254_3 at h
  refine h (fun x1 => wW B 254 3 [vr o0, vi x1] [] σ K) ?_
  clear h
  intro x1 h
  obtain ⟨s1, h⟩ := h
  refine g_il 4 ck rfl rfl rfl ?_
  refine g_if 7 28 ck rfl rfl rfl s1 (fun hc => ?_) (fun hc => ?_)
  · replace h := ite_ht h hc
    refine g_ic 29 ck rfl rfl ?_
    exact g_ret ck rfl rfl (Or.inl (by decide)) h
  · replace h := ite_hf h hc
    obtain ⟨⟨s2, s3, s4, s5⟩, h⟩ := h
    refine g_al 8 ck rfl rfl rfl ?_
    refine g_ic 11 ck rfl rfl ?_
    refine g_il 12 ck rfl rfl rfl ?_
    refine g_mul 13 ck rfl rfl ?_
    refine g_csi (as := [_, _]) (rest := []) 16 ck rfl rfl rfl rfl rfl (by decide) rfl rfl rfl (Nat.le_of_ble_eq_true rfl) (s253 ho0 s2 s3 s4 ?_)
    refine g_ic 17 ck rfl rfl ?_
    refine g_ii2 20 22 ck rfl rfl rfl s5 (by decide) (fun hc => ?_) (fun hc => ?_)
    · replace h := ite_ht h hc
      refine r_ii 25 ck rfl rfl rfl rfl ?_
      refine g_goto 3 ck rfl rfl ?_
      exact h
    · replace h := ite_hf h hc
      refine g_il 21 ck rfl rfl rfl ?_
      exact g_ret ck rfl rfl (Or.inl (by decide)) h
def w254 (B : va_E) (σ : l2_m) (o0 : Nat) (K : Int → l2_m → Prop) : Prop := w254_3 B σ o0 15 K
theorem o254 {B : va_E} {σ : l2_m} {o0 : Nat} {K : Int → l2_m → Prop} (ho0 : l2_al o0 = some 36864)  (h : w254 B σ o0  K) : wC B 254 [vr o0] σ K := by
  have ck : pm_code 254 = pc_254 := rfl
  unfold w254 at h
  show wW B 254 0 [vr o0, pm_un] [] σ K
  refine g_ic 2 ck rfl rfl ?_
  refine r_is 3 ck rfl rfl rfl rfl ?_
  exact o254_3 ho0 h
