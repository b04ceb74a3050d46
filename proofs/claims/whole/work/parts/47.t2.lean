/-! 203 TermDeskModel.isZero(I)Z -/
def w203 (B : va_E) (σ : l2_m) (x1 : Int) (K : Int → l2_m → Prop) : Prop := ((0 ≤ x1 ∧ x1 < 8 ∧ (∀ j : Int, 0 ≤ j → j < 4096 → rg (σ 187 (4096 * x1 + j))) ∧ rg (cnt (fun k => σ 187 (4096 * x1 + k)) 4096)) ∧ (if (cnt (fun k => σ 187 (4096 * x1 + k)) 4096) = 0 then K 1 σ else K 0 σ))
theorem o203 {B : va_E} {σ : l2_m} {x1 : Int} {K : Int → l2_m → Prop}   (h : w203 B σ x1  K) : wC B 203 [vr 186, vi x1] σ K := by
  have ck : pm_code 203 = pc_203 := rfl
  unfold w203 at h
  show wW B 203 0 [vr 186, vi x1] [] σ K
  obtain ⟨⟨s1, s2, s3, s4⟩, h⟩ := h
  refine g_al 1 ck rfl rfl rfl ?_
  refine g_il 2 ck rfl rfl rfl ?_
  refine g_cvi (as := [_]) (rest := []) 5 ck rfl rfl rfl rfl rfl rfl (by decide) rfl rfl rfl rfl (Nat.le_of_ble_eq_true rfl) (s202 s1 s2 s3 ?_)
  refine g_ifne 8 12 ck rfl rfl rfl s4 (fun hc => ?_) (fun hc => ?_)
  · replace h := ite_hf h hc
    refine g_ic 13 ck rfl rfl ?_
    exact g_retb ck rfl rfl (Or.inl rfl) h
  · replace h := ite_ht h (Classical.not_not.mp hc)
    refine g_ic 9 ck rfl rfl ?_
    refine g_goto 13 ck rfl rfl ?_
    exact g_retb ck rfl rfl (Or.inr rfl) h
/-! 241 TermDeskModel.areRegs(III)Z -/
def w241 (B : va_E) (σ : l2_m) (x1 : Int) (x2 : Int) (x3 : Int) (K : Int → l2_m → Prop) : Prop := ((rg x1 ∧ ((σ 186 14) = 0 ∨ (σ 186 14) = 1)) ∧ (if (σ 186 14) = 1 ∧ 0 ≤ x1 ∧ x1 < 8 then (rg x2 ∧ ((((σ 186 14) = 1 ∧ 0 ≤ x2 ∧ x2 < 8) → rg x3) ∧ (if ((σ 186 14) = 1 ∧ 0 ≤ x2 ∧ x2 < 8) ∧ ((σ 186 14) = 1 ∧ 0 ≤ x3 ∧ x3 < 8) then K 1 σ else K 0 σ))) else K 0 σ))
theorem o241 {B : va_E} {σ : l2_m} {x1 : Int} {x2 : Int} {x3 : Int} {K : Int → l2_m → Prop}   (h : w241 B σ x1 x2 x3  K) : wC B 241 [vr 186, vi x1, vi x2, vi x3] σ K := by
  have ck : pm_code 241 = pc_241 := rfl
  unfold w241 at h
  show wW B 241 0 [vr 186, vi x1, vi x2, vi x3] [] σ K
  replace h := (And.imp_right (ite_mp (And.imp_right mg_3s) id)) h
  obtain ⟨⟨s1, s2⟩, h⟩ := h
  refine g_al 1 ck rfl rfl rfl ?_
  refine g_il 2 ck rfl rfl rfl ?_
  refine g_cvi (as := [_]) (rest := []) 5 ck rfl rfl rfl rfl rfl rfl (by decide) rfl rfl rfl rfl (Nat.le_of_ble_eq_true rfl) (s197 s1 s2 ?_)
  refine g_ifeq 8 28 ck rfl rfl rfl rg_b2i (fun hc => ?_) (fun hc => ?_)
  · replace h := ite_hf h (b2i_f hc)
    refine g_ic 29 ck rfl rfl ?_
    exact g_retb ck rfl rfl (Or.inl rfl) h
  · replace h := ite_ht h (b2i_t hc)
    obtain ⟨s3, h⟩ := h
    refine g_al 9 ck rfl rfl rfl ?_
    refine g_il 10 ck rfl rfl rfl ?_
    refine g_cvi (as := [_]) (rest := []) 13 ck rfl rfl rfl rfl rfl rfl (by decide) rfl rfl rfl rfl (Nat.le_of_ble_eq_true rfl) (s197 s3 s2 ?_)
    refine g_ifeq 16 28 ck rfl rfl rfl rg_b2i (fun hc => ?_) (fun hc => ?_)
    · replace h := ite_hf h (b2i_f hc)
      refine g_ic 29 ck rfl rfl ?_
      exact g_retb ck rfl rfl (Or.inl rfl) h
    · replace h := ite_ht h (b2i_t hc)
      obtain ⟨s4, h⟩ := h
      refine g_al 17 ck rfl rfl rfl ?_
      refine g_il 18 ck rfl rfl rfl ?_
      refine g_cvi (as := [_]) (rest := []) 21 ck rfl rfl rfl rfl rfl rfl (by decide) rfl rfl rfl rfl (Nat.le_of_ble_eq_true rfl) (s197 s4 s2 ?_)
      refine g_ifeq 24 28 ck rfl rfl rfl rg_b2i (fun hc => ?_) (fun hc => ?_)
      · replace h := ite_hf h (b2i_f hc)
        refine g_ic 29 ck rfl rfl ?_
        exact g_retb ck rfl rfl (Or.inl rfl) h
      · replace h := ite_ht h (b2i_t hc)
        refine g_ic 25 ck rfl rfl ?_
        refine g_goto 29 ck rfl rfl ?_
        exact g_retb ck rfl rfl (Or.inr rfl) h
/-! 220 TermDeskModel.isOrder(III)Z -/
def w220 (B : va_E) (σ : l2_m) (x0 : Int) (x1 : Int) (x2 : Int) (K : Int → l2_m → Prop) : Prop := (rg x0 ∧ (if 0 ≤ x0 ∧ x0 ≤ 2 then (rg x1 ∧ (((0 ≤ x1 ∧ x1 < 3) → rg x2) ∧ (if (0 ≤ x1 ∧ x1 < 3) ∧ ((0 ≤ x2 ∧ x2 < 3) ∧ ¬ (x1 = x2)) then K 1 σ else K 0 σ))) else K 0 σ))
theorem o220 {B : va_E} {σ : l2_m} {x0 : Int} {x1 : Int} {x2 : Int} {K : Int → l2_m → Prop}   (h : w220 B σ x0 x1 x2  K) : wC B 220 [vi x0, vi x1, vi x2] σ K := by
  have ck : pm_code 220 = pc_220 := rfl
  unfold w220 at h
  show wW B 220 0 [vi x0, vi x1, vi x2] [] σ K
  replace h := (And.imp_right (ite_mp (And.imp_right (fun h => ite_mp (And.imp_right mg_4) id (mg_3s h))) id)) h
  obtain ⟨s1, h⟩ := h
  refine g_il 1 ck rfl rfl rfl ?_
  refine g_ic 2 ck rfl rfl ?_
  refine g_ic 3 ck rfl rfl ?_
  refine g_csi (as := [_, _, _]) (rest := []) 6 ck rfl rfl rfl rfl rfl (by decide) rfl rfl rfl (Nat.le_of_ble_eq_true rfl) (s170 s1 (by decide) (by decide) ?_)
  refine g_ifeq 9 32 ck rfl rfl rfl rg_b2i (fun hc => ?_) (fun hc => ?_)
  · replace h := ite_hf h (b2i_f hc)
    refine g_ic 33 ck rfl rfl ?_
    exact g_retb ck rfl rfl (Or.inl rfl) h
  · replace h := ite_ht h (b2i_t hc)
    obtain ⟨s2, h⟩ := h
    refine g_il 10 ck rfl rfl rfl ?_
    refine g_csi (as := [_]) (rest := []) 13 ck rfl rfl rfl rfl rfl (by decide) rfl rfl rfl (Nat.le_of_ble_eq_true rfl) (s198 s2 ?_)
    refine g_ifeq 16 32 ck rfl rfl rfl rg_b2i (fun hc => ?_) (fun hc => ?_)
    · replace h := ite_hf h (b2i_f hc)
      refine g_ic 33 ck rfl rfl ?_
      exact g_retb ck rfl rfl (Or.inl rfl) h
    · replace h := ite_ht h (b2i_t hc)
      obtain ⟨s3, h⟩ := h
      refine g_il 17 ck rfl rfl rfl ?_
      refine g_csi (as := [_]) (rest := []) 20 ck rfl rfl rfl rfl rfl (by decide) rfl rfl rfl (Nat.le_of_ble_eq_true rfl) (s198 s3 ?_)
      refine g_ifeq 23 32 ck rfl rfl rfl rg_b2i (fun hc => ?_) (fun hc => ?_)
      · replace h := ite_hf h (b2i_f hc)
        refine g_ic 33 ck rfl rfl ?_
        exact g_retb ck rfl rfl (Or.inl rfl) h
      · replace h := ite_ht h (b2i_t hc)
        refine g_il 24 ck rfl rfl rfl ?_
        refine g_il 25 ck rfl rfl rfl ?_
        refine g_iceq 28 32 ck rfl rfl rfl s2 s3 (fun hc => ?_) (fun hc => ?_)
        · replace h := ite_ht h hc
          refine g_ic 33 ck rfl rfl ?_
          exact g_retb ck rfl rfl (Or.inl rfl) h
        · replace h := ite_hf h hc
          refine g_ic 29 ck rfl rfl ?_
          refine g_goto 33 ck rfl rfl ?_
          exact g_retb ck rfl rfl (Or.inr rfl) h
/-! 64 TermDesk$History.keepRegister(ILTermDesk$Poly;)V -/
def w64 (B : va_E) (σ : l2_m) (x1 : Int) (o2 : Nat) (K : Int → l2_m → Prop) : Prop := ((0 ≤ (σ 128 5) ∧ (σ 128 5) < 8) ∧ ∀ σ' : l2_m, σ' = l2_u σ 129 (σ 128 5) x1 → (0 ≤ (σ' 128 5) ∧ (σ' 128 5) < 8 ∧ (134 + 3 * Int.toNat (σ' 128 5)) ≠ o2 ∧ 0 ≤ (σ' o2 2) ∧ (σ' o2 2) ≤ 60) ∧ ∀ σ'' : l2_m, σ'' = cpP σ' (134 + 3 * Int.toNat (σ' 128 5)) o2 → (0 ≤ (σ'' 128 5) ∧ (σ'' 128 5) < 8 ∧ 0 ≤ (σ'' 128 6) ∧ (σ'' 128 6) ≤ 8) ∧ ∀ σ''' : l2_m, σ''' = gon σ'' → K 0 σ''')
theorem o64 {B : va_E} {σ : l2_m} {x1 : Int} {o2 : Nat} {K : Int → l2_m → Prop} (ho2 : isP o2)  (h : w64 B σ x1 o2  K) : wC B 64 [vr 128, vi x1, vr o2] σ K := by
  have ck : pm_code 64 = pc_64 := rfl
  unfold w64 at h
  show wW B 64 0 [vr 128, vi x1, vr o2] [] σ K
  obtain ⟨⟨s1, s2⟩, h⟩ := h
  refine g_al 1 ck rfl rfl rfl ?_
  refine r_gfr 4 129 ck rfl rfl rfl (by decide) ?_
  refine g_al 5 ck rfl rfl rfl ?_
  refine r_gfi 8 5 ck rfl rfl rfl rfl ?_
  refine g_il 9 ck rfl rfl rfl ?_
  refine g_ias (m := 8) 10 ck rfl rfl rfl s1 s2 ?_
  replace h := h _ rfl
  obtain ⟨⟨s3, s4, s5, s6, s7⟩, h⟩ := h
  refine g_al 11 ck rfl rfl rfl ?_
  refine r_gfr 14 133 ck rfl rfl rfl (by decide) ?_
  refine g_al 15 ck rfl rfl rfl ?_
  refine r_gfi 18 5 ck rfl rfl rfl rfl ?_
  refine g_aal (b := 134) (m := 8) 19 ck rfl rfl rfl s3 s4 ?_
  refine g_al 20 ck rfl rfl rfl ?_
  refine g_cvv (as := [_]) (rest := []) 23 ck rfl rfl rfl rfl rfl rfl (isP_c (isP_row (a := 133) (b := 134) (m := 8) rfl s3 s4)) rfl rfl rfl (Nat.le_of_ble_eq_true rfl) (s83 (isP_row (a := 133) (b := 134) (m := 8) rfl s3 s4) ho2 s5 s6 s7 ?_)
  replace h := h _ rfl
  obtain ⟨⟨s8, s9, s10, s11⟩, h⟩ := h
  refine g_al 24 ck rfl rfl rfl ?_
  refine g_cvv (as := []) (rest := []) 27 ck rfl rfl rfl rfl rfl rfl rfl rfl rfl rfl (Nat.le_of_ble_eq_true rfl) (s66 s8 s9 s10 s11 ?_)
  replace h := h _ rfl
  exact g_retv ck rfl rfl h
/-! 65 TermDesk$History.keepOrder(LTermDesk$Order;)V -/
def w65 (B : va_E) (σ : l2_m) (o1 : Nat) (K : Int → l2_m → Prop) : Prop := ((0 ≤ (σ 128 5) ∧ (σ 128 5) < 8) ∧ ∀ σ' : l2_m, σ' = l2_u σ 129 (σ 128 5) (-1) → (0 ≤ (σ' 128 5) ∧ (σ' 128 5) < 8) ∧ ∀ σ'' : l2_m, σ'' = l2_u σ' 130 (σ' 128 5) (σ' o1 0) → (0 ≤ (σ'' 128 5) ∧ (σ'' 128 5) < 8) ∧ ∀ σ''' : l2_m, σ''' = l2_u σ'' 131 (σ'' 128 5) (σ'' o1 1) → (0 ≤ (σ''' 128 5) ∧ (σ''' 128 5) < 8) ∧ ∀ σ'''' : l2_m, σ'''' = l2_u σ''' 132 (σ''' 128 5) (σ''' o1 2) → (0 ≤ (σ'''' 128 5) ∧ (σ'''' 128 5) < 8 ∧ 0 ≤ (σ'''' 128 6) ∧ (σ'''' 128 6) ≤ 8) ∧ ∀ σ''''' : l2_m, σ''''' = gon σ'''' → K 0 σ''''')
theorem o65 {B : va_E} {σ : l2_m} {o1 : Nat} {K : Int → l2_m → Prop} (ho1 : isO o1)  (h : w65 B σ o1  K) : wC B 65 [vr 128, vr o1] σ K := by
  have ck : pm_code 65 = pc_65 := rfl
  unfold w65 at h
  show wW B 65 0 [vr 128, vr o1] [] σ K
  obtain ⟨⟨s1, s2⟩, h⟩ := h
  refine g_al 1 ck rfl rfl rfl ?_
  refine r_gfr 4 129 ck rfl rfl rfl (by decide) ?_
  refine g_al 5 ck rfl rfl rfl ?_
  refine r_gfi 8 5 ck rfl rfl rfl rfl ?_
  refine g_ic 9 ck rfl rfl ?_
  refine g_ias (m := 8) 10 ck rfl rfl rfl s1 s2 ?_
  replace h := h _ rfl
  obtain ⟨⟨s3, s4⟩, h⟩ := h
  refine g_al 11 ck rfl rfl rfl ?_
  refine r_gfr 14 130 ck rfl rfl rfl (by decide) ?_
  refine g_al 15 ck rfl rfl rfl ?_
  refine r_gfi 18 5 ck rfl rfl rfl rfl ?_
  refine g_al 19 ck rfl rfl rfl ?_
  refine r_gfi 22 0 ck rfl rfl (isO_0 ho1) rfl ?_
  refine g_ias (m := 8) 23 ck rfl rfl rfl s3 s4 ?_
  replace h := h _ rfl
  obtain ⟨⟨s5, s6⟩, h⟩ := h
  refine g_al 24 ck rfl rfl rfl ?_
  refine r_gfr 27 131 ck rfl rfl rfl (by decide) ?_
  refine g_al 28 ck rfl rfl rfl ?_
  refine r_gfi 31 5 ck rfl rfl rfl rfl ?_
  refine g_al 32 ck rfl rfl rfl ?_
  refine r_gfi 35 1 ck rfl rfl (isO_1 ho1) rfl ?_
  refine g_ias (m := 8) 36 ck rfl rfl rfl s5 s6 ?_
  replace h := h _ rfl
  obtain ⟨⟨s7, s8⟩, h⟩ := h
  refine g_al 37 ck rfl rfl rfl ?_
  refine r_gfr 40 132 ck rfl rfl rfl (by decide) ?_
  refine g_al 41 ck rfl rfl rfl ?_
  refine r_gfi 44 5 ck rfl rfl rfl rfl ?_
  refine g_al 45 ck rfl rfl rfl ?_
  refine r_gfi 48 2 ck rfl rfl (isO_2 ho1) rfl ?_
  refine g_ias (m := 8) 49 ck rfl rfl rfl s7 s8 ?_
  replace h := h _ rfl
  obtain ⟨⟨s9, s10, s11, s12⟩, h⟩ := h
  refine g_al 50 ck rfl rfl rfl ?_
  refine g_cvv (as := []) (rest := []) 53 ck rfl rfl rfl rfl rfl rfl rfl rfl rfl rfl (Nat.le_of_ble_eq_true rfl) (s66 s9 s10 s11 s12 ?_)
  replace h := h _ rfl
  exact g_retv ck rfl rfl h
