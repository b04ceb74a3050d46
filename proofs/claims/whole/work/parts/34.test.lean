/-! 72 TermDesk$Modulus.reduce(I)I -/
def w72 (B : va_E) (σ : l2_m) (o0 : Nat) (x1 : Int) (K : Int → l2_m → Prop) : Prop := (rg (σ o0 0) ∧ (if (σ o0 0) < 2 then K 0 σ else ((rg x1 ∧ 0 < (σ o0 0) ∧ 0 ≤ x1) ∧ ∀ x2 : Int, x2 = (x1 % (σ o0 0)) → rg x2 ∧ (if x2 < 0 then K (x2 + (σ o0 0)) σ else K x2 σ))))
theorem o72 {B : va_E} {σ : l2_m} {o0 : Nat} {x1 : Int} {K : Int → l2_m → Prop} (ho0 : isM o0)  (h : w72 B σ o0 x1  K) : wC B 72 [vr o0, vi x1] σ K := by
  have ck : pm_code 72 = pc_72 := rfl
  unfold w72 at h
  show wW B 72 0 [vr o0, vi x1, pm_un] [] σ K
  obtain ⟨s1, h⟩ := h
  refine g_al 1 ck rfl rfl rfl ?_
  refine r_gfi 4 0 ck rfl rfl (isM_0 ho0) rfl ?_
  refine g_ic 5 ck rfl rfl ?_
  refine g_ii2 8 10 ck rfl rfl rfl s1 (by decide) (fun hc => ?_) (fun hc => ?_)
  · replace h := ite_f (Int.not_lt.mpr hc) h
    obtain ⟨⟨s2, s3, s4⟩, h⟩ := h
    refine g_il 11 ck rfl rfl rfl ?_
    refine g_al 12 ck rfl rfl rfl ?_
    refine r_gfi 15 0 ck rfl rfl (isM_0 ho0) rfl ?_
    refine g_rem 16 ck rfl rfl s2 s1 s4 s3 ?_
    refine r_is 17 ck rfl rfl rfl rfl ?_
    replace h := h _ rfl
    obtain ⟨s5, h⟩ := h
    refine g_il 18 ck rfl rfl rfl ?_
    refine g_if 21 30 ck rfl rfl rfl s5 (fun hc => ?_) (fun hc => ?_)
    · replace h := ite_f (Int.not_lt.mpr hc) h
      refine g_il 31 ck rfl rfl rfl ?_
      exact g_ret ck rfl rfl (Or.inl (by decide)) h
    · replace h := ite_t (Int.not_le.mp hc) h
      refine g_il 22 ck rfl rfl rfl ?_
      refine g_al 23 ck rfl rfl rfl ?_
      refine r_gfi 26 0 ck rfl rfl (isM_0 ho0) rfl ?_
      refine g_add 27 ck rfl rfl ?_
      refine g_goto 31 ck rfl rfl ?_
      exact g_ret ck rfl rfl (Or.inl (by decide)) h
  · replace h := ite_t (Int.not_le.mp hc) h
    refine g_ic 9 ck rfl rfl ?_
    exact g_ret ck rfl rfl (Or.inl (by decide)) h
/-! 73 TermDesk$Modulus.inverseOf(I)I -/
def w73 (B : va_E) (σ : l2_m) (o0 : Nat) (x1 : Int) (K : Int → l2_m → Prop) : Prop := (rg x1 ∧ (((0 < x1) → rg (σ o0 0)) ∧ (if (0 < x1) ∧ x1 < (σ o0 0) then ((0 ≤ x1 ∧ x1 < 98) ∧ K (σ (o0 + 1) x1) σ) else K 0 σ)))
theorem o73 {B : va_E} {σ : l2_m} {o0 : Nat} {x1 : Int} {K : Int → l2_m → Prop} (ho0 : isM o0)  (h : w73 B σ o0 x1  K) : wC B 73 [vr o0, vi x1] σ K := by
  have ck : pm_code 73 = pc_73 := rfl
  unfold w73 at h
  show wW B 73 0 [vr o0, vi x1] [] σ K
  replace h := (And.imp_right mg_3s) h
  obtain ⟨s1, h⟩ := h
  refine g_il 1 ck rfl rfl rfl ?_
  refine g_if 4 21 ck rfl rfl rfl s1 (fun hc => ?_) (fun hc => ?_)
  · replace h := ite_f (Int.not_lt.mpr hc) h
    refine g_ic 22 ck rfl rfl ?_
    exact g_ret ck rfl rfl (Or.inl (by decide)) h
  · replace h := ite_t (Int.not_le.mp hc) h
    obtain ⟨s2, h⟩ := h
    refine g_il 5 ck rfl rfl rfl ?_
    refine g_al 6 ck rfl rfl rfl ?_
    refine r_gfi 9 0 ck rfl rfl (isM_0 ho0) rfl ?_
    refine g_ii2 12 21 ck rfl rfl rfl s1 s2 (fun hc => ?_) (fun hc => ?_)
    · replace h := ite_f (Int.not_lt.mpr hc) h
      refine g_ic 22 ck rfl rfl ?_
      exact g_ret ck rfl rfl (Or.inl (by decide)) h
    · replace h := ite_t (Int.not_le.mp hc) h
      obtain ⟨⟨s3, s4⟩, h⟩ := h
      refine g_al 13 ck rfl rfl rfl ?_
      refine r_gfr 16 _ ck rfl rfl (isM_1 ho0) (isX_g (isM_c ho0)) ?_
      refine g_il 17 ck rfl rfl rfl ?_
      refine g_ial (m := 98) 18 ck rfl rfl (isM_m ho0) s3 s4 ?_
      refine g_goto 22 ck rfl rfl ?_
      exact g_ret ck rfl rfl (Or.inl (by decide)) h
/-! 82 TermDesk$Poly.append(II)Z -/
def w82 (B : va_E) (σ : l2_m) (o0 : Nat) (x1 : Int) (x2 : Int) (K : Int → l2_m → Prop) : Prop := (rg (σ o0 2) ∧ (if ((σ o0 2) < 0) ∨ ¬ ((σ o0 2) < 60) then K 0 σ else ((0 ≤ (σ o0 2) ∧ (σ o0 2) < 60) ∧ ∀ σ' : l2_m, σ' = l2_u σ (o0 + 1) (σ o0 2) x1 → (0 ≤ (σ' o0 2) ∧ (σ' o0 2) < 60) ∧ ∀ σ'' : l2_m, σ'' = l2_u σ' (o0 + 2) (σ' o0 2) x2 → ∀ σ''' : l2_m, σ''' = l2_u σ'' o0 2 ((σ'' o0 2) + 1) → K 1 σ''')))
theorem o82 {B : va_E} {σ : l2_m} {o0 : Nat} {x1 : Int} {x2 : Int} {K : Int → l2_m → Prop} (ho0 : isP o0)  (h : w82 B σ o0 x1 x2  K) : wC B 82 [vr o0, vi x1, vi x2] σ K := by
  have ck : pm_code 82 = pc_82 := rfl
  unfold w82 at h
  show wW B 82 0 [vr o0, vi x1, vi x2] [] σ K
  replace h := (And.imp_right mg_2) h
  obtain ⟨s1, h⟩ := h
  refine g_al 1 ck rfl rfl rfl ?_
  refine r_gfi 4 2 ck rfl rfl (isP_2 ho0) rfl ?_
  refine g_if 7 16 ck rfl rfl rfl s1 (fun hc => ?_) (fun hc => ?_)
  · replace h := ite_t hc h
    refine g_ic 17 ck rfl rfl ?_
    exact g_retb ck rfl rfl (Or.inl rfl) h
  · replace h := ite_f hc h
    refine g_al 8 ck rfl rfl rfl ?_
    refine r_gfi 11 2 ck rfl rfl (isP_2 ho0) rfl ?_
    refine g_ic 13 ck rfl rfl ?_
    refine g_ii2 16 18 ck rfl rfl rfl s1 (by decide) (fun hc => ?_) (fun hc => ?_)
    · replace h := ite_t hc h
      obtain ⟨⟨s2, s3⟩, h⟩ := h
      refine g_al 19 ck rfl rfl rfl ?_
      refine r_gfr 22 _ ck rfl rfl (isP_0 ho0) (isX_g (isP_c ho0)) ?_
      refine g_al 23 ck rfl rfl rfl ?_
      refine r_gfi 26 2 ck rfl rfl (isP_2 ho0) rfl ?_
      refine g_il 27 ck rfl rfl rfl ?_
      refine g_ias (m := 60) 28 ck rfl rfl (isP_m ho0) s2 s3 ?_
      replace h := h _ rfl
      obtain ⟨⟨s4, s5⟩, h⟩ := h
      refine g_al 29 ck rfl rfl rfl ?_
      refine r_gfr 32 _ ck rfl rfl (isP_1 ho0) (isX_g (isP_c ho0)) ?_
      refine g_al 33 ck rfl rfl rfl ?_
      refine r_gfi 36 2 ck rfl rfl (isP_2 ho0) rfl ?_
      refine g_il 37 ck rfl rfl rfl ?_
      refine g_ias (m := 60) 38 ck rfl rfl (isP_k ho0) s4 s5 ?_
      replace h := h _ rfl
      refine g_al 39 ck rfl rfl rfl ?_
      refine g_dup 40 ck rfl rfl rfl ?_
      refine r_gfi 43 2 ck rfl rfl (isP_2 ho0) rfl ?_
      refine g_ic 44 ck rfl rfl ?_
      refine g_add 45 ck rfl rfl ?_
      refine g_pfi 48 ck rfl rfl (isP_2 ho0) 2 rfl rfl ?_
      replace h := h _ rfl
      refine g_ic 49 ck rfl rfl ?_
      exact g_retb ck rfl rfl (Or.inr rfl) h
    · replace h := ite_f hc h
      refine g_ic 17 ck rfl rfl ?_
      exact g_retb ck rfl rfl (Or.inl rfl) h
/-! 83 TermDesk$Poly.copyFrom(LTermDesk$Poly;)V -/
def w83_10 (B : va_E) (σ : l2_m) (o0 : Nat) (o1 : Nat) (x2 : Int)  (K : Int → l2_m → Prop) : Prop := lz2 (fun X10 x2 σ => ((rg x2 ∧ rg (σ o0 2)) ∧ (if x2 < (σ o0 2) then ((0 ≤ x2 ∧ x2 < 60) ∧ ∀ σ' : l2_m, σ' = l2_u σ (o0 + 1) x2 (σ (o1 + 1) x2) → ∀ σ'' : l2_m, σ'' = l2_u σ' (o0 + 2) x2 (σ' (o1 + 2) x2) → X10 (x2 + 1) σ'') else K 0 σ))) x2 σ
theorem o83_10 {B : va_E} {σ : l2_m} {o0 : Nat} {o1 : Nat} {x2 : Int}   {K : Int → l2_m → Prop} (ho0 : isP o0) (ho1 : isP o1)   (h : w83_10 B σ o0 o1 x2  K) : wW B 83 10 [vr o0, vr o1, vi x2] [] σ K := by
  have ck : pm_code 83 = pc_83 := rfl
  unfold w83_10 at h
  refine h (fun x2 σ => wW B 83 10 [vr o0, vr o1, vi x2] [] σ K) ?_
  clear h
  intro x2 σ h
  obtain ⟨⟨s1, s2⟩, h⟩ := h
  refine g_il 11 ck rfl rfl rfl ?_
  refine g_al 12 ck rfl rfl rfl ?_
  refine r_gfi 15 2 ck rfl rfl (isP_2 ho0) rfl ?_
  refine g_ii2 18 48 ck rfl rfl rfl s1 s2 (fun hc => ?_) (fun hc => ?_)
  · replace h := ite_f (Int.not_lt.mpr hc) h
    exact g_retv ck rfl rfl h
  · replace h := ite_t (Int.not_le.mp hc) h
    obtain ⟨⟨s3, s4⟩, h⟩ := h
    refine g_al 19 ck rfl rfl rfl ?_
    refine r_gfr 22 _ ck rfl rfl (isP_0 ho0) (isX_g (isP_c ho0)) ?_
    refine g_il 23 ck rfl rfl rfl ?_
    refine g_al 24 ck rfl rfl rfl ?_
    refine r_gfr 27 _ ck rfl rfl (isP_0 ho1) (isX_g (isP_c ho1)) ?_
    refine g_il 28 ck rfl rfl rfl ?_
    refine g_ial (m := 60) 29 ck rfl rfl (isP_m ho1) s3 s4 ?_
    refine g_ias (m := 60) 30 ck rfl rfl (isP_m ho0) s3 s4 ?_
    replace h := h _ rfl
    refine g_al 31 ck rfl rfl rfl ?_
    refine r_gfr 34 _ ck rfl rfl (isP_1 ho0) (isX_g (isP_c ho0)) ?_
    refine g_il 35 ck rfl rfl rfl ?_
    refine g_al 36 ck rfl rfl rfl ?_
    refine r_gfr 39 _ ck rfl rfl (isP_1 ho1) (isX_g (isP_c ho1)) ?_
    refine g_il 40 ck rfl rfl rfl ?_
    refine g_ial (m := 60) 41 ck rfl rfl (isP_k ho1) s3 s4 ?_
    refine g_ias (m := 60) 42 ck rfl rfl (isP_k ho0) s3 s4 ?_
    replace h := h _ rfl
    refine r_ii 45 ck rfl rfl rfl rfl ?_
    refine g_goto 10 ck rfl rfl ?_
    exact h
def w83 (B : va_E) (σ : l2_m) (o0 : Nat) (o1 : Nat) (K : Int → l2_m → Prop) : Prop := (∀ σ' : l2_m, σ' = l2_u σ o0 2 (σ o1 2) → w83_10 B σ' o0 o1 0 K)
theorem o83 {B : va_E} {σ : l2_m} {o0 : Nat} {o1 : Nat} {K : Int → l2_m → Prop} (ho0 : isP o0) (ho1 : isP o1)  (h : w83 B σ o0 o1  K) : wC B 83 [vr o0, vr o1] σ K := by
  have ck : pm_code 83 = pc_83 := rfl
  unfold w83 at h
  show wW B 83 0 [vr o0, vr o1, pm_un] [] σ K
  refine g_al 1 ck rfl rfl rfl ?_
  refine g_al 2 ck rfl rfl rfl ?_
  refine r_gfi 5 2 ck rfl rfl (isP_2 ho1) rfl ?_
  refine g_pfi 8 ck rfl rfl (isP_2 ho0) 2 rfl rfl ?_
  replace h := h _ rfl
  refine g_ic 9 ck rfl rfl ?_
  refine r_is 10 ck rfl rfl rfl rfl ?_
  exact o83_10 ho0 ho1 h
/-! 90 TermDesk$Poly.sort()V -/
def w90_83 (B : va_E) (σ : l2_m) (o0 : Nat) (x1 : Int) (x2 : Int) (x3 : Int) (x4 : Int) (X2 : Int → l2_m → Prop) (K : Int → l2_m → Prop) : Prop := ((0 ≤ x4 ∧ x4 < 60) ∧ ∀ σ' : l2_m, σ' = l2_u σ (o0 + 1) x4 x2 → ∀ σ'' : l2_m, σ'' = l2_u σ' (o0 + 2) x4 x3 → X2 (x1 + 1) σ'')
theorem o90_83 {B : va_E} {σ : l2_m} {o0 : Nat} {x1 : Int} {x2 : Int} {x3 : Int} {x4 : Int}  {X2 : Int → l2_m → Prop} {K : Int → l2_m → Prop} (ho0 : isP o0)  (hX2 : ∀ (x1 : Int) (σ : l2_m) (u2 : Value) (u3 : Value) (u4 : Value), (u2.category == 1) = true → (u3.category == 1) = true → (u4.category == 1) = true → X2 x1 σ → wW B 90 2 [vr o0, vi x1, u2, u3, u4] [] σ K) (h : w90_83 B σ o0 x1 x2 x3 x4 X2 K) : wW B 90 83 [vr o0, vi x1, vi x2, vi x3, vi x4] [] σ K := by
  have ck : pm_code 90 = pc_90 := rfl
  unfold w90_83 at h
  obtain ⟨⟨s1, s2⟩, h⟩ := h
  refine g_al 84 ck rfl rfl rfl ?_
  refine r_gfr 87 _ ck rfl rfl (isP_0 ho0) (isX_g (isP_c ho0)) ?_
  refine g_il 89 ck rfl rfl rfl ?_
  refine g_il 90 ck rfl rfl rfl ?_
  refine g_ias (m := 60) 91 ck rfl rfl (isP_m ho0) s1 s2 ?_
  replace h := h _ rfl
  refine g_al 92 ck rfl rfl rfl ?_
  refine r_gfr 95 _ ck rfl rfl (isP_1 ho0) (isX_g (isP_c ho0)) ?_
  refine g_il 97 ck rfl rfl rfl ?_
  refine g_il 98 ck rfl rfl rfl ?_
  refine g_ias (m := 60) 99 ck rfl rfl (isP_k ho0) s1 s2 ?_
  replace h := h _ rfl
  refine r_ii 102 ck rfl rfl rfl rfl ?_
  refine g_goto 2 ck rfl rfl ?_
  exact hX2 _ _ _ _ _ rfl rfl rfl h
def w90_27 (B : va_E) (σ : l2_m) (o0 : Nat) (x1 : Int) (x2 : Int) (x3 : Int) (x4 : Int) (X2 : Int → l2_m → Prop) (K : Int → l2_m → Prop) : Prop := lz2 (fun X27 x4 σ => (rg x4 ∧ (((0 < x4) → 0 ≤ (x4 - 1) ∧ (x4 - 1) < 60 ∧ rg (σ (o0 + 1) (x4 - 1)) ∧ rg x2) ∧ (if (0 < x4) ∧ ((σ (o0 + 1) (x4 - 1)) < x2) then ((0 ≤ x4 ∧ x4 < 60) ∧ ∀ σ' : l2_m, σ' = l2_u σ (o0 + 1) x4 (σ (o0 + 1) (x4 - 1)) → ∀ σ'' : l2_m, σ'' = l2_u σ' (o0 + 2) x4 (σ' (o0 + 2) (x4 - 1)) → X27 (x4 + (-1)) σ'') else w90_83 B σ o0 x1 x2 x3 x4 X2 K)))) x4 σ
theorem o90_27 {B : va_E} {σ : l2_m} {o0 : Nat} {x1 : Int} {x2 : Int} {x3 : Int} {x4 : Int}  {X2 : Int → l2_m → Prop} {K : Int → l2_m → Prop} (ho0 : isP o0)  (hX2 : ∀ (x1 : Int) (σ : l2_m) (u2 : Value) (u3 : Value) (u4 : Value), (u2.category == 1) = true → (u3.category == 1) = true → (u4.category == 1) = true → X2 x1 σ → wW B 90 2 [vr o0, vi x1, u2, u3, u4] [] σ K) (h : w90_27 B σ o0 x1 x2 x3 x4 X2 K) : wW B 90 27 [vr o0, vi x1, vi x2, vi x3, vi x4] [] σ K := by
  have ck : pm_code 90 = pc_90 := rfl
  unfold w90_27 at h
  refine h (fun x4 σ => wW B 90 27 [vr o0, vi x1, vi x2, vi x3, vi x4] [] σ K) ?_
  clear h
  intro x4 σ h
  replace h := (And.imp_right mg_3s) h
  obtain ⟨s1, h⟩ := h
  refine g_il 29 ck rfl rfl rfl ?_
  refine g_if 32 83 ck rfl rfl rfl s1 (fun hc => ?_) (fun hc => ?_)
  · replace h := ite_f (Int.not_lt.mpr hc) h
    exact o90_83 ho0 hX2 h
  · replace h := ite_t (Int.not_le.mp hc) h
    obtain ⟨⟨s2, s3, s4, s5⟩, h⟩ := h
    refine g_al 33 ck rfl rfl rfl ?_
    refine r_gfr 36 _ ck rfl rfl (isP_0 ho0) (isX_g (isP_c ho0)) ?_
    refine g_il 38 ck rfl rfl rfl ?_
    refine g_ic 39 ck rfl rfl ?_
    refine g_sub 40 ck rfl rfl ?_
    refine g_ial (m := 60) 41 ck rfl rfl (isP_m ho0) s2 s3 ?_
    refine g_il 42 ck rfl rfl rfl ?_
    refine g_ii2 45 83 ck rfl rfl rfl s4 s5 (fun hc => ?_) (fun hc => ?_)
    · replace h := ite_f (Int.not_lt.mpr hc) h
      exact o90_83 ho0 hX2 h
    · replace h := ite_t (Int.not_le.mp hc) h
      obtain ⟨⟨s6, s7⟩, h⟩ := h
      refine g_al 46 ck rfl rfl rfl ?_
      refine r_gfr 49 _ ck rfl rfl (isP_0 ho0) (isX_g (isP_c ho0)) ?_
      refine g_il 51 ck rfl rfl rfl ?_
      refine g_al 52 ck rfl rfl rfl ?_
      refine r_gfr 55 _ ck rfl rfl (isP_0 ho0) (isX_g (isP_c ho0)) ?_
      refine g_il 57 ck rfl rfl rfl ?_
      refine g_ic 58 ck rfl rfl ?_
      refine g_sub 59 ck rfl rfl ?_
      refine g_ial (m := 60) 60 ck rfl rfl (isP_m ho0) s2 s3 ?_
      refine g_ias (m := 60) 61 ck rfl rfl (isP_m ho0) s6 s7 ?_
      replace h := h _ rfl
      refine g_al 62 ck rfl rfl rfl ?_
      refine r_gfr 65 _ ck rfl rfl (isP_1 ho0) (isX_g (isP_c ho0)) ?_
      refine g_il 67 ck rfl rfl rfl ?_
      refine g_al 68 ck rfl rfl rfl ?_
      refine r_gfr 71 _ ck rfl rfl (isP_1 ho0) (isX_g (isP_c ho0)) ?_
      refine g_il 73 ck rfl rfl rfl ?_
      refine g_ic 74 ck rfl rfl ?_
      refine g_sub 75 ck rfl rfl ?_
      refine g_ial (m := 60) 76 ck rfl rfl (isP_k ho0) s2 s3 ?_
      refine g_ias (m := 60) 77 ck rfl rfl (isP_k ho0) s6 s7 ?_
      replace h := h _ rfl
      refine r_ii 80 ck rfl rfl rfl rfl ?_
      refine g_goto 27 ck rfl rfl ?_
      exact h
def w90_2 (B : va_E) (σ : l2_m) (o0 : Nat) (x1 : Int)  (K : Int → l2_m → Prop) : Prop := lz2 (fun X2 x1 σ => ((rg x1 ∧ rg (σ o0 2)) ∧ (if x1 < (σ o0 2) then ((0 ≤ x1 ∧ x1 < 60) ∧ ∀ x2 : Int, x2 = (σ (o0 + 1) x1) → ∀ x3 : Int, x3 = (σ (o0 + 2) x1) → w90_27 B σ o0 x1 x2 x3 x1 X2 K) else K 0 σ))) x1 σ
theorem o90_2 {B : va_E} {σ : l2_m} {o0 : Nat} {x1 : Int} {u2 : Value} {u3 : Value} {u4 : Value}  {K : Int → l2_m → Prop} (ho0 : isP o0) (hu2 : (u2.category == 1) = true) (hu3 : (u3.category == 1) = true) (hu4 : (u4.category == 1) = true)  (h : w90_2 B σ o0 x1  K) : wW B 90 2 [vr o0, vi x1, u2, u3, u4] [] σ K := by
  have ck : pm_code 90 = pc_90 := rfl
  unfold w90_2 at h
  refine h (fun x1 σ => ∀ u2 : Value, (u2.category == 1) = true → ∀ u3 : Value, (u3.category == 1) = true → ∀ u4 : Value, (u4.category == 1) = true → wW B 90 2 [vr o0, vi x1, u2, u3, u4] [] σ K) ?_ u2 hu2 u3 hu3 u4 hu4
  clear h
  intro x1 σ h u2 hu2 u3 hu3 u4 hu4
  obtain ⟨⟨s1, s2⟩, h⟩ := h
  refine g_il 3 ck rfl rfl rfl ?_
  refine g_al 4 ck rfl rfl rfl ?_
  refine r_gfi 7 2 ck rfl rfl (isP_2 ho0) rfl ?_
  refine g_ii2 10 105 ck rfl rfl rfl s1 s2 (fun hc => ?_) (fun hc => ?_)
  · replace h := ite_f (Int.not_lt.mpr hc) h
    exact g_retv ck rfl rfl h
  · replace h := ite_t (Int.not_le.mp hc) h
    obtain ⟨⟨s3, s4⟩, h⟩ := h
    refine g_al 11 ck rfl rfl rfl ?_
    refine r_gfr 14 _ ck rfl rfl (isP_0 ho0) (isX_g (isP_c ho0)) ?_
    refine g_il 15 ck rfl rfl rfl ?_
    refine g_ial (m := 60) 16 ck rfl rfl (isP_m ho0) s3 s4 ?_
    refine r_is 17 ck rfl rfl rfl rfl ?_
    replace h := h _ rfl
    refine g_al 18 ck rfl rfl rfl ?_
    refine r_gfr 21 _ ck rfl rfl (isP_1 ho0) (isX_g (isP_c ho0)) ?_
    refine g_il 22 ck rfl rfl rfl ?_
    refine g_ial (m := 60) 23 ck rfl rfl (isP_k ho0) s3 s4 ?_
    refine r_is 24 ck rfl rfl rfl rfl ?_
    replace h := h _ rfl
    refine g_il 25 ck rfl rfl rfl ?_
    refine r_is 27 ck rfl rfl rfl rfl ?_
    exact o90_27 ho0 (fun _ _ u2 u3 u4 hu2 hu3 hu4 hx => hx u2 hu2 u3 hu3 u4 hu4) h
def w90 (B : va_E) (σ : l2_m) (o0 : Nat) (K : Int → l2_m → Prop) : Prop := w90_2 B σ o0 1 K
theorem o90 {B : va_E} {σ : l2_m} {o0 : Nat} {K : Int → l2_m → Prop} (ho0 : isP o0)  (h : w90 B σ o0  K) : wC B 90 [vr o0] σ K := by
  have ck : pm_code 90 = pc_90 := rfl
  unfold w90 at h
  show wW B 90 0 [vr o0, pm_un, pm_un, pm_un, pm_un] [] σ K
  refine g_ic 1 ck rfl rfl ?_
  refine r_is 2 ck rfl rfl rfl rfl ?_
  exact o90_2 ho0 rfl rfl rfl h
