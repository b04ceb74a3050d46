/-! 239 TermDeskModel.remembers(I)V -/
def w239_123 (B : va_E) (σ : l2_m) (x1 : Int) (x2 : Int)  (K : Int → l2_m → Prop) : Prop := lz2 (fun X123 x2 σ => (rg x2 ∧ (if x2 < 4096 then (rg x1 ∧ (if x1 = (-1) then ((0 ≤ ((4096 * (σ 186 45)) + x2) ∧ ((4096 * (σ 186 45)) + x2) < 32768) ∧ ∀ σ''''''' : l2_m, σ''''''' = l2_u σ 199 ((4096 * (σ 186 45)) + x2) 0 → X123 (x2 + 1) σ''''''') else ((0 ≤ x1 ∧ x1 < 8 ∧ 0 ≤ x2 ∧ x2 < 4096 ∧ 0 ≤ ((4096 * (σ 186 45)) + x2) ∧ ((4096 * (σ 186 45)) + x2) < 32768) ∧ ∀ σ'''''' : l2_m, σ'''''' = l2_u σ 199 ((4096 * (σ 186 45)) + x2) (σ 187 (4096 * x1 + x2)) → X123 (x2 + 1) σ''''''))) else ((0 ≤ (σ 186 45) ∧ (σ 186 45) < 8) ∧ ∀ σ' : l2_m, σ' = l2_u σ 200 (σ 186 45) x1 → (0 ≤ (σ' 186 45) ∧ (σ' 186 45) < 8) ∧ ∀ σ'' : l2_m, σ'' = l2_u σ' 201 (σ' 186 45) (σ' 186 6) → (0 ≤ (σ'' 186 45) ∧ (σ'' 186 45) < 8) ∧ ∀ σ''' : l2_m, σ''' = l2_u σ'' 202 (σ'' 186 45) (σ'' 186 7) → (0 ≤ (σ''' 186 45) ∧ (σ''' 186 45) < 8) ∧ ∀ σ'''' : l2_m, σ'''' = l2_u σ''' 203 (σ''' 186 45) (σ''' 186 8) → ∀ σ''''' : l2_m, σ''''' = l2_u σ'''' 186 45 ((σ'''' 186 45) + 1) → K 0 σ''''')))) x2 σ
theorem o239_123 {B : va_E} {σ : l2_m} {x1 : Int} {x2 : Int}   {K : Int → l2_m → Prop}    (h : w239_123 B σ x1 x2  K) : wW B 239 123 [vr 186, vi x1, vi x2] [] σ K := by
  have ck : pm_code 239 = pc_239 := rfl
  unfold w239_123 at h
  refine h (fun x2 σ => wW B 239 123 [vr 186, vi x1, vi x2] [] σ K) ?_
  clear h
  intro x2 σ h
  obtain ⟨hs1, h⟩ := h
  refine g_il 124 ck rfl rfl rfl ?_
  refine g_ic 127 ck rfl rfl ?_
  refine g_icge 130 166 ck rfl rfl rfl hs1 (by decide) (fun hc => ?_) (fun hc => ?_)
  · replace h := ite_hf h (Int.not_lt.mpr hc)
    obtain ⟨⟨hs2, hs3⟩, h⟩ := h
    refine g_al 167 ck rfl rfl rfl ?_
    refine r_gfr 170 200 ck rfl rfl rfl (by decide) ?_
    refine g_al 171 ck rfl rfl rfl ?_
    refine r_gfi 174 45 ck rfl rfl rfl rfl ?_
    refine g_il 175 ck rfl rfl rfl ?_
    refine g_ias (m := 8) 176 ck rfl rfl rfl hs2 hs3 ?_
    replace h := h _ rfl
    obtain ⟨⟨hs4, hs5⟩, h⟩ := h
    refine g_al 177 ck rfl rfl rfl ?_
    refine r_gfr 180 201 ck rfl rfl rfl (by decide) ?_
    refine g_al 181 ck rfl rfl rfl ?_
    refine r_gfi 184 45 ck rfl rfl rfl rfl ?_
    refine g_al 185 ck rfl rfl rfl ?_
    refine r_gfi 188 6 ck rfl rfl rfl rfl ?_
    refine g_ias (m := 8) 189 ck rfl rfl rfl hs4 hs5 ?_
    replace h := h _ rfl
    obtain ⟨⟨hs6, hs7⟩, h⟩ := h
    refine g_al 190 ck rfl rfl rfl ?_
    refine r_gfr 193 202 ck rfl rfl rfl (by decide) ?_
    refine g_al 194 ck rfl rfl rfl ?_
    refine r_gfi 197 45 ck rfl rfl rfl rfl ?_
    refine g_al 198 ck rfl rfl rfl ?_
    refine r_gfi 201 7 ck rfl rfl rfl rfl ?_
    refine g_ias (m := 8) 202 ck rfl rfl rfl hs6 hs7 ?_
    replace h := h _ rfl
    obtain ⟨⟨hs8, hs9⟩, h⟩ := h
    refine g_al 203 ck rfl rfl rfl ?_
    refine r_gfr 206 203 ck rfl rfl rfl (by decide) ?_
    refine g_al 207 ck rfl rfl rfl ?_
    refine r_gfi 210 45 ck rfl rfl rfl rfl ?_
    refine g_al 211 ck rfl rfl rfl ?_
    refine r_gfi 214 8 ck rfl rfl rfl rfl ?_
    refine g_ias (m := 8) 215 ck rfl rfl rfl hs8 hs9 ?_
    replace h := h _ rfl
    refine g_al 216 ck rfl rfl rfl ?_
    refine g_dup 217 ck rfl rfl rfl ?_
    refine r_gfi 220 45 ck rfl rfl rfl rfl ?_
    refine g_ic 221 ck rfl rfl ?_
    refine g_add 222 ck rfl rfl ?_
    refine g_pfi 225 ck rfl rfl rfl 45 rfl rfl ?_
    replace h := h _ rfl
    exact g_retv ck rfl rfl h
  · replace h := ite_ht h (Int.not_le.mp hc)
    obtain ⟨hs10, h⟩ := h
    refine g_al 131 ck rfl rfl rfl ?_
    refine r_gfr 134 199 ck rfl rfl rfl (by decide) ?_
    refine g_ic 137 ck rfl rfl ?_
    refine g_al 138 ck rfl rfl rfl ?_
    refine r_gfi 141 45 ck rfl rfl rfl rfl ?_
    refine g_mul 142 ck rfl rfl ?_
    refine g_il 143 ck rfl rfl rfl ?_
    refine g_add 144 ck rfl rfl ?_
    refine g_il 145 ck rfl rfl rfl ?_
    refine g_ic 146 ck rfl rfl ?_
    refine g_icne 149 153 ck rfl rfl rfl hs10 (by decide) (fun hc => ?_) (fun hc => ?_)
    · replace h := ite_hf h hc
      obtain ⟨⟨hs11, hs12, hs13, hs14, hs15, hs16⟩, h⟩ := h
      refine g_al 154 ck rfl rfl rfl ?_
      refine g_il 155 ck rfl rfl rfl ?_
      refine g_il 156 ck rfl rfl rfl ?_
      refine g_cvi (as := [_, _]) (rest := [_, _]) 159 ck rfl rfl rfl rfl rfl rfl (by decide) rfl rfl rfl rfl (Nat.le_of_ble_eq_true rfl) (s201 hs11 hs12 hs13 hs14 ?_)
      refine g_ias (m := 32768) 160 ck rfl rfl rfl hs15 hs16 ?_
      replace h := h _ rfl
      refine r_ii 163 ck rfl rfl rfl rfl ?_
      refine g_goto 123 ck rfl rfl ?_
      exact h
    · replace h := ite_ht h (Classical.not_not.mp hc)
      obtain ⟨⟨hs17, hs18⟩, h⟩ := h
      refine g_ic 150 ck rfl rfl ?_
      refine g_goto 159 ck rfl rfl ?_
      refine g_ias (m := 32768) 160 ck rfl rfl rfl hs17 hs18 ?_
      replace h := h _ rfl
      refine r_ii 163 ck rfl rfl rfl rfl ?_
      refine g_goto 123 ck rfl rfl ?_
      exact h
def w239_43 (B : va_E) (σ : l2_m) (x1 : Int) (x2 : Int)  (K : Int → l2_m → Prop) : Prop := lz2 (fun X43 x2 σ => (rg x2 ∧ (if x2 < 8 then ((0 ≤ x2 ∧ x2 < 8 ∧ 0 ≤ (x2 - 1) ∧ (x2 - 1) < 8) ∧ ∀ σ'' : l2_m, σ'' = l2_u σ 200 (x2 - 1) (σ 200 x2) → ∀ σ''' : l2_m, σ''' = l2_u σ'' 201 (x2 - 1) (σ'' 201 x2) → ∀ σ'''' : l2_m, σ'''' = l2_u σ''' 202 (x2 - 1) (σ''' 202 x2) → ∀ σ''''' : l2_m, σ''''' = l2_u σ'''' 203 (x2 - 1) (σ'''' 203 x2) → X43 (x2 + 1) σ''''') else (∀ σ' : l2_m, σ' = l2_u σ 186 45 ((σ 186 45) - 1) → w239_123 B σ' x1 0 K)))) x2 σ
theorem o239_43 {B : va_E} {σ : l2_m} {x1 : Int} {x2 : Int}   {K : Int → l2_m → Prop}    (h : w239_43 B σ x1 x2  K) : wW B 239 43 [vr 186, vi x1, vi x2] [] σ K := by
  have ck : pm_code 239 = pc_239 := rfl
  unfold w239_43 at h
  refine h (fun x2 σ => wW B 239 43 [vr 186, vi x1, vi x2] [] σ K) ?_
  clear h
  intro x2 σ h
  obtain ⟨hs1, h⟩ := h
  refine g_il 44 ck rfl rfl rfl ?_
  refine g_ic 46 ck rfl rfl ?_
  refine g_icge 49 111 ck rfl rfl rfl hs1 (by decide) (fun hc => ?_) (fun hc => ?_)
  · replace h := ite_hf h (Int.not_lt.mpr hc)
    refine g_al 112 ck rfl rfl rfl ?_
    refine g_dup 113 ck rfl rfl rfl ?_
    refine r_gfi 116 45 ck rfl rfl rfl rfl ?_
    refine g_ic 117 ck rfl rfl ?_
    refine g_sub 118 ck rfl rfl ?_
    refine g_pfi 121 ck rfl rfl rfl 45 rfl rfl ?_
    replace h := h _ rfl
    refine g_ic 122 ck rfl rfl ?_
    refine r_is 123 ck rfl rfl rfl rfl ?_
    exact o239_123  h
  · replace h := ite_ht h (Int.not_le.mp hc)
    obtain ⟨⟨hs2, hs3, hs4, hs5⟩, h⟩ := h
    refine g_al 50 ck rfl rfl rfl ?_
    refine r_gfr 53 200 ck rfl rfl rfl (by decide) ?_
    refine g_il 54 ck rfl rfl rfl ?_
    refine g_ic 55 ck rfl rfl ?_
    refine g_sub 56 ck rfl rfl ?_
    refine g_al 57 ck rfl rfl rfl ?_
    refine r_gfr 60 200 ck rfl rfl rfl (by decide) ?_
    refine g_il 61 ck rfl rfl rfl ?_
    refine g_ial (m := 8) 62 ck rfl rfl rfl hs2 hs3 ?_
    refine g_ias (m := 8) 63 ck rfl rfl rfl hs4 hs5 ?_
    replace h := h _ rfl
    refine g_al 64 ck rfl rfl rfl ?_
    refine r_gfr 67 201 ck rfl rfl rfl (by decide) ?_
    refine g_il 68 ck rfl rfl rfl ?_
    refine g_ic 69 ck rfl rfl ?_
    refine g_sub 70 ck rfl rfl ?_
    refine g_al 71 ck rfl rfl rfl ?_
    refine r_gfr 74 201 ck rfl rfl rfl (by decide) ?_
    refine g_il 75 ck rfl rfl rfl ?_
    refine g_ial (m := 8) 76 ck rfl rfl rfl hs2 hs3 ?_
    refine g_ias (m := 8) 77 ck rfl rfl rfl hs4 hs5 ?_
    replace h := h _ rfl
    refine g_al 78 ck rfl rfl rfl ?_
    refine r_gfr 81 202 ck rfl rfl rfl (by decide) ?_
    refine g_il 82 ck rfl rfl rfl ?_
    refine g_ic 83 ck rfl rfl ?_
    refine g_sub 84 ck rfl rfl ?_
    refine g_al 85 ck rfl rfl rfl ?_
    refine r_gfr 88 202 ck rfl rfl rfl (by decide) ?_
    refine g_il 89 ck rfl rfl rfl ?_
    refine g_ial (m := 8) 90 ck rfl rfl rfl hs2 hs3 ?_
    refine g_ias (m := 8) 91 ck rfl rfl rfl hs4 hs5 ?_
    replace h := h _ rfl
    refine g_al 92 ck rfl rfl rfl ?_
    refine r_gfr 95 203 ck rfl rfl rfl (by decide) ?_
    refine g_il 96 ck rfl rfl rfl ?_
    refine g_ic 97 ck rfl rfl ?_
    refine g_sub 98 ck rfl rfl ?_
    refine g_al 99 ck rfl rfl rfl ?_
    refine r_gfr 102 203 ck rfl rfl rfl (by decide) ?_
    refine g_il 103 ck rfl rfl rfl ?_
    refine g_ial (m := 8) 104 ck rfl rfl rfl hs2 hs3 ?_
    refine g_ias (m := 8) 105 ck rfl rfl rfl hs4 hs5 ?_
    replace h := h _ rfl
    refine r_ii 108 ck rfl rfl rfl rfl ?_
    refine g_goto 43 ck rfl rfl ?_
    exact h
def w239_13 (B : va_E) (σ : l2_m) (x1 : Int) (x2 : Int)  (K : Int → l2_m → Prop) : Prop := lz2 (fun X13 x2 σ => (rg x2 ∧ (if x2 < 32768 then ((0 ≤ x2 ∧ x2 < 32768 ∧ 0 ≤ (x2 - 4096) ∧ (x2 - 4096) < 32768) ∧ ∀ σ' : l2_m, σ' = l2_u σ 199 (x2 - 4096) (σ 199 x2) → X13 (x2 + 1) σ') else w239_43 B σ x1 1 K))) x2 σ
theorem o239_13 {B : va_E} {σ : l2_m} {x1 : Int} {x2 : Int}   {K : Int → l2_m → Prop}    (h : w239_13 B σ x1 x2  K) : wW B 239 13 [vr 186, vi x1, vi x2] [] σ K := by
  have ck : pm_code 239 = pc_239 := rfl
  unfold w239_13 at h
  refine h (fun x2 σ => wW B 239 13 [vr 186, vi x1, vi x2] [] σ K) ?_
  clear h
  intro x2 σ h
  obtain ⟨hs1, h⟩ := h
  refine g_il 14 ck rfl rfl rfl ?_
  refine g_ic 16 ck rfl rfl ?_
  refine g_icge 19 41 ck rfl rfl rfl hs1 (by decide) (fun hc => ?_) (fun hc => ?_)
  · replace h := ite_hf h (Int.not_lt.mpr hc)
    refine g_ic 42 ck rfl rfl ?_
    refine r_is 43 ck rfl rfl rfl rfl ?_
    exact o239_43  h
  · replace h := ite_ht h (Int.not_le.mp hc)
    obtain ⟨⟨hs2, hs3, hs4, hs5⟩, h⟩ := h
    refine g_al 20 ck rfl rfl rfl ?_
    refine r_gfr 23 199 ck rfl rfl rfl (by decide) ?_
    refine g_il 24 ck rfl rfl rfl ?_
    refine g_ic 27 ck rfl rfl ?_
    refine g_sub 28 ck rfl rfl ?_
    refine g_al 29 ck rfl rfl rfl ?_
    refine r_gfr 32 199 ck rfl rfl rfl (by decide) ?_
    refine g_il 33 ck rfl rfl rfl ?_
    refine g_ial (m := 32768) 34 ck rfl rfl rfl hs2 hs3 ?_
    refine g_ias (m := 32768) 35 ck rfl rfl rfl hs4 hs5 ?_
    replace h := h _ rfl
    refine r_ii 38 ck rfl rfl rfl rfl ?_
    refine g_goto 13 ck rfl rfl ?_
    exact h
def w239 (B : va_E) (σ : l2_m) (x1 : Int) (K : Int → l2_m → Prop) : Prop := (rg (σ 186 45) ∧ (if (σ 186 45) = 8 then w239_13 B σ x1 4096 K else w239_123 B σ x1 0 K))
theorem o239 {B : va_E} {σ : l2_m} {x1 : Int} {K : Int → l2_m → Prop}   (h : w239 B σ x1  K) : wC B 239 [vr 186, vi x1] σ K := by
  have ck : pm_code 239 = pc_239 := rfl
  unfold w239 at h
  show wW B 239 0 [vr 186, vi x1, pm_un] [] σ K
  obtain ⟨hs1, h⟩ := h
  refine g_al 1 ck rfl rfl rfl ?_
  refine r_gfi 4 45 ck rfl rfl rfl rfl ?_
  refine g_ic 6 ck rfl rfl ?_
  refine g_icne 9 121 ck rfl rfl rfl hs1 (by decide) (fun hc => ?_) (fun hc => ?_)
  · replace h := ite_hf h hc
    refine g_ic 122 ck rfl rfl ?_
    refine r_is 123 ck rfl rfl rfl rfl ?_
    exact o239_123  h
  · replace h := ite_ht h (Classical.not_not.mp hc)
    refine g_ic 12 ck rfl rfl ?_
    refine r_is 13 ck rfl rfl rfl rfl ?_
    exact o239_13  h
/-! 240 TermDeskModel.lays(I)I -/
def w240_29 (B : va_E) (σ : l2_m) (x1 : Int) (x2 : Int)  (K : Int → l2_m → Prop) : Prop := lz2 (fun X29 x2 σ => (rg x2 ∧ (if x2 < 4096 then ((0 ≤ x2 ∧ x2 < 4096 ∧ 0 ≤ ((4096 * x1) + x2) ∧ ((4096 * x1) + x2) < 32768) ∧ ∀ σ'' : l2_m, σ'' = l2_u σ 187 ((4096 * x1) + x2) (σ 192 x2) → X29 (x2 + 1) σ'') else ((∀ j : Int, 0 ≤ j → j < 4096 → rg (σ 192 j)) ∧ ∀ σ' : l2_m, σ' = trr σ 0 → K (cnt (σ 192) 4096) σ')))) x2 σ
theorem o240_29 {B : va_E} {σ : l2_m} {x1 : Int} {x2 : Int}   {K : Int → l2_m → Prop}    (h : w240_29 B σ x1 x2  K) : wW B 240 29 [vr 186, vi x1, vi x2] [] σ K := by
  have ck : pm_code 240 = pc_240 := rfl
  unfold w240_29 at h
  refine h (fun x2 σ => wW B 240 29 [vr 186, vi x1, vi x2] [] σ K) ?_
  clear h
  intro x2 σ h
  obtain ⟨hs1, h⟩ := h
  refine g_il 30 ck rfl rfl rfl ?_
  refine g_ic 33 ck rfl rfl ?_
  refine g_icge 36 60 ck rfl rfl rfl hs1 (by decide) (fun hc => ?_) (fun hc => ?_)
  · replace h := ite_hf h (Int.not_lt.mpr hc)
    obtain ⟨hs2, h⟩ := h
    refine g_al 61 ck rfl rfl rfl ?_
    refine g_al 62 ck rfl rfl rfl ?_
    refine g_cvi (as := []) (rest := [_]) 65 ck rfl rfl rfl rfl rfl rfl (by decide) rfl rfl rfl rfl (Nat.le_of_ble_eq_true rfl) (s223 hs2 ?_)
    refine g_cvi (as := [_]) (rest := []) 68 ck rfl rfl rfl rfl rfl rfl (by decide) rfl rfl rfl rfl (Nat.le_of_ble_eq_true rfl) (s169  ?_)
    replace h := h _ rfl
    exact g_ret ck rfl rfl (Or.inl (by decide)) h
  · replace h := ite_ht h (Int.not_le.mp hc)
    obtain ⟨⟨hs3, hs4, hs5, hs6⟩, h⟩ := h
    refine g_al 37 ck rfl rfl rfl ?_
    refine r_gfr 40 187 ck rfl rfl rfl (by decide) ?_
    refine g_ic 43 ck rfl rfl ?_
    refine g_il 44 ck rfl rfl rfl ?_
    refine g_mul 45 ck rfl rfl ?_
    refine g_il 46 ck rfl rfl rfl ?_
    refine g_add 47 ck rfl rfl ?_
    refine g_al 48 ck rfl rfl rfl ?_
    refine r_gfr 51 192 ck rfl rfl rfl (by decide) ?_
    refine g_il 52 ck rfl rfl rfl ?_
    refine g_ial (m := 4096) 53 ck rfl rfl rfl hs3 hs4 ?_
    refine g_ias (m := 32768) 54 ck rfl rfl rfl hs5 hs6 ?_
    replace h := h _ rfl
    refine r_ii 57 ck rfl rfl rfl rfl ?_
    refine g_goto 29 ck rfl rfl ?_
    exact h
def w240 (B : va_E) (σ : l2_m) (x1 : Int) (K : Int → l2_m → Prop) : Prop := (rg (σ 186 29) ∧ (if (σ 186 29) = 0 then (∀ σ' : l2_m, σ' = trr σ 3 → K (-1) σ') else (((∀ j : Int, 0 ≤ j → j < 4096 → rg (σ 192 j)) ∧ rg (cnt (σ 192) 4096)) ∧ (if 60 < (cnt (σ 192) 4096) then (∀ σ''' : l2_m, σ''' = trr σ 3 → K (-1) σ''') else (wC B 239 [vr 186, vi x1] σ (fun _ σ'' => w240_29 B σ'' x1 0 K))))))
theorem o240 {B : va_E} {σ : l2_m} {x1 : Int} {K : Int → l2_m → Prop}   (h : w240 B σ x1  K) : wC B 240 [vr 186, vi x1] σ K := by
  have ck : pm_code 240 = pc_240 := rfl
  unfold w240 at h
  show wW B 240 0 [vr 186, vi x1, pm_un] [] σ K
  obtain ⟨hs1, h⟩ := h
  refine g_al 1 ck rfl rfl rfl ?_
  refine r_gfi 4 29 ck rfl rfl rfl rfl ?_
  refine g_ifeq 7 16 ck rfl rfl rfl hs1 (fun hc => ?_) (fun hc => ?_)
  · replace h := ite_ht h hc
    refine g_al 17 ck rfl rfl rfl ?_
    refine g_ic 18 ck rfl rfl ?_
    refine g_cvi (as := [_]) (rest := []) 21 ck rfl rfl rfl rfl rfl rfl (by decide) rfl rfl rfl rfl (Nat.le_of_ble_eq_true rfl) (s168  ?_)
    replace h := h _ rfl
    exact g_ret ck rfl rfl (Or.inl (by decide)) h
  · replace h := ite_hf h hc
    obtain ⟨⟨hs2, hs3⟩, h⟩ := h
    refine g_al 8 ck rfl rfl rfl ?_
    refine g_cvi (as := []) (rest := []) 11 ck rfl rfl rfl rfl rfl rfl (by decide) rfl rfl rfl rfl (Nat.le_of_ble_eq_true rfl) (s223 hs2 ?_)
    refine g_ic 13 ck rfl rfl ?_
    refine g_icle 16 22 ck rfl rfl rfl hs3 (by decide) (fun hc => ?_) (fun hc => ?_)
    · replace h := ite_hf h (Int.not_lt.mpr hc)
      refine g_al 23 ck rfl rfl rfl ?_
      refine g_il 24 ck rfl rfl rfl ?_
      refine g_cvv (as := [_]) (rest := []) 27 ck rfl rfl rfl rfl rfl rfl rfl rfl rfl rfl (Nat.le_of_ble_eq_true rfl) (wC.mono h (fun _ σ'' h => ?_))
      refine g_ic 28 ck rfl rfl ?_
      refine r_is 29 ck rfl rfl rfl rfl ?_
      exact o240_29  h
    · replace h := ite_ht h (Int.not_le.mp hc)
      refine g_al 17 ck rfl rfl rfl ?_
      refine g_ic 18 ck rfl rfl ?_
      refine g_cvi (as := [_]) (rest := []) 21 ck rfl rfl rfl rfl rfl rfl (by decide) rfl rfl rfl rfl (Nat.le_of_ble_eq_true rfl) (s168  ?_)
      replace h := h _ rfl
      exact g_ret ck rfl rfl (Or.inl (by decide)) h
/-! 242 TermDeskModel.add(III)I -/
def w242 (B : va_E) (σ : l2_m) (x1 : Int) (x2 : Int) (x3 : Int) (K : Int → l2_m → Prop) : Prop := (∀ σ' : l2_m, σ' = l2_u σ 186 0 0 → (rg x1 ∧ rg x2 ∧ rg x3 ∧ ((σ' 186 14) = 0 ∨ (σ' 186 14) = 1)) ∧ (if (σ' 186 14) = 1 ∧ (0 ≤ x1 ∧ x1 < 8) ∧ (0 ≤ x2 ∧ x2 < 8) ∧ (0 ≤ x3 ∧ x3 < 8) then (∀ σ'' : l2_m, σ'' = l2_u (fil σ' 192 0 4096) 186 29 1 → (wC B 224 [vr 186, vi x1, vi 1, vi 0] σ'' (fun _ σ''' => (wC B 224 [vr 186, vi x2, vi 1, vi 0] σ''' (fun _ σ'''' => (wC B 240 [vr 186, vi x3] σ'''' (fun y σ''''' => K y σ'''''))))))) else (∀ σ'''''' : l2_m, σ'''''' = trr σ' 1 → K (-1) σ'''''')))
theorem o242 {B : va_E} {σ : l2_m} {x1 : Int} {x2 : Int} {x3 : Int} {K : Int → l2_m → Prop}   (h : w242 B σ x1 x2 x3  K) : wC B 242 [vr 186, vi x1, vi x2, vi x3] σ K := by
  have ck : pm_code 242 = pc_242 := rfl
  unfold w242 at h
  show wW B 242 0 [vr 186, vi x1, vi x2, vi x3] [] σ K
  refine g_al 1 ck rfl rfl rfl ?_
  refine g_ic 2 ck rfl rfl ?_
  refine g_pfi 5 ck rfl rfl rfl 0 rfl rfl ?_
  replace h := h _ rfl
  obtain ⟨⟨hs1, hs2, hs3, hs4⟩, h⟩ := h
  refine g_al 6 ck rfl rfl rfl ?_
  refine g_il 7 ck rfl rfl rfl ?_
  refine g_il 8 ck rfl rfl rfl ?_
  refine g_il 9 ck rfl rfl rfl ?_
  refine g_cvi (as := [_, _, _]) (rest := []) 12 ck rfl rfl rfl rfl rfl rfl (by decide) rfl rfl rfl rfl (Nat.le_of_ble_eq_true rfl) (s241 hs1 hs2 hs3 hs4 ?_)
  refine g_ifne 15 21 ck rfl rfl rfl rg_b2i (fun hc => ?_) (fun hc => ?_)
  · replace h := ite_ht h (b2i_t hc)
    refine g_al 22 ck rfl rfl rfl ?_
    refine g_cvv (as := []) (rest := []) 25 ck rfl rfl rfl rfl rfl rfl rfl rfl rfl rfl (Nat.le_of_ble_eq_true rfl) (s222  ?_)
    replace h := h _ rfl
    refine g_al 26 ck rfl rfl rfl ?_
    refine g_il 27 ck rfl rfl rfl ?_
    refine g_ic 28 ck rfl rfl ?_
    refine g_ic 29 ck rfl rfl ?_
    refine g_cvv (as := [_, _, _]) (rest := []) 32 ck rfl rfl rfl rfl rfl rfl rfl rfl rfl rfl (Nat.le_of_ble_eq_true rfl) (wC.mono h (fun _ σ''' h => ?_))
    refine g_al 33 ck rfl rfl rfl ?_
    refine g_il 34 ck rfl rfl rfl ?_
    refine g_ic 35 ck rfl rfl ?_
    refine g_ic 36 ck rfl rfl ?_
    refine g_cvv (as := [_, _, _]) (rest := []) 39 ck rfl rfl rfl rfl rfl rfl rfl rfl rfl rfl (Nat.le_of_ble_eq_true rfl) (wC.mono h (fun _ σ'''' h => ?_))
    refine g_al 40 ck rfl rfl rfl ?_
    refine g_il 41 ck rfl rfl rfl ?_
    refine g_cvi (as := [_]) (rest := []) 44 ck rfl rfl rfl rfl rfl rfl (by decide) rfl rfl rfl rfl (Nat.le_of_ble_eq_true rfl) (wC.mono h (fun y σ''''' h => ?_))
    exact g_ret ck rfl rfl (Or.inl (by decide)) h
  · replace h := ite_hf h (b2i_f (Classical.not_not.mp hc))
    refine g_al 16 ck rfl rfl rfl ?_
    refine g_ic 17 ck rfl rfl ?_
    refine g_cvi (as := [_]) (rest := []) 20 ck rfl rfl rfl rfl rfl rfl (by decide) rfl rfl rfl rfl (Nat.le_of_ble_eq_true rfl) (s168  ?_)
    replace h := h _ rfl
    exact g_ret ck rfl rfl (Or.inl (by decide)) h
/-! 243 TermDeskModel.less(III)I -/
def w243 (B : va_E) (σ : l2_m) (x1 : Int) (x2 : Int) (x3 : Int) (K : Int → l2_m → Prop) : Prop := (∀ σ' : l2_m, σ' = l2_u σ 186 0 0 → (rg x1 ∧ rg x2 ∧ rg x3 ∧ ((σ' 186 14) = 0 ∨ (σ' 186 14) = 1)) ∧ (if (σ' 186 14) = 1 ∧ (0 ≤ x1 ∧ x1 < 8) ∧ (0 ≤ x2 ∧ x2 < 8) ∧ (0 ≤ x3 ∧ x3 < 8) then (∀ σ'' : l2_m, σ'' = l2_u (fil σ' 192 0 4096) 186 29 1 → (wC B 224 [vr 186, vi x1, vi 1, vi 0] σ'' (fun _ σ''' => (wC B 224 [vr 186, vi x2, vi ((σ''' 186 5) - 1), vi 0] σ''' (fun _ σ'''' => (wC B 240 [vr 186, vi x3] σ'''' (fun y σ''''' => K y σ'''''))))))) else (∀ σ'''''' : l2_m, σ'''''' = trr σ' 1 → K (-1) σ'''''')))
theorem o243 {B : va_E} {σ : l2_m} {x1 : Int} {x2 : Int} {x3 : Int} {K : Int → l2_m → Prop}   (h : w243 B σ x1 x2 x3  K) : wC B 243 [vr 186, vi x1, vi x2, vi x3] σ K := by
  have ck : pm_code 243 = pc_243 := rfl
  unfold w243 at h
  show wW B 243 0 [vr 186, vi x1, vi x2, vi x3] [] σ K
  refine g_al 1 ck rfl rfl rfl ?_
  refine g_ic 2 ck rfl rfl ?_
  refine g_pfi 5 ck rfl rfl rfl 0 rfl rfl ?_
  replace h := h _ rfl
  obtain ⟨⟨hs1, hs2, hs3, hs4⟩, h⟩ := h
  refine g_al 6 ck rfl rfl rfl ?_
  refine g_il 7 ck rfl rfl rfl ?_
  refine g_il 8 ck rfl rfl rfl ?_
  refine g_il 9 ck rfl rfl rfl ?_
  refine g_cvi (as := [_, _, _]) (rest := []) 12 ck rfl rfl rfl rfl rfl rfl (by decide) rfl rfl rfl rfl (Nat.le_of_ble_eq_true rfl) (s241 hs1 hs2 hs3 hs4 ?_)
  refine g_ifne 15 21 ck rfl rfl rfl rg_b2i (fun hc => ?_) (fun hc => ?_)
  · replace h := ite_ht h (b2i_t hc)
    refine g_al 22 ck rfl rfl rfl ?_
    refine g_cvv (as := []) (rest := []) 25 ck rfl rfl rfl rfl rfl rfl rfl rfl rfl rfl (Nat.le_of_ble_eq_true rfl) (s222  ?_)
    replace h := h _ rfl
    refine g_al 26 ck rfl rfl rfl ?_
    refine g_il 27 ck rfl rfl rfl ?_
    refine g_ic 28 ck rfl rfl ?_
    refine g_ic 29 ck rfl rfl ?_
    refine g_cvv (as := [_, _, _]) (rest := []) 32 ck rfl rfl rfl rfl rfl rfl rfl rfl rfl rfl (Nat.le_of_ble_eq_true rfl) (wC.mono h (fun _ σ''' h => ?_))
    refine g_al 33 ck rfl rfl rfl ?_
    refine g_il 34 ck rfl rfl rfl ?_
    refine g_al 35 ck rfl rfl rfl ?_
    refine r_gfi 38 5 ck rfl rfl rfl rfl ?_
    refine g_ic 39 ck rfl rfl ?_
    refine g_sub 40 ck rfl rfl ?_
    refine g_ic 41 ck rfl rfl ?_
    refine g_cvv (as := [_, _, _]) (rest := []) 44 ck rfl rfl rfl rfl rfl rfl rfl rfl rfl rfl (Nat.le_of_ble_eq_true rfl) (wC.mono h (fun _ σ'''' h => ?_))
    refine g_al 45 ck rfl rfl rfl ?_
    refine g_il 46 ck rfl rfl rfl ?_
    refine g_cvi (as := [_]) (rest := []) 49 ck rfl rfl rfl rfl rfl rfl (by decide) rfl rfl rfl rfl (Nat.le_of_ble_eq_true rfl) (wC.mono h (fun y σ''''' h => ?_))
    exact g_ret ck rfl rfl (Or.inl (by decide)) h
  · replace h := ite_hf h (b2i_f (Classical.not_not.mp hc))
    refine g_al 16 ck rfl rfl rfl ?_
    refine g_ic 17 ck rfl rfl ?_
    refine g_cvi (as := [_]) (rest := []) 20 ck rfl rfl rfl rfl rfl rfl (by decide) rfl rfl rfl rfl (Nat.le_of_ble_eq_true rfl) (s168  ?_)
    replace h := h _ rfl
    exact g_ret ck rfl rfl (Or.inl (by decide)) h
/-! 244 TermDeskModel.times(III)I -/
def w244_28 (B : va_E) (σ : l2_m) (x1 : Int) (x2 : Int) (x3 : Int) (x4 : Int)  (K : Int → l2_m → Prop) : Prop := lz2 (fun X28 x4 σ => (rg x4 ∧ (if x4 < 4096 then ((0 ≤ x2 ∧ x2 < 8 ∧ 0 ≤ x4 ∧ x4 < 4096 ∧ rg (σ 187 (4096 * x2 + x4))) ∧ (if (σ 187 (4096 * x2 + x4)) = 0 then X28 (x4 + 1) σ else (wC B 224 [vr 186, vi x1, vi (σ 187 (4096 * x2 + x4)), vi x4] σ (fun _ σ'' => X28 (x4 + 1) σ'')))) else (wC B 240 [vr 186, vi x3] σ (fun y σ' => K y σ'))))) x4 σ
theorem o244_28 {B : va_E} {σ : l2_m} {x1 : Int} {x2 : Int} {x3 : Int} {x4 : Int}   {K : Int → l2_m → Prop}    (h : w244_28 B σ x1 x2 x3 x4  K) : wW B 244 28 [vr 186, vi x1, vi x2, vi x3, vi x4] [] σ K := by
  have ck : pm_code 244 = pc_244 := rfl
  unfold w244_28 at h
  refine h (fun x4 σ => wW B 244 28 [vr 186, vi x1, vi x2, vi x3, vi x4] [] σ K) ?_
  clear h
  intro x4 σ h
  obtain ⟨hs1, h⟩ := h
  refine g_il 30 ck rfl rfl rfl ?_
  refine g_ic 33 ck rfl rfl ?_
  refine g_icge 36 66 ck rfl rfl rfl hs1 (by decide) (fun hc => ?_) (fun hc => ?_)
  · replace h := ite_hf h (Int.not_lt.mpr hc)
    refine g_al 67 ck rfl rfl rfl ?_
    refine g_il 68 ck rfl rfl rfl ?_
    refine g_cvi (as := [_]) (rest := []) 71 ck rfl rfl rfl rfl rfl rfl (by decide) rfl rfl rfl rfl (Nat.le_of_ble_eq_true rfl) (wC.mono h (fun y σ' h => ?_))
    exact g_ret ck rfl rfl (Or.inl (by decide)) h
  · replace h := ite_ht h (Int.not_le.mp hc)
    obtain ⟨⟨hs2, hs3, hs4, hs5, hs6⟩, h⟩ := h
    refine g_al 37 ck rfl rfl rfl ?_
    refine g_il 38 ck rfl rfl rfl ?_
    refine g_il 40 ck rfl rfl rfl ?_
    refine g_cvi (as := [_, _]) (rest := []) 43 ck rfl rfl rfl rfl rfl rfl (by decide) rfl rfl rfl rfl (Nat.le_of_ble_eq_true rfl) (s201 hs2 hs3 hs4 hs5 ?_)
    refine g_ifeq 46 60 ck rfl rfl rfl hs6 (fun hc => ?_) (fun hc => ?_)
    · replace h := ite_ht h hc
      refine r_ii 63 ck rfl rfl rfl rfl ?_
      refine g_goto 28 ck rfl rfl ?_
      exact h
    · replace h := ite_hf h hc
      refine g_al 47 ck rfl rfl rfl ?_
      refine g_il 48 ck rfl rfl rfl ?_
      refine g_al 49 ck rfl rfl rfl ?_
      refine g_il 50 ck rfl rfl rfl ?_
      refine g_il 52 ck rfl rfl rfl ?_
      refine g_cvi (as := [_, _]) (rest := [_, _]) 55 ck rfl rfl rfl rfl rfl rfl (by decide) rfl rfl rfl rfl (Nat.le_of_ble_eq_true rfl) (s201 hs2 hs3 hs4 hs5 ?_)
      refine g_il 57 ck rfl rfl rfl ?_
      refine g_cvv (as := [_, _, _]) (rest := []) 60 ck rfl rfl rfl rfl rfl rfl rfl rfl rfl rfl (Nat.le_of_ble_eq_true rfl) (wC.mono h (fun _ σ'' h => ?_))
      refine r_ii 63 ck rfl rfl rfl rfl ?_
      refine g_goto 28 ck rfl rfl ?_
      exact h
def w244 (B : va_E) (σ : l2_m) (x1 : Int) (x2 : Int) (x3 : Int) (K : Int → l2_m → Prop) : Prop := (∀ σ' : l2_m, σ' = l2_u σ 186 0 0 → (rg x1 ∧ rg x2 ∧ rg x3 ∧ ((σ' 186 14) = 0 ∨ (σ' 186 14) = 1)) ∧ (if (σ' 186 14) = 1 ∧ (0 ≤ x1 ∧ x1 < 8) ∧ (0 ≤ x2 ∧ x2 < 8) ∧ (0 ≤ x3 ∧ x3 < 8) then (∀ σ'' : l2_m, σ'' = l2_u (fil σ' 192 0 4096) 186 29 1 → w244_28 B σ'' x1 x2 x3 0 K) else (∀ σ''' : l2_m, σ''' = trr σ' 1 → K (-1) σ''')))
theorem o244 {B : va_E} {σ : l2_m} {x1 : Int} {x2 : Int} {x3 : Int} {K : Int → l2_m → Prop}   (h : w244 B σ x1 x2 x3  K) : wC B 244 [vr 186, vi x1, vi x2, vi x3] σ K := by
  have ck : pm_code 244 = pc_244 := rfl
  unfold w244 at h
  show wW B 244 0 [vr 186, vi x1, vi x2, vi x3, pm_un] [] σ K
  refine g_al 1 ck rfl rfl rfl ?_
  refine g_ic 2 ck rfl rfl ?_
  refine g_pfi 5 ck rfl rfl rfl 0 rfl rfl ?_
  replace h := h _ rfl
  obtain ⟨⟨hs1, hs2, hs3, hs4⟩, h⟩ := h
  refine g_al 6 ck rfl rfl rfl ?_
  refine g_il 7 ck rfl rfl rfl ?_
  refine g_il 8 ck rfl rfl rfl ?_
  refine g_il 9 ck rfl rfl rfl ?_
  refine g_cvi (as := [_, _, _]) (rest := []) 12 ck rfl rfl rfl rfl rfl rfl (by decide) rfl rfl rfl rfl (Nat.le_of_ble_eq_true rfl) (s241 hs1 hs2 hs3 hs4 ?_)
  refine g_ifne 15 21 ck rfl rfl rfl rg_b2i (fun hc => ?_) (fun hc => ?_)
  · replace h := ite_ht h (b2i_t hc)
    refine g_al 22 ck rfl rfl rfl ?_
    refine g_cvv (as := []) (rest := []) 25 ck rfl rfl rfl rfl rfl rfl rfl rfl rfl rfl (Nat.le_of_ble_eq_true rfl) (s222  ?_)
    replace h := h _ rfl
    refine g_ic 26 ck rfl rfl ?_
    refine r_is 28 ck rfl rfl rfl rfl ?_
    exact o244_28  h
  · replace h := ite_hf h (b2i_f (Classical.not_not.mp hc))
    refine g_al 16 ck rfl rfl rfl ?_
    refine g_ic 17 ck rfl rfl ?_
    refine g_cvi (as := [_]) (rest := []) 20 ck rfl rfl rfl rfl rfl rfl (by decide) rfl rfl rfl rfl (Nat.le_of_ble_eq_true rfl) (s168  ?_)
    replace h := h _ rfl
    exact g_ret ck rfl rfl (Or.inl (by decide)) h
/-! 245 TermDeskModel.scale(IIIIII)I -/
def w245 (B : va_E) (σ : l2_m) (x1 : Int) (x2 : Int) (x3 : Int) (x4 : Int) (x5 : Int) (x6 : Int) (K : Int → l2_m → Prop) : Prop := (∀ σ' : l2_m, σ' = l2_u σ 186 0 0 → (rg x1 ∧ ((σ' 186 14) = 0 ∨ (σ' 186 14) = 1)) ∧ (if (σ' 186 14) = 1 ∧ 0 ≤ x1 ∧ x1 < 8 then (rg x6 ∧ (if (σ' 186 14) = 1 ∧ 0 ≤ x6 ∧ x6 < 8 then ((rg x2 ∧ 0 ≤ (σ' 186 5) ∧ (σ' 186 5) ≤ 97) ∧ (if 0 ≤ x2 ∧ x2 < (σ' 186 5) then (rg x3 ∧ (if 0 ≤ x3 ∧ x3 < 16 then (rg x4 ∧ (if 0 ≤ x4 ∧ x4 < 16 then (rg x5 ∧ (if 0 ≤ x5 ∧ x5 < 16 then (∀ σ'''''' : l2_m, σ'''''' = l2_u (fil σ' 192 0 4096) 186 29 1 → (0 ≤ x3 ∧ x3 < 16 ∧ 0 ≤ x4 ∧ x4 < 16 ∧ 0 ≤ x5 ∧ x5 < 16) ∧ (wC B 224 [vr 186, vi x1, vi x2, vi (x3 + 16 * x4 + 256 * x5)] σ'''''' (fun _ σ''''''' => (wC B 240 [vr 186, vi x6] σ''''''' (fun y σ'''''''' => K y σ''''''''))))) else (∀ σ''''''''' : l2_m, σ''''''''' = trr σ' 2 → K (-1) σ'''''''''))) else (∀ σ''''' : l2_m, σ''''' = trr σ' 2 → K (-1) σ'''''))) else (∀ σ'''' : l2_m, σ'''' = trr σ' 2 → K (-1) σ''''))) else (∀ σ''' : l2_m, σ''' = trr σ' 2 → K (-1) σ'''))) else (∀ σ'''''''''' : l2_m, σ'''''''''' = trr σ' 1 → K (-1) σ''''''''''))) else (∀ σ'' : l2_m, σ'' = trr σ' 1 → K (-1) σ'')))
theorem o245 {B : va_E} {σ : l2_m} {x1 : Int} {x2 : Int} {x3 : Int} {x4 : Int} {x5 : Int} {x6 : Int} {K : Int → l2_m → Prop}   (h : w245 B σ x1 x2 x3 x4 x5 x6  K) : wC B 245 [vr 186, vi x1, vi x2, vi x3, vi x4, vi x5, vi x6] σ K := by
  have ck : pm_code 245 = pc_245 := rfl
  unfold w245 at h
  show wW B 245 0 [vr 186, vi x1, vi x2, vi x3, vi x4, vi x5, vi x6] [] σ K
  refine g_al 1 ck rfl rfl rfl ?_
  refine g_ic 2 ck rfl rfl ?_
  refine g_pfi 5 ck rfl rfl rfl 0 rfl rfl ?_
  replace h := h _ rfl
  obtain ⟨⟨hs1, hs2⟩, h⟩ := h
  refine g_al 6 ck rfl rfl rfl ?_
  refine g_il 7 ck rfl rfl rfl ?_
  refine g_cvi (as := [_]) (rest := []) 10 ck rfl rfl rfl rfl rfl rfl (by decide) rfl rfl rfl rfl (Nat.le_of_ble_eq_true rfl) (s197 hs1 hs2 ?_)
  refine g_ifeq 13 22 ck rfl rfl rfl rg_b2i (fun hc => ?_) (fun hc => ?_)
  · replace h := ite_hf h (b2i_f hc)
    refine g_al 23 ck rfl rfl rfl ?_
    refine g_ic 24 ck rfl rfl ?_
    refine g_cvi (as := [_]) (rest := []) 27 ck rfl rfl rfl rfl rfl rfl (by decide) rfl rfl rfl rfl (Nat.le_of_ble_eq_true rfl) (s168  ?_)
    replace h := h _ rfl
    exact g_ret ck rfl rfl (Or.inl (by decide)) h
  · replace h := ite_ht h (b2i_t hc)
    obtain ⟨hs3, h⟩ := h
    refine g_al 14 ck rfl rfl rfl ?_
    refine g_il 16 ck rfl rfl rfl ?_
    refine g_cvi (as := [_]) (rest := []) 19 ck rfl rfl rfl rfl rfl rfl (by decide) rfl rfl rfl rfl (Nat.le_of_ble_eq_true rfl) (s197 hs3 hs2 ?_)
    refine g_ifne 22 28 ck rfl rfl rfl rg_b2i (fun hc => ?_) (fun hc => ?_)
    · replace h := ite_ht h (b2i_t hc)
      obtain ⟨⟨hs4, hs5, hs6⟩, h⟩ := h
      refine g_al 29 ck rfl rfl rfl ?_
      refine g_il 30 ck rfl rfl rfl ?_
      refine g_cvi (as := [_]) (rest := []) 33 ck rfl rfl rfl rfl rfl rfl (by decide) rfl rfl rfl rfl (Nat.le_of_ble_eq_true rfl) (s199 hs4 hs5 hs6 ?_)
      refine g_ifeq 36 59 ck rfl rfl rfl rg_b2i (fun hc => ?_) (fun hc => ?_)
      · replace h := ite_hf h (b2i_f hc)
        refine g_al 60 ck rfl rfl rfl ?_
        refine g_ic 61 ck rfl rfl ?_
        refine g_cvi (as := [_]) (rest := []) 64 ck rfl rfl rfl rfl rfl rfl (by decide) rfl rfl rfl rfl (Nat.le_of_ble_eq_true rfl) (s168  ?_)
        replace h := h _ rfl
        exact g_ret ck rfl rfl (Or.inl (by decide)) h
      · replace h := ite_ht h (b2i_t hc)
        obtain ⟨hs7, h⟩ := h
        refine g_il 37 ck rfl rfl rfl ?_
        refine g_csi (as := [_]) (rest := []) 40 ck rfl rfl rfl rfl rfl (by decide) rfl rfl rfl (Nat.le_of_ble_eq_true rfl) (s200 hs7 ?_)
        refine g_ifeq 43 59 ck rfl rfl rfl rg_b2i (fun hc => ?_) (fun hc => ?_)
        · replace h := ite_hf h (b2i_f hc)
          refine g_al 60 ck rfl rfl rfl ?_
          refine g_ic 61 ck rfl rfl ?_
          refine g_cvi (as := [_]) (rest := []) 64 ck rfl rfl rfl rfl rfl rfl (by decide) rfl rfl rfl rfl (Nat.le_of_ble_eq_true rfl) (s168  ?_)
          replace h := h _ rfl
          exact g_ret ck rfl rfl (Or.inl (by decide)) h
        · replace h := ite_ht h (b2i_t hc)
          obtain ⟨hs8, h⟩ := h
          refine g_il 45 ck rfl rfl rfl ?_
          refine g_csi (as := [_]) (rest := []) 48 ck rfl rfl rfl rfl rfl (by decide) rfl rfl rfl (Nat.le_of_ble_eq_true rfl) (s200 hs8 ?_)
          refine g_ifeq 51 59 ck rfl rfl rfl rg_b2i (fun hc => ?_) (fun hc => ?_)
          · replace h := ite_hf h (b2i_f hc)
            refine g_al 60 ck rfl rfl rfl ?_
            refine g_ic 61 ck rfl rfl ?_
            refine g_cvi (as := [_]) (rest := []) 64 ck rfl rfl rfl rfl rfl rfl (by decide) rfl rfl rfl rfl (Nat.le_of_ble_eq_true rfl) (s168  ?_)
            replace h := h _ rfl
            exact g_ret ck rfl rfl (Or.inl (by decide)) h
          · replace h := ite_ht h (b2i_t hc)
            obtain ⟨hs9, h⟩ := h
            refine g_il 53 ck rfl rfl rfl ?_
            refine g_csi (as := [_]) (rest := []) 56 ck rfl rfl rfl rfl rfl (by decide) rfl rfl rfl (Nat.le_of_ble_eq_true rfl) (s200 hs9 ?_)
            refine g_ifne 59 65 ck rfl rfl rfl rg_b2i (fun hc => ?_) (fun hc => ?_)
            · replace h := ite_ht h (b2i_t hc)
              refine g_al 66 ck rfl rfl rfl ?_
              refine g_cvv (as := []) (rest := []) 69 ck rfl rfl rfl rfl rfl rfl rfl rfl rfl rfl (Nat.le_of_ble_eq_true rfl) (s222  ?_)
              replace h := h _ rfl
              obtain ⟨⟨hs10, hs11, hs12, hs13, hs14, hs15⟩, h⟩ := h
              refine g_al 70 ck rfl rfl rfl ?_
              refine g_il 71 ck rfl rfl rfl ?_
              refine g_il 72 ck rfl rfl rfl ?_
              refine g_il 73 ck rfl rfl rfl ?_
              refine g_il 75 ck rfl rfl rfl ?_
              refine g_il 77 ck rfl rfl rfl ?_
              refine g_csi (as := [_, _, _]) (rest := [_, _, _]) 80 ck rfl rfl rfl rfl rfl (by decide) rfl rfl rfl (Nat.le_of_ble_eq_true rfl) (s173 hs10 hs11 hs12 hs13 hs14 hs15 ?_)
              refine g_cvv (as := [_, _, _]) (rest := []) 83 ck rfl rfl rfl rfl rfl rfl rfl rfl rfl rfl (Nat.le_of_ble_eq_true rfl) (wC.mono h (fun _ σ''''''' h => ?_))
              refine g_al 84 ck rfl rfl rfl ?_
              refine g_il 86 ck rfl rfl rfl ?_
              refine g_cvi (as := [_]) (rest := []) 89 ck rfl rfl rfl rfl rfl rfl (by decide) rfl rfl rfl rfl (Nat.le_of_ble_eq_true rfl) (wC.mono h (fun y σ'''''''' h => ?_))
              exact g_ret ck rfl rfl (Or.inl (by decide)) h
            · replace h := ite_hf h (b2i_f (Classical.not_not.mp hc))
              refine g_al 60 ck rfl rfl rfl ?_
              refine g_ic 61 ck rfl rfl ?_
              refine g_cvi (as := [_]) (rest := []) 64 ck rfl rfl rfl rfl rfl rfl (by decide) rfl rfl rfl rfl (Nat.le_of_ble_eq_true rfl) (s168  ?_)
              replace h := h _ rfl
              exact g_ret ck rfl rfl (Or.inl (by decide)) h
    · replace h := ite_hf h (b2i_f (Classical.not_not.mp hc))
      refine g_al 23 ck rfl rfl rfl ?_
      refine g_ic 24 ck rfl rfl ?_
      refine g_cvi (as := [_]) (rest := []) 27 ck rfl rfl rfl rfl rfl rfl (by decide) rfl rfl rfl rfl (Nat.le_of_ble_eq_true rfl) (s168  ?_)
      replace h := h _ rfl
      exact g_ret ck rfl rfl (Or.inl (by decide)) h
/-! 246 TermDeskModel.monic(II)I -/
def w246_59 (B : va_E) (σ : l2_m) (x2 : Int)  (K : Int → l2_m → Prop) : Prop := (wC B 240 [vr 186, vi x2] σ (fun y σ' => K y σ'))
theorem o246_59 {B : va_E} {σ : l2_m} {x2 : Int} {u1 : Value}  {K : Int → l2_m → Prop}  (hu1 : (u1.category == 1) = true)  (h : w246_59 B σ x2  K) : wW B 246 59 [vr 186, u1, vi x2] [] σ K := by
  have ck : pm_code 246 = pc_246 := rfl
  unfold w246_59 at h
  refine g_al 60 ck rfl rfl rfl ?_
  refine g_il 61 ck rfl rfl rfl ?_
  refine g_cvi (as := [_]) (rest := []) 64 ck rfl rfl rfl rfl rfl rfl (by decide) rfl rfl rfl rfl (Nat.le_of_ble_eq_true rfl) (wC.mono h (fun y σ' h => ?_))
  exact g_ret ck rfl rfl (Or.inl (by decide)) h
def w246 (B : va_E) (σ : l2_m) (x1 : Int) (x2 : Int) (K : Int → l2_m → Prop) : Prop := (∀ σ' : l2_m, σ' = l2_u σ 186 0 0 → (rg x1 ∧ ((σ' 186 14) = 0 ∨ (σ' 186 14) = 1)) ∧ (if (σ' 186 14) = 1 ∧ 0 ≤ x1 ∧ x1 < 8 then (rg x2 ∧ (if (σ' 186 14) = 1 ∧ 0 ≤ x2 ∧ x2 < 8 then (∀ σ''' : l2_m, σ''' = l2_u (fil σ' 192 0 4096) 186 29 1 → (0 ≤ x1 ∧ x1 < 8 ∧ (∀ j : Int, 0 ≤ j → j < 4096 → rg (σ''' 187 (4096 * x1 + j)))) ∧ (if (cnt (fun k => σ''' 187 (4096 * x1 + k)) 4096) = 0 then w246_59 B σ''' x2 K else (wC B 204 [vr 186, vi x1] σ''' (fun y σ'''' => ((0 ≤ x1 ∧ x1 < 8 ∧ 0 ≤ y ∧ y < 4096) ∧ (wC B 226 [vr 186, vi (σ'''' 187 (4096 * x1 + y))] σ'''' (fun y' σ''''' => (wC B 224 [vr 186, vi x1, vi y', vi 0] σ''''' (fun _ σ'''''' => w246_59 B σ'''''' x2 K))))))))) else (∀ σ''''''' : l2_m, σ''''''' = trr σ' 1 → K (-1) σ'''''''))) else (∀ σ'' : l2_m, σ'' = trr σ' 1 → K (-1) σ'')))
theorem o246 {B : va_E} {σ : l2_m} {x1 : Int} {x2 : Int} {K : Int → l2_m → Prop}   (h : w246 B σ x1 x2  K) : wC B 246 [vr 186, vi x1, vi x2] σ K := by
  have ck : pm_code 246 = pc_246 := rfl
  unfold w246 at h
  show wW B 246 0 [vr 186, vi x1, vi x2] [] σ K
  refine g_al 1 ck rfl rfl rfl ?_
  refine g_ic 2 ck rfl rfl ?_
  refine g_pfi 5 ck rfl rfl rfl 0 rfl rfl ?_
  replace h := h _ rfl
  obtain ⟨⟨hs1, hs2⟩, h⟩ := h
  refine g_al 6 ck rfl rfl rfl ?_
  refine g_il 7 ck rfl rfl rfl ?_
  refine g_cvi (as := [_]) (rest := []) 10 ck rfl rfl rfl rfl rfl rfl (by decide) rfl rfl rfl rfl (Nat.le_of_ble_eq_true rfl) (s197 hs1 hs2 ?_)
  refine g_ifeq 13 21 ck rfl rfl rfl rg_b2i (fun hc => ?_) (fun hc => ?_)
  · replace h := ite_hf h (b2i_f hc)
    refine g_al 22 ck rfl rfl rfl ?_
    refine g_ic 23 ck rfl rfl ?_
    refine g_cvi (as := [_]) (rest := []) 26 ck rfl rfl rfl rfl rfl rfl (by decide) rfl rfl rfl rfl (Nat.le_of_ble_eq_true rfl) (s168  ?_)
    replace h := h _ rfl
    exact g_ret ck rfl rfl (Or.inl (by decide)) h
  · replace h := ite_ht h (b2i_t hc)
    obtain ⟨hs3, h⟩ := h
    refine g_al 14 ck rfl rfl rfl ?_
    refine g_il 15 ck rfl rfl rfl ?_
    refine g_cvi (as := [_]) (rest := []) 18 ck rfl rfl rfl rfl rfl rfl (by decide) rfl rfl rfl rfl (Nat.le_of_ble_eq_true rfl) (s197 hs3 hs2 ?_)
    refine g_ifne 21 27 ck rfl rfl rfl rg_b2i (fun hc => ?_) (fun hc => ?_)
    · replace h := ite_ht h (b2i_t hc)
      refine g_al 28 ck rfl rfl rfl ?_
      refine g_cvv (as := []) (rest := []) 31 ck rfl rfl rfl rfl rfl rfl rfl rfl rfl rfl (Nat.le_of_ble_eq_true rfl) (s222  ?_)
      replace h := h _ rfl
      obtain ⟨⟨hs4, hs5, hs6⟩, h⟩ := h
      refine g_al 32 ck rfl rfl rfl ?_
      refine g_il 33 ck rfl rfl rfl ?_
      refine g_cvi (as := [_]) (rest := []) 36 ck rfl rfl rfl rfl rfl rfl (by decide) rfl rfl rfl rfl (Nat.le_of_ble_eq_true rfl) (s203 hs4 hs5 hs6 ?_)
      refine g_ifne 39 59 ck rfl rfl rfl rg_b2i (fun hc => ?_) (fun hc => ?_)
      · replace h := ite_ht h (b2i_t hc)
        exact o246_59 rfl h
      · replace h := ite_hf h (b2i_f (Classical.not_not.mp hc))
        refine g_al 40 ck rfl rfl rfl ?_
        refine g_il 41 ck rfl rfl rfl ?_
        refine g_al 42 ck rfl rfl rfl ?_
        refine g_al 43 ck rfl rfl rfl ?_
        refine g_il 44 ck rfl rfl rfl ?_
        refine g_al 45 ck rfl rfl rfl ?_
        refine g_il 46 ck rfl rfl rfl ?_
        refine g_cvi (as := [_]) (rest := [_, _, _, _, _]) 49 ck rfl rfl rfl rfl rfl rfl (by decide) rfl rfl rfl rfl (Nat.le_of_ble_eq_true rfl) (wC.mono h (fun y σ'''' h => ?_))
        obtain ⟨⟨hs7, hs8, hs9, hs10⟩, h⟩ := h
        refine g_cvi (as := [_, _]) (rest := [_, _, _]) 52 ck rfl rfl rfl rfl rfl rfl (by decide) rfl rfl rfl rfl (Nat.le_of_ble_eq_true rfl) (s201 hs7 hs8 hs9 hs10 ?_)
        refine g_cvi (as := [_]) (rest := [_, _]) 55 ck rfl rfl rfl rfl rfl rfl (by decide) rfl rfl rfl rfl (Nat.le_of_ble_eq_true rfl) (wC.mono h (fun y' σ''''' h => ?_))
        refine g_ic 56 ck rfl rfl ?_
        refine g_cvv (as := [_, _, _]) (rest := []) 59 ck rfl rfl rfl rfl rfl rfl rfl rfl rfl rfl (Nat.le_of_ble_eq_true rfl) (wC.mono h (fun _ σ'''''' h => ?_))
        exact o246_59 rfl h
    · replace h := ite_hf h (b2i_f (Classical.not_not.mp hc))
      refine g_al 22 ck rfl rfl rfl ?_
      refine g_ic 23 ck rfl rfl ?_
      refine g_cvi (as := [_]) (rest := []) 26 ck rfl rfl rfl rfl rfl rfl (by decide) rfl rfl rfl rfl (Nat.le_of_ble_eq_true rfl) (s168  ?_)
      replace h := h _ rfl
      exact g_ret ck rfl rfl (Or.inl (by decide)) h
/-! 247 TermDeskModel.derive(III)I -/
def w247_41 (B : va_E) (σ : l2_m) (x1 : Int) (x2 : Int) (x3 : Int) (x4 : Int)  (K : Int → l2_m → Prop) : Prop := lz2 (fun X41 x4 σ => (rg x4 ∧ (if x4 < 4096 then ((0 ≤ x2 ∧ x2 < 3) ∧ ∀ x5 : Int, x5 = (e4 x4 x2) → (if 0 < x5 then ((0 ≤ (4 * x2) ∧ (4 * x2) < 32 ∧ 0 ≤ x1 ∧ x1 < 8 ∧ 0 ≤ x4 ∧ x4 < 4096 ∧ rg ((σ 187 (4096 * x1 + x4)) * x5) ∧ rg (σ 186 5) ∧ 0 < (σ 186 5) ∧ 0 ≤ ((σ 187 (4096 * x1 + x4)) * x5) ∧ 0 ≤ (x4 - ((1 : Int) * 2 ^ (Int.toNat (4 * x2)))) ∧ (x4 - ((1 : Int) * 2 ^ (Int.toNat (4 * x2)))) < 4096) ∧ ∀ σ'' : l2_m, σ'' = l2_u σ 192 (x4 - ((1 : Int) * 2 ^ (Int.toNat (4 * x2)))) (((σ 187 (4096 * x1 + x4)) * x5) % (σ 186 5)) → X41 (x4 + 1) σ'') else X41 (x4 + 1) σ)) else (wC B 240 [vr 186, vi x3] σ (fun y σ' => K y σ'))))) x4 σ
theorem o247_41 {B : va_E} {σ : l2_m} {x1 : Int} {x2 : Int} {x3 : Int} {x4 : Int} {u5 : Value}  {K : Int → l2_m → Prop}  (hu5 : (u5.category == 1) = true)  (h : w247_41 B σ x1 x2 x3 x4  K) : wW B 247 41 [vr 186, vi x1, vi x2, vi x3, vi x4, u5] [] σ K := by
  have ck : pm_code 247 = pc_247 := rfl
  unfold w247_41 at h
  refine h (fun x4 σ => ∀ u5 : Value, (u5.category == 1) = true → wW B 247 41 [vr 186, vi x1, vi x2, vi x3, vi x4, u5] [] σ K) ?_ u5 hu5
  clear h
  intro x4 σ h u5 hu5
  obtain ⟨hs1, h⟩ := h
  refine g_il 43 ck rfl rfl rfl ?_
  refine g_ic 46 ck rfl rfl ?_
  refine g_icge 49 96 ck rfl rfl rfl hs1 (by decide) (fun hc => ?_) (fun hc => ?_)
  · replace h := ite_hf h (Int.not_lt.mpr hc)
    refine g_al 97 ck rfl rfl rfl ?_
    refine g_il 98 ck rfl rfl rfl ?_
    refine g_cvi (as := [_]) (rest := []) 101 ck rfl rfl rfl rfl rfl rfl (by decide) rfl rfl rfl rfl (Nat.le_of_ble_eq_true rfl) (wC.mono h (fun y σ' h => ?_))
    exact g_ret ck rfl rfl (Or.inl (by decide)) h
  · replace h := ite_ht h (Int.not_le.mp hc)
    obtain ⟨⟨hs2, hs3⟩, h⟩ := h
    refine g_il 51 ck rfl rfl rfl ?_
    refine g_il 52 ck rfl rfl rfl ?_
    refine g_csi (as := [_, _]) (rest := []) 55 ck rfl rfl rfl rfl rfl (by decide) rfl rfl rfl (Nat.le_of_ble_eq_true rfl) (s171 hs1 hs2 hs3 ?_)
    refine r_is 57 ck rfl rfl rfl rfl ?_
    replace h := h _ rfl
    refine g_il 59 ck rfl rfl rfl ?_
    refine g_ifle 62 90 ck rfl rfl rfl (rg_e4 _ _) (fun hc => ?_) (fun hc => ?_)
    · replace h := ite_hf h (Int.not_lt.mpr hc)
      refine r_ii 93 ck rfl rfl rfl rfl ?_
      refine g_goto 41 ck rfl rfl ?_
      exact h _ rfl
    · replace h := ite_ht h (Int.not_le.mp hc)
      obtain ⟨⟨hs4, hs5, hs6, hs7, hs8, hs9, hs10, hs11, hs12, hs13, hs14, hs15⟩, h⟩ := h
      refine g_al 63 ck rfl rfl rfl ?_
      refine r_gfr 66 192 ck rfl rfl rfl (by decide) ?_
      refine g_il 68 ck rfl rfl rfl ?_
      refine g_ic 69 ck rfl rfl ?_
      refine g_ic 70 ck rfl rfl ?_
      refine g_il 71 ck rfl rfl rfl ?_
      refine g_mul 72 ck rfl rfl ?_
      refine g_shl 73 ck rfl rfl hs4 hs5 ?_
      refine g_sub 74 ck rfl rfl ?_
      refine g_al 75 ck rfl rfl rfl ?_
      refine g_il 76 ck rfl rfl rfl ?_
      refine g_il 78 ck rfl rfl rfl ?_
      refine g_cvi (as := [_, _]) (rest := [_, _]) 81 ck rfl rfl rfl rfl rfl rfl (by decide) rfl rfl rfl rfl (Nat.le_of_ble_eq_true rfl) (s201 hs6 hs7 hs8 hs9 ?_)
      refine g_il 83 ck rfl rfl rfl ?_
      refine g_mul 84 ck rfl rfl ?_
      refine g_al 85 ck rfl rfl rfl ?_
      refine r_gfi 88 5 ck rfl rfl rfl rfl ?_
      refine g_rem 89 ck rfl rfl hs10 hs11 hs13 hs12 ?_
      refine g_ias (m := 4096) 90 ck rfl rfl rfl hs14 hs15 ?_
      replace h := h _ rfl
      refine r_ii 93 ck rfl rfl rfl rfl ?_
      refine g_goto 41 ck rfl rfl ?_
      exact h _ rfl
def w247 (B : va_E) (σ : l2_m) (x1 : Int) (x2 : Int) (x3 : Int) (K : Int → l2_m → Prop) : Prop := (∀ σ' : l2_m, σ' = l2_u σ 186 0 0 → (rg x1 ∧ ((σ' 186 14) = 0 ∨ (σ' 186 14) = 1)) ∧ (if (σ' 186 14) = 1 ∧ 0 ≤ x1 ∧ x1 < 8 then (rg x2 ∧ (if 0 ≤ x2 ∧ x2 < 3 then (rg x3 ∧ (if (σ' 186 14) = 1 ∧ 0 ≤ x3 ∧ x3 < 8 then (∀ σ'''' : l2_m, σ'''' = l2_u (fil σ' 192 0 4096) 186 29 1 → w247_41 B σ'''' x1 x2 x3 0 K) else (∀ σ''''' : l2_m, σ''''' = trr σ' 1 → K (-1) σ'''''))) else (∀ σ''' : l2_m, σ''' = trr σ' 1 → K (-1) σ'''))) else (∀ σ'' : l2_m, σ'' = trr σ' 1 → K (-1) σ'')))
theorem o247 {B : va_E} {σ : l2_m} {x1 : Int} {x2 : Int} {x3 : Int} {K : Int → l2_m → Prop}   (h : w247 B σ x1 x2 x3  K) : wC B 247 [vr 186, vi x1, vi x2, vi x3] σ K := by
  have ck : pm_code 247 = pc_247 := rfl
  unfold w247 at h
  show wW B 247 0 [vr 186, vi x1, vi x2, vi x3, pm_un, pm_un] [] σ K
  refine g_al 1 ck rfl rfl rfl ?_
  refine g_ic 2 ck rfl rfl ?_
  refine g_pfi 5 ck rfl rfl rfl 0 rfl rfl ?_
  replace h := h _ rfl
  obtain ⟨⟨hs1, hs2⟩, h⟩ := h
  refine g_al 6 ck rfl rfl rfl ?_
  refine g_il 7 ck rfl rfl rfl ?_
  refine g_cvi (as := [_]) (rest := []) 10 ck rfl rfl rfl rfl rfl rfl (by decide) rfl rfl rfl rfl (Nat.le_of_ble_eq_true rfl) (s197 hs1 hs2 ?_)
  refine g_ifeq 13 28 ck rfl rfl rfl rg_b2i (fun hc => ?_) (fun hc => ?_)
  · replace h := ite_hf h (b2i_f hc)
    refine g_al 29 ck rfl rfl rfl ?_
    refine g_ic 30 ck rfl rfl ?_
    refine g_cvi (as := [_]) (rest := []) 33 ck rfl rfl rfl rfl rfl rfl (by decide) rfl rfl rfl rfl (Nat.le_of_ble_eq_true rfl) (s168  ?_)
    replace h := h _ rfl
    exact g_ret ck rfl rfl (Or.inl (by decide)) h
  · replace h := ite_ht h (b2i_t hc)
    obtain ⟨hs3, h⟩ := h
    refine g_il 14 ck rfl rfl rfl ?_
    refine g_csi (as := [_]) (rest := []) 17 ck rfl rfl rfl rfl rfl (by decide) rfl rfl rfl (Nat.le_of_ble_eq_true rfl) (s198 hs3 ?_)
    refine g_ifeq 20 28 ck rfl rfl rfl rg_b2i (fun hc => ?_) (fun hc => ?_)
    · replace h := ite_hf h (b2i_f hc)
      refine g_al 29 ck rfl rfl rfl ?_
      refine g_ic 30 ck rfl rfl ?_
      refine g_cvi (as := [_]) (rest := []) 33 ck rfl rfl rfl rfl rfl rfl (by decide) rfl rfl rfl rfl (Nat.le_of_ble_eq_true rfl) (s168  ?_)
      replace h := h _ rfl
      exact g_ret ck rfl rfl (Or.inl (by decide)) h
    · replace h := ite_ht h (b2i_t hc)
      obtain ⟨hs4, h⟩ := h
      refine g_al 21 ck rfl rfl rfl ?_
      refine g_il 22 ck rfl rfl rfl ?_
      refine g_cvi (as := [_]) (rest := []) 25 ck rfl rfl rfl rfl rfl rfl (by decide) rfl rfl rfl rfl (Nat.le_of_ble_eq_true rfl) (s197 hs4 hs2 ?_)
      refine g_ifne 28 34 ck rfl rfl rfl rg_b2i (fun hc => ?_) (fun hc => ?_)
      · replace h := ite_ht h (b2i_t hc)
        refine g_al 35 ck rfl rfl rfl ?_
        refine g_cvv (as := []) (rest := []) 38 ck rfl rfl rfl rfl rfl rfl rfl rfl rfl rfl (Nat.le_of_ble_eq_true rfl) (s222  ?_)
        replace h := h _ rfl
        refine g_ic 39 ck rfl rfl ?_
        refine r_is 41 ck rfl rfl rfl rfl ?_
        exact o247_41 rfl h
      · replace h := ite_hf h (b2i_f (Classical.not_not.mp hc))
        refine g_al 29 ck rfl rfl rfl ?_
        refine g_ic 30 ck rfl rfl ?_
        refine g_cvi (as := [_]) (rest := []) 33 ck rfl rfl rfl rfl rfl rfl (by decide) rfl rfl rfl rfl (Nat.le_of_ble_eq_true rfl) (s168  ?_)
        replace h := h _ rfl
        exact g_ret ck rfl rfl (Or.inl (by decide)) h
/-! 248 TermDeskModel.put(IIII)I -/
def w248_56 (B : va_E) (σ : l2_m) (x1 : Int) (x2 : Int) (x3 : Int) (x4 : Int) (x5 : Int)  (K : Int → l2_m → Prop) : Prop := lz2 (fun X56 x5 σ => (rg x5 ∧ (if x5 < 4096 then ((0 ≤ x2 ∧ x2 < 3) ∧ ∀ x6 : Int, x6 = (e4 x5 x2) → (0 ≤ (4 * x2) ∧ (4 * x2) < 32) ∧ ∀ x7 : Int, x7 = (x5 - (x6 * 2 ^ (Int.toNat (4 * x2)))) → (0 ≤ x7 ∧ x7 < 4096 ∧ 0 ≤ x1 ∧ x1 < 8 ∧ 0 ≤ x5 ∧ x5 < 4096 ∧ 2 ≤ (σ 186 5) ∧ (σ 186 5) ≤ 97 ∧ 0 ≤ x3 ∧ x3 < (σ 186 5) ∧ 0 ≤ x6 ∧ x6 ≤ 100 ∧ rg ((σ 192 x7) + ((σ 187 (4096 * x1 + x5)) * (pw (σ 186 5) x3 x6))) ∧ rg (σ 186 5) ∧ 0 < (σ 186 5) ∧ 0 ≤ ((σ 192 x7) + ((σ 187 (4096 * x1 + x5)) * (pw (σ 186 5) x3 x6)))) ∧ ∀ σ'' : l2_m, σ'' = l2_u σ 192 x7 (((σ 192 x7) + ((σ 187 (4096 * x1 + x5)) * (pw (σ 186 5) x3 x6))) % (σ 186 5)) → X56 (x5 + 1) σ'') else (wC B 240 [vr 186, vi x4] σ (fun y σ' => K y σ'))))) x5 σ
theorem o248_56 {B : va_E} {σ : l2_m} {x1 : Int} {x2 : Int} {x3 : Int} {x4 : Int} {x5 : Int} {u6 : Value} {u7 : Value}  {K : Int → l2_m → Prop}  (hu6 : (u6.category == 1) = true) (hu7 : (u7.category == 1) = true)  (h : w248_56 B σ x1 x2 x3 x4 x5  K) : wW B 248 56 [vr 186, vi x1, vi x2, vi x3, vi x4, vi x5, u6, u7] [] σ K := by
  have ck : pm_code 248 = pc_248 := rfl
  unfold w248_56 at h
  refine h (fun x5 σ => ∀ u6 : Value, (u6.category == 1) = true → ∀ u7 : Value, (u7.category == 1) = true → wW B 248 56 [vr 186, vi x1, vi x2, vi x3, vi x4, vi x5, u6, u7] [] σ K) ?_ u6 hu6 u7 hu7
  clear h
  intro x5 σ h u6 hu6 u7 hu7
  obtain ⟨hs1, h⟩ := h
  refine g_il 58 ck rfl rfl rfl ?_
  refine g_ic 61 ck rfl rfl ?_
  refine g_icge 64 124 ck rfl rfl rfl hs1 (by decide) (fun hc => ?_) (fun hc => ?_)
  · replace h := ite_hf h (Int.not_lt.mpr hc)
    refine g_al 125 ck rfl rfl rfl ?_
    refine g_il 127 ck rfl rfl rfl ?_
    refine g_cvi (as := [_]) (rest := []) 130 ck rfl rfl rfl rfl rfl rfl (by decide) rfl rfl rfl rfl (Nat.le_of_ble_eq_true rfl) (wC.mono h (fun y σ' h => ?_))
    exact g_ret ck rfl rfl (Or.inl (by decide)) h
  · replace h := ite_ht h (Int.not_le.mp hc)
    obtain ⟨⟨hs2, hs3⟩, h⟩ := h
    refine g_il 66 ck rfl rfl rfl ?_
    refine g_il 67 ck rfl rfl rfl ?_
    refine g_csi (as := [_, _]) (rest := []) 70 ck rfl rfl rfl rfl rfl (by decide) rfl rfl rfl (Nat.le_of_ble_eq_true rfl) (s171 hs1 hs2 hs3 ?_)
    refine r_is 72 ck rfl rfl rfl rfl ?_
    replace h := h _ rfl
    obtain ⟨⟨hs4, hs5⟩, h⟩ := h
    refine g_il 74 ck rfl rfl rfl ?_
    refine g_il 76 ck rfl rfl rfl ?_
    refine g_ic 77 ck rfl rfl ?_
    refine g_il 78 ck rfl rfl rfl ?_
    refine g_mul 79 ck rfl rfl ?_
    refine g_shl 80 ck rfl rfl hs4 hs5 ?_
    refine g_sub 81 ck rfl rfl ?_
    refine r_is 83 ck rfl rfl rfl rfl ?_
    replace h := h _ rfl
    obtain ⟨⟨hs6, hs7, hs8, hs9, hs10, hs11, hs12, hs13, hs14, hs15, hs16, hs17, hs18, hs19, hs20, hs21⟩, h⟩ := h
    refine g_al 84 ck rfl rfl rfl ?_
    refine r_gfr 87 192 ck rfl rfl rfl (by decide) ?_
    refine g_il 89 ck rfl rfl rfl ?_
    refine g_al 90 ck rfl rfl rfl ?_
    refine r_gfr 93 192 ck rfl rfl rfl (by decide) ?_
    refine g_il 95 ck rfl rfl rfl ?_
    refine g_ial (m := 4096) 96 ck rfl rfl rfl hs6 hs7 ?_
    refine g_al 97 ck rfl rfl rfl ?_
    refine g_il 98 ck rfl rfl rfl ?_
    refine g_il 100 ck rfl rfl rfl ?_
    refine g_cvi (as := [_, _]) (rest := [_, _, _]) 103 ck rfl rfl rfl rfl rfl rfl (by decide) rfl rfl rfl rfl (Nat.le_of_ble_eq_true rfl) (s201 hs8 hs9 hs10 hs11 ?_)
    refine g_al 104 ck rfl rfl rfl ?_
    refine g_il 105 ck rfl rfl rfl ?_
    refine g_il 107 ck rfl rfl rfl ?_
    refine g_cvi (as := [_, _]) (rest := [_, _, _, _]) 110 ck rfl rfl rfl rfl rfl rfl (by decide) rfl rfl rfl rfl (Nat.le_of_ble_eq_true rfl) (s213 hs12 hs13 hs14 hs15 hs16 hs17 ?_)
    refine g_mul 111 ck rfl rfl ?_
    refine g_add 112 ck rfl rfl ?_
    refine g_al 113 ck rfl rfl rfl ?_
    refine r_gfi 116 5 ck rfl rfl rfl rfl ?_
    refine g_rem 117 ck rfl rfl hs18 hs19 hs21 hs20 ?_
    refine g_ias (m := 4096) 118 ck rfl rfl rfl hs6 hs7 ?_
    replace h := h _ rfl
    refine r_ii 121 ck rfl rfl rfl rfl ?_
    refine g_goto 56 ck rfl rfl ?_
    exact h _ rfl _ rfl
def w248 (B : va_E) (σ : l2_m) (x1 : Int) (x2 : Int) (x3 : Int) (x4 : Int) (K : Int → l2_m → Prop) : Prop := (∀ σ' : l2_m, σ' = l2_u σ 186 0 0 → (rg x1 ∧ ((σ' 186 14) = 0 ∨ (σ' 186 14) = 1)) ∧ (if (σ' 186 14) = 1 ∧ 0 ≤ x1 ∧ x1 < 8 then (rg x2 ∧ (if 0 ≤ x2 ∧ x2 < 3 then (rg x4 ∧ (if (σ' 186 14) = 1 ∧ 0 ≤ x4 ∧ x4 < 8 then ((rg x3 ∧ 0 ≤ (σ' 186 5) ∧ (σ' 186 5) ≤ 97) ∧ (if 0 ≤ x3 ∧ x3 < (σ' 186 5) then (∀ σ'''' : l2_m, σ'''' = l2_u (fil σ' 192 0 4096) 186 29 1 → w248_56 B σ'''' x1 x2 x3 x4 0 K) else (∀ σ''''' : l2_m, σ''''' = trr σ' 2 → K (-1) σ'''''))) else (∀ σ'''''' : l2_m, σ'''''' = trr σ' 1 → K (-1) σ''''''))) else (∀ σ''' : l2_m, σ''' = trr σ' 1 → K (-1) σ'''))) else (∀ σ'' : l2_m, σ'' = trr σ' 1 → K (-1) σ'')))
theorem o248 {B : va_E} {σ : l2_m} {x1 : Int} {x2 : Int} {x3 : Int} {x4 : Int} {K : Int → l2_m → Prop}   (h : w248 B σ x1 x2 x3 x4  K) : wC B 248 [vr 186, vi x1, vi x2, vi x3, vi x4] σ K := by
  have ck : pm_code 248 = pc_248 := rfl
  unfold w248 at h
  show wW B 248 0 [vr 186, vi x1, vi x2, vi x3, vi x4, pm_un, pm_un, pm_un] [] σ K
  refine g_al 1 ck rfl rfl rfl ?_
  refine g_ic 2 ck rfl rfl ?_
  refine g_pfi 5 ck rfl rfl rfl 0 rfl rfl ?_
  replace h := h _ rfl
  obtain ⟨⟨hs1, hs2⟩, h⟩ := h
  refine g_al 6 ck rfl rfl rfl ?_
  refine g_il 7 ck rfl rfl rfl ?_
  refine g_cvi (as := [_]) (rest := []) 10 ck rfl rfl rfl rfl rfl rfl (by decide) rfl rfl rfl rfl (Nat.le_of_ble_eq_true rfl) (s197 hs1 hs2 ?_)
  refine g_ifeq 13 29 ck rfl rfl rfl rg_b2i (fun hc => ?_) (fun hc => ?_)
  · replace h := ite_hf h (b2i_f hc)
    refine g_al 30 ck rfl rfl rfl ?_
    refine g_ic 31 ck rfl rfl ?_
    refine g_cvi (as := [_]) (rest := []) 34 ck rfl rfl rfl rfl rfl rfl (by decide) rfl rfl rfl rfl (Nat.le_of_ble_eq_true rfl) (s168  ?_)
    replace h := h _ rfl
    exact g_ret ck rfl rfl (Or.inl (by decide)) h
  · replace h := ite_ht h (b2i_t hc)
    obtain ⟨hs3, h⟩ := h
    refine g_il 14 ck rfl rfl rfl ?_
    refine g_csi (as := [_]) (rest := []) 17 ck rfl rfl rfl rfl rfl (by decide) rfl rfl rfl (Nat.le_of_ble_eq_true rfl) (s198 hs3 ?_)
    refine g_ifeq 20 29 ck rfl rfl rfl rg_b2i (fun hc => ?_) (fun hc => ?_)
    · replace h := ite_hf h (b2i_f hc)
      refine g_al 30 ck rfl rfl rfl ?_
      refine g_ic 31 ck rfl rfl ?_
      refine g_cvi (as := [_]) (rest := []) 34 ck rfl rfl rfl rfl rfl rfl (by decide) rfl rfl rfl rfl (Nat.le_of_ble_eq_true rfl) (s168  ?_)
      replace h := h _ rfl
      exact g_ret ck rfl rfl (Or.inl (by decide)) h
    · replace h := ite_ht h (b2i_t hc)
      obtain ⟨hs4, h⟩ := h
      refine g_al 21 ck rfl rfl rfl ?_
      refine g_il 23 ck rfl rfl rfl ?_
      refine g_cvi (as := [_]) (rest := []) 26 ck rfl rfl rfl rfl rfl rfl (by decide) rfl rfl rfl rfl (Nat.le_of_ble_eq_true rfl) (s197 hs4 hs2 ?_)
      refine g_ifne 29 35 ck rfl rfl rfl rg_b2i (fun hc => ?_) (fun hc => ?_)
      · replace h := ite_ht h (b2i_t hc)
        obtain ⟨⟨hs5, hs6, hs7⟩, h⟩ := h
        refine g_al 36 ck rfl rfl rfl ?_
        refine g_il 37 ck rfl rfl rfl ?_
        refine g_cvi (as := [_]) (rest := []) 40 ck rfl rfl rfl rfl rfl rfl (by decide) rfl rfl rfl rfl (Nat.le_of_ble_eq_true rfl) (s199 hs5 hs6 hs7 ?_)
        refine g_ifne 43 49 ck rfl rfl rfl rg_b2i (fun hc => ?_) (fun hc => ?_)
        · replace h := ite_ht h (b2i_t hc)
          refine g_al 50 ck rfl rfl rfl ?_
          refine g_cvv (as := []) (rest := []) 53 ck rfl rfl rfl rfl rfl rfl rfl rfl rfl rfl (Nat.le_of_ble_eq_true rfl) (s222  ?_)
          replace h := h _ rfl
          refine g_ic 54 ck rfl rfl ?_
          refine r_is 56 ck rfl rfl rfl rfl ?_
          exact o248_56 rfl rfl h
        · replace h := ite_hf h (b2i_f (Classical.not_not.mp hc))
          refine g_al 44 ck rfl rfl rfl ?_
          refine g_ic 45 ck rfl rfl ?_
          refine g_cvi (as := [_]) (rest := []) 48 ck rfl rfl rfl rfl rfl rfl (by decide) rfl rfl rfl rfl (Nat.le_of_ble_eq_true rfl) (s168  ?_)
          replace h := h _ rfl
          exact g_ret ck rfl rfl (Or.inl (by decide)) h
      · replace h := ite_hf h (b2i_f (Classical.not_not.mp hc))
        refine g_al 30 ck rfl rfl rfl ?_
        refine g_ic 31 ck rfl rfl ?_
        refine g_cvi (as := [_]) (rest := []) 34 ck rfl rfl rfl rfl rfl rfl (by decide) rfl rfl rfl rfl (Nat.le_of_ble_eq_true rfl) (s168  ?_)
        replace h := h _ rfl
        exact g_ret ck rfl rfl (Or.inl (by decide)) h
/-! 249 TermDeskModel.swap(IIII)I -/
def w249_63 (B : va_E) (σ : l2_m) (x1 : Int) (x2 : Int) (x3 : Int) (x4 : Int) (x5 : Int) (x6 : Int) (x7 : Int) (X49 : Int → l2_m → Prop) (K : Int → l2_m → Prop) : Prop := lz2 (fun X63 x6 x7 => (rg x7 ∧ (if x7 < 3 then (rg x2 ∧ (if x7 = x2 then ((rg x5 ∧ 0 ≤ x3 ∧ x3 < 3 ∧ 0 ≤ (4 * x7) ∧ (4 * x7) < 32 ∧ 0 ≤ x6 ∧ 0 ≤ ((e4 x5 x3) * 2 ^ (Int.toNat (4 * x7))) ∧ x6 < 2147483648 ∧ ((e4 x5 x3) * 2 ^ (Int.toNat (4 * x7))) < 2147483648) ∧ ∀ x6''' : Int, x6''' = (ior x6 ((e4 x5 x3) * 2 ^ (Int.toNat (4 * x7)))) → X63 x6''' (x7 + 1)) else (rg x3 ∧ (if x7 = x3 then ((rg x5 ∧ 0 ≤ x2 ∧ x2 < 3 ∧ 0 ≤ (4 * x7) ∧ (4 * x7) < 32 ∧ 0 ≤ x6 ∧ 0 ≤ ((e4 x5 x2) * 2 ^ (Int.toNat (4 * x7))) ∧ x6 < 2147483648 ∧ ((e4 x5 x2) * 2 ^ (Int.toNat (4 * x7))) < 2147483648) ∧ ∀ x6'' : Int, x6'' = (ior x6 ((e4 x5 x2) * 2 ^ (Int.toNat (4 * x7)))) → X63 x6'' (x7 + 1)) else ((rg x5 ∧ 0 ≤ x7 ∧ x7 < 3 ∧ 0 ≤ (4 * x7) ∧ (4 * x7) < 32 ∧ 0 ≤ x6 ∧ 0 ≤ ((e4 x5 x7) * 2 ^ (Int.toNat (4 * x7))) ∧ x6 < 2147483648 ∧ ((e4 x5 x7) * 2 ^ (Int.toNat (4 * x7))) < 2147483648) ∧ ∀ x6' : Int, x6' = (ior x6 ((e4 x5 x7) * 2 ^ (Int.toNat (4 * x7)))) → X63 x6' (x7 + 1)))))) else ((0 ≤ x1 ∧ x1 < 8 ∧ 0 ≤ x5 ∧ x5 < 4096 ∧ 0 ≤ x6 ∧ x6 < 4096) ∧ ∀ σ' : l2_m, σ' = l2_u σ 192 x6 (σ 187 (4096 * x1 + x5)) → X49 (x5 + 1) σ')))) x6 x7
theorem o249_63 {B : va_E} {σ : l2_m} {x1 : Int} {x2 : Int} {x3 : Int} {x4 : Int} {x5 : Int} {x6 : Int} {x7 : Int}  {X49 : Int → l2_m → Prop} {K : Int → l2_m → Prop}   (hX49 : ∀ (x5 : Int) (σ : l2_m) (u6 : Value) (u7 : Value), (u6.category == 1) = true → (u7.category == 1) = true → X49 x5 σ → wW B 249 49 [vr 186, vi x1, vi x2, vi x3, vi x4, vi x5, u6, u7] [] σ K) (h : w249_63 B σ x1 x2 x3 x4 x5 x6 x7 X49 K) : wW B 249 63 [vr 186, vi x1, vi x2, vi x3, vi x4, vi x5, vi x6, vi x7] [] σ K := by
  have ck : pm_code 249 = pc_249 := rfl
  unfold w249_63 at h
  refine h (fun x6 x7 => wW B 249 63 [vr 186, vi x1, vi x2, vi x3, vi x4, vi x5, vi x6, vi x7] [] σ K) ?_
  clear h
  intro x6 x7 h
  obtain ⟨hs1, h⟩ := h
  refine g_il 65 ck rfl rfl rfl ?_
  refine g_ic 66 ck rfl rfl ?_
  refine g_icge 69 112 ck rfl rfl rfl hs1 (by decide) (fun hc => ?_) (fun hc => ?_)
  · replace h := ite_hf h (Int.not_lt.mpr hc)
    obtain ⟨⟨hs2, hs3, hs4, hs5, hs6, hs7⟩, h⟩ := h
    refine g_al 113 ck rfl rfl rfl ?_
    refine r_gfr 116 192 ck rfl rfl rfl (by decide) ?_
    refine g_il 118 ck rfl rfl rfl ?_
    refine g_al 119 ck rfl rfl rfl ?_
    refine g_il 120 ck rfl rfl rfl ?_
    refine g_il 122 ck rfl rfl rfl ?_
    refine g_cvi (as := [_, _]) (rest := [_, _]) 125 ck rfl rfl rfl rfl rfl rfl (by decide) rfl rfl rfl rfl (Nat.le_of_ble_eq_true rfl) (s201 hs2 hs3 hs4 hs5 ?_)
    refine g_ias (m := 4096) 126 ck rfl rfl rfl hs6 hs7 ?_
    replace h := h _ rfl
    refine r_ii 129 ck rfl rfl rfl rfl ?_
    refine g_goto 49 ck rfl rfl ?_
    exact hX49 _ _ _ _ rfl rfl h
  · replace h := ite_ht h (Int.not_le.mp hc)
    obtain ⟨hs8, h⟩ := h
    refine g_il 71 ck rfl rfl rfl ?_
    refine g_il 73 ck rfl rfl rfl ?_
    refine g_il 75 ck rfl rfl rfl ?_
    refine g_il 76 ck rfl rfl rfl ?_
    refine g_icne 79 83 ck rfl rfl rfl hs1 hs8 (fun hc => ?_) (fun hc => ?_)
    · replace h := ite_hf h hc
      obtain ⟨hs9, h⟩ := h
      refine g_il 85 ck rfl rfl rfl ?_
      refine g_il 86 ck rfl rfl rfl ?_
      refine g_icne 89 93 ck rfl rfl rfl hs1 hs9 (fun hc => ?_) (fun hc => ?_)
      · replace h := ite_hf h hc
        obtain ⟨⟨hs10, hs11, hs12, hs13, hs14, hs15, hs16, hs17, hs18⟩, h⟩ := h
        refine g_il 95 ck rfl rfl rfl ?_
        refine g_csi (as := [_, _]) (rest := [_]) 98 ck rfl rfl rfl rfl rfl (by decide) rfl rfl rfl (Nat.le_of_ble_eq_true rfl) (s171 hs10 hs11 hs12 ?_)
        refine g_ic 99 ck rfl rfl ?_
        refine g_il 101 ck rfl rfl rfl ?_
        refine g_mul 102 ck rfl rfl ?_
        refine g_shl 103 ck rfl rfl hs13 hs14 ?_
        refine g_or 104 ck rfl rfl hs15 hs16 hs17 hs18 ?_
        refine r_is 106 ck rfl rfl rfl rfl ?_
        replace h := h _ rfl
        refine r_ii 109 ck rfl rfl rfl rfl ?_
        refine g_goto 63 ck rfl rfl ?_
        exact h
      · replace h := ite_ht h (Classical.not_not.mp hc)
        obtain ⟨⟨hs19, hs20, hs21, hs22, hs23, hs24, hs25, hs26, hs27⟩, h⟩ := h
        refine g_il 90 ck rfl rfl rfl ?_
        refine g_goto 95 ck rfl rfl ?_
        refine g_csi (as := [_, _]) (rest := [_]) 98 ck rfl rfl rfl rfl rfl (by decide) rfl rfl rfl (Nat.le_of_ble_eq_true rfl) (s171 hs19 hs20 hs21 ?_)
        refine g_ic 99 ck rfl rfl ?_
        refine g_il 101 ck rfl rfl rfl ?_
        refine g_mul 102 ck rfl rfl ?_
        refine g_shl 103 ck rfl rfl hs22 hs23 ?_
        refine g_or 104 ck rfl rfl hs24 hs25 hs26 hs27 ?_
        refine r_is 106 ck rfl rfl rfl rfl ?_
        replace h := h _ rfl
        refine r_ii 109 ck rfl rfl rfl rfl ?_
        refine g_goto 63 ck rfl rfl ?_
        exact h
    · replace h := ite_ht h (Classical.not_not.mp hc)
      obtain ⟨⟨hs28, hs29, hs30, hs31, hs32, hs33, hs34, hs35, hs36⟩, h⟩ := h
      refine g_il 80 ck rfl rfl rfl ?_
      refine g_goto 95 ck rfl rfl ?_
      refine g_csi (as := [_, _]) (rest := [_]) 98 ck rfl rfl rfl rfl rfl (by decide) rfl rfl rfl (Nat.le_of_ble_eq_true rfl) (s171 hs28 hs29 hs30 ?_)
      refine g_ic 99 ck rfl rfl ?_
      refine g_il 101 ck rfl rfl rfl ?_
      refine g_mul 102 ck rfl rfl ?_
      refine g_shl 103 ck rfl rfl hs31 hs32 ?_
      refine g_or 104 ck rfl rfl hs33 hs34 hs35 hs36 ?_
      refine r_is 106 ck rfl rfl rfl rfl ?_
      replace h := h _ rfl
      refine r_ii 109 ck rfl rfl rfl rfl ?_
      refine g_goto 63 ck rfl rfl ?_
      exact h
def w249_49 (B : va_E) (σ : l2_m) (x1 : Int) (x2 : Int) (x3 : Int) (x4 : Int) (x5 : Int)  (K : Int → l2_m → Prop) : Prop := lz2 (fun X49 x5 σ => (rg x5 ∧ (if x5 < 4096 then w249_63 B σ x1 x2 x3 x4 x5 0 0 X49 K else (wC B 240 [vr 186, vi x4] σ (fun y σ' => K y σ'))))) x5 σ
theorem o249_49 {B : va_E} {σ : l2_m} {x1 : Int} {x2 : Int} {x3 : Int} {x4 : Int} {x5 : Int} {u6 : Value} {u7 : Value}  {K : Int → l2_m → Prop}  (hu6 : (u6.category == 1) = true) (hu7 : (u7.category == 1) = true)  (h : w249_49 B σ x1 x2 x3 x4 x5  K) : wW B 249 49 [vr 186, vi x1, vi x2, vi x3, vi x4, vi x5, u6, u7] [] σ K := by
  have ck : pm_code 249 = pc_249 := rfl
  unfold w249_49 at h
  refine h (fun x5 σ => ∀ u6 : Value, (u6.category == 1) = true → ∀ u7 : Value, (u7.category == 1) = true → wW B 249 49 [vr 186, vi x1, vi x2, vi x3, vi x4, vi x5, u6, u7] [] σ K) ?_ u6 hu6 u7 hu7
  clear h
  intro x5 σ h u6 hu6 u7 hu7
  obtain ⟨hs1, h⟩ := h
  refine g_il 51 ck rfl rfl rfl ?_
  refine g_ic 54 ck rfl rfl ?_
  refine g_icge 57 132 ck rfl rfl rfl hs1 (by decide) (fun hc => ?_) (fun hc => ?_)
  · replace h := ite_hf h (Int.not_lt.mpr hc)
    refine g_al 133 ck rfl rfl rfl ?_
    refine g_il 135 ck rfl rfl rfl ?_
    refine g_cvi (as := [_]) (rest := []) 138 ck rfl rfl rfl rfl rfl rfl (by decide) rfl rfl rfl rfl (Nat.le_of_ble_eq_true rfl) (wC.mono h (fun y σ' h => ?_))
    exact g_ret ck rfl rfl (Or.inl (by decide)) h
  · replace h := ite_ht h (Int.not_le.mp hc)
    refine g_ic 58 ck rfl rfl ?_
    refine r_is 60 ck rfl rfl rfl rfl ?_
    refine g_ic 61 ck rfl rfl ?_
    refine r_is 63 ck rfl rfl rfl rfl ?_
    exact o249_63 (fun _ _ u6 u7 hu6 hu7 hx => hx u6 hu6 u7 hu7) h
def w249 (B : va_E) (σ : l2_m) (x1 : Int) (x2 : Int) (x3 : Int) (x4 : Int) (K : Int → l2_m → Prop) : Prop := (∀ σ' : l2_m, σ' = l2_u σ 186 0 0 → (rg x1 ∧ ((σ' 186 14) = 0 ∨ (σ' 186 14) = 1)) ∧ (if (σ' 186 14) = 1 ∧ 0 ≤ x1 ∧ x1 < 8 then (rg x2 ∧ (if 0 ≤ x2 ∧ x2 < 3 then (rg x3 ∧ (if 0 ≤ x3 ∧ x3 < 3 then (rg x4 ∧ (if (σ' 186 14) = 1 ∧ 0 ≤ x4 ∧ x4 < 8 then (∀ σ''''' : l2_m, σ''''' = l2_u (fil σ' 192 0 4096) 186 29 1 → w249_49 B σ''''' x1 x2 x3 x4 0 K) else (∀ σ'''''' : l2_m, σ'''''' = trr σ' 1 → K (-1) σ''''''))) else (∀ σ'''' : l2_m, σ'''' = trr σ' 1 → K (-1) σ''''))) else (∀ σ''' : l2_m, σ''' = trr σ' 1 → K (-1) σ'''))) else (∀ σ'' : l2_m, σ'' = trr σ' 1 → K (-1) σ'')))
theorem o249 {B : va_E} {σ : l2_m} {x1 : Int} {x2 : Int} {x3 : Int} {x4 : Int} {K : Int → l2_m → Prop}   (h : w249 B σ x1 x2 x3 x4  K) : wC B 249 [vr 186, vi x1, vi x2, vi x3, vi x4] σ K := by
  have ck : pm_code 249 = pc_249 := rfl
  unfold w249 at h
  show wW B 249 0 [vr 186, vi x1, vi x2, vi x3, vi x4, pm_un, pm_un, pm_un] [] σ K
  refine g_al 1 ck rfl rfl rfl ?_
  refine g_ic 2 ck rfl rfl ?_
  refine g_pfi 5 ck rfl rfl rfl 0 rfl rfl ?_
  replace h := h _ rfl
  obtain ⟨⟨hs1, hs2⟩, h⟩ := h
  refine g_al 6 ck rfl rfl rfl ?_
  refine g_il 7 ck rfl rfl rfl ?_
  refine g_cvi (as := [_]) (rest := []) 10 ck rfl rfl rfl rfl rfl rfl (by decide) rfl rfl rfl rfl (Nat.le_of_ble_eq_true rfl) (s197 hs1 hs2 ?_)
  refine g_ifeq 13 36 ck rfl rfl rfl rg_b2i (fun hc => ?_) (fun hc => ?_)
  · replace h := ite_hf h (b2i_f hc)
    refine g_al 37 ck rfl rfl rfl ?_
    refine g_ic 38 ck rfl rfl ?_
    refine g_cvi (as := [_]) (rest := []) 41 ck rfl rfl rfl rfl rfl rfl (by decide) rfl rfl rfl rfl (Nat.le_of_ble_eq_true rfl) (s168  ?_)
    replace h := h _ rfl
    exact g_ret ck rfl rfl (Or.inl (by decide)) h
  · replace h := ite_ht h (b2i_t hc)
    obtain ⟨hs3, h⟩ := h
    refine g_il 14 ck rfl rfl rfl ?_
    refine g_csi (as := [_]) (rest := []) 17 ck rfl rfl rfl rfl rfl (by decide) rfl rfl rfl (Nat.le_of_ble_eq_true rfl) (s198 hs3 ?_)
    refine g_ifeq 20 36 ck rfl rfl rfl rg_b2i (fun hc => ?_) (fun hc => ?_)
    · replace h := ite_hf h (b2i_f hc)
      refine g_al 37 ck rfl rfl rfl ?_
      refine g_ic 38 ck rfl rfl ?_
      refine g_cvi (as := [_]) (rest := []) 41 ck rfl rfl rfl rfl rfl rfl (by decide) rfl rfl rfl rfl (Nat.le_of_ble_eq_true rfl) (s168  ?_)
      replace h := h _ rfl
      exact g_ret ck rfl rfl (Or.inl (by decide)) h
    · replace h := ite_ht h (b2i_t hc)
      obtain ⟨hs4, h⟩ := h
      refine g_il 21 ck rfl rfl rfl ?_
      refine g_csi (as := [_]) (rest := []) 24 ck rfl rfl rfl rfl rfl (by decide) rfl rfl rfl (Nat.le_of_ble_eq_true rfl) (s198 hs4 ?_)
      refine g_ifeq 27 36 ck rfl rfl rfl rg_b2i (fun hc => ?_) (fun hc => ?_)
      · replace h := ite_hf h (b2i_f hc)
        refine g_al 37 ck rfl rfl rfl ?_
        refine g_ic 38 ck rfl rfl ?_
        refine g_cvi (as := [_]) (rest := []) 41 ck rfl rfl rfl rfl rfl rfl (by decide) rfl rfl rfl rfl (Nat.le_of_ble_eq_true rfl) (s168  ?_)
        replace h := h _ rfl
        exact g_ret ck rfl rfl (Or.inl (by decide)) h
      · replace h := ite_ht h (b2i_t hc)
        obtain ⟨hs5, h⟩ := h
        refine g_al 28 ck rfl rfl rfl ?_
        refine g_il 30 ck rfl rfl rfl ?_
        refine g_cvi (as := [_]) (rest := []) 33 ck rfl rfl rfl rfl rfl rfl (by decide) rfl rfl rfl rfl (Nat.le_of_ble_eq_true rfl) (s197 hs5 hs2 ?_)
        refine g_ifne 36 42 ck rfl rfl rfl rg_b2i (fun hc => ?_) (fun hc => ?_)
        · replace h := ite_ht h (b2i_t hc)
          refine g_al 43 ck rfl rfl rfl ?_
          refine g_cvv (as := []) (rest := []) 46 ck rfl rfl rfl rfl rfl rfl rfl rfl rfl rfl (Nat.le_of_ble_eq_true rfl) (s222  ?_)
          replace h := h _ rfl
          refine g_ic 47 ck rfl rfl ?_
          refine r_is 49 ck rfl rfl rfl rfl ?_
          exact o249_49 rfl rfl h
        · replace h := ite_hf h (b2i_f (Classical.not_not.mp hc))
          refine g_al 37 ck rfl rfl rfl ?_
          refine g_ic 38 ck rfl rfl ?_
          refine g_cvi (as := [_]) (rest := []) 41 ck rfl rfl rfl rfl rfl rfl (by decide) rfl rfl rfl rfl (Nat.le_of_ble_eq_true rfl) (s168  ?_)
          replace h := h _ rfl
          exact g_ret ck rfl rfl (Or.inl (by decide)) h
/-! 250 TermDeskModel.rest(III)I -/
def w250_59 (B : va_E) (σ : l2_m) (x3 : Int) (x5 : Int)  (K : Int → l2_m → Prop) : Prop := lz2 (fun X59 x5 σ => (rg x5 ∧ (if x5 < 4096 then ((0 ≤ x5 ∧ x5 < 4096) ∧ ∀ σ'' : l2_m, σ'' = l2_u σ 192 x5 (σ 194 x5) → X59 (x5 + 1) σ'') else (wC B 240 [vr 186, vi x3] σ (fun y σ' => K y σ'))))) x5 σ
theorem o250_59 {B : va_E} {σ : l2_m} {x3 : Int} {x5 : Int} {u1 : Value} {u2 : Value} {u4 : Value}  {K : Int → l2_m → Prop}  (hu1 : (u1.category == 1) = true) (hu2 : (u2.category == 1) = true) (hu4 : (u4.category == 1) = true)  (h : w250_59 B σ x3 x5  K) : wW B 250 59 [vr 186, u1, u2, vi x3, u4, vi x5] [] σ K := by
  have ck : pm_code 250 = pc_250 := rfl
  unfold w250_59 at h
  refine h (fun x5 σ => ∀ u1 : Value, (u1.category == 1) = true → ∀ u2 : Value, (u2.category == 1) = true → ∀ u4 : Value, (u4.category == 1) = true → wW B 250 59 [vr 186, u1, u2, vi x3, u4, vi x5] [] σ K) ?_ u1 hu1 u2 hu2 u4 hu4
  clear h
  intro x5 σ h u1 hu1 u2 hu2 u4 hu4
  obtain ⟨hs1, h⟩ := h
  refine g_il 61 ck rfl rfl rfl ?_
  refine g_ic 64 ck rfl rfl ?_
  refine g_icge 67 87 ck rfl rfl rfl hs1 (by decide) (fun hc => ?_) (fun hc => ?_)
  · replace h := ite_hf h (Int.not_lt.mpr hc)
    refine g_al 88 ck rfl rfl rfl ?_
    refine g_il 89 ck rfl rfl rfl ?_
    refine g_cvi (as := [_]) (rest := []) 92 ck rfl rfl rfl rfl rfl rfl (by decide) rfl rfl rfl rfl (Nat.le_of_ble_eq_true rfl) (wC.mono h (fun y σ' h => ?_))
    exact g_ret ck rfl rfl (Or.inl (by decide)) h
  · replace h := ite_ht h (Int.not_le.mp hc)
    obtain ⟨⟨hs2, hs3⟩, h⟩ := h
    refine g_al 68 ck rfl rfl rfl ?_
    refine r_gfr 71 192 ck rfl rfl rfl (by decide) ?_
    refine g_il 73 ck rfl rfl rfl ?_
    refine g_al 74 ck rfl rfl rfl ?_
    refine r_gfr 77 194 ck rfl rfl rfl (by decide) ?_
    refine g_il 79 ck rfl rfl rfl ?_
    refine g_ial (m := 4096) 80 ck rfl rfl rfl hs2 hs3 ?_
    refine g_ias (m := 4096) 81 ck rfl rfl rfl hs2 hs3 ?_
    replace h := h _ rfl
    refine r_ii 84 ck rfl rfl hu4 rfl ?_
    refine g_goto 59 ck rfl rfl ?_
    exact h _ hu1 _ hu2 _ hu4
def w250_23 (B : va_E) (σ : l2_m) (x1 : Int) (x2 : Int) (x3 : Int) (z0 : Int)  (K : Int → l2_m → Prop) : Prop := (rg z0 ∧ (if 0 < z0 then (∀ σ'''' : l2_m, σ'''' = trr σ z0 → K (-1) σ'''') else (wC B 227 [vr 186, vi x1] σ (fun _ σ' => (wC B 231 [vr 186, vi x2] σ' (fun y σ'' => (rg y ∧ (if y = 0 then (∀ σ''' : l2_m, σ''' = trr σ'' 3 → K (-1) σ''') else w250_59 B σ'' x3 0 K))))))))
theorem o250_23 {B : va_E} {σ : l2_m} {x1 : Int} {x2 : Int} {x3 : Int} {z0 : Int} {u4 : Value} {u5 : Value}  {K : Int → l2_m → Prop}  (hu4 : (u4.category == 1) = true) (hu5 : (u5.category == 1) = true)  (h : w250_23 B σ x1 x2 x3 z0  K) : wW B 250 23 [vr 186, vi x1, vi x2, vi x3, u4, u5] [vi z0] σ K := by
  have ck : pm_code 250 = pc_250 := rfl
  unfold w250_23 at h
  obtain ⟨hs1, h⟩ := h
  refine r_is 25 ck rfl rfl rfl rfl ?_
  refine g_il 27 ck rfl rfl rfl ?_
  refine g_ifle 30 37 ck rfl rfl rfl hs1 (fun hc => ?_) (fun hc => ?_)
  · replace h := ite_hf h (Int.not_lt.mpr hc)
    refine g_al 38 ck rfl rfl rfl ?_
    refine g_il 39 ck rfl rfl rfl ?_
    refine g_cvv (as := [_]) (rest := []) 42 ck rfl rfl rfl rfl rfl rfl rfl rfl rfl rfl (Nat.le_of_ble_eq_true rfl) (wC.mono h (fun _ σ' h => ?_))
    refine g_al 43 ck rfl rfl rfl ?_
    refine g_il 44 ck rfl rfl rfl ?_
    refine g_cvi (as := [_]) (rest := []) 47 ck rfl rfl rfl rfl rfl rfl (by decide) rfl rfl rfl rfl (Nat.le_of_ble_eq_true rfl) (wC.mono h (fun y σ'' h => ?_))
    obtain ⟨hs2, h⟩ := h
    refine g_ifne 50 56 ck rfl rfl rfl hs2 (fun hc => ?_) (fun hc => ?_)
    · replace h := ite_hf h hc
      refine g_ic 57 ck rfl rfl ?_
      refine r_is 59 ck rfl rfl rfl rfl ?_
      exact o250_59 rfl rfl rfl h
    · replace h := ite_ht h (Classical.not_not.mp hc)
      refine g_al 51 ck rfl rfl rfl ?_
      refine g_ic 52 ck rfl rfl ?_
      refine g_cvi (as := [_]) (rest := []) 55 ck rfl rfl rfl rfl rfl rfl (by decide) rfl rfl rfl rfl (Nat.le_of_ble_eq_true rfl) (s168  ?_)
      replace h := h _ rfl
      exact g_ret ck rfl rfl (Or.inl (by decide)) h
  · replace h := ite_ht h (Int.not_le.mp hc)
    refine g_al 31 ck rfl rfl rfl ?_
    refine g_il 33 ck rfl rfl rfl ?_
    refine g_cvi (as := [_]) (rest := []) 36 ck rfl rfl rfl rfl rfl rfl (by decide) rfl rfl rfl rfl (Nat.le_of_ble_eq_true rfl) (s168  ?_)
    replace h := h _ rfl
    exact g_ret ck rfl rfl (Or.inl (by decide)) h
def w250 (B : va_E) (σ : l2_m) (x1 : Int) (x2 : Int) (x3 : Int) (K : Int → l2_m → Prop) : Prop := (∀ σ' : l2_m, σ' = l2_u σ 186 0 0 → (rg x3 ∧ ((σ' 186 14) = 0 ∨ (σ' 186 14) = 1)) ∧ (if (σ' 186 14) = 1 ∧ 0 ≤ x3 ∧ x3 < 8 then (wC B 233 [vr 186, vi x1, vi x2] σ' (fun y σ'' => w250_23 B σ'' x1 x2 x3 y K)) else w250_23 B σ' x1 x2 x3 1 K))
theorem o250 {B : va_E} {σ : l2_m} {x1 : Int} {x2 : Int} {x3 : Int} {K : Int → l2_m → Prop}   (h : w250 B σ x1 x2 x3  K) : wC B 250 [vr 186, vi x1, vi x2, vi x3] σ K := by
  have ck : pm_code 250 = pc_250 := rfl
  unfold w250 at h
  show wW B 250 0 [vr 186, vi x1, vi x2, vi x3, pm_un, pm_un] [] σ K
  refine g_al 1 ck rfl rfl rfl ?_
  refine g_ic 2 ck rfl rfl ?_
  refine g_pfi 5 ck rfl rfl rfl 0 rfl rfl ?_
  replace h := h _ rfl
  obtain ⟨⟨hs1, hs2⟩, h⟩ := h
  refine g_al 6 ck rfl rfl rfl ?_
  refine g_il 7 ck rfl rfl rfl ?_
  refine g_cvi (as := [_]) (rest := []) 10 ck rfl rfl rfl rfl rfl rfl (by decide) rfl rfl rfl rfl (Nat.le_of_ble_eq_true rfl) (s197 hs1 hs2 ?_)
  refine g_ifne 13 17 ck rfl rfl rfl rg_b2i (fun hc => ?_) (fun hc => ?_)
  · replace h := ite_ht h (b2i_t hc)
    refine g_al 18 ck rfl rfl rfl ?_
    refine g_il 19 ck rfl rfl rfl ?_
    refine g_il 20 ck rfl rfl rfl ?_
    refine g_cvi (as := [_, _]) (rest := []) 23 ck rfl rfl rfl rfl rfl rfl (by decide) rfl rfl rfl rfl (Nat.le_of_ble_eq_true rfl) (wC.mono h (fun y σ'' h => ?_))
    exact o250_23 rfl rfl h
  · replace h := ite_hf h (b2i_f (Classical.not_not.mp hc))
    refine g_ic 14 ck rfl rfl ?_
    refine g_goto 23 ck rfl rfl ?_
    exact o250_23 rfl rfl h
/-! 251 TermDeskModel.quotient(IIII)I -/
def w251_102 (B : va_E) (σ : l2_m) (x3 : Int) (x4 : Int) (x6 : Int)  (K : Int → l2_m → Prop) : Prop := lz2 (fun X102 x6 σ => (rg x6 ∧ (if x6 < 4096 then ((0 ≤ ((4096 * x3) + x6) ∧ ((4096 * x3) + x6) < 32768 ∧ 0 ≤ x6 ∧ x6 < 4096) ∧ ∀ σ'' : l2_m, σ'' = l2_u σ 192 x6 (σ 195 ((4096 * x3) + x6)) → X102 (x6 + 1) σ'') else (wC B 240 [vr 186, vi x4] σ (fun y σ' => K y σ'))))) x6 σ
theorem o251_102 {B : va_E} {σ : l2_m} {x3 : Int} {x4 : Int} {x6 : Int} {u1 : Value} {u2 : Value} {u5 : Value}  {K : Int → l2_m → Prop}  (hu1 : (u1.category == 1) = true) (hu2 : (u2.category == 1) = true) (hu5 : (u5.category == 1) = true)  (h : w251_102 B σ x3 x4 x6  K) : wW B 251 102 [vr 186, u1, u2, vi x3, vi x4, u5, vi x6] [] σ K := by
  have ck : pm_code 251 = pc_251 := rfl
  unfold w251_102 at h
  refine h (fun x6 σ => ∀ u1 : Value, (u1.category == 1) = true → ∀ u2 : Value, (u2.category == 1) = true → ∀ u5 : Value, (u5.category == 1) = true → wW B 251 102 [vr 186, u1, u2, vi x3, vi x4, u5, vi x6] [] σ K) ?_ u1 hu1 u2 hu2 u5 hu5
  clear h
  intro x6 σ h u1 hu1 u2 hu2 u5 hu5
  obtain ⟨hs1, h⟩ := h
  refine g_il 104 ck rfl rfl rfl ?_
  refine g_ic 107 ck rfl rfl ?_
  refine g_icge 110 136 ck rfl rfl rfl hs1 (by decide) (fun hc => ?_) (fun hc => ?_)
  · replace h := ite_hf h (Int.not_lt.mpr hc)
    refine g_al 137 ck rfl rfl rfl ?_
    refine g_il 139 ck rfl rfl rfl ?_
    refine g_cvi (as := [_]) (rest := []) 142 ck rfl rfl rfl rfl rfl rfl (by decide) rfl rfl rfl rfl (Nat.le_of_ble_eq_true rfl) (wC.mono h (fun y σ' h => ?_))
    exact g_ret ck rfl rfl (Or.inl (by decide)) h
  · replace h := ite_ht h (Int.not_le.mp hc)
    obtain ⟨⟨hs2, hs3, hs4, hs5⟩, h⟩ := h
    refine g_al 111 ck rfl rfl rfl ?_
    refine r_gfr 114 192 ck rfl rfl rfl (by decide) ?_
    refine g_il 116 ck rfl rfl rfl ?_
    refine g_al 117 ck rfl rfl rfl ?_
    refine r_gfr 120 195 ck rfl rfl rfl (by decide) ?_
    refine g_ic 123 ck rfl rfl ?_
    refine g_il 124 ck rfl rfl rfl ?_
    refine g_mul 125 ck rfl rfl ?_
    refine g_il 127 ck rfl rfl rfl ?_
    refine g_add 128 ck rfl rfl ?_
    refine g_ial (m := 32768) 129 ck rfl rfl rfl hs2 hs3 ?_
    refine g_ias (m := 4096) 130 ck rfl rfl rfl hs4 hs5 ?_
    replace h := h _ rfl
    refine r_ii 133 ck rfl rfl hu5 rfl ?_
    refine g_goto 102 ck rfl rfl ?_
    exact h _ hu1 _ hu2 _ hu5
def w251 (B : va_E) (σ : l2_m) (x1 : Int) (x2 : Int) (x3 : Int) (x4 : Int) (K : Int → l2_m → Prop) : Prop := (∀ σ' : l2_m, σ' = l2_u σ 186 0 0 → (rg x1 ∧ ((σ' 186 14) = 0 ∨ (σ' 186 14) = 1)) ∧ (if (σ' 186 14) = 1 ∧ 0 ≤ x1 ∧ x1 < 8 then (rg x3 ∧ (if (σ' 186 14) = 1 ∧ 0 ≤ x3 ∧ x3 < 8 then (rg x4 ∧ (if (σ' 186 14) = 1 ∧ 0 ≤ x4 ∧ x4 < 8 then (rg x2 ∧ (if 1 ≤ x2 ∧ x2 ≤ 255 then ((0 ≤ x3 ∧ x3 < 32) ∧ (if ((x2 / 2 ^ (Int.toNat x3)) % 2) = 0 then (∀ σ'''''''''' : l2_m, σ'''''''''' = trr σ' 2 → K (-1) σ'''''''''') else (wC B 229 [vr 186, vi x2] σ' (fun y σ''''' => (rg y ∧ (if 0 < y then (∀ σ''''''''' : l2_m, σ''''''''' = trr σ''''' y → K (-1) σ''''''''') else (wC B 227 [vr 186, vi x1] σ''''' (fun _ σ'''''' => (wC B 231 [vr 186, vi x2] σ'''''' (fun y' σ''''''' => (rg y' ∧ (if y' = 0 then (∀ σ'''''''' : l2_m, σ'''''''' = trr σ''''''' 3 → K (-1) σ'''''''') else w251_102 B σ''''''' x3 x4 0 K)))))))))))) else (∀ σ'''' : l2_m, σ'''' = trr σ' 2 → K (-1) σ''''))) else (∀ σ''''''''''' : l2_m, σ''''''''''' = trr σ' 1 → K (-1) σ'''''''''''))) else (∀ σ''' : l2_m, σ''' = trr σ' 1 → K (-1) σ'''))) else (∀ σ'' : l2_m, σ'' = trr σ' 1 → K (-1) σ'')))
theorem o251 {B : va_E} {σ : l2_m} {x1 : Int} {x2 : Int} {x3 : Int} {x4 : Int} {K : Int → l2_m → Prop}   (h : w251 B σ x1 x2 x3 x4  K) : wC B 251 [vr 186, vi x1, vi x2, vi x3, vi x4] σ K := by
  have ck : pm_code 251 = pc_251 := rfl
  unfold w251 at h
  show wW B 251 0 [vr 186, vi x1, vi x2, vi x3, vi x4, pm_un, pm_un] [] σ K
  refine g_al 1 ck rfl rfl rfl ?_
  refine g_ic 2 ck rfl rfl ?_
  refine g_pfi 5 ck rfl rfl rfl 0 rfl rfl ?_
  replace h := h _ rfl
  obtain ⟨⟨hs1, hs2⟩, h⟩ := h
  refine g_al 6 ck rfl rfl rfl ?_
  refine g_il 7 ck rfl rfl rfl ?_
  refine g_cvi (as := [_]) (rest := []) 10 ck rfl rfl rfl rfl rfl rfl (by decide) rfl rfl rfl rfl (Nat.le_of_ble_eq_true rfl) (s197 hs1 hs2 ?_)
  refine g_ifeq 13 30 ck rfl rfl rfl rg_b2i (fun hc => ?_) (fun hc => ?_)
  · replace h := ite_hf h (b2i_f hc)
    refine g_al 31 ck rfl rfl rfl ?_
    refine g_ic 32 ck rfl rfl ?_
    refine g_cvi (as := [_]) (rest := []) 35 ck rfl rfl rfl rfl rfl rfl (by decide) rfl rfl rfl rfl (Nat.le_of_ble_eq_true rfl) (s168  ?_)
    replace h := h _ rfl
    exact g_ret ck rfl rfl (Or.inl (by decide)) h
  · replace h := ite_ht h (b2i_t hc)
    obtain ⟨hs3, h⟩ := h
    refine g_al 14 ck rfl rfl rfl ?_
    refine g_il 15 ck rfl rfl rfl ?_
    refine g_cvi (as := [_]) (rest := []) 18 ck rfl rfl rfl rfl rfl rfl (by decide) rfl rfl rfl rfl (Nat.le_of_ble_eq_true rfl) (s197 hs3 hs2 ?_)
    refine g_ifeq 21 30 ck rfl rfl rfl rg_b2i (fun hc => ?_) (fun hc => ?_)
    · replace h := ite_hf h (b2i_f hc)
      refine g_al 31 ck rfl rfl rfl ?_
      refine g_ic 32 ck rfl rfl ?_
      refine g_cvi (as := [_]) (rest := []) 35 ck rfl rfl rfl rfl rfl rfl (by decide) rfl rfl rfl rfl (Nat.le_of_ble_eq_true rfl) (s168  ?_)
      replace h := h _ rfl
      exact g_ret ck rfl rfl (Or.inl (by decide)) h
    · replace h := ite_ht h (b2i_t hc)
      obtain ⟨hs4, h⟩ := h
      refine g_al 22 ck rfl rfl rfl ?_
      refine g_il 24 ck rfl rfl rfl ?_
      refine g_cvi (as := [_]) (rest := []) 27 ck rfl rfl rfl rfl rfl rfl (by decide) rfl rfl rfl rfl (Nat.le_of_ble_eq_true rfl) (s197 hs4 hs2 ?_)
      refine g_ifne 30 36 ck rfl rfl rfl rg_b2i (fun hc => ?_) (fun hc => ?_)
      · replace h := ite_ht h (b2i_t hc)
        obtain ⟨hs5, h⟩ := h
        refine g_il 37 ck rfl rfl rfl ?_
        refine g_ic 38 ck rfl rfl ?_
        refine g_ic 41 ck rfl rfl ?_
        refine g_csi (as := [_, _, _]) (rest := []) 44 ck rfl rfl rfl rfl rfl (by decide) rfl rfl rfl (Nat.le_of_ble_eq_true rfl) (s170 hs5 (by decide) (by decide) ?_)
        refine g_ifeq 47 55 ck rfl rfl rfl rg_b2i (fun hc => ?_) (fun hc => ?_)
        · replace h := ite_hf h (b2i_f hc)
          refine g_al 56 ck rfl rfl rfl ?_
          refine g_ic 57 ck rfl rfl ?_
          refine g_cvi (as := [_]) (rest := []) 60 ck rfl rfl rfl rfl rfl rfl (by decide) rfl rfl rfl rfl (Nat.le_of_ble_eq_true rfl) (s168  ?_)
          replace h := h _ rfl
          exact g_ret ck rfl rfl (Or.inl (by decide)) h
        · replace h := ite_ht h (b2i_t hc)
          obtain ⟨⟨hs6, hs7⟩, h⟩ := h
          refine g_il 48 ck rfl rfl rfl ?_
          refine g_il 49 ck rfl rfl rfl ?_
          refine g_shr 50 ck rfl rfl hs5 hs6 hs7 ?_
          refine g_ic 51 ck rfl rfl ?_
          refine r_andk 2 1 52 ck rfl rfl (by decide) (by decide) (by decide) ?_
          refine g_ifne 55 61 ck rfl rfl rfl (rg_mod _ (by decide) (by decide)) (fun hc => ?_) (fun hc => ?_)
          · replace h := ite_hf h hc
            refine g_al 62 ck rfl rfl rfl ?_
            refine g_il 63 ck rfl rfl rfl ?_
            refine g_cvi (as := [_]) (rest := []) 66 ck rfl rfl rfl rfl rfl rfl (by decide) rfl rfl rfl rfl (Nat.le_of_ble_eq_true rfl) (wC.mono h (fun y σ''''' h => ?_))
            obtain ⟨hs8, h⟩ := h
            refine r_is 68 ck rfl rfl rfl rfl ?_
            refine g_il 70 ck rfl rfl rfl ?_
            refine g_ifle 73 80 ck rfl rfl rfl hs8 (fun hc => ?_) (fun hc => ?_)
            · replace h := ite_hf h (Int.not_lt.mpr hc)
              refine g_al 81 ck rfl rfl rfl ?_
              refine g_il 82 ck rfl rfl rfl ?_
              refine g_cvv (as := [_]) (rest := []) 85 ck rfl rfl rfl rfl rfl rfl rfl rfl rfl rfl (Nat.le_of_ble_eq_true rfl) (wC.mono h (fun _ σ'''''' h => ?_))
              refine g_al 86 ck rfl rfl rfl ?_
              refine g_il 87 ck rfl rfl rfl ?_
              refine g_cvi (as := [_]) (rest := []) 90 ck rfl rfl rfl rfl rfl rfl (by decide) rfl rfl rfl rfl (Nat.le_of_ble_eq_true rfl) (wC.mono h (fun y' σ''''''' h => ?_))
              obtain ⟨hs9, h⟩ := h
              refine g_ifne 93 99 ck rfl rfl rfl hs9 (fun hc => ?_) (fun hc => ?_)
              · replace h := ite_hf h hc
                refine g_ic 100 ck rfl rfl ?_
                refine r_is 102 ck rfl rfl rfl rfl ?_
                exact o251_102 rfl rfl rfl h
              · replace h := ite_ht h (Classical.not_not.mp hc)
                refine g_al 94 ck rfl rfl rfl ?_
                refine g_ic 95 ck rfl rfl ?_
                refine g_cvi (as := [_]) (rest := []) 98 ck rfl rfl rfl rfl rfl rfl (by decide) rfl rfl rfl rfl (Nat.le_of_ble_eq_true rfl) (s168  ?_)
                replace h := h _ rfl
                exact g_ret ck rfl rfl (Or.inl (by decide)) h
            · replace h := ite_ht h (Int.not_le.mp hc)
              refine g_al 74 ck rfl rfl rfl ?_
              refine g_il 76 ck rfl rfl rfl ?_
              refine g_cvi (as := [_]) (rest := []) 79 ck rfl rfl rfl rfl rfl rfl (by decide) rfl rfl rfl rfl (Nat.le_of_ble_eq_true rfl) (s168  ?_)
              replace h := h _ rfl
              exact g_ret ck rfl rfl (Or.inl (by decide)) h
          · replace h := ite_ht h (Classical.not_not.mp hc)
            refine g_al 56 ck rfl rfl rfl ?_
            refine g_ic 57 ck rfl rfl ?_
            refine g_cvi (as := [_]) (rest := []) 60 ck rfl rfl rfl rfl rfl rfl (by decide) rfl rfl rfl rfl (Nat.le_of_ble_eq_true rfl) (s168  ?_)
            replace h := h _ rfl
            exact g_ret ck rfl rfl (Or.inl (by decide)) h
      · replace h := ite_hf h (b2i_f (Classical.not_not.mp hc))
        refine g_al 31 ck rfl rfl rfl ?_
        refine g_ic 32 ck rfl rfl ?_
        refine g_cvi (as := [_]) (rest := []) 35 ck rfl rfl rfl rfl rfl rfl (by decide) rfl rfl rfl rfl (Nat.le_of_ble_eq_true rfl) (s168  ?_)
        replace h := h _ rfl
        exact g_ret ck rfl rfl (Or.inl (by decide)) h
/-! 252 TermDeskModel.pair(III)I -/
def w252 (B : va_E) (σ : l2_m) (x1 : Int) (x2 : Int) (x3 : Int) (K : Int → l2_m → Prop) : Prop := (∀ σ' : l2_m, σ' = l2_u σ 186 0 0 → (rg x1 ∧ rg x2 ∧ rg x3 ∧ ((σ' 186 14) = 0 ∨ (σ' 186 14) = 1)) ∧ (if (σ' 186 14) = 1 ∧ (0 ≤ x1 ∧ x1 < 8) ∧ (0 ≤ x2 ∧ x2 < 8) ∧ (0 ≤ x3 ∧ x3 < 8) then (if x1 = x2 then (∀ σ'''''''' : l2_m, σ'''''''' = trr σ' 1 → K (-1) σ'''''''') else ((0 ≤ x1 ∧ x1 < 8 ∧ (∀ j : Int, 0 ≤ j → j < 4096 → rg (σ' 187 (4096 * x1 + j)))) ∧ (if (cnt (fun k => σ' 187 (4096 * x1 + k)) 4096) = 0 then (∀ σ''' : l2_m, σ''' = trr σ' 5 → K (-1) σ''') else ((0 ≤ x2 ∧ x2 < 8 ∧ (∀ j : Int, 0 ≤ j → j < 4096 → rg (σ' 187 (4096 * x2 + j)))) ∧ (if (cnt (fun k => σ' 187 (4096 * x2 + k)) 4096) = 0 then (∀ σ''''''' : l2_m, σ''''''' = trr σ' 5 → K (-1) σ''''''') else (wC B 236 [vr 186, vi x1, vi x2] σ' (fun y σ'''' => (rg y ∧ (if y = 0 then (∀ σ''''' : l2_m, σ''''' = trr σ'''' 3 → K (-1) σ''''') else (wC B 240 [vr 186, vi x3] σ'''' (fun y' σ'''''' => K y' σ''''''))))))))))) else (∀ σ'' : l2_m, σ'' = trr σ' 1 → K (-1) σ'')))
theorem o252 {B : va_E} {σ : l2_m} {x1 : Int} {x2 : Int} {x3 : Int} {K : Int → l2_m → Prop}   (h : w252 B σ x1 x2 x3  K) : wC B 252 [vr 186, vi x1, vi x2, vi x3] σ K := by
  have ck : pm_code 252 = pc_252 := rfl
  unfold w252 at h
  show wW B 252 0 [vr 186, vi x1, vi x2, vi x3] [] σ K
  refine g_al 1 ck rfl rfl rfl ?_
  refine g_ic 2 ck rfl rfl ?_
  refine g_pfi 5 ck rfl rfl rfl 0 rfl rfl ?_
  replace h := h _ rfl
  obtain ⟨⟨hs1, hs2, hs3, hs4⟩, h⟩ := h
  refine g_al 6 ck rfl rfl rfl ?_
  refine g_il 7 ck rfl rfl rfl ?_
  refine g_il 8 ck rfl rfl rfl ?_
  refine g_il 9 ck rfl rfl rfl ?_
  refine g_cvi (as := [_, _, _]) (rest := []) 12 ck rfl rfl rfl rfl rfl rfl (by decide) rfl rfl rfl rfl (Nat.le_of_ble_eq_true rfl) (s241 hs1 hs2 hs3 hs4 ?_)
  refine g_ifeq 15 20 ck rfl rfl rfl rg_b2i (fun hc => ?_) (fun hc => ?_)
  · replace h := ite_hf h (b2i_f hc)
    refine g_al 21 ck rfl rfl rfl ?_
    refine g_ic 22 ck rfl rfl ?_
    refine g_cvi (as := [_]) (rest := []) 25 ck rfl rfl rfl rfl rfl rfl (by decide) rfl rfl rfl rfl (Nat.le_of_ble_eq_true rfl) (s168  ?_)
    replace h := h _ rfl
    exact g_ret ck rfl rfl (Or.inl (by decide)) h
  · replace h := ite_ht h (b2i_t hc)
    refine g_il 16 ck rfl rfl rfl ?_
    refine g_il 17 ck rfl rfl rfl ?_
    refine g_icne 20 26 ck rfl rfl rfl hs1 hs2 (fun hc => ?_) (fun hc => ?_)
    · replace h := ite_hf h hc
      obtain ⟨⟨hs5, hs6, hs7⟩, h⟩ := h
      refine g_al 27 ck rfl rfl rfl ?_
      refine g_il 28 ck rfl rfl rfl ?_
      refine g_cvi (as := [_]) (rest := []) 31 ck rfl rfl rfl rfl rfl rfl (by decide) rfl rfl rfl rfl (Nat.le_of_ble_eq_true rfl) (s203 hs5 hs6 hs7 ?_)
      refine g_ifne 34 42 ck rfl rfl rfl rg_b2i (fun hc => ?_) (fun hc => ?_)
      · replace h := ite_ht h (b2i_t hc)
        refine g_al 43 ck rfl rfl rfl ?_
        refine g_ic 44 ck rfl rfl ?_
        refine g_cvi (as := [_]) (rest := []) 47 ck rfl rfl rfl rfl rfl rfl (by decide) rfl rfl rfl rfl (Nat.le_of_ble_eq_true rfl) (s168  ?_)
        replace h := h _ rfl
        exact g_ret ck rfl rfl (Or.inl (by decide)) h
      · replace h := ite_hf h (b2i_f (Classical.not_not.mp hc))
        obtain ⟨⟨hs8, hs9, hs10⟩, h⟩ := h
        refine g_al 35 ck rfl rfl rfl ?_
        refine g_il 36 ck rfl rfl rfl ?_
        refine g_cvi (as := [_]) (rest := []) 39 ck rfl rfl rfl rfl rfl rfl (by decide) rfl rfl rfl rfl (Nat.le_of_ble_eq_true rfl) (s203 hs8 hs9 hs10 ?_)
        refine g_ifeq 42 48 ck rfl rfl rfl rg_b2i (fun hc => ?_) (fun hc => ?_)
        · replace h := ite_hf h (b2i_f hc)
          refine g_al 49 ck rfl rfl rfl ?_
          refine g_il 50 ck rfl rfl rfl ?_
          refine g_il 51 ck rfl rfl rfl ?_
          refine g_cvi (as := [_, _]) (rest := []) 54 ck rfl rfl rfl rfl rfl rfl (by decide) rfl rfl rfl rfl (Nat.le_of_ble_eq_true rfl) (wC.mono h (fun y σ'''' h => ?_))
          obtain ⟨hs11, h⟩ := h
          refine g_ifeq 57 65 ck rfl rfl rfl hs11 (fun hc => ?_) (fun hc => ?_)
          · replace h := ite_ht h hc
            refine g_al 66 ck rfl rfl rfl ?_
            refine g_ic 67 ck rfl rfl ?_
            refine g_cvi (as := [_]) (rest := []) 70 ck rfl rfl rfl rfl rfl rfl (by decide) rfl rfl rfl rfl (Nat.le_of_ble_eq_true rfl) (s168  ?_)
            replace h := h _ rfl
            exact g_ret ck rfl rfl (Or.inl (by decide)) h
          · replace h := ite_hf h hc
            refine g_al 58 ck rfl rfl rfl ?_
            refine g_il 59 ck rfl rfl rfl ?_
            refine g_cvi (as := [_]) (rest := []) 62 ck rfl rfl rfl rfl rfl rfl (by decide) rfl rfl rfl rfl (Nat.le_of_ble_eq_true rfl) (wC.mono h (fun y' σ'''''' h => ?_))
            refine g_goto 70 ck rfl rfl ?_
            exact g_ret ck rfl rfl (Or.inl (by decide)) h
        · replace h := ite_ht h (b2i_t hc)
          refine g_al 43 ck rfl rfl rfl ?_
          refine g_ic 44 ck rfl rfl ?_
          refine g_cvi (as := [_]) (rest := []) 47 ck rfl rfl rfl rfl rfl rfl (by decide) rfl rfl rfl rfl (Nat.le_of_ble_eq_true rfl) (s168  ?_)
          replace h := h _ rfl
          exact g_ret ck rfl rfl (Or.inl (by decide)) h
    · replace h := ite_ht h (Classical.not_not.mp hc)
      refine g_al 21 ck rfl rfl rfl ?_
      refine g_ic 22 ck rfl rfl ?_
      refine g_cvi (as := [_]) (rest := []) 25 ck rfl rfl rfl rfl rfl rfl (by decide) rfl rfl rfl rfl (Nat.le_of_ble_eq_true rfl) (s168  ?_)
      replace h := h _ rfl
      exact g_ret ck rfl rfl (Or.inl (by decide)) h
/-! 255 TermDeskModel.laysRows(I[I)V -/
def w255_29 (B : va_E) (σ : l2_m) (x1 : Int) (o2 : Nat) (x3 : Int) (x4 : Int) (X20 : Int → l2_m → Prop) (K : Int → l2_m → Prop) : Prop := lz2 (fun X29 x4 σ => (rg x4 ∧ (if x4 < 16 then ((0 ≤ x3 ∧ x3 < 16 ∧ 0 ≤ x4 ∧ x4 < 16 ∧ 0 ≤ x1 ∧ x1 < 8 ∧ 0 ≤ (x3 + 16 * x4 + 256 * 0) ∧ (x3 + 16 * x4 + 256 * 0) < 4096 ∧ 0 ≤ ((2304 * x3) + x4) ∧ ((2304 * x3) + x4) < 36864) ∧ ∀ σ' : l2_m, σ' = l2_u σ o2 ((2304 * x3) + x4) (σ 187 (4096 * x1 + (x3 + 16 * x4 + 256 * 0))) → X29 (x4 + 1) σ') else X20 (x3 + 1) σ))) x4 σ
theorem o255_29 {B : va_E} {σ : l2_m} {x1 : Int} {o2 : Nat} {x3 : Int} {x4 : Int}  {X20 : Int → l2_m → Prop} {K : Int → l2_m → Prop} (ho2 : l2_al o2 = some 36864)  (hX20 : ∀ (x3 : Int) (σ : l2_m) (u4 : Value), (u4.category == 1) = true → X20 x3 σ → wW B 255 20 [vr 186, vi x1, vr o2, vi x3, u4] [] σ K) (h : w255_29 B σ x1 o2 x3 x4 X20 K) : wW B 255 29 [vr 186, vi x1, vr o2, vi x3, vi x4] [] σ K := by
  have ck : pm_code 255 = pc_255 := rfl
  unfold w255_29 at h
  refine h (fun x4 σ => wW B 255 29 [vr 186, vi x1, vr o2, vi x3, vi x4] [] σ K) ?_
  clear h
  intro x4 σ h
  obtain ⟨hs1, h⟩ := h
  refine g_il 31 ck rfl rfl rfl ?_
  refine g_ic 33 ck rfl rfl ?_
  refine g_icge 36 64 ck rfl rfl rfl hs1 (by decide) (fun hc => ?_) (fun hc => ?_)
  · replace h := ite_hf h (Int.not_lt.mpr hc)
    refine r_ii 67 ck rfl rfl rfl rfl ?_
    refine g_goto 20 ck rfl rfl ?_
    exact hX20 _ _ _ rfl h
  · replace h := ite_ht h (Int.not_le.mp hc)
    obtain ⟨⟨hs2, hs3, hs4, hs5, hs6, hs7, hs8, hs9, hs10, hs11⟩, h⟩ := h
    refine g_al 37 ck rfl rfl rfl ?_
    refine g_ic 40 ck rfl rfl ?_
    refine g_il 41 ck rfl rfl rfl ?_
    refine g_mul 42 ck rfl rfl ?_
    refine g_il 44 ck rfl rfl rfl ?_
    refine g_add 45 ck rfl rfl ?_
    refine g_al 46 ck rfl rfl rfl ?_
    refine g_il 47 ck rfl rfl rfl ?_
    refine g_il 48 ck rfl rfl rfl ?_
    refine g_il 50 ck rfl rfl rfl ?_
    refine g_ic 51 ck rfl rfl ?_
    refine g_csi (as := [_, _, _]) (rest := [_, _, _, _]) 54 ck rfl rfl rfl rfl rfl (by decide) rfl rfl rfl (Nat.le_of_ble_eq_true rfl) (s173 hs2 hs3 hs4 hs5 (by decide) (by decide) ?_)
    refine g_cvi (as := [_, _]) (rest := [_, _]) 57 ck rfl rfl rfl rfl rfl rfl (by decide) rfl rfl rfl rfl (Nat.le_of_ble_eq_true rfl) (s201 hs6 hs7 hs8 hs9 ?_)
    refine g_ias (m := 36864) 58 ck rfl rfl ho2 hs10 hs11 ?_
    replace h := h _ rfl
    refine r_ii 61 ck rfl rfl rfl rfl ?_
    refine g_goto 29 ck rfl rfl ?_
    exact h
def w255_20 (B : va_E) (σ : l2_m) (x1 : Int) (o2 : Nat) (x3 : Int)  (K : Int → l2_m → Prop) : Prop := lz2 (fun X20 x3 σ => (rg x3 ∧ (if x3 < 16 then w255_29 B σ x1 o2 x3 0 X20 K else K 0 σ))) x3 σ
theorem o255_20 {B : va_E} {σ : l2_m} {x1 : Int} {o2 : Nat} {x3 : Int} {u4 : Value}  {K : Int → l2_m → Prop} (ho2 : l2_al o2 = some 36864) (hu4 : (u4.category == 1) = true)  (h : w255_20 B σ x1 o2 x3  K) : wW B 255 20 [vr 186, vi x1, vr o2, vi x3, u4] [] σ K := by
  have ck : pm_code 255 = pc_255 := rfl
  unfold w255_20 at h
  refine h (fun x3 σ => ∀ u4 : Value, (u4.category == 1) = true → wW B 255 20 [vr 186, vi x1, vr o2, vi x3, u4] [] σ K) ?_ u4 hu4
  clear h
  intro x3 σ h u4 hu4
  obtain ⟨hs1, h⟩ := h
  refine g_il 21 ck rfl rfl rfl ?_
  refine g_ic 23 ck rfl rfl ?_
  refine g_icge 26 70 ck rfl rfl rfl hs1 (by decide) (fun hc => ?_) (fun hc => ?_)
  · replace h := ite_hf h (Int.not_lt.mpr hc)
    exact g_retv ck rfl rfl h
  · replace h := ite_ht h (Int.not_le.mp hc)
    refine g_ic 27 ck rfl rfl ?_
    refine r_is 29 ck rfl rfl rfl rfl ?_
    exact o255_29 ho2 (fun _ _ u4 hu4 hx => hx u4 hu4) h
def w255_2 (B : va_E) (σ : l2_m) (x1 : Int) (o2 : Nat) (x3 : Int)  (K : Int → l2_m → Prop) : Prop := lz2 (fun X2 x3 σ => (rg x3 ∧ (if x3 < 36864 then ((0 ≤ x3 ∧ x3 < 36864) ∧ ∀ σ' : l2_m, σ' = l2_u σ o2 x3 0 → X2 (x3 + 1) σ') else w255_20 B σ x1 o2 0 K))) x3 σ
theorem o255_2 {B : va_E} {σ : l2_m} {x1 : Int} {o2 : Nat} {x3 : Int} {u4 : Value}  {K : Int → l2_m → Prop} (ho2 : l2_al o2 = some 36864) (hu4 : (u4.category == 1) = true)  (h : w255_2 B σ x1 o2 x3  K) : wW B 255 2 [vr 186, vi x1, vr o2, vi x3, u4] [] σ K := by
  have ck : pm_code 255 = pc_255 := rfl
  unfold w255_2 at h
  refine h (fun x3 σ => ∀ u4 : Value, (u4.category == 1) = true → wW B 255 2 [vr 186, vi x1, vr o2, vi x3, u4] [] σ K) ?_ u4 hu4
  clear h
  intro x3 σ h u4 hu4
  obtain ⟨hs1, h⟩ := h
  refine g_il 3 ck rfl rfl rfl ?_
  refine g_ic 5 ck rfl rfl ?_
  refine g_icge 8 18 ck rfl rfl rfl hs1 (by decide) (fun hc => ?_) (fun hc => ?_)
  · replace h := ite_hf h (Int.not_lt.mpr hc)
    refine g_ic 19 ck rfl rfl ?_
    refine r_is 20 ck rfl rfl rfl rfl ?_
    exact o255_20 ho2 hu4 h
  · replace h := ite_ht h (Int.not_le.mp hc)
    obtain ⟨⟨hs2, hs3⟩, h⟩ := h
    refine g_al 9 ck rfl rfl rfl ?_
    refine g_il 10 ck rfl rfl rfl ?_
    refine g_ic 11 ck rfl rfl ?_
    refine g_ias (m := 36864) 12 ck rfl rfl ho2 hs2 hs3 ?_
    replace h := h _ rfl
    refine r_ii 15 ck rfl rfl rfl rfl ?_
    refine g_goto 2 ck rfl rfl ?_
    exact h _ hu4
def w255 (B : va_E) (σ : l2_m) (x1 : Int) (o2 : Nat) (K : Int → l2_m → Prop) : Prop := w255_2 B σ x1 o2 0 K
theorem o255 {B : va_E} {σ : l2_m} {x1 : Int} {o2 : Nat} {K : Int → l2_m → Prop} (ho2 : l2_al o2 = some 36864)  (h : w255 B σ x1 o2  K) : wC B 255 [vr 186, vi x1, vr o2] σ K := by
  have ck : pm_code 255 = pc_255 := rfl
  unfold w255 at h
  show wW B 255 0 [vr 186, vi x1, vr o2, pm_un, pm_un] [] σ K
  refine g_ic 1 ck rfl rfl ?_
  refine r_is 2 ck rfl rfl rfl rfl ?_
  exact o255_2 ho2 rfl h
/-! 257 TermDeskModel.leaves([II[II)I -/
def w257_118 (B : va_E) (σ : l2_m) (o1 : Nat) (x6 : Int)  (K : Int → l2_m → Prop) : Prop := lz1 (fun X118 x6 => (rg x6 ∧ ((¬ (x6 < 0) → 0 ≤ x6 ∧ x6 < 2304 ∧ rg (σ o1 x6)) ∧ (if (x6 < 0) ∨ ¬ ((σ o1 x6) = 0) then K x6 σ else X118 (x6 + (-1)))))) x6
theorem o257_118 {B : va_E} {σ : l2_m} {o1 : Nat} {x6 : Int} {u0 : Value} {u2 : Value} {u3 : Value} {u4 : Value} {u5 : Value} {u7 : Value} {u8 : Value}  {K : Int → l2_m → Prop} (ho1 : l2_al o1 = some 2304) (hu0 : (u0.category == 1) = true) (hu2 : (u2.category == 1) = true) (hu3 : (u3.category == 1) = true) (hu4 : (u4.category == 1) = true) (hu5 : (u5.category == 1) = true) (hu7 : (u7.category == 1) = true) (hu8 : (u8.category == 1) = true)  (h : w257_118 B σ o1 x6  K) : wW B 257 118 [u0, vr o1, u2, u3, u4, u5, vi x6, u7, u8] [] σ K := by
  have ck : pm_code 257 = pc_257 := rfl
  unfold w257_118 at h
  refine h (fun x6 => ∀ u0 : Value, (u0.category == 1) = true → ∀ u2 : Value, (u2.category == 1) = true → ∀ u3 : Value, (u3.category == 1) = true → ∀ u4 : Value, (u4.category == 1) = true → ∀ u5 : Value, (u5.category == 1) = true → ∀ u7 : Value, (u7.category == 1) = true → ∀ u8 : Value, (u8.category == 1) = true → wW B 257 118 [u0, vr o1, u2, u3, u4, u5, vi x6, u7, u8] [] σ K) ?_ u0 hu0 u2 hu2 u3 hu3 u4 hu4 u5 hu5 u7 hu7 u8 hu8
  clear h
  intro x6 h u0 hu0 u2 hu2 u3 hu3 u4 hu4 u5 hu5 u7 hu7 u8 hu8
  replace h := (And.imp_right mg_2s) h
  obtain ⟨hs1, h⟩ := h
  refine g_il 120 ck rfl rfl rfl ?_
  refine g_iflt 123 136 ck rfl rfl rfl hs1 (fun hc => ?_) (fun hc => ?_)
  · replace h := ite_ht h hc
    refine g_il 138 ck rfl rfl rfl ?_
    exact g_ret ck rfl rfl (Or.inl (by decide)) h
  · replace h := ite_hf h hc
    obtain ⟨⟨hs2, hs3, hs4⟩, h⟩ := h
    refine g_al 124 ck rfl rfl rfl ?_
    refine g_il 126 ck rfl rfl rfl ?_
    refine g_ial (m := 2304) 127 ck rfl rfl ho1 hs2 hs3 ?_
    refine g_ifne 130 136 ck rfl rfl rfl hs4 (fun hc => ?_) (fun hc => ?_)
    · replace h := ite_hf h hc
      refine g_il 138 ck rfl rfl rfl ?_
      exact g_ret ck rfl rfl (Or.inl (by decide)) h
    · replace h := ite_ht h (Classical.not_not.mp hc)
      refine r_ii 133 ck rfl rfl hu5 rfl ?_
      refine g_goto 118 ck rfl rfl ?_
      exact h _ hu0 _ hu2 _ hu3 _ hu4 _ hu5 _ hu7 _ hu8
def w257_45 (B : va_E) (σ : l2_m) (o1 : Nat) (x2 : Int) (o3 : Nat) (x4 : Int) (x5 : Int) (x6 : Int) (x7 : Int) (x8 : Int) (X13 : Int → l2_m → Prop) (K : Int → l2_m → Prop) : Prop := lz2 (fun X45 x8 σ => ((rg x8 ∧ rg x4) ∧ (if x4 < x8 then X13 (x6 + (-1)) σ else ((0 ≤ ((x6 - x4) + x8) ∧ ((x6 - x4) + x8) < 2304 ∧ 0 ≤ x8 ∧ x8 < 2304 ∧ rg ((σ o1 ((x6 - x4) + x8)) + (((σ 186 5) - x7) * (σ o3 x8))) ∧ rg (σ 186 5) ∧ 0 < (σ 186 5) ∧ 0 ≤ ((σ o1 ((x6 - x4) + x8)) + (((σ 186 5) - x7) * (σ o3 x8)))) ∧ ∀ σ' : l2_m, σ' = l2_u σ o1 ((x6 - x4) + x8) (((σ o1 ((x6 - x4) + x8)) + (((σ 186 5) - x7) * (σ o3 x8))) % (σ 186 5)) → X45 (x8 + 1) σ')))) x8 σ
theorem o257_45 {B : va_E} {σ : l2_m} {o1 : Nat} {x2 : Int} {o3 : Nat} {x4 : Int} {x5 : Int} {x6 : Int} {x7 : Int} {x8 : Int}  {X13 : Int → l2_m → Prop} {K : Int → l2_m → Prop} (ho1 : l2_al o1 = some 2304) (ho3 : l2_al o3 = some 2304)  (hX13 : ∀ (x6 : Int) (σ : l2_m) (u7 : Value) (u8 : Value), (u7.category == 1) = true → (u8.category == 1) = true → X13 x6 σ → wW B 257 13 [vr 186, vr o1, vi x2, vr o3, vi x4, vi x5, vi x6, u7, u8] [] σ K) (h : w257_45 B σ o1 x2 o3 x4 x5 x6 x7 x8 X13 K) : wW B 257 45 [vr 186, vr o1, vi x2, vr o3, vi x4, vi x5, vi x6, vi x7, vi x8] [] σ K := by
  have ck : pm_code 257 = pc_257 := rfl
  unfold w257_45 at h
  refine h (fun x8 σ => wW B 257 45 [vr 186, vr o1, vi x2, vr o3, vi x4, vi x5, vi x6, vi x7, vi x8] [] σ K) ?_
  clear h
  intro x8 σ h
  obtain ⟨⟨hs1, hs2⟩, h⟩ := h
  refine g_il 47 ck rfl rfl rfl ?_
  refine g_il 49 ck rfl rfl rfl ?_
  refine g_icgt 52 96 ck rfl rfl rfl hs1 hs2 (fun hc => ?_) (fun hc => ?_)
  · replace h := ite_ht h hc
    refine r_ii 99 ck rfl rfl rfl rfl ?_
    refine g_goto 13 ck rfl rfl ?_
    exact hX13 _ _ _ _ rfl rfl h
  · replace h := ite_hf h hc
    obtain ⟨⟨hs3, hs4, hs5, hs6, hs7, hs8, hs9, hs10⟩, h⟩ := h
    refine g_al 53 ck rfl rfl rfl ?_
    refine g_il 55 ck rfl rfl rfl ?_
    refine g_il 57 ck rfl rfl rfl ?_
    refine g_sub 58 ck rfl rfl ?_
    refine g_il 60 ck rfl rfl rfl ?_
    refine g_add 61 ck rfl rfl ?_
    refine g_al 62 ck rfl rfl rfl ?_
    refine g_il 64 ck rfl rfl rfl ?_
    refine g_il 66 ck rfl rfl rfl ?_
    refine g_sub 67 ck rfl rfl ?_
    refine g_il 69 ck rfl rfl rfl ?_
    refine g_add 70 ck rfl rfl ?_
    refine g_ial (m := 2304) 71 ck rfl rfl ho1 hs3 hs4 ?_
    refine g_al 72 ck rfl rfl rfl ?_
    refine r_gfi 75 5 ck rfl rfl rfl rfl ?_
    refine g_il 77 ck rfl rfl rfl ?_
    refine g_sub 78 ck rfl rfl ?_
    refine g_al 79 ck rfl rfl rfl ?_
    refine g_il 81 ck rfl rfl rfl ?_
    refine g_ial (m := 2304) 82 ck rfl rfl ho3 hs5 hs6 ?_
    refine g_mul 83 ck rfl rfl ?_
    refine g_add 84 ck rfl rfl ?_
    refine g_al 85 ck rfl rfl rfl ?_
    refine r_gfi 88 5 ck rfl rfl rfl rfl ?_
    refine g_rem 89 ck rfl rfl hs7 hs8 hs10 hs9 ?_
    refine g_ias (m := 2304) 90 ck rfl rfl ho1 hs3 hs4 ?_
    replace h := h _ rfl
    refine r_ii 93 ck rfl rfl rfl rfl ?_
    refine g_goto 45 ck rfl rfl ?_
    exact h
def w257_13 (B : va_E) (σ : l2_m) (o1 : Nat) (x2 : Int) (o3 : Nat) (x4 : Int) (x5 : Int) (x6 : Int)  (K : Int → l2_m → Prop) : Prop := lz2 (fun X13 x6 σ => ((rg x6 ∧ rg x4) ∧ (if x6 < x4 then (rg x2 ∧ (if x2 < x4 then w257_118 B σ o1 x2 K else (∀ x6' : Int, x6' = (x4 - 1) → w257_118 B σ o1 x6' K))) else ((0 ≤ x6 ∧ x6 < 2304 ∧ rg ((σ o1 x6) * x5) ∧ rg (σ 186 5) ∧ 0 < (σ 186 5) ∧ 0 ≤ ((σ o1 x6) * x5)) ∧ ∀ x7 : Int, x7 = (((σ o1 x6) * x5) % (σ 186 5)) → rg x7 ∧ (if x7 = 0 then X13 (x6 + (-1)) σ else w257_45 B σ o1 x2 o3 x4 x5 x6 x7 0 X13 K))))) x6 σ
theorem o257_13 {B : va_E} {σ : l2_m} {o1 : Nat} {x2 : Int} {o3 : Nat} {x4 : Int} {x5 : Int} {x6 : Int} {u7 : Value} {u8 : Value}  {K : Int → l2_m → Prop} (ho1 : l2_al o1 = some 2304) (ho3 : l2_al o3 = some 2304) (hu7 : (u7.category == 1) = true) (hu8 : (u8.category == 1) = true)  (h : w257_13 B σ o1 x2 o3 x4 x5 x6  K) : wW B 257 13 [vr 186, vr o1, vi x2, vr o3, vi x4, vi x5, vi x6, u7, u8] [] σ K := by
  have ck : pm_code 257 = pc_257 := rfl
  unfold w257_13 at h
  refine h (fun x6 σ => ∀ u7 : Value, (u7.category == 1) = true → ∀ u8 : Value, (u8.category == 1) = true → wW B 257 13 [vr 186, vr o1, vi x2, vr o3, vi x4, vi x5, vi x6, u7, u8] [] σ K) ?_ u7 hu7 u8 hu8
  clear h
  intro x6 σ h u7 hu7 u8 hu8
  obtain ⟨⟨hs1, hs2⟩, h⟩ := h
  refine g_il 15 ck rfl rfl rfl ?_
  refine g_il 17 ck rfl rfl rfl ?_
  refine g_iclt 20 102 ck rfl rfl rfl hs1 hs2 (fun hc => ?_) (fun hc => ?_)
  · replace h := ite_ht h hc
    obtain ⟨hs3, h⟩ := h
    refine g_il 103 ck rfl rfl rfl ?_
    refine g_il 105 ck rfl rfl rfl ?_
    refine g_icge 108 112 ck rfl rfl rfl hs3 hs2 (fun hc => ?_) (fun hc => ?_)
    · replace h := ite_hf h (Int.not_lt.mpr hc)
      refine g_il 114 ck rfl rfl rfl ?_
      refine g_ic 115 ck rfl rfl ?_
      refine g_sub 116 ck rfl rfl ?_
      refine r_is 118 ck rfl rfl rfl rfl ?_
      replace h := h _ rfl
      exact o257_118 ho1 rfl rfl rfl rfl rfl hu7 hu8 h
    · replace h := ite_ht h (Int.not_le.mp hc)
      refine g_il 109 ck rfl rfl rfl ?_
      refine g_goto 116 ck rfl rfl ?_
      refine r_is 118 ck rfl rfl rfl rfl ?_
      exact o257_118 ho1 rfl rfl rfl rfl rfl hu7 hu8 h
  · replace h := ite_hf h hc
    obtain ⟨⟨hs4, hs5, hs6, hs7, hs8, hs9⟩, h⟩ := h
    refine g_al 21 ck rfl rfl rfl ?_
    refine g_il 23 ck rfl rfl rfl ?_
    refine g_ial (m := 2304) 24 ck rfl rfl ho1 hs4 hs5 ?_
    refine g_il 26 ck rfl rfl rfl ?_
    refine g_mul 27 ck rfl rfl ?_
    refine g_al 28 ck rfl rfl rfl ?_
    refine r_gfi 31 5 ck rfl rfl rfl rfl ?_
    refine g_rem 32 ck rfl rfl hs6 hs7 hs9 hs8 ?_
    refine r_is 34 ck rfl rfl rfl rfl ?_
    replace h := h _ rfl
    obtain ⟨hs10, h⟩ := h
    refine g_il 36 ck rfl rfl rfl ?_
    refine g_ifne 39 42 ck rfl rfl rfl hs10 (fun hc => ?_) (fun hc => ?_)
    · replace h := ite_hf h hc
      refine g_ic 43 ck rfl rfl ?_
      refine r_is 45 ck rfl rfl rfl rfl ?_
      exact o257_45 ho1 ho3 (fun _ _ u7 u8 hu7 hu8 hx => hx u7 hu7 u8 hu8) h
    · replace h := ite_ht h (Classical.not_not.mp hc)
      refine g_goto 96 ck rfl rfl ?_
      refine r_ii 99 ck rfl rfl rfl rfl ?_
      refine g_goto 13 ck rfl rfl ?_
      exact h _ rfl _ hu8
def w257 (B : va_E) (σ : l2_m) (o1 : Nat) (x2 : Int) (o3 : Nat) (x4 : Int) (K : Int → l2_m → Prop) : Prop := ((0 ≤ x4 ∧ x4 < 2304) ∧ (wC B 226 [vr 186, vi (σ o3 x4)] σ (fun y σ' => w257_13 B σ' o1 x2 o3 x4 y x2 K)))
theorem o257 {B : va_E} {σ : l2_m} {o1 : Nat} {x2 : Int} {o3 : Nat} {x4 : Int} {K : Int → l2_m → Prop} (ho1 : l2_al o1 = some 2304) (ho3 : l2_al o3 = some 2304)  (h : w257 B σ o1 x2 o3 x4  K) : wC B 257 [vr 186, vr o1, vi x2, vr o3, vi x4] σ K := by
  have ck : pm_code 257 = pc_257 := rfl
  unfold w257 at h
  show wW B 257 0 [vr 186, vr o1, vi x2, vr o3, vi x4, pm_un, pm_un, pm_un, pm_un] [] σ K
  obtain ⟨⟨hs1, hs2⟩, h⟩ := h
  refine g_al 1 ck rfl rfl rfl ?_
  refine g_al 2 ck rfl rfl rfl ?_
  refine g_il 4 ck rfl rfl rfl ?_
  refine g_ial (m := 2304) 5 ck rfl rfl ho3 hs1 hs2 ?_
  refine g_cvi (as := [_]) (rest := []) 8 ck rfl rfl rfl rfl rfl rfl (by decide) rfl rfl rfl rfl (Nat.le_of_ble_eq_true rfl) (wC.mono h (fun y σ' h => ?_))
  refine r_is 10 ck rfl rfl rfl rfl ?_
  refine g_il 11 ck rfl rfl rfl ?_
  refine r_is 13 ck rfl rfl rfl rfl ?_
  exact o257_13 ho1 ho3 rfl rfl h
/-! 258 TermDeskModel.goesBy([I[I[I)V -/
def w258_87 (B : va_E) (σ : l2_m) (o1 : Nat) (o2 : Nat) (o3 : Nat) (x4 : Int) (x5 : Int) (x6 : Int) (x7 : Int) (x8 : Int) (X46 : Int → l2_m → Prop) (K : Int → l2_m → Prop) : Prop := lz2 (fun X87 x8 σ => ((rg x8 ∧ rg x4) ∧ (if x4 < x8 then X46 (x6 + (-1)) σ else ((0 ≤ ((x6 - x4) + x8) ∧ ((x6 - x4) + x8) < 2304 ∧ 0 ≤ x8 ∧ x8 < 2304 ∧ rg ((σ o1 ((x6 - x4) + x8)) + (((σ 186 5) - x7) * (σ o2 x8))) ∧ rg (σ 186 5) ∧ 0 < (σ 186 5) ∧ 0 ≤ ((σ o1 ((x6 - x4) + x8)) + (((σ 186 5) - x7) * (σ o2 x8)))) ∧ ∀ σ' : l2_m, σ' = l2_u σ o1 ((x6 - x4) + x8) (((σ o1 ((x6 - x4) + x8)) + (((σ 186 5) - x7) * (σ o2 x8))) % (σ 186 5)) → X87 (x8 + 1) σ')))) x8 σ
theorem o258_87 {B : va_E} {σ : l2_m} {o1 : Nat} {o2 : Nat} {o3 : Nat} {x4 : Int} {x5 : Int} {x6 : Int} {x7 : Int} {x8 : Int}  {X46 : Int → l2_m → Prop} {K : Int → l2_m → Prop} (ho1 : l2_al o1 = some 2304) (ho2 : l2_al o2 = some 2304) (ho3 : l2_al o3 = some 2304)  (hX46 : ∀ (x6 : Int) (σ : l2_m) (u7 : Value) (u8 : Value), (u7.category == 1) = true → (u8.category == 1) = true → X46 x6 σ → wW B 258 46 [vr 186, vr o1, vr o2, vr o3, vi x4, vi x5, vi x6, u7, u8] [] σ K) (h : w258_87 B σ o1 o2 o3 x4 x5 x6 x7 x8 X46 K) : wW B 258 87 [vr 186, vr o1, vr o2, vr o3, vi x4, vi x5, vi x6, vi x7, vi x8] [] σ K := by
  have ck : pm_code 258 = pc_258 := rfl
  unfold w258_87 at h
  refine h (fun x8 σ => wW B 258 87 [vr 186, vr o1, vr o2, vr o3, vi x4, vi x5, vi x6, vi x7, vi x8] [] σ K) ?_
  clear h
  intro x8 σ h
  obtain ⟨⟨hs1, hs2⟩, h⟩ := h
  refine g_il 89 ck rfl rfl rfl ?_
  refine g_il 91 ck rfl rfl rfl ?_
  refine g_icgt 94 138 ck rfl rfl rfl hs1 hs2 (fun hc => ?_) (fun hc => ?_)
  · replace h := ite_ht h hc
    refine r_ii 141 ck rfl rfl rfl rfl ?_
    refine g_goto 46 ck rfl rfl ?_
    exact hX46 _ _ _ _ rfl rfl h
  · replace h := ite_hf h hc
    obtain ⟨⟨hs3, hs4, hs5, hs6, hs7, hs8, hs9, hs10⟩, h⟩ := h
    refine g_al 95 ck rfl rfl rfl ?_
    refine g_il 97 ck rfl rfl rfl ?_
    refine g_il 99 ck rfl rfl rfl ?_
    refine g_sub 100 ck rfl rfl ?_
    refine g_il 102 ck rfl rfl rfl ?_
    refine g_add 103 ck rfl rfl ?_
    refine g_al 104 ck rfl rfl rfl ?_
    refine g_il 106 ck rfl rfl rfl ?_
    refine g_il 108 ck rfl rfl rfl ?_
    refine g_sub 109 ck rfl rfl ?_
    refine g_il 111 ck rfl rfl rfl ?_
    refine g_add 112 ck rfl rfl ?_
    refine g_ial (m := 2304) 113 ck rfl rfl ho1 hs3 hs4 ?_
    refine g_al 114 ck rfl rfl rfl ?_
    refine r_gfi 117 5 ck rfl rfl rfl rfl ?_
    refine g_il 119 ck rfl rfl rfl ?_
    refine g_sub 120 ck rfl rfl ?_
    refine g_al 121 ck rfl rfl rfl ?_
    refine g_il 123 ck rfl rfl rfl ?_
    refine g_ial (m := 2304) 124 ck rfl rfl ho2 hs5 hs6 ?_
    refine g_mul 125 ck rfl rfl ?_
    refine g_add 126 ck rfl rfl ?_
    refine g_al 127 ck rfl rfl rfl ?_
    refine r_gfi 130 5 ck rfl rfl rfl rfl ?_
    refine g_rem 131 ck rfl rfl hs7 hs8 hs10 hs9 ?_
    refine g_ias (m := 2304) 132 ck rfl rfl ho1 hs3 hs4 ?_
    replace h := h _ rfl
    refine r_ii 135 ck rfl rfl rfl rfl ?_
    refine g_goto 87 ck rfl rfl ?_
    exact h
def w258_46 (B : va_E) (σ : l2_m) (o1 : Nat) (o2 : Nat) (o3 : Nat) (x4 : Int) (x5 : Int) (x6 : Int)  (K : Int → l2_m → Prop) : Prop := lz2 (fun X46 x6 σ => ((rg x6 ∧ rg x4) ∧ (if x6 < x4 then K 0 σ else ((0 ≤ x6 ∧ x6 < 2304 ∧ rg ((σ o1 x6) * x5) ∧ rg (σ 186 5) ∧ 0 < (σ 186 5) ∧ 0 ≤ ((σ o1 x6) * x5)) ∧ ∀ x7 : Int, x7 = (((σ o1 x6) * x5) % (σ 186 5)) → rg x7 ∧ (if x7 = 0 then X46 (x6 + (-1)) σ else ((0 ≤ (x6 - x4) ∧ (x6 - x4) < 2304) ∧ ∀ σ' : l2_m, σ' = l2_u σ o3 (x6 - x4) x7 → w258_87 B σ' o1 o2 o3 x4 x5 x6 x7 0 X46 K)))))) x6 σ
theorem o258_46 {B : va_E} {σ : l2_m} {o1 : Nat} {o2 : Nat} {o3 : Nat} {x4 : Int} {x5 : Int} {x6 : Int} {u7 : Value} {u8 : Value}  {K : Int → l2_m → Prop} (ho1 : l2_al o1 = some 2304) (ho2 : l2_al o2 = some 2304) (ho3 : l2_al o3 = some 2304) (hu7 : (u7.category == 1) = true) (hu8 : (u8.category == 1) = true)  (h : w258_46 B σ o1 o2 o3 x4 x5 x6  K) : wW B 258 46 [vr 186, vr o1, vr o2, vr o3, vi x4, vi x5, vi x6, u7, u8] [] σ K := by
  have ck : pm_code 258 = pc_258 := rfl
  unfold w258_46 at h
  refine h (fun x6 σ => ∀ u7 : Value, (u7.category == 1) = true → ∀ u8 : Value, (u8.category == 1) = true → wW B 258 46 [vr 186, vr o1, vr o2, vr o3, vi x4, vi x5, vi x6, u7, u8] [] σ K) ?_ u7 hu7 u8 hu8
  clear h
  intro x6 σ h u7 hu7 u8 hu8
  obtain ⟨⟨hs1, hs2⟩, h⟩ := h
  refine g_il 48 ck rfl rfl rfl ?_
  refine g_il 50 ck rfl rfl rfl ?_
  refine g_iclt 53 144 ck rfl rfl rfl hs1 hs2 (fun hc => ?_) (fun hc => ?_)
  · replace h := ite_ht h hc
    exact g_retv ck rfl rfl h
  · replace h := ite_hf h hc
    obtain ⟨⟨hs3, hs4, hs5, hs6, hs7, hs8⟩, h⟩ := h
    refine g_al 54 ck rfl rfl rfl ?_
    refine g_il 56 ck rfl rfl rfl ?_
    refine g_ial (m := 2304) 57 ck rfl rfl ho1 hs3 hs4 ?_
    refine g_il 59 ck rfl rfl rfl ?_
    refine g_mul 60 ck rfl rfl ?_
    refine g_al 61 ck rfl rfl rfl ?_
    refine r_gfi 64 5 ck rfl rfl rfl rfl ?_
    refine g_rem 65 ck rfl rfl hs5 hs6 hs8 hs7 ?_
    refine r_is 67 ck rfl rfl rfl rfl ?_
    replace h := h _ rfl
    obtain ⟨hs9, h⟩ := h
    refine g_il 69 ck rfl rfl rfl ?_
    refine g_ifne 72 75 ck rfl rfl rfl hs9 (fun hc => ?_) (fun hc => ?_)
    · replace h := ite_hf h hc
      obtain ⟨⟨hs10, hs11⟩, h⟩ := h
      refine g_al 76 ck rfl rfl rfl ?_
      refine g_il 78 ck rfl rfl rfl ?_
      refine g_il 80 ck rfl rfl rfl ?_
      refine g_sub 81 ck rfl rfl ?_
      refine g_il 83 ck rfl rfl rfl ?_
      refine g_ias (m := 2304) 84 ck rfl rfl ho3 hs10 hs11 ?_
      replace h := h _ rfl
      refine g_ic 85 ck rfl rfl ?_
      refine r_is 87 ck rfl rfl rfl rfl ?_
      exact o258_87 ho1 ho2 ho3 (fun _ _ u7 u8 hu7 hu8 hx => hx u7 hu7 u8 hu8) h
    · replace h := ite_ht h (Classical.not_not.mp hc)
      refine g_goto 138 ck rfl rfl ?_
      refine r_ii 141 ck rfl rfl rfl rfl ?_
      refine g_goto 46 ck rfl rfl ?_
      exact h _ rfl _ hu8
def w258_20 (B : va_E) (σ : l2_m) (o1 : Nat) (o2 : Nat) (o3 : Nat) (x4 : Int) (x5 : Int) (x6 : Int)  (K : Int → l2_m → Prop) : Prop := lz2 (fun X20 x6 σ => (rg x6 ∧ (if x6 < 2304 then ((0 ≤ x6 ∧ x6 < 2304) ∧ ∀ σ' : l2_m, σ' = l2_u σ o3 x6 0 → X20 (x6 + 1) σ') else ((0 + 2304 ≤ ((2304 : Nat) : Int) ∧ (∀ j : Int, 0 ≤ j → j < 2304 → rg (σ o1 (0 + j)))) ∧ ∀ x6' : Int, x6' = (top (fun j => σ o1 (0 + j)) 2304) → w258_46 B σ o1 o2 o3 x4 x5 x6' K)))) x6 σ
theorem o258_20 {B : va_E} {σ : l2_m} {o1 : Nat} {o2 : Nat} {o3 : Nat} {x4 : Int} {x5 : Int} {x6 : Int} {u7 : Value} {u8 : Value}  {K : Int → l2_m → Prop} (ho1 : l2_al o1 = some 2304) (ho2 : l2_al o2 = some 2304) (ho3 : l2_al o3 = some 2304) (hu7 : (u7.category == 1) = true) (hu8 : (u8.category == 1) = true)  (h : w258_20 B σ o1 o2 o3 x4 x5 x6  K) : wW B 258 20 [vr 186, vr o1, vr o2, vr o3, vi x4, vi x5, vi x6, u7, u8] [] σ K := by
  have ck : pm_code 258 = pc_258 := rfl
  unfold w258_20 at h
  refine h (fun x6 σ => ∀ u7 : Value, (u7.category == 1) = true → ∀ u8 : Value, (u8.category == 1) = true → wW B 258 20 [vr 186, vr o1, vr o2, vr o3, vi x4, vi x5, vi x6, u7, u8] [] σ K) ?_ u7 hu7 u8 hu8
  clear h
  intro x6 σ h u7 hu7 u8 hu8
  obtain ⟨hs1, h⟩ := h
  refine g_il 22 ck rfl rfl rfl ?_
  refine g_ic 25 ck rfl rfl ?_
  refine g_icge 28 39 ck rfl rfl rfl hs1 (by decide) (fun hc => ?_) (fun hc => ?_)
  · replace h := ite_hf h (Int.not_lt.mpr hc)
    obtain ⟨⟨hs2, hs3⟩, h⟩ := h
    refine g_al 40 ck rfl rfl rfl ?_
    refine g_ic 41 ck rfl rfl ?_
    refine g_csi (as := [_, _]) (rest := []) 44 ck rfl rfl rfl rfl rfl (by decide) rfl rfl rfl (Nat.le_of_ble_eq_true rfl) (s253 ho1 (by decide) hs2 hs3 ?_)
    refine r_is 46 ck rfl rfl rfl rfl ?_
    replace h := h _ rfl
    exact o258_46 ho1 ho2 ho3 hu7 hu8 h
  · replace h := ite_ht h (Int.not_le.mp hc)
    obtain ⟨⟨hs4, hs5⟩, h⟩ := h
    refine g_al 29 ck rfl rfl rfl ?_
    refine g_il 31 ck rfl rfl rfl ?_
    refine g_ic 32 ck rfl rfl ?_
    refine g_ias (m := 2304) 33 ck rfl rfl ho3 hs4 hs5 ?_
    replace h := h _ rfl
    refine r_ii 36 ck rfl rfl rfl rfl ?_
    refine g_goto 20 ck rfl rfl ?_
    exact h _ hu7 _ hu8
def w258 (B : va_E) (σ : l2_m) (o1 : Nat) (o2 : Nat) (o3 : Nat) (K : Int → l2_m → Prop) : Prop := ((0 + 2304 ≤ ((2304 : Nat) : Int) ∧ (∀ j : Int, 0 ≤ j → j < 2304 → rg (σ o2 (0 + j)))) ∧ ∀ x4 : Int, x4 = (top (fun j => σ o2 (0 + j)) 2304) → (0 ≤ x4 ∧ x4 < 2304) ∧ (wC B 226 [vr 186, vi (σ o2 x4)] σ (fun y σ' => w258_20 B σ' o1 o2 o3 x4 y 0 K)))
theorem o258 {B : va_E} {σ : l2_m} {o1 : Nat} {o2 : Nat} {o3 : Nat} {K : Int → l2_m → Prop} (ho1 : l2_al o1 = some 2304) (ho2 : l2_al o2 = some 2304) (ho3 : l2_al o3 = some 2304)  (h : w258 B σ o1 o2 o3  K) : wC B 258 [vr 186, vr o1, vr o2, vr o3] σ K := by
  have ck : pm_code 258 = pc_258 := rfl
  unfold w258 at h
  show wW B 258 0 [vr 186, vr o1, vr o2, vr o3, pm_un, pm_un, pm_un, pm_un, pm_un] [] σ K
  obtain ⟨⟨hs1, hs2⟩, h⟩ := h
  refine g_al 1 ck rfl rfl rfl ?_
  refine g_ic 2 ck rfl rfl ?_
  refine g_csi (as := [_, _]) (rest := []) 5 ck rfl rfl rfl rfl rfl (by decide) rfl rfl rfl (Nat.le_of_ble_eq_true rfl) (s253 ho2 (by decide) hs1 hs2 ?_)
  refine r_is 7 ck rfl rfl rfl rfl ?_
  replace h := h _ rfl
  obtain ⟨⟨hs3, hs4⟩, h⟩ := h
  refine g_al 8 ck rfl rfl rfl ?_
  refine g_al 9 ck rfl rfl rfl ?_
  refine g_il 11 ck rfl rfl rfl ?_
  refine g_ial (m := 2304) 12 ck rfl rfl ho2 hs3 hs4 ?_
  refine g_cvi (as := [_]) (rest := []) 15 ck rfl rfl rfl rfl rfl rfl (by decide) rfl rfl rfl rfl (Nat.le_of_ble_eq_true rfl) (wC.mono h (fun y σ' h => ?_))
  refine r_is 17 ck rfl rfl rfl rfl ?_
  refine g_ic 18 ck rfl rfl ?_
  refine r_is 20 ck rfl rfl rfl rfl ?_
  exact o258_20 ho1 ho2 ho3 rfl rfl h
/-! 259 TermDeskModel.monics([I)V -/
def w259_23 (B : va_E) (σ : l2_m) (o1 : Nat) (x2 : Int) (x3 : Int) (x4 : Int)  (K : Int → l2_m → Prop) : Prop := lz2 (fun X23 x4 σ => ((rg x4 ∧ rg x2) ∧ (if x2 < x4 then K 0 σ else ((0 ≤ x4 ∧ x4 < 2304 ∧ rg ((σ o1 x4) * x3) ∧ rg (σ 186 5) ∧ 0 < (σ 186 5) ∧ 0 ≤ ((σ o1 x4) * x3)) ∧ ∀ σ' : l2_m, σ' = l2_u σ o1 x4 (((σ o1 x4) * x3) % (σ 186 5)) → X23 (x4 + 1) σ')))) x4 σ
theorem o259_23 {B : va_E} {σ : l2_m} {o1 : Nat} {x2 : Int} {x3 : Int} {x4 : Int}   {K : Int → l2_m → Prop} (ho1 : l2_al o1 = some 2304)   (h : w259_23 B σ o1 x2 x3 x4  K) : wW B 259 23 [vr 186, vr o1, vi x2, vi x3, vi x4] [] σ K := by
  have ck : pm_code 259 = pc_259 := rfl
  unfold w259_23 at h
  refine h (fun x4 σ => wW B 259 23 [vr 186, vr o1, vi x2, vi x3, vi x4] [] σ K) ?_
  clear h
  intro x4 σ h
  obtain ⟨⟨hs1, hs2⟩, h⟩ := h
  refine g_il 25 ck rfl rfl rfl ?_
  refine g_il 26 ck rfl rfl rfl ?_
  refine g_icgt 29 50 ck rfl rfl rfl hs1 hs2 (fun hc => ?_) (fun hc => ?_)
  · replace h := ite_ht h hc
    exact g_retv ck rfl rfl h
  · replace h := ite_hf h hc
    obtain ⟨⟨hs3, hs4, hs5, hs6, hs7, hs8⟩, h⟩ := h
    refine g_al 30 ck rfl rfl rfl ?_
    refine g_il 32 ck rfl rfl rfl ?_
    refine g_al 33 ck rfl rfl rfl ?_
    refine g_il 35 ck rfl rfl rfl ?_
    refine g_ial (m := 2304) 36 ck rfl rfl ho1 hs3 hs4 ?_
    refine g_il 37 ck rfl rfl rfl ?_
    refine g_mul 38 ck rfl rfl ?_
    refine g_al 39 ck rfl rfl rfl ?_
    refine r_gfi 42 5 ck rfl rfl rfl rfl ?_
    refine g_rem 43 ck rfl rfl hs5 hs6 hs8 hs7 ?_
    refine g_ias (m := 2304) 44 ck rfl rfl ho1 hs3 hs4 ?_
    replace h := h _ rfl
    refine r_ii 47 ck rfl rfl rfl rfl ?_
    refine g_goto 23 ck rfl rfl ?_
    exact h
def w259 (B : va_E) (σ : l2_m) (o1 : Nat) (K : Int → l2_m → Prop) : Prop := ((0 + 2304 ≤ ((2304 : Nat) : Int) ∧ (∀ j : Int, 0 ≤ j → j < 2304 → rg (σ o1 (0 + j)))) ∧ ∀ x2 : Int, x2 = (top (fun j => σ o1 (0 + j)) 2304) → rg x2 ∧ (if x2 = (-1) then K 0 σ else ((0 ≤ x2 ∧ x2 < 2304) ∧ (wC B 226 [vr 186, vi (σ o1 x2)] σ (fun y σ' => w259_23 B σ' o1 x2 y 0 K)))))
theorem o259 {B : va_E} {σ : l2_m} {o1 : Nat} {K : Int → l2_m → Prop} (ho1 : l2_al o1 = some 2304)  (h : w259 B σ o1  K) : wC B 259 [vr 186, vr o1] σ K := by
  have ck : pm_code 259 = pc_259 := rfl
  unfold w259 at h
  show wW B 259 0 [vr 186, vr o1, pm_un, pm_un, pm_un] [] σ K
  obtain ⟨⟨hs1, hs2⟩, h⟩ := h
  refine g_al 1 ck rfl rfl rfl ?_
  refine g_ic 2 ck rfl rfl ?_
  refine g_csi (as := [_, _]) (rest := []) 5 ck rfl rfl rfl rfl rfl (by decide) rfl rfl rfl (Nat.le_of_ble_eq_true rfl) (s253 ho1 (by decide) hs1 hs2 ?_)
  refine r_is 6 ck rfl rfl rfl rfl ?_
  replace h := h _ rfl
  obtain ⟨hs3, h⟩ := h
  refine g_il 7 ck rfl rfl rfl ?_
  refine g_ic 8 ck rfl rfl ?_
  refine g_icne 11 12 ck rfl rfl rfl hs3 (by decide) (fun hc => ?_) (fun hc => ?_)
  · replace h := ite_hf h hc
    obtain ⟨⟨hs4, hs5⟩, h⟩ := h
    refine g_al 13 ck rfl rfl rfl ?_
    refine g_al 14 ck rfl rfl rfl ?_
    refine g_il 15 ck rfl rfl rfl ?_
    refine g_ial (m := 2304) 16 ck rfl rfl ho1 hs4 hs5 ?_
    refine g_cvi (as := [_]) (rest := []) 19 ck rfl rfl rfl rfl rfl rfl (by decide) rfl rfl rfl rfl (Nat.le_of_ble_eq_true rfl) (wC.mono h (fun y σ' h => ?_))
    refine r_is 20 ck rfl rfl rfl rfl ?_
    refine g_ic 21 ck rfl rfl ?_
    refine r_is 23 ck rfl rfl rfl rfl ?_
    exact o259_23 ho1 h
  · replace h := ite_ht h (Classical.not_not.mp hc)
    exact g_retv ck rfl rfl h
/-! 260 TermDeskModel.meets([I[I)V -/
def w260_90 (B : va_E) (σ : l2_m) (o1 : Nat)  (K : Int → l2_m → Prop) : Prop := (wC B 259 [vr 186, vr o1] σ (fun _ σ' => K 0 σ'))
theorem o260_90 {B : va_E} {σ : l2_m} {o1 : Nat} {u2 : Value} {u3 : Value} {u4 : Value} {u5 : Value} {u6 : Value} {u7 : Value} {u8 : Value}  {K : Int → l2_m → Prop} (ho1 : l2_al o1 = some 2304) (hu2 : (u2.category == 1) = true) (hu3 : (u3.category == 1) = true) (hu4 : (u4.category == 1) = true) (hu5 : (u5.category == 1) = true) (hu6 : (u6.category == 1) = true) (hu7 : (u7.category == 1) = true) (hu8 : (u8.category == 1) = true)  (h : w260_90 B σ o1  K) : wW B 260 90 [vr 186, vr o1, u2, u3, u4, u5, u6, u7, u8] [] σ K := by
  have ck : pm_code 260 = pc_260 := rfl
  unfold w260_90 at h
  refine g_al 91 ck rfl rfl rfl ?_
  refine g_al 92 ck rfl rfl rfl ?_
  refine g_cvv (as := [_]) (rest := []) 95 ck rfl rfl rfl rfl rfl rfl rfl rfl rfl rfl (Nat.le_of_ble_eq_true rfl) (wC.mono h (fun _ σ' h => ?_))
  exact g_retv ck rfl rfl h
def w260_63 (B : va_E) (σ : l2_m) (o1 : Nat) (o3 : Nat) (x7 : Int)  (K : Int → l2_m → Prop) : Prop := lz2 (fun X63 x7 σ => ((¬ (o3 = o1) → rg x7) ∧ (if (o3 = o1) ∨ ¬ (x7 < 2304) then w260_90 B σ o1 K else ((0 ≤ x7 ∧ x7 < 2304) ∧ ∀ σ' : l2_m, σ' = l2_u σ o1 x7 (σ o3 x7) → X63 (x7 + 1) σ')))) x7 σ
theorem o260_63 {B : va_E} {σ : l2_m} {o1 : Nat} {o3 : Nat} {x7 : Int} {u2 : Value} {u4 : Value} {u5 : Value} {u6 : Value} {u8 : Value}  {K : Int → l2_m → Prop} (ho1 : l2_al o1 = some 2304) (ho3 : l2_al o3 = some 2304) (hu2 : (u2.category == 1) = true) (hu4 : (u4.category == 1) = true) (hu5 : (u5.category == 1) = true) (hu6 : (u6.category == 1) = true) (hu8 : (u8.category == 1) = true)  (h : w260_63 B σ o1 o3 x7  K) : wW B 260 63 [vr 186, vr o1, u2, vr o3, u4, u5, u6, vi x7, u8] [] σ K := by
  have ck : pm_code 260 = pc_260 := rfl
  unfold w260_63 at h
  refine h (fun x7 σ => ∀ u2 : Value, (u2.category == 1) = true → ∀ u4 : Value, (u4.category == 1) = true → ∀ u5 : Value, (u5.category == 1) = true → ∀ u6 : Value, (u6.category == 1) = true → ∀ u8 : Value, (u8.category == 1) = true → wW B 260 63 [vr 186, vr o1, u2, vr o3, u4, u5, u6, vi x7, u8] [] σ K) ?_ u2 hu2 u4 hu4 u5 hu5 u6 hu6 u8 hu8
  clear h
  intro x7 σ h u2 hu2 u4 hu4 u5 hu5 u6 hu6 u8 hu8
  replace h := mg_2s h
  refine g_al 64 ck rfl rfl rfl ?_
  refine g_al 65 ck rfl rfl rfl ?_
  refine g_ia2 68 90 ck rfl rfl rfl ho3 ho1 (fun hc => ?_) (fun hc => ?_)
  · replace h := ite_ht h hc
    exact o260_90 ho1 hu2 rfl hu4 hu5 hu6 rfl hu8 h
  · replace h := ite_hf h hc
    obtain ⟨hs1, h⟩ := h
    refine g_il 70 ck rfl rfl rfl ?_
    refine g_ic 73 ck rfl rfl ?_
    refine g_icge 76 90 ck rfl rfl rfl hs1 (by decide) (fun hc => ?_) (fun hc => ?_)
    · replace h := ite_hf h (Int.not_lt.mpr hc)
      exact o260_90 ho1 hu2 rfl hu4 hu5 hu6 rfl hu8 h
    · replace h := ite_ht h (Int.not_le.mp hc)
      obtain ⟨⟨hs2, hs3⟩, h⟩ := h
      refine g_al 77 ck rfl rfl rfl ?_
      refine g_il 79 ck rfl rfl rfl ?_
      refine g_al 80 ck rfl rfl rfl ?_
      refine g_il 82 ck rfl rfl rfl ?_
      refine g_ial (m := 2304) 83 ck rfl rfl ho3 hs2 hs3 ?_
      refine g_ias (m := 2304) 84 ck rfl rfl ho1 hs2 hs3 ?_
      replace h := h _ rfl
      refine r_ii 87 ck rfl rfl hu6 rfl ?_
      refine g_goto 63 ck rfl rfl ?_
      exact h _ hu2 _ hu4 _ hu5 _ hu6 _ hu8
def w260_20 (B : va_E) (σ : l2_m) (o1 : Nat) (o3 : Nat) (o4 : Nat) (x5 : Int) (x6 : Int)  (K : Int → l2_m → Prop) : Prop := lz5 (fun X20 o3 o4 x5 x6 σ => (rg x6 ∧ (if x6 = (-1) then w260_63 B σ o1 o3 0 K else (wC B 257 [vr 186, vr o3, vi x5, vr o4, vi x6] σ (fun y σ' => X20 o4 o3 x6 y σ'))))) o3 o4 x5 x6 σ
theorem o260_20 {B : va_E} {σ : l2_m} {o1 : Nat} {o3 : Nat} {o4 : Nat} {x5 : Int} {x6 : Int} {u2 : Value} {u7 : Value} {u8 : Value}  {K : Int → l2_m → Prop} (ho1 : l2_al o1 = some 2304) (ho3 : l2_al o3 = some 2304) (ho4 : l2_al o4 = some 2304) (hu2 : (u2.category == 1) = true) (hu7 : (u7.category == 1) = true) (hu8 : (u8.category == 1) = true)  (h : w260_20 B σ o1 o3 o4 x5 x6  K) : wW B 260 20 [vr 186, vr o1, u2, vr o3, vr o4, vi x5, vi x6, u7, u8] [] σ K := by
  have ck : pm_code 260 = pc_260 := rfl
  unfold w260_20 at h
  refine h (fun o3 o4 x5 x6 σ => l2_al o3 = some 2304 → l2_al o4 = some 2304 → ∀ u2 : Value, (u2.category == 1) = true → ∀ u7 : Value, (u7.category == 1) = true → ∀ u8 : Value, (u8.category == 1) = true → wW B 260 20 [vr 186, vr o1, u2, vr o3, vr o4, vi x5, vi x6, u7, u8] [] σ K) ?_ ho3 ho4 u2 hu2 u7 hu7 u8 hu8
  clear h
  clear ho3 ho4
  intro o3 o4 x5 x6 σ h ho3 ho4 u2 hu2 u7 hu7 u8 hu8
  obtain ⟨hs1, h⟩ := h
  refine g_il 22 ck rfl rfl rfl ?_
  refine g_ic 23 ck rfl rfl ?_
  refine g_iceq 26 60 ck rfl rfl rfl hs1 (by decide) (fun hc => ?_) (fun hc => ?_)
  · replace h := ite_ht h hc
    refine g_ic 61 ck rfl rfl ?_
    refine r_is 63 ck rfl rfl rfl rfl ?_
    exact o260_63 ho1 ho3 hu2 rfl rfl rfl hu8 h
  · replace h := ite_hf h hc
    refine g_al 27 ck rfl rfl rfl ?_
    refine g_al 28 ck rfl rfl rfl ?_
    refine g_il 30 ck rfl rfl rfl ?_
    refine g_al 32 ck rfl rfl rfl ?_
    refine g_il 34 ck rfl rfl rfl ?_
    refine g_cvi (as := [_, _, _, _]) (rest := []) 37 ck rfl rfl rfl rfl rfl rfl (by decide) rfl rfl rfl rfl (Nat.le_of_ble_eq_true rfl) (wC.mono h (fun y σ' h => ?_))
    refine r_is 39 ck rfl rfl rfl rfl ?_
    refine g_al 40 ck rfl rfl rfl ?_
    refine r_as 42 ck rfl rfl rfl rfl ?_
    refine g_al 44 ck rfl rfl rfl ?_
    refine r_as 45 ck rfl rfl hu2 rfl ?_
    refine g_al 47 ck rfl rfl rfl ?_
    refine r_as 49 ck rfl rfl rfl rfl ?_
    refine g_il 51 ck rfl rfl rfl ?_
    refine r_is 53 ck rfl rfl rfl rfl ?_
    refine g_il 55 ck rfl rfl rfl ?_
    refine r_is 57 ck rfl rfl rfl rfl ?_
    refine g_goto 20 ck rfl rfl ?_
    exact h ho4 ho3 _ hu2 _ rfl _ rfl
def w260 (B : va_E) (σ : l2_m) (o1 : Nat) (o2 : Nat) (K : Int → l2_m → Prop) : Prop := ((0 + 2304 ≤ ((2304 : Nat) : Int) ∧ (∀ j : Int, 0 ≤ j → j < 2304 → rg (σ o1 (0 + j)))) ∧ ∀ x5 : Int, x5 = (top (fun j => σ o1 (0 + j)) 2304) → (∀ j : Int, 0 ≤ j → j < 2304 → rg (σ o2 (0 + j))) ∧ ∀ x6 : Int, x6 = (top (fun j => σ o2 (0 + j)) 2304) → w260_20 B σ o1 o1 o2 x5 x6 K)
theorem o260 {B : va_E} {σ : l2_m} {o1 : Nat} {o2 : Nat} {K : Int → l2_m → Prop} (ho1 : l2_al o1 = some 2304) (ho2 : l2_al o2 = some 2304)  (h : w260 B σ o1 o2  K) : wC B 260 [vr 186, vr o1, vr o2] σ K := by
  have ck : pm_code 260 = pc_260 := rfl
  unfold w260 at h
  show wW B 260 0 [vr 186, vr o1, vr o2, pm_un, pm_un, pm_un, pm_un, pm_un, pm_un] [] σ K
  obtain ⟨⟨hs1, hs2⟩, h⟩ := h
  refine g_al 1 ck rfl rfl rfl ?_
  refine r_as 2 ck rfl rfl rfl rfl ?_
  refine g_al 3 ck rfl rfl rfl ?_
  refine r_as 5 ck rfl rfl rfl rfl ?_
  refine g_al 6 ck rfl rfl rfl ?_
  refine g_ic 7 ck rfl rfl ?_
  refine g_csi (as := [_, _]) (rest := []) 10 ck rfl rfl rfl rfl rfl (by decide) rfl rfl rfl (Nat.le_of_ble_eq_true rfl) (s253 ho1 (by decide) hs1 hs2 ?_)
  refine r_is 12 ck rfl rfl rfl rfl ?_
  replace h := h _ rfl
  obtain ⟨hs3, h⟩ := h
  refine g_al 14 ck rfl rfl rfl ?_
  refine g_ic 15 ck rfl rfl ?_
  refine g_csi (as := [_, _]) (rest := []) 18 ck rfl rfl rfl rfl rfl (by decide) rfl rfl rfl (Nat.le_of_ble_eq_true rfl) (s253 ho2 (by decide) hs1 hs3 ?_)
  refine r_is 20 ck rfl rfl rfl rfl ?_
  replace h := h _ rfl
  exact o260_20 ho1 ho1 ho2 rfl rfl rfl h
/-! 261 TermDeskModel.contentOf([I[I)V -/
def w261_21 (B : va_E) (σ : l2_m) (o1 : Nat) (o2 : Nat) (x3 : Int)  (K : Int → l2_m → Prop) : Prop := lz2 (fun X21 x3 σ => (rg x3 ∧ (((x3 < 16) → 0 + 2304 ≤ ((2304 : Nat) : Int) ∧ (∀ j : Int, 0 ≤ j → j < 2304 → rg (σ o2 (0 + j))) ∧ rg (top (fun j => σ o2 (0 + j)) 2304)) ∧ (if (x3 < 16) ∧ ¬ ((top (fun j => σ o2 (0 + j)) 2304) = 0) then ((0 ≤ (2304 * x3) ∧ (2304 * x3) + 2304 ≤ 36864) ∧ ∀ σ' : l2_m, σ' = cpR σ o1 (2304 * x3) 208 2304 → (wC B 260 [vr 186, vr o2, vr 208] σ' (fun _ σ'' => X21 (x3 + 1) σ''))) else K 0 σ)))) x3 σ
theorem o261_21 {B : va_E} {σ : l2_m} {o1 : Nat} {o2 : Nat} {x3 : Int}   {K : Int → l2_m → Prop} (ho1 : l2_al o1 = some 36864) (ho2 : l2_al o2 = some 2304)   (h : w261_21 B σ o1 o2 x3  K) : wW B 261 21 [vr 186, vr o1, vr o2, vi x3] [] σ K := by
  have ck : pm_code 261 = pc_261 := rfl
  unfold w261_21 at h
  refine h (fun x3 σ => wW B 261 21 [vr 186, vr o1, vr o2, vi x3] [] σ K) ?_
  clear h
  intro x3 σ h
  replace h := (And.imp_right mg_4s) h
  obtain ⟨hs1, h⟩ := h
  refine g_il 22 ck rfl rfl rfl ?_
  refine g_ic 24 ck rfl rfl ?_
  refine g_icge 27 64 ck rfl rfl rfl hs1 (by decide) (fun hc => ?_) (fun hc => ?_)
  · replace h := ite_hf h (Int.not_lt.mpr hc)
    exact g_retv ck rfl rfl h
  · replace h := ite_ht h (Int.not_le.mp hc)
    obtain ⟨⟨hs2, hs3, hs4⟩, h⟩ := h
    refine g_al 28 ck rfl rfl rfl ?_
    refine g_ic 29 ck rfl rfl ?_
    refine g_csi (as := [_, _]) (rest := []) 32 ck rfl rfl rfl rfl rfl (by decide) rfl rfl rfl (Nat.le_of_ble_eq_true rfl) (s253 ho2 (by decide) hs2 hs3 ?_)
    refine g_ifne 35 36 ck rfl rfl rfl hs4 (fun hc => ?_) (fun hc => ?_)
    · replace h := ite_hf h hc
      obtain ⟨⟨hs5, hs6⟩, h⟩ := h
      refine g_al 37 ck rfl rfl rfl ?_
      refine g_ic 40 ck rfl rfl ?_
      refine g_il 41 ck rfl rfl rfl ?_
      refine g_mul 42 ck rfl rfl ?_
      refine g_al 43 ck rfl rfl rfl ?_
      refine r_gfr 46 208 ck rfl rfl rfl (by decide) ?_
      refine g_csv (as := [_, _, _]) (rest := []) 49 ck rfl rfl rfl rfl rfl rfl rfl rfl (Nat.le_of_ble_eq_true rfl) (s256 ho1 rfl hs5 hs6 ?_)
      replace h := h _ rfl
      refine g_al 50 ck rfl rfl rfl ?_
      refine g_al 51 ck rfl rfl rfl ?_
      refine g_al 52 ck rfl rfl rfl ?_
      refine r_gfr 55 208 ck rfl rfl rfl (by decide) ?_
      refine g_cvv (as := [_, _]) (rest := []) 58 ck rfl rfl rfl rfl rfl rfl rfl rfl rfl rfl (Nat.le_of_ble_eq_true rfl) (wC.mono h (fun _ σ'' h => ?_))
      refine r_ii 61 ck rfl rfl rfl rfl ?_
      refine g_goto 21 ck rfl rfl ?_
      exact h
    · replace h := ite_ht h (Classical.not_not.mp hc)
      exact g_retv ck rfl rfl h
def w261_2 (B : va_E) (σ : l2_m) (o1 : Nat) (o2 : Nat) (x3 : Int)  (K : Int → l2_m → Prop) : Prop := lz2 (fun X2 x3 σ => (rg x3 ∧ (if x3 < 2304 then ((0 ≤ x3 ∧ x3 < 2304) ∧ ∀ σ' : l2_m, σ' = l2_u σ o2 x3 0 → X2 (x3 + 1) σ') else w261_21 B σ o1 o2 0 K))) x3 σ
theorem o261_2 {B : va_E} {σ : l2_m} {o1 : Nat} {o2 : Nat} {x3 : Int}   {K : Int → l2_m → Prop} (ho1 : l2_al o1 = some 36864) (ho2 : l2_al o2 = some 2304)   (h : w261_2 B σ o1 o2 x3  K) : wW B 261 2 [vr 186, vr o1, vr o2, vi x3] [] σ K := by
  have ck : pm_code 261 = pc_261 := rfl
  unfold w261_2 at h
  refine h (fun x3 σ => wW B 261 2 [vr 186, vr o1, vr o2, vi x3] [] σ K) ?_
  clear h
  intro x3 σ h
  obtain ⟨hs1, h⟩ := h
  refine g_il 3 ck rfl rfl rfl ?_
  refine g_ic 6 ck rfl rfl ?_
  refine g_icge 9 19 ck rfl rfl rfl hs1 (by decide) (fun hc => ?_) (fun hc => ?_)
  · replace h := ite_hf h (Int.not_lt.mpr hc)
    refine g_ic 20 ck rfl rfl ?_
    refine r_is 21 ck rfl rfl rfl rfl ?_
    exact o261_21 ho1 ho2 h
  · replace h := ite_ht h (Int.not_le.mp hc)
    obtain ⟨⟨hs2, hs3⟩, h⟩ := h
    refine g_al 10 ck rfl rfl rfl ?_
    refine g_il 11 ck rfl rfl rfl ?_
    refine g_ic 12 ck rfl rfl ?_
    refine g_ias (m := 2304) 13 ck rfl rfl ho2 hs2 hs3 ?_
    replace h := h _ rfl
    refine r_ii 16 ck rfl rfl rfl rfl ?_
    refine g_goto 2 ck rfl rfl ?_
    exact h
def w261 (B : va_E) (σ : l2_m) (o1 : Nat) (o2 : Nat) (K : Int → l2_m → Prop) : Prop := w261_2 B σ o1 o2 0 K
theorem o261 {B : va_E} {σ : l2_m} {o1 : Nat} {o2 : Nat} {K : Int → l2_m → Prop} (ho1 : l2_al o1 = some 36864) (ho2 : l2_al o2 = some 2304)  (h : w261 B σ o1 o2  K) : wC B 261 [vr 186, vr o1, vr o2] σ K := by
  have ck : pm_code 261 = pc_261 := rfl
  unfold w261 at h
  show wW B 261 0 [vr 186, vr o1, vr o2, pm_un] [] σ K
  refine g_ic 1 ck rfl rfl ?_
  refine r_is 2 ck rfl rfl rfl rfl ?_
  exact o261_2 ho1 ho2 h
/-! 262 TermDeskModel.primitives([I)V -/
def w262_61 (B : va_E) (σ : l2_m) (o1 : Nat) (x2 : Int) (x3 : Int) (X24 : Int → l2_m → Prop) (K : Int → l2_m → Prop) : Prop := lz2 (fun X61 x3 σ => (rg x3 ∧ (if x3 < 2304 then ((0 ≤ x3 ∧ x3 < 2304 ∧ 0 ≤ ((2304 * x2) + x3) ∧ ((2304 * x2) + x3) < 36864) ∧ ∀ σ' : l2_m, σ' = l2_u σ o1 ((2304 * x2) + x3) (σ 209 x3) → X61 (x3 + 1) σ') else X24 (x2 + 1) σ))) x3 σ
theorem o262_61 {B : va_E} {σ : l2_m} {o1 : Nat} {x2 : Int} {x3 : Int}  {X24 : Int → l2_m → Prop} {K : Int → l2_m → Prop} (ho1 : l2_al o1 = some 36864)  (hX24 : ∀ (x2 : Int) (σ : l2_m) (u3 : Value), (u3.category == 1) = true → X24 x2 σ → wW B 262 24 [vr 186, vr o1, vi x2, u3] [] σ K) (h : w262_61 B σ o1 x2 x3 X24 K) : wW B 262 61 [vr 186, vr o1, vi x2, vi x3] [] σ K := by
  have ck : pm_code 262 = pc_262 := rfl
  unfold w262_61 at h
  refine h (fun x3 σ => wW B 262 61 [vr 186, vr o1, vi x2, vi x3] [] σ K) ?_
  clear h
  intro x3 σ h
  obtain ⟨hs1, h⟩ := h
  refine g_il 62 ck rfl rfl rfl ?_
  refine g_ic 65 ck rfl rfl ?_
  refine g_icge 68 89 ck rfl rfl rfl hs1 (by decide) (fun hc => ?_) (fun hc => ?_)
  · replace h := ite_hf h (Int.not_lt.mpr hc)
    refine r_ii 92 ck rfl rfl rfl rfl ?_
    refine g_goto 24 ck rfl rfl ?_
    exact hX24 _ _ _ rfl h
  · replace h := ite_ht h (Int.not_le.mp hc)
    obtain ⟨⟨hs2, hs3, hs4, hs5⟩, h⟩ := h
    refine g_al 69 ck rfl rfl rfl ?_
    refine g_ic 72 ck rfl rfl ?_
    refine g_il 73 ck rfl rfl rfl ?_
    refine g_mul 74 ck rfl rfl ?_
    refine g_il 75 ck rfl rfl rfl ?_
    refine g_add 76 ck rfl rfl ?_
    refine g_al 77 ck rfl rfl rfl ?_
    refine r_gfr 80 209 ck rfl rfl rfl (by decide) ?_
    refine g_il 81 ck rfl rfl rfl ?_
    refine g_ial (m := 2304) 82 ck rfl rfl rfl hs2 hs3 ?_
    refine g_ias (m := 36864) 83 ck rfl rfl ho1 hs4 hs5 ?_
    replace h := h _ rfl
    refine r_ii 86 ck rfl rfl rfl rfl ?_
    refine g_goto 61 ck rfl rfl ?_
    exact h
def w262_24 (B : va_E) (σ : l2_m) (o1 : Nat) (x2 : Int)  (K : Int → l2_m → Prop) : Prop := lz2 (fun X24 x2 σ => (rg x2 ∧ (if x2 < 16 then ((0 ≤ (2304 * x2) ∧ (2304 * x2) + 2304 ≤ 36864) ∧ ∀ σ' : l2_m, σ' = cpR σ o1 (2304 * x2) 207 2304 → (wC B 258 [vr 186, vr 207, vr 206, vr 209] σ' (fun _ σ'' => w262_61 B σ'' o1 x2 0 X24 K))) else K 0 σ))) x2 σ
theorem o262_24 {B : va_E} {σ : l2_m} {o1 : Nat} {x2 : Int} {u3 : Value}  {K : Int → l2_m → Prop} (ho1 : l2_al o1 = some 36864) (hu3 : (u3.category == 1) = true)  (h : w262_24 B σ o1 x2  K) : wW B 262 24 [vr 186, vr o1, vi x2, u3] [] σ K := by
  have ck : pm_code 262 = pc_262 := rfl
  unfold w262_24 at h
  refine h (fun x2 σ => ∀ u3 : Value, (u3.category == 1) = true → wW B 262 24 [vr 186, vr o1, vi x2, u3] [] σ K) ?_ u3 hu3
  clear h
  intro x2 σ h u3 hu3
  obtain ⟨hs1, h⟩ := h
  refine g_il 25 ck rfl rfl rfl ?_
  refine g_ic 27 ck rfl rfl ?_
  refine g_icge 30 95 ck rfl rfl rfl hs1 (by decide) (fun hc => ?_) (fun hc => ?_)
  · replace h := ite_hf h (Int.not_lt.mpr hc)
    exact g_retv ck rfl rfl h
  · replace h := ite_ht h (Int.not_le.mp hc)
    obtain ⟨⟨hs2, hs3⟩, h⟩ := h
    refine g_al 31 ck rfl rfl rfl ?_
    refine g_ic 34 ck rfl rfl ?_
    refine g_il 35 ck rfl rfl rfl ?_
    refine g_mul 36 ck rfl rfl ?_
    refine g_al 37 ck rfl rfl rfl ?_
    refine r_gfr 40 207 ck rfl rfl rfl (by decide) ?_
    refine g_csv (as := [_, _, _]) (rest := []) 43 ck rfl rfl rfl rfl rfl rfl rfl rfl (Nat.le_of_ble_eq_true rfl) (s256 ho1 rfl hs2 hs3 ?_)
    replace h := h _ rfl
    refine g_al 44 ck rfl rfl rfl ?_
    refine g_al 45 ck rfl rfl rfl ?_
    refine r_gfr 48 207 ck rfl rfl rfl (by decide) ?_
    refine g_al 49 ck rfl rfl rfl ?_
    refine r_gfr 52 206 ck rfl rfl rfl (by decide) ?_
    refine g_al 53 ck rfl rfl rfl ?_
    refine r_gfr 56 209 ck rfl rfl rfl (by decide) ?_
    refine g_cvv (as := [_, _, _]) (rest := []) 59 ck rfl rfl rfl rfl rfl rfl rfl rfl rfl rfl (Nat.le_of_ble_eq_true rfl) (wC.mono h (fun _ σ'' h => ?_))
    refine g_ic 60 ck rfl rfl ?_
    refine r_is 61 ck rfl rfl rfl rfl ?_
    exact o262_61 ho1 (fun _ _ u3 hu3 hx => hx u3 hu3) h
def w262 (B : va_E) (σ : l2_m) (o1 : Nat) (K : Int → l2_m → Prop) : Prop := (wC B 261 [vr 186, vr o1, vr 206] σ (fun _ σ' => ((0 + 2304 ≤ ((2304 : Nat) : Int) ∧ (∀ j : Int, 0 ≤ j → j < 2304 → rg (σ' 206 (0 + j))) ∧ rg (top (fun j => σ' 206 (0 + j)) 2304)) ∧ (if (top (fun j => σ' 206 (0 + j)) 2304) < 1 then K 0 σ' else w262_24 B σ' o1 0 K))))
theorem o262 {B : va_E} {σ : l2_m} {o1 : Nat} {K : Int → l2_m → Prop} (ho1 : l2_al o1 = some 36864)  (h : w262 B σ o1  K) : wC B 262 [vr 186, vr o1] σ K := by
  have ck : pm_code 262 = pc_262 := rfl
  unfold w262 at h
  show wW B 262 0 [vr 186, vr o1, pm_un, pm_un] [] σ K
  refine g_al 1 ck rfl rfl rfl ?_
  refine g_al 2 ck rfl rfl rfl ?_
  refine g_al 3 ck rfl rfl rfl ?_
  refine r_gfr 6 206 ck rfl rfl rfl (by decide) ?_
  refine g_cvv (as := [_, _]) (rest := []) 9 ck rfl rfl rfl rfl rfl rfl rfl rfl rfl rfl (Nat.le_of_ble_eq_true rfl) (wC.mono h (fun _ σ' h => ?_))
  obtain ⟨⟨hs1, hs2, hs3⟩, h⟩ := h
  refine g_al 10 ck rfl rfl rfl ?_
  refine r_gfr 13 206 ck rfl rfl rfl (by decide) ?_
  refine g_ic 14 ck rfl rfl ?_
  refine g_csi (as := [_, _]) (rest := []) 17 ck rfl rfl rfl rfl rfl (by decide) rfl rfl rfl (Nat.le_of_ble_eq_true rfl) (s253 rfl (by decide) hs1 hs2 ?_)
  refine g_ic 18 ck rfl rfl ?_
  refine g_icge 21 22 ck rfl rfl rfl hs3 (by decide) (fun hc => ?_) (fun hc => ?_)
  · replace h := ite_hf h (Int.not_lt.mpr hc)
    refine g_ic 23 ck rfl rfl ?_
    refine r_is 24 ck rfl rfl rfl rfl ?_
    exact o262_24 ho1 rfl h
  · replace h := ite_ht h (Int.not_le.mp hc)
    exact g_retv ck rfl rfl h
/-! 263 TermDeskModel.takesOff([I[I)V -/
def w263_301 (B : va_E) (σ : l2_m) (o1 : Nat) (o2 : Nat) (x3 : Int) (x4 : Int) (x5 : Int) (x6 : Int) (x7 : Int) (x8 : Int) (x11 : Int) (X61 : Int → l2_m → Prop) (K : Int → l2_m → Prop) : Prop := lz2 (fun X301 x11 σ => (rg x11 ∧ (if x11 < 2304 then ((0 ≤ x11 ∧ x11 < 2304 ∧ 0 ≤ (x8 + x11) ∧ (x8 + x11) < 36864) ∧ ∀ σ' : l2_m, σ' = l2_u σ o1 (x8 + x11) (σ 209 x11) → X301 (x11 + 1) σ') else X61 (x7 + 1) σ))) x11 σ
theorem o263_301 {B : va_E} {σ : l2_m} {o1 : Nat} {o2 : Nat} {x3 : Int} {x4 : Int} {x5 : Int} {x6 : Int} {x7 : Int} {x8 : Int} {x11 : Int} {u9 : Value} {u10 : Value} {u12 : Value} {X61 : Int → l2_m → Prop} {K : Int → l2_m → Prop} (ho1 : l2_al o1 = some 36864) (ho2 : l2_al o2 = some 36864) (hu9 : (u9.category == 1) = true) (hu10 : (u10.category == 1) = true) (hu12 : (u12.category == 1) = true) (hX61 : ∀ (x7 : Int) (σ : l2_m) (u8 : Value) (u9 : Value) (u10 : Value) (u11 : Value) (u12 : Value), (u8.category == 1) = true → (u9.category == 1) = true → (u10.category == 1) = true → (u11.category == 1) = true → (u12.category == 1) = true → X61 x7 σ → wW B 263 61 [vr 186, vr o1, vr o2, vi x3, vi x4, vi x5, vi x6, vi x7, u8, u9, u10, u11, u12] [] σ K) (h : w263_301 B σ o1 o2 x3 x4 x5 x6 x7 x8 x11 X61 K) : wW B 263 301 [vr 186, vr o1, vr o2, vi x3, vi x4, vi x5, vi x6, vi x7, vi x8, u9, u10, vi x11, u12] [] σ K := by
  have ck : pm_code 263 = pc_263 := rfl
  unfold w263_301 at h
  refine h (fun x11 σ => ∀ u9 : Value, (u9.category == 1) = true → ∀ u10 : Value, (u10.category == 1) = true → ∀ u12 : Value, (u12.category == 1) = true → wW B 263 301 [vr 186, vr o1, vr o2, vi x3, vi x4, vi x5, vi x6, vi x7, vi x8, u9, u10, vi x11, u12] [] σ K) ?_ u9 hu9 u10 hu10 u12 hu12
  clear h
  intro x11 σ h u9 hu9 u10 hu10 u12 hu12
  obtain ⟨hs1, h⟩ := h
  refine g_il 303 ck rfl rfl rfl ?_
  refine g_ic 306 ck rfl rfl ?_
  refine g_icge 309 329 ck rfl rfl rfl hs1 (by decide) (fun hc => ?_) (fun hc => ?_)
  · replace h := ite_hf h (Int.not_lt.mpr hc)
    refine r_ii 332 ck rfl rfl rfl rfl ?_
    refine g_goto 61 ck rfl rfl ?_
    exact hX61 _ _ _ _ _ _ _ rfl hu9 hu10 rfl hu12 h
  · replace h := ite_ht h (Int.not_le.mp hc)
    obtain ⟨⟨hs2, hs3, hs4, hs5⟩, h⟩ := h
    refine g_al 310 ck rfl rfl rfl ?_
    refine g_il 312 ck rfl rfl rfl ?_
    refine g_il 314 ck rfl rfl rfl ?_
    refine g_add 315 ck rfl rfl ?_
    refine g_al 316 ck rfl rfl rfl ?_
    refine r_gfr 319 209 ck rfl rfl rfl (by decide) ?_
    refine g_il 321 ck rfl rfl rfl ?_
    refine g_ial (m := 2304) 322 ck rfl rfl rfl hs2 hs3 ?_
    refine g_ias (m := 36864) 323 ck rfl rfl ho1 hs4 hs5 ?_
    replace h := h _ rfl
    refine r_ii 326 ck rfl rfl hu10 rfl ?_
    refine g_goto 301 ck rfl rfl ?_
    exact h _ hu9 _ hu10 _ hu12
def w263_224 (B : va_E) (σ : l2_m) (o1 : Nat) (o2 : Nat) (x3 : Int) (x4 : Int) (x5 : Int) (x6 : Int) (x7 : Int) (x8 : Int) (x10 : Int) (x11 : Int) (x12 : Int) (X61 : Int → l2_m → Prop) (X214 : Int → l2_m → Prop) (K : Int → l2_m → Prop) : Prop := lz2 (fun X224 x12 σ => ((rg x12 ∧ rg x10) ∧ (if x10 < x12 then X214 (x11 + 1) σ else ((0 ≤ (x11 + x12) ∧ (x11 + x12) < 2304 ∧ 0 ≤ x11 ∧ x11 < 2304 ∧ 0 ≤ ((2304 * ((x7 - x3) + x4)) + x12) ∧ ((2304 * ((x7 - x3) + x4)) + x12) < 36864 ∧ rg ((σ 209 (x11 + x12)) + (((σ 186 5) - (σ 208 x11)) * (σ o2 ((2304 * ((x7 - x3) + x4)) + x12)))) ∧ rg (σ 186 5) ∧ 0 < (σ 186 5) ∧ 0 ≤ ((σ 209 (x11 + x12)) + (((σ 186 5) - (σ 208 x11)) * (σ o2 ((2304 * ((x7 - x3) + x4)) + x12))))) ∧ ∀ σ' : l2_m, σ' = l2_u σ 209 (x11 + x12) (((σ 209 (x11 + x12)) + (((σ 186 5) - (σ 208 x11)) * (σ o2 ((2304 * ((x7 - x3) + x4)) + x12)))) % (σ 186 5)) → X224 (x12 + 1) σ')))) x12 σ
theorem o263_224 {B : va_E} {σ : l2_m} {o1 : Nat} {o2 : Nat} {x3 : Int} {x4 : Int} {x5 : Int} {x6 : Int} {x7 : Int} {x8 : Int} {x10 : Int} {x11 : Int} {x12 : Int} {u9 : Value} {X61 : Int → l2_m → Prop} {X214 : Int → l2_m → Prop} {K : Int → l2_m → Prop} (ho1 : l2_al o1 = some 36864) (ho2 : l2_al o2 = some 36864) (hu9 : (u9.category == 1) = true) (hX61 : ∀ (x7 : Int) (σ : l2_m) (u8 : Value) (u9 : Value) (u10 : Value) (u11 : Value) (u12 : Value), (u8.category == 1) = true → (u9.category == 1) = true → (u10.category == 1) = true → (u11.category == 1) = true → (u12.category == 1) = true → X61 x7 σ → wW B 263 61 [vr 186, vr o1, vr o2, vi x3, vi x4, vi x5, vi x6, vi x7, u8, u9, u10, u11, u12] [] σ K) (hX214 : ∀ (x11 : Int) (σ : l2_m) (u9 : Value) (u12 : Value), (u9.category == 1) = true → (u12.category == 1) = true → X214 x11 σ → wW B 263 214 [vr 186, vr o1, vr o2, vi x3, vi x4, vi x5, vi x6, vi x7, vi x8, u9, vi x10, vi x11, u12] [] σ K) (h : w263_224 B σ o1 o2 x3 x4 x5 x6 x7 x8 x10 x11 x12 X61 X214 K) : wW B 263 224 [vr 186, vr o1, vr o2, vi x3, vi x4, vi x5, vi x6, vi x7, vi x8, u9, vi x10, vi x11, vi x12] [] σ K := by
  have ck : pm_code 263 = pc_263 := rfl
  unfold w263_224 at h
  refine h (fun x12 σ => ∀ u9 : Value, (u9.category == 1) = true → wW B 263 224 [vr 186, vr o1, vr o2, vi x3, vi x4, vi x5, vi x6, vi x7, vi x8, u9, vi x10, vi x11, vi x12] [] σ K) ?_ u9 hu9
  clear h
  intro x12 σ h u9 hu9
  obtain ⟨⟨hs1, hs2⟩, h⟩ := h
  refine g_il 226 ck rfl rfl rfl ?_
  refine g_il 228 ck rfl rfl rfl ?_
  refine g_icgt 231 292 ck rfl rfl rfl hs1 hs2 (fun hc => ?_) (fun hc => ?_)
  · replace h := ite_ht h hc
    refine r_ii 295 ck rfl rfl rfl rfl ?_
    refine g_goto 214 ck rfl rfl ?_
    exact hX214 _ _ _ _ hu9 rfl h
  · replace h := ite_hf h hc
    obtain ⟨⟨hs3, hs4, hs5, hs6, hs7, hs8, hs9, hs10, hs11, hs12⟩, h⟩ := h
    refine g_al 232 ck rfl rfl rfl ?_
    refine r_gfr 235 209 ck rfl rfl rfl (by decide) ?_
    refine g_il 237 ck rfl rfl rfl ?_
    refine g_il 239 ck rfl rfl rfl ?_
    refine g_add 240 ck rfl rfl ?_
    refine g_al 241 ck rfl rfl rfl ?_
    refine r_gfr 244 209 ck rfl rfl rfl (by decide) ?_
    refine g_il 246 ck rfl rfl rfl ?_
    refine g_il 248 ck rfl rfl rfl ?_
    refine g_add 249 ck rfl rfl ?_
    refine g_ial (m := 2304) 250 ck rfl rfl rfl hs3 hs4 ?_
    refine g_al 251 ck rfl rfl rfl ?_
    refine r_gfi 254 5 ck rfl rfl rfl rfl ?_
    refine g_al 255 ck rfl rfl rfl ?_
    refine r_gfr 258 208 ck rfl rfl rfl (by decide) ?_
    refine g_il 260 ck rfl rfl rfl ?_
    refine g_ial (m := 2304) 261 ck rfl rfl rfl hs5 hs6 ?_
    refine g_sub 262 ck rfl rfl ?_
    refine g_al 263 ck rfl rfl rfl ?_
    refine g_ic 266 ck rfl rfl ?_
    refine g_il 268 ck rfl rfl rfl ?_
    refine g_il 269 ck rfl rfl rfl ?_
    refine g_sub 270 ck rfl rfl ?_
    refine g_il 272 ck rfl rfl rfl ?_
    refine g_add 273 ck rfl rfl ?_
    refine g_mul 274 ck rfl rfl ?_
    refine g_il 276 ck rfl rfl rfl ?_
    refine g_add 277 ck rfl rfl ?_
    refine g_ial (m := 36864) 278 ck rfl rfl ho2 hs7 hs8 ?_
    refine g_mul 279 ck rfl rfl ?_
    refine g_add 280 ck rfl rfl ?_
    refine g_al 281 ck rfl rfl rfl ?_
    refine r_gfi 284 5 ck rfl rfl rfl rfl ?_
    refine g_rem 285 ck rfl rfl hs9 hs10 hs12 hs11 ?_
    refine g_ias (m := 2304) 286 ck rfl rfl rfl hs3 hs4 ?_
    replace h := h _ rfl
    refine r_ii 289 ck rfl rfl rfl rfl ?_
    refine g_goto 224 ck rfl rfl ?_
    exact h _ hu9
def w263_214 (B : va_E) (σ : l2_m) (o1 : Nat) (o2 : Nat) (x3 : Int) (x4 : Int) (x5 : Int) (x6 : Int) (x7 : Int) (x8 : Int) (x10 : Int) (x11 : Int) (X61 : Int → l2_m → Prop) (K : Int → l2_m → Prop) : Prop := lz2 (fun X214 x11 σ => ((rg x11 ∧ rg x6) ∧ (if x6 < x11 then w263_301 B σ o1 o2 x3 x4 x5 x6 x7 x8 0 X61 K else w263_224 B σ o1 o2 x3 x4 x5 x6 x7 x8 x10 x11 0 X61 X214 K))) x11 σ
theorem o263_214 {B : va_E} {σ : l2_m} {o1 : Nat} {o2 : Nat} {x3 : Int} {x4 : Int} {x5 : Int} {x6 : Int} {x7 : Int} {x8 : Int} {x10 : Int} {x11 : Int} {u9 : Value} {u12 : Value} {X61 : Int → l2_m → Prop} {K : Int → l2_m → Prop} (ho1 : l2_al o1 = some 36864) (ho2 : l2_al o2 = some 36864) (hu9 : (u9.category == 1) = true) (hu12 : (u12.category == 1) = true) (hX61 : ∀ (x7 : Int) (σ : l2_m) (u8 : Value) (u9 : Value) (u10 : Value) (u11 : Value) (u12 : Value), (u8.category == 1) = true → (u9.category == 1) = true → (u10.category == 1) = true → (u11.category == 1) = true → (u12.category == 1) = true → X61 x7 σ → wW B 263 61 [vr 186, vr o1, vr o2, vi x3, vi x4, vi x5, vi x6, vi x7, u8, u9, u10, u11, u12] [] σ K) (h : w263_214 B σ o1 o2 x3 x4 x5 x6 x7 x8 x10 x11 X61 K) : wW B 263 214 [vr 186, vr o1, vr o2, vi x3, vi x4, vi x5, vi x6, vi x7, vi x8, u9, vi x10, vi x11, u12] [] σ K := by
  have ck : pm_code 263 = pc_263 := rfl
  unfold w263_214 at h
  refine h (fun x11 σ => ∀ u9 : Value, (u9.category == 1) = true → ∀ u12 : Value, (u12.category == 1) = true → wW B 263 214 [vr 186, vr o1, vr o2, vi x3, vi x4, vi x5, vi x6, vi x7, vi x8, u9, vi x10, vi x11, u12] [] σ K) ?_ u9 hu9 u12 hu12
  clear h
  intro x11 σ h u9 hu9 u12 hu12
  obtain ⟨⟨hs1, hs2⟩, h⟩ := h
  refine g_il 216 ck rfl rfl rfl ?_
  refine g_il 218 ck rfl rfl rfl ?_
  refine g_icgt 221 298 ck rfl rfl rfl hs1 hs2 (fun hc => ?_) (fun hc => ?_)
  · replace h := ite_ht h hc
    refine g_ic 299 ck rfl rfl ?_
    refine r_is 301 ck rfl rfl rfl rfl ?_
    exact o263_301 ho1 ho2 hu9 rfl hu12 hX61 h
  · replace h := ite_hf h hc
    refine g_ic 222 ck rfl rfl ?_
    refine r_is 224 ck rfl rfl rfl rfl ?_
    exact o263_224 ho1 ho2 hu9 hX61 (fun _ _ u9 u12 hu9 hu12 hx => hx u9 hu9 u12 hu12) h
def w263_121 (B : va_E) (σ : l2_m) (o1 : Nat) (o2 : Nat) (x3 : Int) (x4 : Int) (x5 : Int) (x6 : Int) (x7 : Int) (x8 : Int) (x9 : Int) (x10 : Int) (x11 : Int) (X61 : Int → l2_m → Prop) (X111 : Int → l2_m → Prop) (K : Int → l2_m → Prop) : Prop := lz2 (fun X121 x11 σ => ((rg x11 ∧ rg x9) ∧ (if x9 < x11 then X111 (x10 + 1) σ else ((0 ≤ (x10 + x11) ∧ (x10 + x11) < 2304 ∧ 0 ≤ x10 ∧ x10 < 2304 ∧ 0 ≤ (x8 + x11) ∧ (x8 + x11) < 36864 ∧ rg ((σ 209 (x10 + x11)) + ((σ 207 x10) * (σ o1 (x8 + x11)))) ∧ rg (σ 186 5) ∧ 0 < (σ 186 5) ∧ 0 ≤ ((σ 209 (x10 + x11)) + ((σ 207 x10) * (σ o1 (x8 + x11))))) ∧ ∀ σ' : l2_m, σ' = l2_u σ 209 (x10 + x11) (((σ 209 (x10 + x11)) + ((σ 207 x10) * (σ o1 (x8 + x11)))) % (σ 186 5)) → X121 (x11 + 1) σ')))) x11 σ
theorem o263_121 {B : va_E} {σ : l2_m} {o1 : Nat} {o2 : Nat} {x3 : Int} {x4 : Int} {x5 : Int} {x6 : Int} {x7 : Int} {x8 : Int} {x9 : Int} {x10 : Int} {x11 : Int} {u12 : Value} {X61 : Int → l2_m → Prop} {X111 : Int → l2_m → Prop} {K : Int → l2_m → Prop} (ho1 : l2_al o1 = some 36864) (ho2 : l2_al o2 = some 36864) (hu12 : (u12.category == 1) = true) (hX61 : ∀ (x7 : Int) (σ : l2_m) (u8 : Value) (u9 : Value) (u10 : Value) (u11 : Value) (u12 : Value), (u8.category == 1) = true → (u9.category == 1) = true → (u10.category == 1) = true → (u11.category == 1) = true → (u12.category == 1) = true → X61 x7 σ → wW B 263 61 [vr 186, vr o1, vr o2, vi x3, vi x4, vi x5, vi x6, vi x7, u8, u9, u10, u11, u12] [] σ K) (hX111 : ∀ (x10 : Int) (σ : l2_m) (u11 : Value) (u12 : Value), (u11.category == 1) = true → (u12.category == 1) = true → X111 x10 σ → wW B 263 111 [vr 186, vr o1, vr o2, vi x3, vi x4, vi x5, vi x6, vi x7, vi x8, vi x9, vi x10, u11, u12] [] σ K) (h : w263_121 B σ o1 o2 x3 x4 x5 x6 x7 x8 x9 x10 x11 X61 X111 K) : wW B 263 121 [vr 186, vr o1, vr o2, vi x3, vi x4, vi x5, vi x6, vi x7, vi x8, vi x9, vi x10, vi x11, u12] [] σ K := by
  have ck : pm_code 263 = pc_263 := rfl
  unfold w263_121 at h
  refine h (fun x11 σ => ∀ u12 : Value, (u12.category == 1) = true → wW B 263 121 [vr 186, vr o1, vr o2, vi x3, vi x4, vi x5, vi x6, vi x7, vi x8, vi x9, vi x10, vi x11, u12] [] σ K) ?_ u12 hu12
  clear h
  intro x11 σ h u12 hu12
  obtain ⟨⟨hs1, hs2⟩, h⟩ := h
  refine g_il 123 ck rfl rfl rfl ?_
  refine g_il 125 ck rfl rfl rfl ?_
  refine g_icgt 128 175 ck rfl rfl rfl hs1 hs2 (fun hc => ?_) (fun hc => ?_)
  · replace h := ite_ht h hc
    refine r_ii 178 ck rfl rfl rfl rfl ?_
    refine g_goto 111 ck rfl rfl ?_
    exact hX111 _ _ _ _ rfl hu12 h
  · replace h := ite_hf h hc
    obtain ⟨⟨hs3, hs4, hs5, hs6, hs7, hs8, hs9, hs10, hs11, hs12⟩, h⟩ := h
    refine g_al 129 ck rfl rfl rfl ?_
    refine r_gfr 132 209 ck rfl rfl rfl (by decide) ?_
    refine g_il 134 ck rfl rfl rfl ?_
    refine g_il 136 ck rfl rfl rfl ?_
    refine g_add 137 ck rfl rfl ?_
    refine g_al 138 ck rfl rfl rfl ?_
    refine r_gfr 141 209 ck rfl rfl rfl (by decide) ?_
    refine g_il 143 ck rfl rfl rfl ?_
    refine g_il 145 ck rfl rfl rfl ?_
    refine g_add 146 ck rfl rfl ?_
    refine g_ial (m := 2304) 147 ck rfl rfl rfl hs3 hs4 ?_
    refine g_al 148 ck rfl rfl rfl ?_
    refine r_gfr 151 207 ck rfl rfl rfl (by decide) ?_
    refine g_il 153 ck rfl rfl rfl ?_
    refine g_ial (m := 2304) 154 ck rfl rfl rfl hs5 hs6 ?_
    refine g_al 155 ck rfl rfl rfl ?_
    refine g_il 157 ck rfl rfl rfl ?_
    refine g_il 159 ck rfl rfl rfl ?_
    refine g_add 160 ck rfl rfl ?_
    refine g_ial (m := 36864) 161 ck rfl rfl ho1 hs7 hs8 ?_
    refine g_mul 162 ck rfl rfl ?_
    refine g_add 163 ck rfl rfl ?_
    refine g_al 164 ck rfl rfl rfl ?_
    refine r_gfi 167 5 ck rfl rfl rfl rfl ?_
    refine g_rem 168 ck rfl rfl hs9 hs10 hs12 hs11 ?_
    refine g_ias (m := 2304) 169 ck rfl rfl rfl hs3 hs4 ?_
    replace h := h _ rfl
    refine r_ii 172 ck rfl rfl rfl rfl ?_
    refine g_goto 121 ck rfl rfl ?_
    exact h _ hu12
def w263_111 (B : va_E) (σ : l2_m) (o1 : Nat) (o2 : Nat) (x3 : Int) (x4 : Int) (x5 : Int) (x6 : Int) (x7 : Int) (x8 : Int) (x9 : Int) (x10 : Int) (X61 : Int → l2_m → Prop) (K : Int → l2_m → Prop) : Prop := lz2 (fun X111 x10 σ => ((rg x10 ∧ rg x5) ∧ (if x5 < x10 then ((rg x7 ∧ rg (x3 - x4)) ∧ (if x7 < (x3 - x4) then w263_214 B σ o1 o2 x3 x4 x5 x6 x7 x8 (-1) 0 X61 K else ((0 ≤ (2304 * ((x7 - x3) + x4)) ∧ (2304 * ((x7 - x3) + x4)) + 2304 ≤ ((36864 : Nat) : Int) ∧ (∀ j : Int, 0 ≤ j → j < 2304 → rg (σ o2 ((2304 * ((x7 - x3) + x4)) + j)))) ∧ ∀ x10' : Int, x10' = (top (fun j => σ o2 ((2304 * ((x7 - x3) + x4)) + j)) 2304) → w263_214 B σ o1 o2 x3 x4 x5 x6 x7 x8 x10' 0 X61 K))) else w263_121 B σ o1 o2 x3 x4 x5 x6 x7 x8 x9 x10 0 X61 X111 K))) x10 σ
theorem o263_111 {B : va_E} {σ : l2_m} {o1 : Nat} {o2 : Nat} {x3 : Int} {x4 : Int} {x5 : Int} {x6 : Int} {x7 : Int} {x8 : Int} {x9 : Int} {x10 : Int} {u11 : Value} {u12 : Value} {X61 : Int → l2_m → Prop} {K : Int → l2_m → Prop} (ho1 : l2_al o1 = some 36864) (ho2 : l2_al o2 = some 36864) (hu11 : (u11.category == 1) = true) (hu12 : (u12.category == 1) = true) (hX61 : ∀ (x7 : Int) (σ : l2_m) (u8 : Value) (u9 : Value) (u10 : Value) (u11 : Value) (u12 : Value), (u8.category == 1) = true → (u9.category == 1) = true → (u10.category == 1) = true → (u11.category == 1) = true → (u12.category == 1) = true → X61 x7 σ → wW B 263 61 [vr 186, vr o1, vr o2, vi x3, vi x4, vi x5, vi x6, vi x7, u8, u9, u10, u11, u12] [] σ K) (h : w263_111 B σ o1 o2 x3 x4 x5 x6 x7 x8 x9 x10 X61 K) : wW B 263 111 [vr 186, vr o1, vr o2, vi x3, vi x4, vi x5, vi x6, vi x7, vi x8, vi x9, vi x10, u11, u12] [] σ K := by
  have ck : pm_code 263 = pc_263 := rfl
  unfold w263_111 at h
  refine h (fun x10 σ => ∀ u11 : Value, (u11.category == 1) = true → ∀ u12 : Value, (u12.category == 1) = true → wW B 263 111 [vr 186, vr o1, vr o2, vi x3, vi x4, vi x5, vi x6, vi x7, vi x8, vi x9, vi x10, u11, u12] [] σ K) ?_ u11 hu11 u12 hu12
  clear h
  intro x10 σ h u11 hu11 u12 hu12
  obtain ⟨⟨hs1, hs2⟩, h⟩ := h
  refine g_il 113 ck rfl rfl rfl ?_
  refine g_il 115 ck rfl rfl rfl ?_
  refine g_icgt 118 181 ck rfl rfl rfl hs1 hs2 (fun hc => ?_) (fun hc => ?_)
  · replace h := ite_ht h hc
    obtain ⟨⟨hs3, hs4⟩, h⟩ := h
    refine g_il 183 ck rfl rfl rfl ?_
    refine g_il 184 ck rfl rfl rfl ?_
    refine g_il 186 ck rfl rfl rfl ?_
    refine g_sub 187 ck rfl rfl ?_
    refine g_icge 190 194 ck rfl rfl rfl hs3 hs4 (fun hc => ?_) (fun hc => ?_)
    · replace h := ite_hf h (Int.not_lt.mpr hc)
      obtain ⟨⟨hs5, hs6, hs7⟩, h⟩ := h
      refine g_al 195 ck rfl rfl rfl ?_
      refine g_ic 198 ck rfl rfl ?_
      refine g_il 200 ck rfl rfl rfl ?_
      refine g_il 201 ck rfl rfl rfl ?_
      refine g_sub 202 ck rfl rfl ?_
      refine g_il 204 ck rfl rfl rfl ?_
      refine g_add 205 ck rfl rfl ?_
      refine g_mul 206 ck rfl rfl ?_
      refine g_csi (as := [_, _]) (rest := []) 209 ck rfl rfl rfl rfl rfl (by decide) rfl rfl rfl (Nat.le_of_ble_eq_true rfl) (s253 ho2 hs5 hs6 hs7 ?_)
      refine r_is 211 ck rfl rfl rfl rfl ?_
      replace h := h _ rfl
      refine g_ic 212 ck rfl rfl ?_
      refine r_is 214 ck rfl rfl rfl rfl ?_
      exact o263_214 ho1 ho2 rfl hu12 hX61 h
    · replace h := ite_ht h (Int.not_le.mp hc)
      refine g_ic 191 ck rfl rfl ?_
      refine g_goto 209 ck rfl rfl ?_
      refine r_is 211 ck rfl rfl rfl rfl ?_
      refine g_ic 212 ck rfl rfl ?_
      refine r_is 214 ck rfl rfl rfl rfl ?_
      exact o263_214 ho1 ho2 rfl hu12 hX61 h
  · replace h := ite_hf h hc
    refine g_ic 119 ck rfl rfl ?_
    refine r_is 121 ck rfl rfl rfl rfl ?_
    exact o263_121 ho1 ho2 hu12 hX61 (fun _ _ u11 u12 hu11 hu12 hx => hx u11 hu11 u12 hu12) h
def w263_70 (B : va_E) (σ : l2_m) (o1 : Nat) (o2 : Nat) (x3 : Int) (x4 : Int) (x5 : Int) (x6 : Int) (x7 : Int) (x8 : Int) (X61 : Int → l2_m → Prop) (K : Int → l2_m → Prop) : Prop := lz2 (fun X70 x8 σ => (rg x8 ∧ (if x8 < 2304 then ((0 ≤ x8 ∧ x8 < 2304) ∧ ∀ σ' : l2_m, σ' = l2_u σ 209 x8 0 → X70 (x8 + 1) σ') else (∀ x8' : Int, x8' = (2304 * x7) → (0 ≤ x8' ∧ x8' + 2304 ≤ ((36864 : Nat) : Int) ∧ (∀ j : Int, 0 ≤ j → j < 2304 → rg (σ o1 (x8' + j)))) ∧ ∀ x9 : Int, x9 = (top (fun j => σ o1 (x8' + j)) 2304) → w263_111 B σ o1 o2 x3 x4 x5 x6 x7 x8' x9 0 X61 K)))) x8 σ
theorem o263_70 {B : va_E} {σ : l2_m} {o1 : Nat} {o2 : Nat} {x3 : Int} {x4 : Int} {x5 : Int} {x6 : Int} {x7 : Int} {x8 : Int} {u9 : Value} {u10 : Value} {u11 : Value} {u12 : Value} {X61 : Int → l2_m → Prop} {K : Int → l2_m → Prop} (ho1 : l2_al o1 = some 36864) (ho2 : l2_al o2 = some 36864) (hu9 : (u9.category == 1) = true) (hu10 : (u10.category == 1) = true) (hu11 : (u11.category == 1) = true) (hu12 : (u12.category == 1) = true) (hX61 : ∀ (x7 : Int) (σ : l2_m) (u8 : Value) (u9 : Value) (u10 : Value) (u11 : Value) (u12 : Value), (u8.category == 1) = true → (u9.category == 1) = true → (u10.category == 1) = true → (u11.category == 1) = true → (u12.category == 1) = true → X61 x7 σ → wW B 263 61 [vr 186, vr o1, vr o2, vi x3, vi x4, vi x5, vi x6, vi x7, u8, u9, u10, u11, u12] [] σ K) (h : w263_70 B σ o1 o2 x3 x4 x5 x6 x7 x8 X61 K) : wW B 263 70 [vr 186, vr o1, vr o2, vi x3, vi x4, vi x5, vi x6, vi x7, vi x8, u9, u10, u11, u12] [] σ K := by
  have ck : pm_code 263 = pc_263 := rfl
  unfold w263_70 at h
  refine h (fun x8 σ => ∀ u9 : Value, (u9.category == 1) = true → ∀ u10 : Value, (u10.category == 1) = true → ∀ u11 : Value, (u11.category == 1) = true → ∀ u12 : Value, (u12.category == 1) = true → wW B 263 70 [vr 186, vr o1, vr o2, vi x3, vi x4, vi x5, vi x6, vi x7, vi x8, u9, u10, u11, u12] [] σ K) ?_ u9 hu9 u10 hu10 u11 hu11 u12 hu12
  clear h
  intro x8 σ h u9 hu9 u10 hu10 u11 hu11 u12 hu12
  obtain ⟨hs1, h⟩ := h
  refine g_il 72 ck rfl rfl rfl ?_
  refine g_ic 75 ck rfl rfl ?_
  refine g_icge 78 92 ck rfl rfl rfl hs1 (by decide) (fun hc => ?_) (fun hc => ?_)
  · replace h := ite_hf h (Int.not_lt.mpr hc)
    refine g_ic 95 ck rfl rfl ?_
    refine g_il 97 ck rfl rfl rfl ?_
    refine g_mul 98 ck rfl rfl ?_
    refine r_is 100 ck rfl rfl rfl rfl ?_
    replace h := h _ rfl
    obtain ⟨⟨hs2, hs3, hs4⟩, h⟩ := h
    refine g_al 101 ck rfl rfl rfl ?_
    refine g_il 103 ck rfl rfl rfl ?_
    refine g_csi (as := [_, _]) (rest := []) 106 ck rfl rfl rfl rfl rfl (by decide) rfl rfl rfl (Nat.le_of_ble_eq_true rfl) (s253 ho1 hs2 hs3 hs4 ?_)
    refine r_is 108 ck rfl rfl rfl rfl ?_
    replace h := h _ rfl
    refine g_ic 109 ck rfl rfl ?_
    refine r_is 111 ck rfl rfl rfl rfl ?_
    exact o263_111 ho1 ho2 hu11 hu12 hX61 h
  · replace h := ite_ht h (Int.not_le.mp hc)
    obtain ⟨⟨hs5, hs6⟩, h⟩ := h
    refine g_al 79 ck rfl rfl rfl ?_
    refine r_gfr 82 209 ck rfl rfl rfl (by decide) ?_
    refine g_il 84 ck rfl rfl rfl ?_
    refine g_ic 85 ck rfl rfl ?_
    refine g_ias (m := 2304) 86 ck rfl rfl rfl hs5 hs6 ?_
    replace h := h _ rfl
    refine r_ii 89 ck rfl rfl rfl rfl ?_
    refine g_goto 70 ck rfl rfl ?_
    exact h _ hu9 _ hu10 _ hu11 _ hu12
def w263_61 (B : va_E) (σ : l2_m) (o1 : Nat) (o2 : Nat) (x3 : Int) (x4 : Int) (x5 : Int) (x6 : Int) (x7 : Int)  (K : Int → l2_m → Prop) : Prop := lz2 (fun X61 x7 σ => ((rg x7 ∧ rg x3) ∧ (if x3 < x7 then (wC B 262 [vr 186, vr o1] σ (fun _ σ' => K 0 σ')) else w263_70 B σ o1 o2 x3 x4 x5 x6 x7 0 X61 K))) x7 σ
theorem o263_61 {B : va_E} {σ : l2_m} {o1 : Nat} {o2 : Nat} {x3 : Int} {x4 : Int} {x5 : Int} {x6 : Int} {x7 : Int} {u8 : Value} {u9 : Value} {u10 : Value} {u11 : Value} {u12 : Value}  {K : Int → l2_m → Prop} (ho1 : l2_al o1 = some 36864) (ho2 : l2_al o2 = some 36864) (hu8 : (u8.category == 1) = true) (hu9 : (u9.category == 1) = true) (hu10 : (u10.category == 1) = true) (hu11 : (u11.category == 1) = true) (hu12 : (u12.category == 1) = true)  (h : w263_61 B σ o1 o2 x3 x4 x5 x6 x7  K) : wW B 263 61 [vr 186, vr o1, vr o2, vi x3, vi x4, vi x5, vi x6, vi x7, u8, u9, u10, u11, u12] [] σ K := by
  have ck : pm_code 263 = pc_263 := rfl
  unfold w263_61 at h
  refine h (fun x7 σ => ∀ u8 : Value, (u8.category == 1) = true → ∀ u9 : Value, (u9.category == 1) = true → ∀ u10 : Value, (u10.category == 1) = true → ∀ u11 : Value, (u11.category == 1) = true → ∀ u12 : Value, (u12.category == 1) = true → wW B 263 61 [vr 186, vr o1, vr o2, vi x3, vi x4, vi x5, vi x6, vi x7, u8, u9, u10, u11, u12] [] σ K) ?_ u8 hu8 u9 hu9 u10 hu10 u11 hu11 u12 hu12
  clear h
  intro x7 σ h u8 hu8 u9 hu9 u10 hu10 u11 hu11 u12 hu12
  obtain ⟨⟨hs1, hs2⟩, h⟩ := h
  refine g_il 63 ck rfl rfl rfl ?_
  refine g_il 64 ck rfl rfl rfl ?_
  refine g_icgt 67 335 ck rfl rfl rfl hs1 hs2 (fun hc => ?_) (fun hc => ?_)
  · replace h := ite_ht h hc
    refine g_al 336 ck rfl rfl rfl ?_
    refine g_al 337 ck rfl rfl rfl ?_
    refine g_cvv (as := [_]) (rest := []) 340 ck rfl rfl rfl rfl rfl rfl rfl rfl rfl rfl (Nat.le_of_ble_eq_true rfl) (wC.mono h (fun _ σ' h => ?_))
    exact g_retv ck rfl rfl h
  · replace h := ite_hf h hc
    refine g_ic 68 ck rfl rfl ?_
    refine r_is 70 ck rfl rfl rfl rfl ?_
    exact o263_70 ho1 ho2 hu9 hu10 hu11 hu12 (fun _ _ u8 u9 u10 u11 u12 hu8 hu9 hu10 hu11 hu12 hx => hx u8 hu8 u9 hu9 u10 hu10 u11 hu11 u12 hu12) h
def w263 (B : va_E) (σ : l2_m) (o1 : Nat) (o2 : Nat) (K : Int → l2_m → Prop) : Prop := ((∀ j : Int, 0 ≤ j → j < 36864 → rg (σ o1 j)) ∧ ∀ x3 : Int, x3 = (degX (σ o1)) → (∀ j : Int, 0 ≤ j → j < 36864 → rg (σ o2 j)) ∧ ∀ x4 : Int, x4 = (degX (σ o2)) → (0 ≤ (2304 * x4) ∧ (2304 * x4) + 2304 ≤ 36864) ∧ ∀ σ' : l2_m, σ' = cpR σ o2 (2304 * x4) 207 2304 → (0 ≤ (2304 * x3) ∧ (2304 * x3) + 2304 ≤ 36864) ∧ ∀ σ'' : l2_m, σ'' = cpR σ' o1 (2304 * x3) 208 2304 → (0 + 2304 ≤ ((2304 : Nat) : Int) ∧ (∀ j : Int, 0 ≤ j → j < 2304 → rg (σ'' 207 (0 + j)))) ∧ ∀ x5 : Int, x5 = (top (fun j => σ'' 207 (0 + j)) 2304) → (∀ j : Int, 0 ≤ j → j < 2304 → rg (σ'' 208 (0 + j))) ∧ ∀ x6 : Int, x6 = (top (fun j => σ'' 208 (0 + j)) 2304) → w263_61 B σ'' o1 o2 x3 x4 x5 x6 0 K)
theorem o263 {B : va_E} {σ : l2_m} {o1 : Nat} {o2 : Nat} {K : Int → l2_m → Prop} (ho1 : l2_al o1 = some 36864) (ho2 : l2_al o2 = some 36864)  (h : w263 B σ o1 o2  K) : wC B 263 [vr 186, vr o1, vr o2] σ K := by
  have ck : pm_code 263 = pc_263 := rfl
  unfold w263 at h
  show wW B 263 0 [vr 186, vr o1, vr o2, pm_un, pm_un, pm_un, pm_un, pm_un, pm_un, pm_un, pm_un, pm_un, pm_un] [] σ K
  obtain ⟨hs1, h⟩ := h
  refine g_al 1 ck rfl rfl rfl ?_
  refine g_csi (as := [_]) (rest := []) 4 ck rfl rfl rfl rfl rfl (by decide) rfl rfl rfl (Nat.le_of_ble_eq_true rfl) (s254 ho1 hs1 ?_)
  refine r_is 5 ck rfl rfl rfl rfl ?_
  replace h := h _ rfl
  obtain ⟨hs2, h⟩ := h
  refine g_al 6 ck rfl rfl rfl ?_
  refine g_csi (as := [_]) (rest := []) 9 ck rfl rfl rfl rfl rfl (by decide) rfl rfl rfl (Nat.le_of_ble_eq_true rfl) (s254 ho2 hs2 ?_)
  refine r_is 11 ck rfl rfl rfl rfl ?_
  replace h := h _ rfl
  obtain ⟨⟨hs3, hs4⟩, h⟩ := h
  refine g_al 12 ck rfl rfl rfl ?_
  refine g_ic 15 ck rfl rfl ?_
  refine g_il 17 ck rfl rfl rfl ?_
  refine g_mul 18 ck rfl rfl ?_
  refine g_al 19 ck rfl rfl rfl ?_
  refine r_gfr 22 207 ck rfl rfl rfl (by decide) ?_
  refine g_csv (as := [_, _, _]) (rest := []) 25 ck rfl rfl rfl rfl rfl rfl rfl rfl (Nat.le_of_ble_eq_true rfl) (s256 ho2 rfl hs3 hs4 ?_)
  replace h := h _ rfl
  obtain ⟨⟨hs5, hs6⟩, h⟩ := h
  refine g_al 26 ck rfl rfl rfl ?_
  refine g_ic 29 ck rfl rfl ?_
  refine g_il 30 ck rfl rfl rfl ?_
  refine g_mul 31 ck rfl rfl ?_
  refine g_al 32 ck rfl rfl rfl ?_
  refine r_gfr 35 208 ck rfl rfl rfl (by decide) ?_
  refine g_csv (as := [_, _, _]) (rest := []) 38 ck rfl rfl rfl rfl rfl rfl rfl rfl (Nat.le_of_ble_eq_true rfl) (s256 ho1 rfl hs5 hs6 ?_)
  replace h := h _ rfl
  obtain ⟨⟨hs7, hs8⟩, h⟩ := h
  refine g_al 39 ck rfl rfl rfl ?_
  refine r_gfr 42 207 ck rfl rfl rfl (by decide) ?_
  refine g_ic 43 ck rfl rfl ?_
  refine g_csi (as := [_, _]) (rest := []) 46 ck rfl rfl rfl rfl rfl (by decide) rfl rfl rfl (Nat.le_of_ble_eq_true rfl) (s253 rfl (by decide) hs7 hs8 ?_)
  refine r_is 48 ck rfl rfl rfl rfl ?_
  replace h := h _ rfl
  obtain ⟨hs9, h⟩ := h
  refine g_al 49 ck rfl rfl rfl ?_
  refine r_gfr 52 208 ck rfl rfl rfl (by decide) ?_
  refine g_ic 53 ck rfl rfl ?_
  refine g_csi (as := [_, _]) (rest := []) 56 ck rfl rfl rfl rfl rfl (by decide) rfl rfl rfl (Nat.le_of_ble_eq_true rfl) (s253 rfl (by decide) hs7 hs9 ?_)
  refine r_is 58 ck rfl rfl rfl rfl ?_
  replace h := h _ rfl
  refine g_ic 59 ck rfl rfl ?_
  refine r_is 61 ck rfl rfl rfl rfl ?_
  exact o263_61 ho1 ho2 rfl rfl rfl rfl rfl h
/-! 264 TermDeskModel.meetsRows()V -/
def w264_320 (B : va_E) (σ : l2_m) (x1 : Int) (x2 : Int) (x4 : Int) (X199 : Int → l2_m → Prop) (K : Int → l2_m → Prop) : Prop := lz2 (fun X320 x4 σ => (rg x4 ∧ (if x4 < 2304 then ((0 ≤ x4 ∧ x4 < 2304 ∧ 0 ≤ ((2304 * x2) + x4) ∧ ((2304 * x2) + x4) < 36864) ∧ ∀ σ' : l2_m, σ' = l2_u σ 204 ((2304 * x2) + x4) (σ 209 x4) → X320 (x4 + 1) σ') else X199 (x2 + 1) σ))) x4 σ
theorem o264_320 {B : va_E} {σ : l2_m} {x1 : Int} {x2 : Int} {x4 : Int} {u3 : Value} {u5 : Value} {X199 : Int → l2_m → Prop} {K : Int → l2_m → Prop}  (hu3 : (u3.category == 1) = true) (hu5 : (u5.category == 1) = true) (hX199 : ∀ (x2 : Int) (σ : l2_m) (u3 : Value) (u4 : Value) (u5 : Value), (u3.category == 1) = true → (u4.category == 1) = true → (u5.category == 1) = true → X199 x2 σ → wW B 264 199 [vr 186, vi x1, vi x2, u3, u4, u5] [] σ K) (h : w264_320 B σ x1 x2 x4 X199 K) : wW B 264 320 [vr 186, vi x1, vi x2, u3, vi x4, u5] [] σ K := by
  have ck : pm_code 264 = pc_264 := rfl
  unfold w264_320 at h
  refine h (fun x4 σ => ∀ u3 : Value, (u3.category == 1) = true → ∀ u5 : Value, (u5.category == 1) = true → wW B 264 320 [vr 186, vi x1, vi x2, u3, vi x4, u5] [] σ K) ?_ u3 hu3 u5 hu5
  clear h
  intro x4 σ h u3 hu3 u5 hu5
  obtain ⟨hs1, h⟩ := h
  refine g_il 322 ck rfl rfl rfl ?_
  refine g_ic 325 ck rfl rfl ?_
  refine g_icge 328 354 ck rfl rfl rfl hs1 (by decide) (fun hc => ?_) (fun hc => ?_)
  · replace h := ite_hf h (Int.not_lt.mpr hc)
    refine r_ii 357 ck rfl rfl rfl rfl ?_
    refine g_goto 199 ck rfl rfl ?_
    exact hX199 _ _ _ _ _ hu3 rfl hu5 h
  · replace h := ite_ht h (Int.not_le.mp hc)
    obtain ⟨⟨hs2, hs3, hs4, hs5⟩, h⟩ := h
    refine g_al 329 ck rfl rfl rfl ?_
    refine r_gfr 332 204 ck rfl rfl rfl (by decide) ?_
    refine g_ic 335 ck rfl rfl ?_
    refine g_il 336 ck rfl rfl rfl ?_
    refine g_mul 337 ck rfl rfl ?_
    refine g_il 339 ck rfl rfl rfl ?_
    refine g_add 340 ck rfl rfl ?_
    refine g_al 341 ck rfl rfl rfl ?_
    refine r_gfr 344 209 ck rfl rfl rfl (by decide) ?_
    refine g_il 346 ck rfl rfl rfl ?_
    refine g_ial (m := 2304) 347 ck rfl rfl rfl hs2 hs3 ?_
    refine g_ias (m := 36864) 348 ck rfl rfl rfl hs4 hs5 ?_
    replace h := h _ rfl
    refine r_ii 351 ck rfl rfl hu3 rfl ?_
    refine g_goto 320 ck rfl rfl ?_
    exact h _ hu3 _ hu5
def w264_252 (B : va_E) (σ : l2_m) (x1 : Int) (x2 : Int) (x3 : Int) (x4 : Int) (x5 : Int) (X199 : Int → l2_m → Prop) (X243 : Int → l2_m → Prop) (K : Int → l2_m → Prop) : Prop := lz2 (fun X252 x5 σ => ((rg x5 ∧ rg x3) ∧ (if x3 < x5 then X243 (x4 + 1) σ else ((0 ≤ (x4 + x5) ∧ (x4 + x5) < 2304 ∧ 0 ≤ x4 ∧ x4 < 2304 ∧ 0 ≤ ((2304 * x2) + x5) ∧ ((2304 * x2) + x5) < 36864 ∧ rg ((σ 209 (x4 + x5)) + ((σ 210 x4) * (σ 204 ((2304 * x2) + x5)))) ∧ rg (σ 186 5) ∧ 0 < (σ 186 5) ∧ 0 ≤ ((σ 209 (x4 + x5)) + ((σ 210 x4) * (σ 204 ((2304 * x2) + x5))))) ∧ ∀ σ' : l2_m, σ' = l2_u σ 209 (x4 + x5) (((σ 209 (x4 + x5)) + ((σ 210 x4) * (σ 204 ((2304 * x2) + x5)))) % (σ 186 5)) → X252 (x5 + 1) σ')))) x5 σ
theorem o264_252 {B : va_E} {σ : l2_m} {x1 : Int} {x2 : Int} {x3 : Int} {x4 : Int} {x5 : Int}  {X199 : Int → l2_m → Prop} {X243 : Int → l2_m → Prop} {K : Int → l2_m → Prop}   (hX199 : ∀ (x2 : Int) (σ : l2_m) (u3 : Value) (u4 : Value) (u5 : Value), (u3.category == 1) = true → (u4.category == 1) = true → (u5.category == 1) = true → X199 x2 σ → wW B 264 199 [vr 186, vi x1, vi x2, u3, u4, u5] [] σ K) (hX243 : ∀ (x4 : Int) (σ : l2_m) (u5 : Value), (u5.category == 1) = true → X243 x4 σ → wW B 264 243 [vr 186, vi x1, vi x2, vi x3, vi x4, u5] [] σ K) (h : w264_252 B σ x1 x2 x3 x4 x5 X199 X243 K) : wW B 264 252 [vr 186, vi x1, vi x2, vi x3, vi x4, vi x5] [] σ K := by
  have ck : pm_code 264 = pc_264 := rfl
  unfold w264_252 at h
  refine h (fun x5 σ => wW B 264 252 [vr 186, vi x1, vi x2, vi x3, vi x4, vi x5] [] σ K) ?_
  clear h
  intro x5 σ h
  obtain ⟨⟨hs1, hs2⟩, h⟩ := h
  refine g_il 254 ck rfl rfl rfl ?_
  refine g_il 255 ck rfl rfl rfl ?_
  refine g_icgt 258 311 ck rfl rfl rfl hs1 hs2 (fun hc => ?_) (fun hc => ?_)
  · replace h := ite_ht h hc
    refine r_ii 314 ck rfl rfl rfl rfl ?_
    refine g_goto 243 ck rfl rfl ?_
    exact hX243 _ _ _ rfl h
  · replace h := ite_hf h hc
    obtain ⟨⟨hs3, hs4, hs5, hs6, hs7, hs8, hs9, hs10, hs11, hs12⟩, h⟩ := h
    refine g_al 259 ck rfl rfl rfl ?_
    refine r_gfr 262 209 ck rfl rfl rfl (by decide) ?_
    refine g_il 264 ck rfl rfl rfl ?_
    refine g_il 266 ck rfl rfl rfl ?_
    refine g_add 267 ck rfl rfl ?_
    refine g_al 268 ck rfl rfl rfl ?_
    refine r_gfr 271 209 ck rfl rfl rfl (by decide) ?_
    refine g_il 273 ck rfl rfl rfl ?_
    refine g_il 275 ck rfl rfl rfl ?_
    refine g_add 276 ck rfl rfl ?_
    refine g_ial (m := 2304) 277 ck rfl rfl rfl hs3 hs4 ?_
    refine g_al 278 ck rfl rfl rfl ?_
    refine r_gfr 281 210 ck rfl rfl rfl (by decide) ?_
    refine g_il 283 ck rfl rfl rfl ?_
    refine g_ial (m := 2304) 284 ck rfl rfl rfl hs5 hs6 ?_
    refine g_al 285 ck rfl rfl rfl ?_
    refine r_gfr 288 204 ck rfl rfl rfl (by decide) ?_
    refine g_ic 291 ck rfl rfl ?_
    refine g_il 292 ck rfl rfl rfl ?_
    refine g_mul 293 ck rfl rfl ?_
    refine g_il 295 ck rfl rfl rfl ?_
    refine g_add 296 ck rfl rfl ?_
    refine g_ial (m := 36864) 297 ck rfl rfl rfl hs7 hs8 ?_
    refine g_mul 298 ck rfl rfl ?_
    refine g_add 299 ck rfl rfl ?_
    refine g_al 300 ck rfl rfl rfl ?_
    refine r_gfi 303 5 ck rfl rfl rfl rfl ?_
    refine g_rem 304 ck rfl rfl hs9 hs10 hs12 hs11 ?_
    refine g_ias (m := 2304) 305 ck rfl rfl rfl hs3 hs4 ?_
    replace h := h _ rfl
    refine r_ii 308 ck rfl rfl rfl rfl ?_
    refine g_goto 252 ck rfl rfl ?_
    exact h
def w264_243 (B : va_E) (σ : l2_m) (x1 : Int) (x2 : Int) (x3 : Int) (x4 : Int) (X199 : Int → l2_m → Prop) (K : Int → l2_m → Prop) : Prop := lz2 (fun X243 x4 σ => ((rg x4 ∧ rg x1) ∧ (if x1 < x4 then w264_320 B σ x1 x2 0 X199 K else w264_252 B σ x1 x2 x3 x4 0 X199 X243 K))) x4 σ
theorem o264_243 {B : va_E} {σ : l2_m} {x1 : Int} {x2 : Int} {x3 : Int} {x4 : Int} {u5 : Value} {X199 : Int → l2_m → Prop} {K : Int → l2_m → Prop}  (hu5 : (u5.category == 1) = true) (hX199 : ∀ (x2 : Int) (σ : l2_m) (u3 : Value) (u4 : Value) (u5 : Value), (u3.category == 1) = true → (u4.category == 1) = true → (u5.category == 1) = true → X199 x2 σ → wW B 264 199 [vr 186, vi x1, vi x2, u3, u4, u5] [] σ K) (h : w264_243 B σ x1 x2 x3 x4 X199 K) : wW B 264 243 [vr 186, vi x1, vi x2, vi x3, vi x4, u5] [] σ K := by
  have ck : pm_code 264 = pc_264 := rfl
  unfold w264_243 at h
  refine h (fun x4 σ => ∀ u5 : Value, (u5.category == 1) = true → wW B 264 243 [vr 186, vi x1, vi x2, vi x3, vi x4, u5] [] σ K) ?_ u5 hu5
  clear h
  intro x4 σ h u5 hu5
  obtain ⟨⟨hs1, hs2⟩, h⟩ := h
  refine g_il 245 ck rfl rfl rfl ?_
  refine g_il 246 ck rfl rfl rfl ?_
  refine g_icgt 249 317 ck rfl rfl rfl hs1 hs2 (fun hc => ?_) (fun hc => ?_)
  · replace h := ite_ht h hc
    refine g_ic 318 ck rfl rfl ?_
    refine r_is 320 ck rfl rfl rfl rfl ?_
    exact o264_320 rfl hu5 hX199 h
  · replace h := ite_hf h hc
    refine g_ic 250 ck rfl rfl ?_
    refine r_is 252 ck rfl rfl rfl rfl ?_
    exact o264_252 hX199 (fun _ _ u5 hu5 hx => hx u5 hu5) h
def w264_207 (B : va_E) (σ : l2_m) (x1 : Int) (x2 : Int) (x3 : Int) (X199 : Int → l2_m → Prop) (K : Int → l2_m → Prop) : Prop := lz2 (fun X207 x3 σ => (rg x3 ∧ (if x3 < 2304 then ((0 ≤ x3 ∧ x3 < 2304) ∧ ∀ σ' : l2_m, σ' = l2_u σ 209 x3 0 → X207 (x3 + 1) σ') else ((0 ≤ (2304 * x2) ∧ (2304 * x2) + 2304 ≤ ((36864 : Nat) : Int) ∧ (∀ j : Int, 0 ≤ j → j < 2304 → rg (σ 204 ((2304 * x2) + j)))) ∧ ∀ x3' : Int, x3' = (top (fun j => σ 204 ((2304 * x2) + j)) 2304) → w264_243 B σ x1 x2 x3' 0 X199 K)))) x3 σ
theorem o264_207 {B : va_E} {σ : l2_m} {x1 : Int} {x2 : Int} {x3 : Int} {u4 : Value} {u5 : Value} {X199 : Int → l2_m → Prop} {K : Int → l2_m → Prop}  (hu4 : (u4.category == 1) = true) (hu5 : (u5.category == 1) = true) (hX199 : ∀ (x2 : Int) (σ : l2_m) (u3 : Value) (u4 : Value) (u5 : Value), (u3.category == 1) = true → (u4.category == 1) = true → (u5.category == 1) = true → X199 x2 σ → wW B 264 199 [vr 186, vi x1, vi x2, u3, u4, u5] [] σ K) (h : w264_207 B σ x1 x2 x3 X199 K) : wW B 264 207 [vr 186, vi x1, vi x2, vi x3, u4, u5] [] σ K := by
  have ck : pm_code 264 = pc_264 := rfl
  unfold w264_207 at h
  refine h (fun x3 σ => ∀ u4 : Value, (u4.category == 1) = true → ∀ u5 : Value, (u5.category == 1) = true → wW B 264 207 [vr 186, vi x1, vi x2, vi x3, u4, u5] [] σ K) ?_ u4 hu4 u5 hu5
  clear h
  intro x3 σ h u4 hu4 u5 hu5
  obtain ⟨hs1, h⟩ := h
  refine g_il 208 ck rfl rfl rfl ?_
  refine g_ic 211 ck rfl rfl ?_
  refine g_icge 214 227 ck rfl rfl rfl hs1 (by decide) (fun hc => ?_) (fun hc => ?_)
  · replace h := ite_hf h (Int.not_lt.mpr hc)
    obtain ⟨⟨hs2, hs3, hs4⟩, h⟩ := h
    refine g_al 228 ck rfl rfl rfl ?_
    refine r_gfr 231 204 ck rfl rfl rfl (by decide) ?_
    refine g_ic 234 ck rfl rfl ?_
    refine g_il 235 ck rfl rfl rfl ?_
    refine g_mul 236 ck rfl rfl ?_
    refine g_csi (as := [_, _]) (rest := []) 239 ck rfl rfl rfl rfl rfl (by decide) rfl rfl rfl (Nat.le_of_ble_eq_true rfl) (s253 rfl hs2 hs3 hs4 ?_)
    refine r_is 240 ck rfl rfl rfl rfl ?_
    replace h := h _ rfl
    refine g_ic 241 ck rfl rfl ?_
    refine r_is 243 ck rfl rfl rfl rfl ?_
    exact o264_243 hu5 hX199 h
  · replace h := ite_ht h (Int.not_le.mp hc)
    obtain ⟨⟨hs5, hs6⟩, h⟩ := h
    refine g_al 215 ck rfl rfl rfl ?_
    refine r_gfr 218 209 ck rfl rfl rfl (by decide) ?_
    refine g_il 219 ck rfl rfl rfl ?_
    refine g_ic 220 ck rfl rfl ?_
    refine g_ias (m := 2304) 221 ck rfl rfl rfl hs5 hs6 ?_
    replace h := h _ rfl
    refine r_ii 224 ck rfl rfl rfl rfl ?_
    refine g_goto 207 ck rfl rfl ?_
    exact h _ hu4 _ hu5
def w264_199 (B : va_E) (σ : l2_m) (x1 : Int) (x2 : Int)  (K : Int → l2_m → Prop) : Prop := lz2 (fun X199 x2 σ => (rg x2 ∧ (if x2 < 16 then w264_207 B σ x1 x2 0 X199 K else K 0 σ))) x2 σ
theorem o264_199 {B : va_E} {σ : l2_m} {x1 : Int} {x2 : Int} {u3 : Value} {u4 : Value} {u5 : Value}  {K : Int → l2_m → Prop}  (hu3 : (u3.category == 1) = true) (hu4 : (u4.category == 1) = true) (hu5 : (u5.category == 1) = true)  (h : w264_199 B σ x1 x2  K) : wW B 264 199 [vr 186, vi x1, vi x2, u3, u4, u5] [] σ K := by
  have ck : pm_code 264 = pc_264 := rfl
  unfold w264_199 at h
  refine h (fun x2 σ => ∀ u3 : Value, (u3.category == 1) = true → ∀ u4 : Value, (u4.category == 1) = true → ∀ u5 : Value, (u5.category == 1) = true → wW B 264 199 [vr 186, vi x1, vi x2, u3, u4, u5] [] σ K) ?_ u3 hu3 u4 hu4 u5 hu5
  clear h
  intro x2 σ h u3 hu3 u4 hu4 u5 hu5
  obtain ⟨hs1, h⟩ := h
  refine g_il 200 ck rfl rfl rfl ?_
  refine g_ic 202 ck rfl rfl ?_
  refine g_icge 205 360 ck rfl rfl rfl hs1 (by decide) (fun hc => ?_) (fun hc => ?_)
  · replace h := ite_hf h (Int.not_lt.mpr hc)
    exact g_retv ck rfl rfl h
  · replace h := ite_ht h (Int.not_le.mp hc)
    refine g_ic 206 ck rfl rfl ?_
    refine r_is 207 ck rfl rfl rfl rfl ?_
    exact o264_207 hu4 hu5 (fun _ _ u3 u4 u5 hu3 hu4 hu5 hx => hx u3 hu3 u4 hu4 u5 hu5) h
def w264_147 (B : va_E) (σ : l2_m) (x1 : Int) (X102 : l2_m → Prop) (K : Int → l2_m → Prop) : Prop := lz2 (fun X147 x1 σ => (rg x1 ∧ (if x1 < 36864 then ((0 ≤ x1 ∧ x1 < 36864) ∧ ∀ x2 : Int, x2 = (σ 204 x1) → ∀ σ' : l2_m, σ' = l2_u σ 204 x1 (σ 205 x1) → ∀ σ'' : l2_m, σ'' = l2_u σ' 205 x1 x2 → X147 (x1 + 1) σ'') else X102 σ))) x1 σ
theorem o264_147 {B : va_E} {σ : l2_m} {x1 : Int} {u2 : Value} {u3 : Value} {u4 : Value} {u5 : Value} {X102 : l2_m → Prop} {K : Int → l2_m → Prop}  (hu2 : (u2.category == 1) = true) (hu3 : (u3.category == 1) = true) (hu4 : (u4.category == 1) = true) (hu5 : (u5.category == 1) = true) (hX102 : ∀ (σ : l2_m) (u1 : Value) (u2 : Value) (u3 : Value) (u4 : Value) (u5 : Value), (u1.category == 1) = true → (u2.category == 1) = true → (u3.category == 1) = true → (u4.category == 1) = true → (u5.category == 1) = true → X102 σ → wW B 264 102 [vr 186, u1, u2, u3, u4, u5] [] σ K) (h : w264_147 B σ x1 X102 K) : wW B 264 147 [vr 186, vi x1, u2, u3, u4, u5] [] σ K := by
  have ck : pm_code 264 = pc_264 := rfl
  unfold w264_147 at h
  refine h (fun x1 σ => ∀ u2 : Value, (u2.category == 1) = true → ∀ u3 : Value, (u3.category == 1) = true → ∀ u4 : Value, (u4.category == 1) = true → ∀ u5 : Value, (u5.category == 1) = true → wW B 264 147 [vr 186, vi x1, u2, u3, u4, u5] [] σ K) ?_ u2 hu2 u3 hu3 u4 hu4 u5 hu5
  clear h
  intro x1 σ h u2 hu2 u3 hu3 u4 hu4 u5 hu5
  obtain ⟨hs1, h⟩ := h
  refine g_il 148 ck rfl rfl rfl ?_
  refine g_ic 150 ck rfl rfl ?_
  refine g_icge 153 185 ck rfl rfl rfl hs1 (by decide) (fun hc => ?_) (fun hc => ?_)
  · replace h := ite_hf h (Int.not_lt.mpr hc)
    refine g_goto 102 ck rfl rfl ?_
    exact hX102 _ _ _ _ _ _ rfl hu2 hu3 hu4 hu5 h
  · replace h := ite_ht h (Int.not_le.mp hc)
    obtain ⟨⟨hs2, hs3⟩, h⟩ := h
    refine g_al 154 ck rfl rfl rfl ?_
    refine r_gfr 157 204 ck rfl rfl rfl (by decide) ?_
    refine g_il 158 ck rfl rfl rfl ?_
    refine g_ial (m := 36864) 159 ck rfl rfl rfl hs2 hs3 ?_
    refine r_is 160 ck rfl rfl rfl rfl ?_
    replace h := h _ rfl
    refine g_al 161 ck rfl rfl rfl ?_
    refine r_gfr 164 204 ck rfl rfl rfl (by decide) ?_
    refine g_il 165 ck rfl rfl rfl ?_
    refine g_al 166 ck rfl rfl rfl ?_
    refine r_gfr 169 205 ck rfl rfl rfl (by decide) ?_
    refine g_il 170 ck rfl rfl rfl ?_
    refine g_ial (m := 36864) 171 ck rfl rfl rfl hs2 hs3 ?_
    refine g_ias (m := 36864) 172 ck rfl rfl rfl hs2 hs3 ?_
    replace h := h _ rfl
    refine g_al 173 ck rfl rfl rfl ?_
    refine r_gfr 176 205 ck rfl rfl rfl (by decide) ?_
    refine g_il 177 ck rfl rfl rfl ?_
    refine g_il 178 ck rfl rfl rfl ?_
    refine g_ias (m := 36864) 179 ck rfl rfl rfl hs2 hs3 ?_
    replace h := h _ rfl
    refine r_ii 182 ck rfl rfl rfl rfl ?_
    refine g_goto 147 ck rfl rfl ?_
    exact h _ rfl _ hu3 _ hu4 _ hu5
def w264_113 (B : va_E) (σ : l2_m)  (X102 : l2_m → Prop) (K : Int → l2_m → Prop) : Prop := lz1 (fun X113 σ => (((∀ j : Int, 0 ≤ j → j < 36864 → rg (σ 204 j)) ∧ (∀ j : Int, 0 ≤ j → j < 36864 → rg (σ 205 j)) ∧ rg (degX (σ 204)) ∧ rg (degX (σ 205))) ∧ (if (degX (σ 204)) < (degX (σ 205)) then w264_147 B σ 0 X102 K else (wC B 263 [vr 186, vr 204, vr 205] σ (fun _ σ' => X113 σ'))))) σ
theorem o264_113 {B : va_E} {σ : l2_m}  {u1 : Value} {u2 : Value} {u3 : Value} {u4 : Value} {u5 : Value} {X102 : l2_m → Prop} {K : Int → l2_m → Prop}  (hu1 : (u1.category == 1) = true) (hu2 : (u2.category == 1) = true) (hu3 : (u3.category == 1) = true) (hu4 : (u4.category == 1) = true) (hu5 : (u5.category == 1) = true) (hX102 : ∀ (σ : l2_m) (u1 : Value) (u2 : Value) (u3 : Value) (u4 : Value) (u5 : Value), (u1.category == 1) = true → (u2.category == 1) = true → (u3.category == 1) = true → (u4.category == 1) = true → (u5.category == 1) = true → X102 σ → wW B 264 102 [vr 186, u1, u2, u3, u4, u5] [] σ K) (h : w264_113 B σ  X102 K) : wW B 264 113 [vr 186, u1, u2, u3, u4, u5] [] σ K := by
  have ck : pm_code 264 = pc_264 := rfl
  unfold w264_113 at h
  refine h (fun σ => ∀ u1 : Value, (u1.category == 1) = true → ∀ u2 : Value, (u2.category == 1) = true → ∀ u3 : Value, (u3.category == 1) = true → ∀ u4 : Value, (u4.category == 1) = true → ∀ u5 : Value, (u5.category == 1) = true → wW B 264 113 [vr 186, u1, u2, u3, u4, u5] [] σ K) ?_ u1 hu1 u2 hu2 u3 hu3 u4 hu4 u5 hu5
  clear h
  intro σ h u1 hu1 u2 hu2 u3 hu3 u4 hu4 u5 hu5
  obtain ⟨⟨hs1, hs2, hs3, hs4⟩, h⟩ := h
  refine g_al 114 ck rfl rfl rfl ?_
  refine r_gfr 117 204 ck rfl rfl rfl (by decide) ?_
  refine g_csi (as := [_]) (rest := []) 120 ck rfl rfl rfl rfl rfl (by decide) rfl rfl rfl (Nat.le_of_ble_eq_true rfl) (s254 rfl hs1 ?_)
  refine g_al 121 ck rfl rfl rfl ?_
  refine r_gfr 124 205 ck rfl rfl rfl (by decide) ?_
  refine g_csi (as := [_]) (rest := [_]) 127 ck rfl rfl rfl rfl rfl (by decide) rfl rfl rfl (Nat.le_of_ble_eq_true rfl) (s254 rfl hs2 ?_)
  refine g_iclt 130 145 ck rfl rfl rfl hs3 hs4 (fun hc => ?_) (fun hc => ?_)
  · replace h := ite_ht h hc
    refine g_ic 146 ck rfl rfl ?_
    refine r_is 147 ck rfl rfl rfl rfl ?_
    exact o264_147 hu2 hu3 hu4 hu5 hX102 h
  · replace h := ite_hf h hc
    refine g_al 131 ck rfl rfl rfl ?_
    refine g_al 132 ck rfl rfl rfl ?_
    refine r_gfr 135 204 ck rfl rfl rfl (by decide) ?_
    refine g_al 136 ck rfl rfl rfl ?_
    refine r_gfr 139 205 ck rfl rfl rfl (by decide) ?_
    refine g_cvv (as := [_, _]) (rest := []) 142 ck rfl rfl rfl rfl rfl rfl rfl rfl rfl rfl (Nat.le_of_ble_eq_true rfl) (wC.mono h (fun _ σ' h => ?_))
    refine g_goto 113 ck rfl rfl ?_
    exact h _ hu1 _ hu2 _ hu3 _ hu4 _ hu5
def w264_102 (B : va_E) (σ : l2_m)   (K : Int → l2_m → Prop) : Prop := lz1 (fun X102 σ => (((∀ j : Int, 0 ≤ j → j < 36864 → rg (σ 205 j)) ∧ rg (degX (σ 205))) ∧ (if (degX (σ 205)) = (-1) then ((0 + 2304 ≤ ((2304 : Nat) : Int) ∧ (∀ j : Int, 0 ≤ j → j < 2304 → rg (σ 210 (0 + j)))) ∧ ∀ x1 : Int, x1 = (top (fun j => σ 210 (0 + j)) 2304) → w264_199 B σ x1 0 K) else w264_113 B σ X102 K))) σ
theorem o264_102 {B : va_E} {σ : l2_m}  {u1 : Value} {u2 : Value} {u3 : Value} {u4 : Value} {u5 : Value}  {K : Int → l2_m → Prop}  (hu1 : (u1.category == 1) = true) (hu2 : (u2.category == 1) = true) (hu3 : (u3.category == 1) = true) (hu4 : (u4.category == 1) = true) (hu5 : (u5.category == 1) = true)  (h : w264_102 B σ   K) : wW B 264 102 [vr 186, u1, u2, u3, u4, u5] [] σ K := by
  have ck : pm_code 264 = pc_264 := rfl
  unfold w264_102 at h
  refine h (fun σ => ∀ u1 : Value, (u1.category == 1) = true → ∀ u2 : Value, (u2.category == 1) = true → ∀ u3 : Value, (u3.category == 1) = true → ∀ u4 : Value, (u4.category == 1) = true → ∀ u5 : Value, (u5.category == 1) = true → wW B 264 102 [vr 186, u1, u2, u3, u4, u5] [] σ K) ?_ u1 hu1 u2 hu2 u3 hu3 u4 hu4 u5 hu5
  clear h
  intro σ h u1 hu1 u2 hu2 u3 hu3 u4 hu4 u5 hu5
  obtain ⟨⟨hs1, hs2⟩, h⟩ := h
  refine g_al 103 ck rfl rfl rfl ?_
  refine r_gfr 106 205 ck rfl rfl rfl (by decide) ?_
  refine g_csi (as := [_]) (rest := []) 109 ck rfl rfl rfl rfl rfl (by decide) rfl rfl rfl (Nat.le_of_ble_eq_true rfl) (s254 rfl hs1 ?_)
  refine g_ic 110 ck rfl rfl ?_
  refine g_iceq 113 188 ck rfl rfl rfl hs2 (by decide) (fun hc => ?_) (fun hc => ?_)
  · replace h := ite_ht h hc
    obtain ⟨⟨hs3, hs4⟩, h⟩ := h
    refine g_al 189 ck rfl rfl rfl ?_
    refine r_gfr 192 210 ck rfl rfl rfl (by decide) ?_
    refine g_ic 193 ck rfl rfl ?_
    refine g_csi (as := [_, _]) (rest := []) 196 ck rfl rfl rfl rfl rfl (by decide) rfl rfl rfl (Nat.le_of_ble_eq_true rfl) (s253 rfl (by decide) hs3 hs4 ?_)
    refine r_is 197 ck rfl rfl rfl rfl ?_
    replace h := h _ rfl
    refine g_ic 198 ck rfl rfl ?_
    refine r_is 199 ck rfl rfl rfl rfl ?_
    exact o264_199 hu3 hu4 hu5 h
  · replace h := ite_hf h hc
    exact o264_113 hu1 hu2 hu3 hu4 hu5 (fun _ u1 u2 u3 u4 u5 hu1 hu2 hu3 hu4 hu5 hx => hx u1 hu1 u2 hu2 u3 hu3 u4 hu4 u5 hu5) h
def w264_25 (B : va_E) (σ : l2_m) (x1 : Int)  (K : Int → l2_m → Prop) : Prop := lz2 (fun X25 x1 σ => (rg x1 ∧ (if x1 < 36864 then ((0 ≤ x1 ∧ x1 < 36864) ∧ ∀ σ' : l2_m, σ' = l2_u σ 204 x1 (σ 205 x1) → X25 (x1 + 1) σ') else K 0 σ))) x1 σ
theorem o264_25 {B : va_E} {σ : l2_m} {x1 : Int} {u2 : Value} {u3 : Value} {u4 : Value} {u5 : Value}  {K : Int → l2_m → Prop}  (hu2 : (u2.category == 1) = true) (hu3 : (u3.category == 1) = true) (hu4 : (u4.category == 1) = true) (hu5 : (u5.category == 1) = true)  (h : w264_25 B σ x1  K) : wW B 264 25 [vr 186, vi x1, u2, u3, u4, u5] [] σ K := by
  have ck : pm_code 264 = pc_264 := rfl
  unfold w264_25 at h
  refine h (fun x1 σ => ∀ u2 : Value, (u2.category == 1) = true → ∀ u3 : Value, (u3.category == 1) = true → ∀ u4 : Value, (u4.category == 1) = true → ∀ u5 : Value, (u5.category == 1) = true → wW B 264 25 [vr 186, vi x1, u2, u3, u4, u5] [] σ K) ?_ u2 hu2 u3 hu3 u4 hu4 u5 hu5
  clear h
  intro x1 σ h u2 hu2 u3 hu3 u4 hu4 u5 hu5
  obtain ⟨hs1, h⟩ := h
  refine g_il 26 ck rfl rfl rfl ?_
  refine g_ic 28 ck rfl rfl ?_
  refine g_icge 31 49 ck rfl rfl rfl hs1 (by decide) (fun hc => ?_) (fun hc => ?_)
  · replace h := ite_hf h (Int.not_lt.mpr hc)
    exact g_retv ck rfl rfl h
  · replace h := ite_ht h (Int.not_le.mp hc)
    obtain ⟨⟨hs2, hs3⟩, h⟩ := h
    refine g_al 32 ck rfl rfl rfl ?_
    refine r_gfr 35 204 ck rfl rfl rfl (by decide) ?_
    refine g_il 36 ck rfl rfl rfl ?_
    refine g_al 37 ck rfl rfl rfl ?_
    refine r_gfr 40 205 ck rfl rfl rfl (by decide) ?_
    refine g_il 41 ck rfl rfl rfl ?_
    refine g_ial (m := 36864) 42 ck rfl rfl rfl hs2 hs3 ?_
    refine g_ias (m := 36864) 43 ck rfl rfl rfl hs2 hs3 ?_
    replace h := h _ rfl
    refine r_ii 46 ck rfl rfl rfl rfl ?_
    refine g_goto 25 ck rfl rfl ?_
    exact h _ hu2 _ hu3 _ hu4 _ hu5
def w264 (B : va_E) (σ : l2_m)  (K : Int → l2_m → Prop) : Prop := (((∀ j : Int, 0 ≤ j → j < 36864 → rg (σ 205 j)) ∧ rg (degX (σ 205))) ∧ (if (degX (σ 205)) = (-1) then K 0 σ else (((∀ j : Int, 0 ≤ j → j < 36864 → rg (σ 204 j)) ∧ rg (degX (σ 204))) ∧ (if (degX (σ 204)) = (-1) then w264_25 B σ 0 K else (wC B 261 [vr 186, vr 204, vr 210] σ (fun _ σ' => (wC B 261 [vr 186, vr 205, vr 206] σ' (fun _ σ'' => (wC B 260 [vr 186, vr 210, vr 206] σ'' (fun _ σ''' => (wC B 262 [vr 186, vr 204] σ''' (fun _ σ'''' => (wC B 262 [vr 186, vr 205] σ'''' (fun _ σ''''' => w264_102 B σ''''' K))))))))))))))
theorem o264 {B : va_E} {σ : l2_m}  {K : Int → l2_m → Prop}   (h : w264 B σ   K) : wC B 264 [vr 186] σ K := by
  have ck : pm_code 264 = pc_264 := rfl
  unfold w264 at h
  show wW B 264 0 [vr 186, pm_un, pm_un, pm_un, pm_un, pm_un] [] σ K
  obtain ⟨⟨hs1, hs2⟩, h⟩ := h
  refine g_al 1 ck rfl rfl rfl ?_
  refine r_gfr 4 205 ck rfl rfl rfl (by decide) ?_
  refine g_csi (as := [_]) (rest := []) 7 ck rfl rfl rfl rfl rfl (by decide) rfl rfl rfl (Nat.le_of_ble_eq_true rfl) (s254 rfl hs1 ?_)
  refine g_ic 8 ck rfl rfl ?_
  refine g_icne 11 12 ck rfl rfl rfl hs2 (by decide) (fun hc => ?_) (fun hc => ?_)
  · replace h := ite_hf h hc
    obtain ⟨⟨hs3, hs4⟩, h⟩ := h
    refine g_al 13 ck rfl rfl rfl ?_
    refine r_gfr 16 204 ck rfl rfl rfl (by decide) ?_
    refine g_csi (as := [_]) (rest := []) 19 ck rfl rfl rfl rfl rfl (by decide) rfl rfl rfl (Nat.le_of_ble_eq_true rfl) (s254 rfl hs3 ?_)
    refine g_ic 20 ck rfl rfl ?_
    refine g_icne 23 50 ck rfl rfl rfl hs4 (by decide) (fun hc => ?_) (fun hc => ?_)
    · replace h := ite_hf h hc
      refine g_al 51 ck rfl rfl rfl ?_
      refine g_al 52 ck rfl rfl rfl ?_
      refine r_gfr 55 204 ck rfl rfl rfl (by decide) ?_
      refine g_al 56 ck rfl rfl rfl ?_
      refine r_gfr 59 210 ck rfl rfl rfl (by decide) ?_
      refine g_cvv (as := [_, _]) (rest := []) 62 ck rfl rfl rfl rfl rfl rfl rfl rfl rfl rfl (Nat.le_of_ble_eq_true rfl) (wC.mono h (fun _ σ' h => ?_))
      refine g_al 63 ck rfl rfl rfl ?_
      refine g_al 64 ck rfl rfl rfl ?_
      refine r_gfr 67 205 ck rfl rfl rfl (by decide) ?_
      refine g_al 68 ck rfl rfl rfl ?_
      refine r_gfr 71 206 ck rfl rfl rfl (by decide) ?_
      refine g_cvv (as := [_, _]) (rest := []) 74 ck rfl rfl rfl rfl rfl rfl rfl rfl rfl rfl (Nat.le_of_ble_eq_true rfl) (wC.mono h (fun _ σ'' h => ?_))
      refine g_al 75 ck rfl rfl rfl ?_
      refine g_al 76 ck rfl rfl rfl ?_
      refine r_gfr 79 210 ck rfl rfl rfl (by decide) ?_
      refine g_al 80 ck rfl rfl rfl ?_
      refine r_gfr 83 206 ck rfl rfl rfl (by decide) ?_
      refine g_cvv (as := [_, _]) (rest := []) 86 ck rfl rfl rfl rfl rfl rfl rfl rfl rfl rfl (Nat.le_of_ble_eq_true rfl) (wC.mono h (fun _ σ''' h => ?_))
      refine g_al 87 ck rfl rfl rfl ?_
      refine g_al 88 ck rfl rfl rfl ?_
      refine r_gfr 91 204 ck rfl rfl rfl (by decide) ?_
      refine g_cvv (as := [_]) (rest := []) 94 ck rfl rfl rfl rfl rfl rfl rfl rfl rfl rfl (Nat.le_of_ble_eq_true rfl) (wC.mono h (fun _ σ'''' h => ?_))
      refine g_al 95 ck rfl rfl rfl ?_
      refine g_al 96 ck rfl rfl rfl ?_
      refine r_gfr 99 205 ck rfl rfl rfl (by decide) ?_
      refine g_cvv (as := [_]) (rest := []) 102 ck rfl rfl rfl rfl rfl rfl rfl rfl rfl rfl (Nat.le_of_ble_eq_true rfl) (wC.mono h (fun _ σ''''' h => ?_))
      exact o264_102 rfl rfl rfl rfl rfl h
    · replace h := ite_ht h (Classical.not_not.mp hc)
      refine g_ic 24 ck rfl rfl ?_
      refine r_is 25 ck rfl rfl rfl rfl ?_
      exact o264_25 rfl rfl rfl rfl h
  · replace h := ite_ht h (Classical.not_not.mp hc)
    exact g_retv ck rfl rfl h
/-! 265 TermDeskModel.laysWork([I)V -/
def w265_14 (B : va_E) (σ : l2_m) (o1 : Nat) (x2 : Int) (x3 : Int) (X6 : Int → l2_m → Prop) (K : Int → l2_m → Prop) : Prop := lz2 (fun X14 x3 σ => (rg x3 ∧ (if x3 < 16 then ((0 ≤ x2 ∧ x2 < 16 ∧ 0 ≤ x3 ∧ x3 < 16 ∧ 0 ≤ ((2304 * x2) + x3) ∧ ((2304 * x2) + x3) < 36864 ∧ 0 ≤ (x2 + 16 * x3 + 256 * 0) ∧ (x2 + 16 * x3 + 256 * 0) < 4096) ∧ ∀ σ' : l2_m, σ' = l2_u σ 192 (x2 + 16 * x3 + 256 * 0) (σ o1 ((2304 * x2) + x3)) → X14 (x3 + 1) σ') else X6 (x2 + 1) σ))) x3 σ
theorem o265_14 {B : va_E} {σ : l2_m} {o1 : Nat} {x2 : Int} {x3 : Int}  {X6 : Int → l2_m → Prop} {K : Int → l2_m → Prop} (ho1 : l2_al o1 = some 36864)  (hX6 : ∀ (x2 : Int) (σ : l2_m) (u3 : Value), (u3.category == 1) = true → X6 x2 σ → wW B 265 6 [vr 186, vr o1, vi x2, u3] [] σ K) (h : w265_14 B σ o1 x2 x3 X6 K) : wW B 265 14 [vr 186, vr o1, vi x2, vi x3] [] σ K := by
  have ck : pm_code 265 = pc_265 := rfl
  unfold w265_14 at h
  refine h (fun x3 σ => wW B 265 14 [vr 186, vr o1, vi x2, vi x3] [] σ K) ?_
  clear h
  intro x3 σ h
  obtain ⟨hs1, h⟩ := h
  refine g_il 15 ck rfl rfl rfl ?_
  refine g_ic 17 ck rfl rfl ?_
  refine g_icge 20 46 ck rfl rfl rfl hs1 (by decide) (fun hc => ?_) (fun hc => ?_)
  · replace h := ite_hf h (Int.not_lt.mpr hc)
    refine r_ii 49 ck rfl rfl rfl rfl ?_
    refine g_goto 6 ck rfl rfl ?_
    exact hX6 _ _ _ rfl h
  · replace h := ite_ht h (Int.not_le.mp hc)
    obtain ⟨⟨hs2, hs3, hs4, hs5, hs6, hs7, hs8, hs9⟩, h⟩ := h
    refine g_al 21 ck rfl rfl rfl ?_
    refine r_gfr 24 192 ck rfl rfl rfl (by decide) ?_
    refine g_il 25 ck rfl rfl rfl ?_
    refine g_il 26 ck rfl rfl rfl ?_
    refine g_ic 27 ck rfl rfl ?_
    refine g_csi (as := [_, _, _]) (rest := [_]) 30 ck rfl rfl rfl rfl rfl (by decide) rfl rfl rfl (Nat.le_of_ble_eq_true rfl) (s173 hs2 hs3 hs4 hs5 (by decide) (by decide) ?_)
    refine g_al 31 ck rfl rfl rfl ?_
    refine g_ic 34 ck rfl rfl ?_
    refine g_il 35 ck rfl rfl rfl ?_
    refine g_mul 36 ck rfl rfl ?_
    refine g_il 37 ck rfl rfl rfl ?_
    refine g_add 38 ck rfl rfl ?_
    refine g_ial (m := 36864) 39 ck rfl rfl ho1 hs6 hs7 ?_
    refine g_ias (m := 4096) 40 ck rfl rfl rfl hs8 hs9 ?_
    replace h := h _ rfl
    refine r_ii 43 ck rfl rfl rfl rfl ?_
    refine g_goto 14 ck rfl rfl ?_
    exact h
def w265_6 (B : va_E) (σ : l2_m) (o1 : Nat) (x2 : Int)  (K : Int → l2_m → Prop) : Prop := lz2 (fun X6 x2 σ => (rg x2 ∧ (if x2 < 16 then w265_14 B σ o1 x2 0 X6 K else K 0 σ))) x2 σ
theorem o265_6 {B : va_E} {σ : l2_m} {o1 : Nat} {x2 : Int} {u3 : Value}  {K : Int → l2_m → Prop} (ho1 : l2_al o1 = some 36864) (hu3 : (u3.category == 1) = true)  (h : w265_6 B σ o1 x2  K) : wW B 265 6 [vr 186, vr o1, vi x2, u3] [] σ K := by
  have ck : pm_code 265 = pc_265 := rfl
  unfold w265_6 at h
  refine h (fun x2 σ => ∀ u3 : Value, (u3.category == 1) = true → wW B 265 6 [vr 186, vr o1, vi x2, u3] [] σ K) ?_ u3 hu3
  clear h
  intro x2 σ h u3 hu3
  obtain ⟨hs1, h⟩ := h
  refine g_il 7 ck rfl rfl rfl ?_
  refine g_ic 9 ck rfl rfl ?_
  refine g_icge 12 52 ck rfl rfl rfl hs1 (by decide) (fun hc => ?_) (fun hc => ?_)
  · replace h := ite_hf h (Int.not_lt.mpr hc)
    exact g_retv ck rfl rfl h
  · replace h := ite_ht h (Int.not_le.mp hc)
    refine g_ic 13 ck rfl rfl ?_
    refine r_is 14 ck rfl rfl rfl rfl ?_
    exact o265_14 ho1 (fun _ _ u3 hu3 hx => hx u3 hu3) h
def w265 (B : va_E) (σ : l2_m) (o1 : Nat) (K : Int → l2_m → Prop) : Prop := (∀ σ' : l2_m, σ' = l2_u (fil σ 192 0 4096) 186 29 1 → w265_6 B σ' o1 0 K)
theorem o265 {B : va_E} {σ : l2_m} {o1 : Nat} {K : Int → l2_m → Prop} (ho1 : l2_al o1 = some 36864)  (h : w265 B σ o1  K) : wC B 265 [vr 186, vr o1] σ K := by
  have ck : pm_code 265 = pc_265 := rfl
  unfold w265 at h
  show wW B 265 0 [vr 186, vr o1, pm_un, pm_un] [] σ K
  refine g_al 1 ck rfl rfl rfl ?_
  refine g_cvv (as := []) (rest := []) 4 ck rfl rfl rfl rfl rfl rfl rfl rfl rfl rfl (Nat.le_of_ble_eq_true rfl) (s222  ?_)
  replace h := h _ rfl
  refine g_ic 5 ck rfl rfl ?_
  refine r_is 6 ck rfl rfl rfl rfl ?_
  exact o265_6 ho1 rfl h
/-! 266 TermDeskModel.monicWork()V -/
def w266_55 (B : va_E) (σ : l2_m) (x2 : Int) (x3 : Int)  (K : Int → l2_m → Prop) : Prop := lz2 (fun X55 x3 σ => (rg x3 ∧ (if x3 < 4096 then ((0 ≤ x3 ∧ x3 < 4096 ∧ rg ((σ 192 x3) * x2) ∧ rg (σ 186 5) ∧ 0 < (σ 186 5) ∧ 0 ≤ ((σ 192 x3) * x2)) ∧ ∀ σ' : l2_m, σ' = l2_u σ 192 x3 (((σ 192 x3) * x2) % (σ 186 5)) → X55 (x3 + 1) σ') else K 0 σ))) x3 σ
theorem o266_55 {B : va_E} {σ : l2_m} {x2 : Int} {x3 : Int} {u1 : Value}  {K : Int → l2_m → Prop}  (hu1 : (u1.category == 1) = true)  (h : w266_55 B σ x2 x3  K) : wW B 266 55 [vr 186, u1, vi x2, vi x3] [] σ K := by
  have ck : pm_code 266 = pc_266 := rfl
  unfold w266_55 at h
  refine h (fun x3 σ => ∀ u1 : Value, (u1.category == 1) = true → wW B 266 55 [vr 186, u1, vi x2, vi x3] [] σ K) ?_ u1 hu1
  clear h
  intro x3 σ h u1 hu1
  obtain ⟨hs1, h⟩ := h
  refine g_il 56 ck rfl rfl rfl ?_
  refine g_ic 59 ck rfl rfl ?_
  refine g_icge 62 87 ck rfl rfl rfl hs1 (by decide) (fun hc => ?_) (fun hc => ?_)
  · replace h := ite_hf h (Int.not_lt.mpr hc)
    exact g_retv ck rfl rfl h
  · replace h := ite_ht h (Int.not_le.mp hc)
    obtain ⟨⟨hs2, hs3, hs4, hs5, hs6, hs7⟩, h⟩ := h
    refine g_al 63 ck rfl rfl rfl ?_
    refine r_gfr 66 192 ck rfl rfl rfl (by decide) ?_
    refine g_il 67 ck rfl rfl rfl ?_
    refine g_al 68 ck rfl rfl rfl ?_
    refine r_gfr 71 192 ck rfl rfl rfl (by decide) ?_
    refine g_il 72 ck rfl rfl rfl ?_
    refine g_ial (m := 4096) 73 ck rfl rfl rfl hs2 hs3 ?_
    refine g_il 74 ck rfl rfl rfl ?_
    refine g_mul 75 ck rfl rfl ?_
    refine g_al 76 ck rfl rfl rfl ?_
    refine r_gfi 79 5 ck rfl rfl rfl rfl ?_
    refine g_rem 80 ck rfl rfl hs4 hs5 hs7 hs6 ?_
    refine g_ias (m := 4096) 81 ck rfl rfl rfl hs2 hs3 ?_
    replace h := h _ rfl
    refine r_ii 84 ck rfl rfl rfl rfl ?_
    refine g_goto 55 ck rfl rfl ?_
    exact h _ hu1
def w266_29 (B : va_E) (σ : l2_m) (x1 : Int)  (K : Int → l2_m → Prop) : Prop := (rg x1 ∧ (if x1 = 4096 then K 0 σ else ((0 ≤ x1 ∧ x1 < 4096 ∧ 0 ≤ (σ 190 x1) ∧ (σ 190 x1) < 4096) ∧ (wC B 226 [vr 186, vi (σ 192 (σ 190 x1))] σ (fun y σ' => w266_55 B σ' y 0 K)))))
theorem o266_29 {B : va_E} {σ : l2_m} {x1 : Int} {u2 : Value} {u3 : Value}  {K : Int → l2_m → Prop}  (hu2 : (u2.category == 1) = true) (hu3 : (u3.category == 1) = true)  (h : w266_29 B σ x1  K) : wW B 266 29 [vr 186, vi x1, u2, u3] [] σ K := by
  have ck : pm_code 266 = pc_266 := rfl
  unfold w266_29 at h
  obtain ⟨hs1, h⟩ := h
  refine g_il 30 ck rfl rfl rfl ?_
  refine g_ic 33 ck rfl rfl ?_
  refine g_icne 36 37 ck rfl rfl rfl hs1 (by decide) (fun hc => ?_) (fun hc => ?_)
  · replace h := ite_hf h hc
    obtain ⟨⟨hs2, hs3, hs4, hs5⟩, h⟩ := h
    refine g_al 38 ck rfl rfl rfl ?_
    refine g_al 39 ck rfl rfl rfl ?_
    refine r_gfr 42 192 ck rfl rfl rfl (by decide) ?_
    refine g_al 43 ck rfl rfl rfl ?_
    refine r_gfr 46 190 ck rfl rfl rfl (by decide) ?_
    refine g_il 47 ck rfl rfl rfl ?_
    refine g_ial (m := 4096) 48 ck rfl rfl rfl hs2 hs3 ?_
    refine g_ial (m := 4096) 49 ck rfl rfl rfl hs4 hs5 ?_
    refine g_cvi (as := [_]) (rest := []) 52 ck rfl rfl rfl rfl rfl rfl (by decide) rfl rfl rfl rfl (Nat.le_of_ble_eq_true rfl) (wC.mono h (fun y σ' h => ?_))
    refine r_is 53 ck rfl rfl rfl rfl ?_
    refine g_ic 54 ck rfl rfl ?_
    refine r_is 55 ck rfl rfl rfl rfl ?_
    exact o266_55 rfl h
  · replace h := ite_ht h (Classical.not_not.mp hc)
    exact g_retv ck rfl rfl h
def w266_2 (B : va_E) (σ : l2_m) (x1 : Int)  (K : Int → l2_m → Prop) : Prop := lz1 (fun X2 x1 => (rg x1 ∧ (((x1 < 4096) → 0 ≤ x1 ∧ x1 < 4096 ∧ 0 ≤ (σ 190 x1) ∧ (σ 190 x1) < 4096 ∧ rg (σ 192 (σ 190 x1))) ∧ (if (x1 < 4096) ∧ ((σ 192 (σ 190 x1)) = 0) then X2 (x1 + 1) else w266_29 B σ x1 K)))) x1
theorem o266_2 {B : va_E} {σ : l2_m} {x1 : Int} {u2 : Value} {u3 : Value}  {K : Int → l2_m → Prop}  (hu2 : (u2.category == 1) = true) (hu3 : (u3.category == 1) = true)  (h : w266_2 B σ x1  K) : wW B 266 2 [vr 186, vi x1, u2, u3] [] σ K := by
  have ck : pm_code 266 = pc_266 := rfl
  unfold w266_2 at h
  refine h (fun x1 => ∀ u2 : Value, (u2.category == 1) = true → ∀ u3 : Value, (u3.category == 1) = true → wW B 266 2 [vr 186, vi x1, u2, u3] [] σ K) ?_ u2 hu2 u3 hu3
  clear h
  intro x1 h u2 hu2 u3 hu3
  replace h := (And.imp_right mg_3s) h
  obtain ⟨hs1, h⟩ := h
  refine g_il 3 ck rfl rfl rfl ?_
  refine g_ic 6 ck rfl rfl ?_
  refine g_icge 9 29 ck rfl rfl rfl hs1 (by decide) (fun hc => ?_) (fun hc => ?_)
  · replace h := ite_hf h (Int.not_lt.mpr hc)
    exact o266_29 hu2 hu3 h
  · replace h := ite_ht h (Int.not_le.mp hc)
    obtain ⟨⟨hs2, hs3, hs4, hs5, hs6⟩, h⟩ := h
    refine g_al 10 ck rfl rfl rfl ?_
    refine r_gfr 13 192 ck rfl rfl rfl (by decide) ?_
    refine g_al 14 ck rfl rfl rfl ?_
    refine r_gfr 17 190 ck rfl rfl rfl (by decide) ?_
    refine g_il 18 ck rfl rfl rfl ?_
    refine g_ial (m := 4096) 19 ck rfl rfl rfl hs2 hs3 ?_
    refine g_ial (m := 4096) 20 ck rfl rfl rfl hs4 hs5 ?_
    refine g_ifne 23 29 ck rfl rfl rfl hs6 (fun hc => ?_) (fun hc => ?_)
    · replace h := ite_hf h hc
      exact o266_29 hu2 hu3 h
    · replace h := ite_ht h (Classical.not_not.mp hc)
      refine r_ii 26 ck rfl rfl rfl rfl ?_
      refine g_goto 2 ck rfl rfl ?_
      exact h _ hu2 _ hu3
def w266 (B : va_E) (σ : l2_m)  (K : Int → l2_m → Prop) : Prop := w266_2 B σ 0 K
theorem o266 {B : va_E} {σ : l2_m}  {K : Int → l2_m → Prop}   (h : w266 B σ   K) : wC B 266 [vr 186] σ K := by
  have ck : pm_code 266 = pc_266 := rfl
  unfold w266 at h
  show wW B 266 0 [vr 186, pm_un, pm_un, pm_un] [] σ K
  refine g_ic 1 ck rfl rfl ?_
  refine r_is 2 ck rfl rfl rfl rfl ?_
  exact o266_2 rfl rfl h
/-! 267 TermDeskModel.hasThird(I)Z -/
def w267 (B : va_E) (σ : l2_m) (x1 : Int) (K : Int → l2_m → Prop) : Prop := (wC B 210 [vr 186, vi x1, vi 2] σ (fun y σ' => (rg y ∧ (if 0 < y then K 1 σ' else K 0 σ'))))
theorem o267 {B : va_E} {σ : l2_m} {x1 : Int} {K : Int → l2_m → Prop}   (h : w267 B σ x1  K) : wC B 267 [vr 186, vi x1] σ K := by
  have ck : pm_code 267 = pc_267 := rfl
  unfold w267 at h
  show wW B 267 0 [vr 186, vi x1] [] σ K
  refine g_al 1 ck rfl rfl rfl ?_
  refine g_il 2 ck rfl rfl rfl ?_
  refine g_ic 3 ck rfl rfl ?_
  refine g_cvi (as := [_, _]) (rest := []) 6 ck rfl rfl rfl rfl rfl rfl (by decide) rfl rfl rfl rfl (Nat.le_of_ble_eq_true rfl) (wC.mono h (fun y σ' h => ?_))
  obtain ⟨hs1, h⟩ := h
  refine g_ifle 9 13 ck rfl rfl rfl hs1 (fun hc => ?_) (fun hc => ?_)
  · replace h := ite_hf h (Int.not_lt.mpr hc)
    refine g_ic 14 ck rfl rfl ?_
    exact g_retb ck rfl rfl (Or.inl rfl) h
  · replace h := ite_ht h (Int.not_le.mp hc)
    refine g_ic 10 ck rfl rfl ?_
    refine g_goto 14 ck rfl rfl ?_
    exact g_retb ck rfl rfl (Or.inr rfl) h
/-! 268 TermDeskModel.common(III)I -/
def w268 (B : va_E) (σ : l2_m) (x1 : Int) (x2 : Int) (x3 : Int) (K : Int → l2_m → Prop) : Prop := (∀ σ' : l2_m, σ' = l2_u σ 186 0 0 → (rg x1 ∧ rg x2 ∧ rg x3 ∧ ((σ' 186 14) = 0 ∨ (σ' 186 14) = 1)) ∧ (if (σ' 186 14) = 1 ∧ (0 ≤ x1 ∧ x1 < 8) ∧ (0 ≤ x2 ∧ x2 < 8) ∧ (0 ≤ x3 ∧ x3 < 8) then (wC B 267 [vr 186, vi x1] σ' (fun y σ'' => (rg y ∧ (if y = 0 then (wC B 267 [vr 186, vi x2] σ'' (fun y' σ'''' => (rg y' ∧ (if y' = 0 then (wC B 255 [vr 186, vi x1, vr 204] σ'''' (fun _ σ''''' => (wC B 255 [vr 186, vi x2, vr 205] σ''''' (fun _ σ'''''' => (wC B 264 [vr 186] σ'''''' (fun _ σ''''''' => (wC B 265 [vr 186, vr 204] σ''''''' (fun _ σ'''''''' => (wC B 266 [vr 186] σ'''''''' (fun _ σ''''''''' => (wC B 240 [vr 186, vi x3] σ''''''''' (fun y'' σ'''''''''' => K y'' σ'''''''''')))))))))))) else (∀ σ''''''''''' : l2_m, σ''''''''''' = trr σ'''' 5 → K (-1) σ'''''''''''))))) else (∀ σ''' : l2_m, σ''' = trr σ'' 5 → K (-1) σ'''))))) else (∀ σ'''''''''''' : l2_m, σ'''''''''''' = trr σ' 1 → K (-1) σ'''''''''''')))
theorem o268 {B : va_E} {σ : l2_m} {x1 : Int} {x2 : Int} {x3 : Int} {K : Int → l2_m → Prop}   (h : w268 B σ x1 x2 x3  K) : wC B 268 [vr 186, vi x1, vi x2, vi x3] σ K := by
  have ck : pm_code 268 = pc_268 := rfl
  unfold w268 at h
  show wW B 268 0 [vr 186, vi x1, vi x2, vi x3] [] σ K
  refine g_al 1 ck rfl rfl rfl ?_
  refine g_ic 2 ck rfl rfl ?_
  refine g_pfi 5 ck rfl rfl rfl 0 rfl rfl ?_
  replace h := h _ rfl
  obtain ⟨⟨hs1, hs2, hs3, hs4⟩, h⟩ := h
  refine g_al 6 ck rfl rfl rfl ?_
  refine g_il 7 ck rfl rfl rfl ?_
  refine g_il 8 ck rfl rfl rfl ?_
  refine g_il 9 ck rfl rfl rfl ?_
  refine g_cvi (as := [_, _, _]) (rest := []) 12 ck rfl rfl rfl rfl rfl rfl (by decide) rfl rfl rfl rfl (Nat.le_of_ble_eq_true rfl) (s241 hs1 hs2 hs3 hs4 ?_)
  refine g_ifne 15 21 ck rfl rfl rfl rg_b2i (fun hc => ?_) (fun hc => ?_)
  · replace h := ite_ht h (b2i_t hc)
    refine g_al 22 ck rfl rfl rfl ?_
    refine g_il 23 ck rfl rfl rfl ?_
    refine g_cvi (as := [_]) (rest := []) 26 ck rfl rfl rfl rfl rfl rfl (by decide) rfl rfl rfl rfl (Nat.le_of_ble_eq_true rfl) (wC.mono h (fun y σ'' h => ?_))
    obtain ⟨hs5, h⟩ := h
    refine g_ifne 29 37 ck rfl rfl rfl hs5 (fun hc => ?_) (fun hc => ?_)
    · replace h := ite_hf h hc
      refine g_al 38 ck rfl rfl rfl ?_
      refine g_ic 39 ck rfl rfl ?_
      refine g_cvi (as := [_]) (rest := []) 42 ck rfl rfl rfl rfl rfl rfl (by decide) rfl rfl rfl rfl (Nat.le_of_ble_eq_true rfl) (s168  ?_)
      replace h := h _ rfl
      exact g_ret ck rfl rfl (Or.inl (by decide)) h
    · replace h := ite_ht h (Classical.not_not.mp hc)
      refine g_al 30 ck rfl rfl rfl ?_
      refine g_il 31 ck rfl rfl rfl ?_
      refine g_cvi (as := [_]) (rest := []) 34 ck rfl rfl rfl rfl rfl rfl (by decide) rfl rfl rfl rfl (Nat.le_of_ble_eq_true rfl) (wC.mono h (fun y' σ'''' h => ?_))
      obtain ⟨hs6, h⟩ := h
      refine g_ifeq 37 43 ck rfl rfl rfl hs6 (fun hc => ?_) (fun hc => ?_)
      · replace h := ite_ht h hc
        refine g_al 44 ck rfl rfl rfl ?_
        refine g_il 45 ck rfl rfl rfl ?_
        refine g_al 46 ck rfl rfl rfl ?_
        refine r_gfr 49 204 ck rfl rfl rfl (by decide) ?_
        refine g_cvv (as := [_, _]) (rest := []) 52 ck rfl rfl rfl rfl rfl rfl rfl rfl rfl rfl (Nat.le_of_ble_eq_true rfl) (wC.mono h (fun _ σ''''' h => ?_))
        refine g_al 53 ck rfl rfl rfl ?_
        refine g_il 54 ck rfl rfl rfl ?_
        refine g_al 55 ck rfl rfl rfl ?_
        refine r_gfr 58 205 ck rfl rfl rfl (by decide) ?_
        refine g_cvv (as := [_, _]) (rest := []) 61 ck rfl rfl rfl rfl rfl rfl rfl rfl rfl rfl (Nat.le_of_ble_eq_true rfl) (wC.mono h (fun _ σ'''''' h => ?_))
        refine g_al 62 ck rfl rfl rfl ?_
        refine g_cvv (as := []) (rest := []) 65 ck rfl rfl rfl rfl rfl rfl rfl rfl rfl rfl (Nat.le_of_ble_eq_true rfl) (wC.mono h (fun _ σ''''''' h => ?_))
        refine g_al 66 ck rfl rfl rfl ?_
        refine g_al 67 ck rfl rfl rfl ?_
        refine r_gfr 70 204 ck rfl rfl rfl (by decide) ?_
        refine g_cvv (as := [_]) (rest := []) 73 ck rfl rfl rfl rfl rfl rfl rfl rfl rfl rfl (Nat.le_of_ble_eq_true rfl) (wC.mono h (fun _ σ'''''''' h => ?_))
        refine g_al 74 ck rfl rfl rfl ?_
        refine g_cvv (as := []) (rest := []) 77 ck rfl rfl rfl rfl rfl rfl rfl rfl rfl rfl (Nat.le_of_ble_eq_true rfl) (wC.mono h (fun _ σ''''''''' h => ?_))
        refine g_al 78 ck rfl rfl rfl ?_
        refine g_il 79 ck rfl rfl rfl ?_
        refine g_cvi (as := [_]) (rest := []) 82 ck rfl rfl rfl rfl rfl rfl (by decide) rfl rfl rfl rfl (Nat.le_of_ble_eq_true rfl) (wC.mono h (fun y'' σ'''''''''' h => ?_))
        exact g_ret ck rfl rfl (Or.inl (by decide)) h
      · replace h := ite_hf h hc
        refine g_al 38 ck rfl rfl rfl ?_
        refine g_ic 39 ck rfl rfl ?_
        refine g_cvi (as := [_]) (rest := []) 42 ck rfl rfl rfl rfl rfl rfl (by decide) rfl rfl rfl rfl (Nat.le_of_ble_eq_true rfl) (s168  ?_)
        replace h := h _ rfl
        exact g_ret ck rfl rfl (Or.inl (by decide)) h
  · replace h := ite_hf h (b2i_f (Classical.not_not.mp hc))
    refine g_al 16 ck rfl rfl rfl ?_
    refine g_ic 17 ck rfl rfl ?_
    refine g_cvi (as := [_]) (rest := []) 20 ck rfl rfl rfl rfl rfl rfl (by decide) rfl rfl rfl rfl (Nat.le_of_ble_eq_true rfl) (s168  ?_)
    replace h := h _ rfl
    exact g_ret ck rfl rfl (Or.inl (by decide)) h
/-! 269 TermDeskModel.content(II)I -/
def w269_68 (B : va_E) (σ : l2_m) (x2 : Int) (x3 : Int)  (K : Int → l2_m → Prop) : Prop := lz2 (fun X68 x3 σ => (rg x3 ∧ (if x3 < 16 then ((0 ≤ x3 ∧ x3 < 16 ∧ x3 < 2304 ∧ 0 ≤ (0 + 16 * x3 + 256 * 0) ∧ (0 + 16 * x3 + 256 * 0) < 4096) ∧ ∀ σ'' : l2_m, σ'' = l2_u σ 192 (0 + 16 * x3 + 256 * 0) (σ 207 x3) → X68 (x3 + 1) σ'') else (wC B 240 [vr 186, vi x2] σ (fun y σ' => K y σ'))))) x3 σ
theorem o269_68 {B : va_E} {σ : l2_m} {x2 : Int} {x3 : Int} {u1 : Value}  {K : Int → l2_m → Prop}  (hu1 : (u1.category == 1) = true)  (h : w269_68 B σ x2 x3  K) : wW B 269 68 [vr 186, u1, vi x2, vi x3] [] σ K := by
  have ck : pm_code 269 = pc_269 := rfl
  unfold w269_68 at h
  refine h (fun x3 σ => ∀ u1 : Value, (u1.category == 1) = true → wW B 269 68 [vr 186, u1, vi x2, vi x3] [] σ K) ?_ u1 hu1
  clear h
  intro x3 σ h u1 hu1
  obtain ⟨hs1, h⟩ := h
  refine g_il 69 ck rfl rfl rfl ?_
  refine g_ic 71 ck rfl rfl ?_
  refine g_icge 74 97 ck rfl rfl rfl hs1 (by decide) (fun hc => ?_) (fun hc => ?_)
  · replace h := ite_hf h (Int.not_lt.mpr hc)
    refine g_al 98 ck rfl rfl rfl ?_
    refine g_il 99 ck rfl rfl rfl ?_
    refine g_cvi (as := [_]) (rest := []) 102 ck rfl rfl rfl rfl rfl rfl (by decide) rfl rfl rfl rfl (Nat.le_of_ble_eq_true rfl) (wC.mono h (fun y σ' h => ?_))
    exact g_ret ck rfl rfl (Or.inl (by decide)) h
  · replace h := ite_ht h (Int.not_le.mp hc)
    obtain ⟨⟨hs2, hs3, hs4, hs5, hs6⟩, h⟩ := h
    refine g_al 75 ck rfl rfl rfl ?_
    refine r_gfr 78 192 ck rfl rfl rfl (by decide) ?_
    refine g_ic 79 ck rfl rfl ?_
    refine g_il 80 ck rfl rfl rfl ?_
    refine g_ic 81 ck rfl rfl ?_
    refine g_csi (as := [_, _, _]) (rest := [_]) 84 ck rfl rfl rfl rfl rfl (by decide) rfl rfl rfl (Nat.le_of_ble_eq_true rfl) (s173 (by decide) (by decide) hs2 hs3 (by decide) (by decide) ?_)
    refine g_al 85 ck rfl rfl rfl ?_
    refine r_gfr 88 207 ck rfl rfl rfl (by decide) ?_
    refine g_il 89 ck rfl rfl rfl ?_
    refine g_ial (m := 2304) 90 ck rfl rfl rfl hs2 hs4 ?_
    refine g_ias (m := 4096) 91 ck rfl rfl rfl hs5 hs6 ?_
    replace h := h _ rfl
    refine r_ii 94 ck rfl rfl rfl rfl ?_
    refine g_goto 68 ck rfl rfl ?_
    exact h _ hu1
def w269 (B : va_E) (σ : l2_m) (x1 : Int) (x2 : Int) (K : Int → l2_m → Prop) : Prop := (∀ σ' : l2_m, σ' = l2_u σ 186 0 0 → (rg x1 ∧ ((σ' 186 14) = 0 ∨ (σ' 186 14) = 1)) ∧ (if (σ' 186 14) = 1 ∧ 0 ≤ x1 ∧ x1 < 8 then (rg x2 ∧ (if (σ' 186 14) = 1 ∧ 0 ≤ x2 ∧ x2 < 8 then (wC B 267 [vr 186, vi x1] σ' (fun y σ''' => (rg y ∧ (if y = 0 then (wC B 255 [vr 186, vi x1, vr 204] σ''' (fun _ σ'''' => (wC B 261 [vr 186, vr 204, vr 207] σ'''' (fun _ σ''''' => (∀ σ'''''' : l2_m, σ'''''' = l2_u (fil σ''''' 192 0 4096) 186 29 1 → w269_68 B σ'''''' x2 0 K))))) else (∀ σ''''''' : l2_m, σ''''''' = trr σ''' 5 → K (-1) σ'''''''))))) else (∀ σ'''''''' : l2_m, σ'''''''' = trr σ' 1 → K (-1) σ''''''''))) else (∀ σ'' : l2_m, σ'' = trr σ' 1 → K (-1) σ'')))
theorem o269 {B : va_E} {σ : l2_m} {x1 : Int} {x2 : Int} {K : Int → l2_m → Prop}   (h : w269 B σ x1 x2  K) : wC B 269 [vr 186, vi x1, vi x2] σ K := by
  have ck : pm_code 269 = pc_269 := rfl
  unfold w269 at h
  show wW B 269 0 [vr 186, vi x1, vi x2, pm_un] [] σ K
  refine g_al 1 ck rfl rfl rfl ?_
  refine g_ic 2 ck rfl rfl ?_
  refine g_pfi 5 ck rfl rfl rfl 0 rfl rfl ?_
  replace h := h _ rfl
  obtain ⟨⟨hs1, hs2⟩, h⟩ := h
  refine g_al 6 ck rfl rfl rfl ?_
  refine g_il 7 ck rfl rfl rfl ?_
  refine g_cvi (as := [_]) (rest := []) 10 ck rfl rfl rfl rfl rfl rfl (by decide) rfl rfl rfl rfl (Nat.le_of_ble_eq_true rfl) (s197 hs1 hs2 ?_)
  refine g_ifeq 13 21 ck rfl rfl rfl rg_b2i (fun hc => ?_) (fun hc => ?_)
  · replace h := ite_hf h (b2i_f hc)
    refine g_al 22 ck rfl rfl rfl ?_
    refine g_ic 23 ck rfl rfl ?_
    refine g_cvi (as := [_]) (rest := []) 26 ck rfl rfl rfl rfl rfl rfl (by decide) rfl rfl rfl rfl (Nat.le_of_ble_eq_true rfl) (s168  ?_)
    replace h := h _ rfl
    exact g_ret ck rfl rfl (Or.inl (by decide)) h
  · replace h := ite_ht h (b2i_t hc)
    obtain ⟨hs3, h⟩ := h
    refine g_al 14 ck rfl rfl rfl ?_
    refine g_il 15 ck rfl rfl rfl ?_
    refine g_cvi (as := [_]) (rest := []) 18 ck rfl rfl rfl rfl rfl rfl (by decide) rfl rfl rfl rfl (Nat.le_of_ble_eq_true rfl) (s197 hs3 hs2 ?_)
    refine g_ifne 21 27 ck rfl rfl rfl rg_b2i (fun hc => ?_) (fun hc => ?_)
    · replace h := ite_ht h (b2i_t hc)
      refine g_al 28 ck rfl rfl rfl ?_
      refine g_il 29 ck rfl rfl rfl ?_
      refine g_cvi (as := [_]) (rest := []) 32 ck rfl rfl rfl rfl rfl rfl (by decide) rfl rfl rfl rfl (Nat.le_of_ble_eq_true rfl) (wC.mono h (fun y σ''' h => ?_))
      obtain ⟨hs4, h⟩ := h
      refine g_ifeq 35 41 ck rfl rfl rfl hs4 (fun hc => ?_) (fun hc => ?_)
      · replace h := ite_ht h hc
        refine g_al 42 ck rfl rfl rfl ?_
        refine g_il 43 ck rfl rfl rfl ?_
        refine g_al 44 ck rfl rfl rfl ?_
        refine r_gfr 47 204 ck rfl rfl rfl (by decide) ?_
        refine g_cvv (as := [_, _]) (rest := []) 50 ck rfl rfl rfl rfl rfl rfl rfl rfl rfl rfl (Nat.le_of_ble_eq_true rfl) (wC.mono h (fun _ σ'''' h => ?_))
        refine g_al 51 ck rfl rfl rfl ?_
        refine g_al 52 ck rfl rfl rfl ?_
        refine r_gfr 55 204 ck rfl rfl rfl (by decide) ?_
        refine g_al 56 ck rfl rfl rfl ?_
        refine r_gfr 59 207 ck rfl rfl rfl (by decide) ?_
        refine g_cvv (as := [_, _]) (rest := []) 62 ck rfl rfl rfl rfl rfl rfl rfl rfl rfl rfl (Nat.le_of_ble_eq_true rfl) (wC.mono h (fun _ σ''''' h => ?_))
        refine g_al 63 ck rfl rfl rfl ?_
        refine g_cvv (as := []) (rest := []) 66 ck rfl rfl rfl rfl rfl rfl rfl rfl rfl rfl (Nat.le_of_ble_eq_true rfl) (s222  ?_)
        replace h := h _ rfl
        refine g_ic 67 ck rfl rfl ?_
        refine r_is 68 ck rfl rfl rfl rfl ?_
        exact o269_68 rfl h
      · replace h := ite_hf h hc
        refine g_al 36 ck rfl rfl rfl ?_
        refine g_ic 37 ck rfl rfl ?_
        refine g_cvi (as := [_]) (rest := []) 40 ck rfl rfl rfl rfl rfl rfl (by decide) rfl rfl rfl rfl (Nat.le_of_ble_eq_true rfl) (s168  ?_)
        replace h := h _ rfl
        exact g_ret ck rfl rfl (Or.inl (by decide)) h
    · replace h := ite_hf h (b2i_f (Classical.not_not.mp hc))
      refine g_al 22 ck rfl rfl rfl ?_
      refine g_ic 23 ck rfl rfl ?_
      refine g_cvi (as := [_]) (rest := []) 26 ck rfl rfl rfl rfl rfl rfl (by decide) rfl rfl rfl rfl (Nat.le_of_ble_eq_true rfl) (s168  ?_)
      replace h := h _ rfl
      exact g_ret ck rfl rfl (Or.inl (by decide)) h
/-! 270 TermDeskModel.primitive(II)I -/
def w270 (B : va_E) (σ : l2_m) (x1 : Int) (x2 : Int) (K : Int → l2_m → Prop) : Prop := (∀ σ' : l2_m, σ' = l2_u σ 186 0 0 → (rg x1 ∧ ((σ' 186 14) = 0 ∨ (σ' 186 14) = 1)) ∧ (if (σ' 186 14) = 1 ∧ 0 ≤ x1 ∧ x1 < 8 then (rg x2 ∧ (if (σ' 186 14) = 1 ∧ 0 ≤ x2 ∧ x2 < 8 then (wC B 267 [vr 186, vi x1] σ' (fun y σ''' => (rg y ∧ (if y = 0 then (wC B 255 [vr 186, vi x1, vr 204] σ''' (fun _ σ'''' => (wC B 262 [vr 186, vr 204] σ'''' (fun _ σ''''' => (wC B 265 [vr 186, vr 204] σ''''' (fun _ σ'''''' => (wC B 240 [vr 186, vi x2] σ'''''' (fun y' σ''''''' => K y' σ''''''')))))))) else (∀ σ'''''''' : l2_m, σ'''''''' = trr σ''' 5 → K (-1) σ''''''''))))) else (∀ σ''''''''' : l2_m, σ''''''''' = trr σ' 1 → K (-1) σ'''''''''))) else (∀ σ'' : l2_m, σ'' = trr σ' 1 → K (-1) σ'')))
theorem o270 {B : va_E} {σ : l2_m} {x1 : Int} {x2 : Int} {K : Int → l2_m → Prop}   (h : w270 B σ x1 x2  K) : wC B 270 [vr 186, vi x1, vi x2] σ K := by
  have ck : pm_code 270 = pc_270 := rfl
  unfold w270 at h
  show wW B 270 0 [vr 186, vi x1, vi x2] [] σ K
  refine g_al 1 ck rfl rfl rfl ?_
  refine g_ic 2 ck rfl rfl ?_
  refine g_pfi 5 ck rfl rfl rfl 0 rfl rfl ?_
  replace h := h _ rfl
  obtain ⟨⟨hs1, hs2⟩, h⟩ := h
  refine g_al 6 ck rfl rfl rfl ?_
  refine g_il 7 ck rfl rfl rfl ?_
  refine g_cvi (as := [_]) (rest := []) 10 ck rfl rfl rfl rfl rfl rfl (by decide) rfl rfl rfl rfl (Nat.le_of_ble_eq_true rfl) (s197 hs1 hs2 ?_)
  refine g_ifeq 13 21 ck rfl rfl rfl rg_b2i (fun hc => ?_) (fun hc => ?_)
  · replace h := ite_hf h (b2i_f hc)
    refine g_al 22 ck rfl rfl rfl ?_
    refine g_ic 23 ck rfl rfl ?_
    refine g_cvi (as := [_]) (rest := []) 26 ck rfl rfl rfl rfl rfl rfl (by decide) rfl rfl rfl rfl (Nat.le_of_ble_eq_true rfl) (s168  ?_)
    replace h := h _ rfl
    exact g_ret ck rfl rfl (Or.inl (by decide)) h
  · replace h := ite_ht h (b2i_t hc)
    obtain ⟨hs3, h⟩ := h
    refine g_al 14 ck rfl rfl rfl ?_
    refine g_il 15 ck rfl rfl rfl ?_
    refine g_cvi (as := [_]) (rest := []) 18 ck rfl rfl rfl rfl rfl rfl (by decide) rfl rfl rfl rfl (Nat.le_of_ble_eq_true rfl) (s197 hs3 hs2 ?_)
    refine g_ifne 21 27 ck rfl rfl rfl rg_b2i (fun hc => ?_) (fun hc => ?_)
    · replace h := ite_ht h (b2i_t hc)
      refine g_al 28 ck rfl rfl rfl ?_
      refine g_il 29 ck rfl rfl rfl ?_
      refine g_cvi (as := [_]) (rest := []) 32 ck rfl rfl rfl rfl rfl rfl (by decide) rfl rfl rfl rfl (Nat.le_of_ble_eq_true rfl) (wC.mono h (fun y σ''' h => ?_))
      obtain ⟨hs4, h⟩ := h
      refine g_ifeq 35 41 ck rfl rfl rfl hs4 (fun hc => ?_) (fun hc => ?_)
      · replace h := ite_ht h hc
        refine g_al 42 ck rfl rfl rfl ?_
        refine g_il 43 ck rfl rfl rfl ?_
        refine g_al 44 ck rfl rfl rfl ?_
        refine r_gfr 47 204 ck rfl rfl rfl (by decide) ?_
        refine g_cvv (as := [_, _]) (rest := []) 50 ck rfl rfl rfl rfl rfl rfl rfl rfl rfl rfl (Nat.le_of_ble_eq_true rfl) (wC.mono h (fun _ σ'''' h => ?_))
        refine g_al 51 ck rfl rfl rfl ?_
        refine g_al 52 ck rfl rfl rfl ?_
        refine r_gfr 55 204 ck rfl rfl rfl (by decide) ?_
        refine g_cvv (as := [_]) (rest := []) 58 ck rfl rfl rfl rfl rfl rfl rfl rfl rfl rfl (Nat.le_of_ble_eq_true rfl) (wC.mono h (fun _ σ''''' h => ?_))
        refine g_al 59 ck rfl rfl rfl ?_
        refine g_al 60 ck rfl rfl rfl ?_
        refine r_gfr 63 204 ck rfl rfl rfl (by decide) ?_
        refine g_cvv (as := [_]) (rest := []) 66 ck rfl rfl rfl rfl rfl rfl rfl rfl rfl rfl (Nat.le_of_ble_eq_true rfl) (wC.mono h (fun _ σ'''''' h => ?_))
        refine g_al 67 ck rfl rfl rfl ?_
        refine g_il 68 ck rfl rfl rfl ?_
        refine g_cvi (as := [_]) (rest := []) 71 ck rfl rfl rfl rfl rfl rfl (by decide) rfl rfl rfl rfl (Nat.le_of_ble_eq_true rfl) (wC.mono h (fun y' σ''''''' h => ?_))
        exact g_ret ck rfl rfl (Or.inl (by decide)) h
      · replace h := ite_hf h hc
        refine g_al 36 ck rfl rfl rfl ?_
        refine g_ic 37 ck rfl rfl ?_
        refine g_cvi (as := [_]) (rest := []) 40 ck rfl rfl rfl rfl rfl rfl (by decide) rfl rfl rfl rfl (Nat.le_of_ble_eq_true rfl) (s168  ?_)
        replace h := h _ rfl
        exact g_ret ck rfl rfl (Or.inl (by decide)) h
    · replace h := ite_hf h (b2i_f (Classical.not_not.mp hc))
      refine g_al 22 ck rfl rfl rfl ?_
      refine g_ic 23 ck rfl rfl ?_
      refine g_cvi (as := [_]) (rest := []) 26 ck rfl rfl rfl rfl rfl rfl (by decide) rfl rfl rfl rfl (Nat.le_of_ble_eq_true rfl) (s168  ?_)
      replace h := h _ rfl
      exact g_ret ck rfl rfl (Or.inl (by decide)) h
/-! 271 TermDeskModel.freeRegister(I)I -/
def w271_2 (B : va_E) (σ : l2_m) (x1 : Int) (x2 : Int)  (K : Int → l2_m → Prop) : Prop := lz1 (fun X2 x2 => (rg x2 ∧ (if x2 < 8 then ((rg x1 ∧ 0 ≤ x2 ∧ x2 < 32) ∧ (((((x1 / 2 ^ (Int.toNat x2)) % 2) = 0) → x2 < 8 ∧ (∀ j : Int, 0 ≤ j → j < 4096 → rg (σ 187 (4096 * x2 + j)))) ∧ (if (((x1 / 2 ^ (Int.toNat x2)) % 2) = 0) ∧ ((cnt (fun k => σ 187 (4096 * x2 + k)) 4096) = 0) then K x2 σ else X2 (x2 + 1)))) else K (-1) σ))) x2
theorem o271_2 {B : va_E} {σ : l2_m} {x1 : Int} {x2 : Int}   {K : Int → l2_m → Prop}    (h : w271_2 B σ x1 x2  K) : wW B 271 2 [vr 186, vi x1, vi x2] [] σ K := by
  have ck : pm_code 271 = pc_271 := rfl
  unfold w271_2 at h
  refine h (fun x2 => wW B 271 2 [vr 186, vi x1, vi x2] [] σ K) ?_
  clear h
  intro x2 h
  replace h := (And.imp_right (ite_mp (And.imp_right mg_3s) id)) h
  obtain ⟨hs1, h⟩ := h
  refine g_il 3 ck rfl rfl rfl ?_
  refine g_ic 5 ck rfl rfl ?_
  refine g_icge 8 32 ck rfl rfl rfl hs1 (by decide) (fun hc => ?_) (fun hc => ?_)
  · replace h := ite_hf h (Int.not_lt.mpr hc)
    refine g_ic 33 ck rfl rfl ?_
    exact g_ret ck rfl rfl (Or.inl (by decide)) h
  · replace h := ite_ht h (Int.not_le.mp hc)
    obtain ⟨⟨hs2, hs3, hs4⟩, h⟩ := h
    refine g_il 9 ck rfl rfl rfl ?_
    refine g_il 10 ck rfl rfl rfl ?_
    refine g_shr 11 ck rfl rfl hs2 hs3 hs4 ?_
    refine g_ic 12 ck rfl rfl ?_
    refine r_andk 2 1 13 ck rfl rfl (by decide) (by decide) (by decide) ?_
    refine g_ifne 16 26 ck rfl rfl rfl (rg_mod _ (by decide) (by decide)) (fun hc => ?_) (fun hc => ?_)
    · replace h := ite_hf h hc
      refine r_ii 29 ck rfl rfl rfl rfl ?_
      refine g_goto 2 ck rfl rfl ?_
      exact h
    · replace h := ite_ht h (Classical.not_not.mp hc)
      obtain ⟨⟨hs5, hs6⟩, h⟩ := h
      refine g_al 17 ck rfl rfl rfl ?_
      refine g_il 18 ck rfl rfl rfl ?_
      refine g_cvi (as := [_]) (rest := []) 21 ck rfl rfl rfl rfl rfl rfl (by decide) rfl rfl rfl rfl (Nat.le_of_ble_eq_true rfl) (s203 hs3 hs5 hs6 ?_)
      refine g_ifeq 24 26 ck rfl rfl rfl rg_b2i (fun hc => ?_) (fun hc => ?_)
      · replace h := ite_hf h (b2i_f hc)
        refine r_ii 29 ck rfl rfl rfl rfl ?_
        refine g_goto 2 ck rfl rfl ?_
        exact h
      · replace h := ite_ht h (b2i_t hc)
        refine g_il 25 ck rfl rfl rfl ?_
        exact g_ret ck rfl rfl (Or.inl (by decide)) h
def w271 (B : va_E) (σ : l2_m) (x1 : Int) (K : Int → l2_m → Prop) : Prop := w271_2 B σ x1 0 K
theorem o271 {B : va_E} {σ : l2_m} {x1 : Int} {K : Int → l2_m → Prop}   (h : w271 B σ x1  K) : wC B 271 [vr 186, vi x1] σ K := by
  have ck : pm_code 271 = pc_271 := rfl
  unfold w271 at h
  show wW B 271 0 [vr 186, vi x1, pm_un] [] σ K
  refine g_ic 1 ck rfl rfl ?_
  refine r_is 2 ck rfl rfl rfl rfl ?_
  exact o271_2  h
/-! 272 TermDeskModel.complete(I)I -/
def w272_88 (B : va_E) (σ : l2_m) (x3 : Int) (x5 : Int)  (K : Int → l2_m → Prop) : Prop := lz2 (fun X88 x5 σ => (rg x5 ∧ (if x5 < 4096 then ((0 ≤ x5 ∧ x5 < 4096) ∧ ∀ σ'''' : l2_m, σ'''' = l2_u σ 192 x5 (σ 194 x5) → X88 (x5 + 1) σ'''') else (∀ σ' : l2_m, σ' = l2_u σ 186 29 1 → (wC B 240 [vr 186, vi x3] σ' (fun y σ'' => (∀ σ''' : l2_m, σ''' = trr σ'' 0 → K x3 σ'''))))))) x5 σ
theorem o272_88 {B : va_E} {σ : l2_m} {x3 : Int} {x5 : Int} {u1 : Value} {u2 : Value} {u4 : Value}  {K : Int → l2_m → Prop}  (hu1 : (u1.category == 1) = true) (hu2 : (u2.category == 1) = true) (hu4 : (u4.category == 1) = true)  (h : w272_88 B σ x3 x5  K) : wW B 272 88 [vr 186, u1, u2, vi x3, u4, vi x5] [] σ K := by
  have ck : pm_code 272 = pc_272 := rfl
  unfold w272_88 at h
  refine h (fun x5 σ => ∀ u1 : Value, (u1.category == 1) = true → ∀ u2 : Value, (u2.category == 1) = true → ∀ u4 : Value, (u4.category == 1) = true → wW B 272 88 [vr 186, u1, u2, vi x3, u4, vi x5] [] σ K) ?_ u1 hu1 u2 hu2 u4 hu4
  clear h
  intro x5 σ h u1 hu1 u2 hu2 u4 hu4
  obtain ⟨hs1, h⟩ := h
  refine g_il 90 ck rfl rfl rfl ?_
  refine g_ic 93 ck rfl rfl ?_
  refine g_icge 96 116 ck rfl rfl rfl hs1 (by decide) (fun hc => ?_) (fun hc => ?_)
  · replace h := ite_hf h (Int.not_lt.mpr hc)
    refine g_al 117 ck rfl rfl rfl ?_
    refine g_ic 118 ck rfl rfl ?_
    refine g_pfb 121 ck rfl rfl rfl 29 rfl (Or.inr rfl) ?_
    replace h := h _ rfl
    refine g_al 122 ck rfl rfl rfl ?_
    refine g_il 123 ck rfl rfl rfl ?_
    refine g_cvi (as := [_]) (rest := []) 126 ck rfl rfl rfl rfl rfl rfl (by decide) rfl rfl rfl rfl (Nat.le_of_ble_eq_true rfl) (wC.mono h (fun y σ'' h => ?_))
    refine g_pop 127 ck rfl rfl rfl ?_
    refine g_al 128 ck rfl rfl rfl ?_
    refine g_il 129 ck rfl rfl rfl ?_
    refine g_cvi (as := [_]) (rest := []) 132 ck rfl rfl rfl rfl rfl rfl (by decide) rfl rfl rfl rfl (Nat.le_of_ble_eq_true rfl) (s169  ?_)
    replace h := h _ rfl
    exact g_ret ck rfl rfl (Or.inl (by decide)) h
  · replace h := ite_ht h (Int.not_le.mp hc)
    obtain ⟨⟨hs2, hs3⟩, h⟩ := h
    refine g_al 97 ck rfl rfl rfl ?_
    refine r_gfr 100 192 ck rfl rfl rfl (by decide) ?_
    refine g_il 102 ck rfl rfl rfl ?_
    refine g_al 103 ck rfl rfl rfl ?_
    refine r_gfr 106 194 ck rfl rfl rfl (by decide) ?_
    refine g_il 108 ck rfl rfl rfl ?_
    refine g_ial (m := 4096) 109 ck rfl rfl rfl hs2 hs3 ?_
    refine g_ias (m := 4096) 110 ck rfl rfl rfl hs2 hs3 ?_
    replace h := h _ rfl
    refine r_ii 113 ck rfl rfl hu4 rfl ?_
    refine g_goto 88 ck rfl rfl ?_
    exact h _ hu1 _ hu2 _ hu4
def w272 (B : va_E) (σ : l2_m) (x1 : Int) (K : Int → l2_m → Prop) : Prop := (∀ σ' : l2_m, σ' = l2_u σ 186 0 0 → rg (σ' 186 14) ∧ (if (σ' 186 14) = 0 then (∀ σ''''''''' : l2_m, σ''''''''' = trr σ' 1 → K (-1) σ''''''''') else (wC B 229 [vr 186, vi x1] σ' (fun y σ'' => (rg y ∧ (if 0 < y then (∀ σ'''''''' : l2_m, σ'''''''' = trr σ'' y → K (-1) σ'''''''') else (wC B 271 [vr 186, vi x1] σ'' (fun y' σ''' => (rg y' ∧ (if y' = (-1) then (∀ σ''''''' : l2_m, σ''''''' = trr σ''' 5 → K (-1) σ''''''') else (wC B 237 [vr 186, vi x1, vi 0] σ''' (fun y'' σ'''' => (rg y'' ∧ (if y'' = (-3) then (∀ σ'''''' : l2_m, σ'''''' = trr σ'''' 3 → K (-1) σ'''''') else (if y'' = (-1) then (∀ σ''''' : l2_m, σ''''' = trr σ'''' 0 → K (-2) σ''''') else w272_88 B σ'''' y' 0 K)))))))))))))))
theorem o272 {B : va_E} {σ : l2_m} {x1 : Int} {K : Int → l2_m → Prop}   (h : w272 B σ x1  K) : wC B 272 [vr 186, vi x1] σ K := by
  have ck : pm_code 272 = pc_272 := rfl
  unfold w272 at h
  show wW B 272 0 [vr 186, vi x1, pm_un, pm_un, pm_un, pm_un] [] σ K
  refine g_al 1 ck rfl rfl rfl ?_
  refine g_ic 2 ck rfl rfl ?_
  refine g_pfi 5 ck rfl rfl rfl 0 rfl rfl ?_
  replace h := h _ rfl
  obtain ⟨hs1, h⟩ := h
  refine g_al 6 ck rfl rfl rfl ?_
  refine r_gfi 9 14 ck rfl rfl rfl rfl ?_
  refine g_ifne 12 18 ck rfl rfl rfl hs1 (fun hc => ?_) (fun hc => ?_)
  · replace h := ite_hf h hc
    refine g_al 19 ck rfl rfl rfl ?_
    refine g_il 20 ck rfl rfl rfl ?_
    refine g_cvi (as := [_]) (rest := []) 23 ck rfl rfl rfl rfl rfl rfl (by decide) rfl rfl rfl rfl (Nat.le_of_ble_eq_true rfl) (wC.mono h (fun y σ'' h => ?_))
    obtain ⟨hs2, h⟩ := h
    refine r_is 24 ck rfl rfl rfl rfl ?_
    refine g_il 25 ck rfl rfl rfl ?_
    refine g_ifle 28 34 ck rfl rfl rfl hs2 (fun hc => ?_) (fun hc => ?_)
    · replace h := ite_hf h (Int.not_lt.mpr hc)
      refine g_al 35 ck rfl rfl rfl ?_
      refine g_il 36 ck rfl rfl rfl ?_
      refine g_cvi (as := [_]) (rest := []) 39 ck rfl rfl rfl rfl rfl rfl (by decide) rfl rfl rfl rfl (Nat.le_of_ble_eq_true rfl) (wC.mono h (fun y' σ''' h => ?_))
      obtain ⟨hs3, h⟩ := h
      refine r_is 40 ck rfl rfl rfl rfl ?_
      refine g_il 41 ck rfl rfl rfl ?_
      refine g_ic 42 ck rfl rfl ?_
      refine g_icne 45 51 ck rfl rfl rfl hs3 (by decide) (fun hc => ?_) (fun hc => ?_)
      · replace h := ite_hf h hc
        refine g_al 52 ck rfl rfl rfl ?_
        refine g_il 53 ck rfl rfl rfl ?_
        refine g_ic 54 ck rfl rfl ?_
        refine g_cvi (as := [_, _]) (rest := []) 57 ck rfl rfl rfl rfl rfl rfl (by decide) rfl rfl rfl rfl (Nat.le_of_ble_eq_true rfl) (wC.mono h (fun y'' σ'''' h => ?_))
        obtain ⟨hs4, h⟩ := h
        refine r_is 59 ck rfl rfl rfl rfl ?_
        refine g_il 61 ck rfl rfl rfl ?_
        refine g_ic 63 ck rfl rfl ?_
        refine g_icne 66 72 ck rfl rfl rfl hs4 (by decide) (fun hc => ?_) (fun hc => ?_)
        · replace h := ite_hf h hc
          refine g_il 74 ck rfl rfl rfl ?_
          refine g_ic 75 ck rfl rfl ?_
          refine g_icne 78 85 ck rfl rfl rfl hs4 (by decide) (fun hc => ?_) (fun hc => ?_)
          · replace h := ite_hf h hc
            refine g_ic 86 ck rfl rfl ?_
            refine r_is 88 ck rfl rfl rfl rfl ?_
            exact o272_88 rfl rfl rfl h
          · replace h := ite_ht h (Classical.not_not.mp hc)
            refine g_al 79 ck rfl rfl rfl ?_
            refine g_ic 81 ck rfl rfl ?_
            refine g_cvi (as := [_]) (rest := []) 84 ck rfl rfl rfl rfl rfl rfl (by decide) rfl rfl rfl rfl (Nat.le_of_ble_eq_true rfl) (s169  ?_)
            replace h := h _ rfl
            exact g_ret ck rfl rfl (Or.inl (by decide)) h
        · replace h := ite_ht h (Classical.not_not.mp hc)
          refine g_al 67 ck rfl rfl rfl ?_
          refine g_ic 68 ck rfl rfl ?_
          refine g_cvi (as := [_]) (rest := []) 71 ck rfl rfl rfl rfl rfl rfl (by decide) rfl rfl rfl rfl (Nat.le_of_ble_eq_true rfl) (s168  ?_)
          replace h := h _ rfl
          exact g_ret ck rfl rfl (Or.inl (by decide)) h
      · replace h := ite_ht h (Classical.not_not.mp hc)
        refine g_al 46 ck rfl rfl rfl ?_
        refine g_ic 47 ck rfl rfl ?_
        refine g_cvi (as := [_]) (rest := []) 50 ck rfl rfl rfl rfl rfl rfl (by decide) rfl rfl rfl rfl (Nat.le_of_ble_eq_true rfl) (s168  ?_)
        replace h := h _ rfl
        exact g_ret ck rfl rfl (Or.inl (by decide)) h
    · replace h := ite_ht h (Int.not_le.mp hc)
      refine g_al 29 ck rfl rfl rfl ?_
      refine g_il 30 ck rfl rfl rfl ?_
      refine g_cvi (as := [_]) (rest := []) 33 ck rfl rfl rfl rfl rfl rfl (by decide) rfl rfl rfl rfl (Nat.le_of_ble_eq_true rfl) (s168  ?_)
      replace h := h _ rfl
      exact g_ret ck rfl rfl (Or.inl (by decide)) h
  · replace h := ite_ht h (Classical.not_not.mp hc)
    refine g_al 13 ck rfl rfl rfl ?_
    refine g_ic 14 ck rfl rfl ?_
    refine g_cvi (as := [_]) (rest := []) 17 ck rfl rfl rfl rfl rfl rfl (by decide) rfl rfl rfl rfl (Nat.le_of_ble_eq_true rfl) (s168  ?_)
    replace h := h _ rfl
    exact g_ret ck rfl rfl (Or.inl (by decide)) h
/-! 273 TermDeskModel.order(III)I -/
def w273_62 (B : va_E) (σ : l2_m) (x1 : Int) (x2 : Int) (x3 : Int) (z0 : Int)  (K : Int → l2_m → Prop) : Prop := (wC B 239 [vr 186, vi (-1)] σ (fun _ σ' => (∀ σ'' : l2_m, σ'' = l2_u σ' 186 6 x1 → ∀ σ''' : l2_m, σ''' = l2_u σ'' 186 7 x2 → ∀ σ'''' : l2_m, σ'''' = l2_u σ''' 186 8 x3 → (wC B 195 [vr 186] σ'''' (fun _ σ''''' => (rg z0 ∧ (if z0 = 0 then (∀ σ'''''' : l2_m, σ'''''' = trr σ''''' 0 → K 1 σ'''''') else (∀ σ''''''' : l2_m, σ''''''' = trr σ''''' 0 → K 0 σ'''''''))))))))
theorem o273_62 {B : va_E} {σ : l2_m} {x1 : Int} {x2 : Int} {x3 : Int} {z0 : Int} {u4 : Value}  {K : Int → l2_m → Prop}  (hu4 : (u4.category == 1) = true)  (h : w273_62 B σ x1 x2 x3 z0  K) : wW B 273 62 [vr 186, vi x1, vi x2, vi x3, u4] [vi z0] σ K := by
  have ck : pm_code 273 = pc_273 := rfl
  unfold w273_62 at h
  refine r_is 64 ck rfl rfl rfl rfl ?_
  refine g_al 65 ck rfl rfl rfl ?_
  refine g_ic 66 ck rfl rfl ?_
  refine g_cvv (as := [_]) (rest := []) 69 ck rfl rfl rfl rfl rfl rfl rfl rfl rfl rfl (Nat.le_of_ble_eq_true rfl) (wC.mono h (fun _ σ' h => ?_))
  refine g_al 70 ck rfl rfl rfl ?_
  refine g_il 71 ck rfl rfl rfl ?_
  refine g_pfi 74 ck rfl rfl rfl 6 rfl rfl ?_
  replace h := h _ rfl
  refine g_al 75 ck rfl rfl rfl ?_
  refine g_il 76 ck rfl rfl rfl ?_
  refine g_pfi 79 ck rfl rfl rfl 7 rfl rfl ?_
  replace h := h _ rfl
  refine g_al 80 ck rfl rfl rfl ?_
  refine g_il 81 ck rfl rfl rfl ?_
  refine g_pfi 84 ck rfl rfl rfl 8 rfl rfl ?_
  replace h := h _ rfl
  refine g_al 85 ck rfl rfl rfl ?_
  refine g_cvv (as := []) (rest := []) 88 ck rfl rfl rfl rfl rfl rfl rfl rfl rfl rfl (Nat.le_of_ble_eq_true rfl) (wC.mono h (fun _ σ''''' h => ?_))
  obtain ⟨hs1, h⟩ := h
  refine g_al 89 ck rfl rfl rfl ?_
  refine g_il 91 ck rfl rfl rfl ?_
  refine g_ifeq 94 98 ck rfl rfl rfl hs1 (fun hc => ?_) (fun hc => ?_)
  · replace h := ite_ht h hc
    refine g_ic 99 ck rfl rfl ?_
    refine g_cvi (as := [_]) (rest := []) 102 ck rfl rfl rfl rfl rfl rfl (by decide) rfl rfl rfl rfl (Nat.le_of_ble_eq_true rfl) (s169  ?_)
    replace h := h _ rfl
    exact g_ret ck rfl rfl (Or.inl (by decide)) h
  · replace h := ite_hf h hc
    refine g_ic 95 ck rfl rfl ?_
    refine g_goto 99 ck rfl rfl ?_
    refine g_cvi (as := [_]) (rest := []) 102 ck rfl rfl rfl rfl rfl rfl (by decide) rfl rfl rfl rfl (Nat.le_of_ble_eq_true rfl) (s169  ?_)
    replace h := h _ rfl
    exact g_ret ck rfl rfl (Or.inl (by decide)) h
def w273_61 (B : va_E) (σ : l2_m) (x1 : Int) (x2 : Int) (x3 : Int)  (K : Int → l2_m → Prop) : Prop := w273_62 B σ x1 x2 x3 0 K
theorem o273_61 {B : va_E} {σ : l2_m} {x1 : Int} {x2 : Int} {x3 : Int} {u4 : Value}  {K : Int → l2_m → Prop}  (hu4 : (u4.category == 1) = true)  (h : w273_61 B σ x1 x2 x3  K) : wW B 273 61 [vr 186, vi x1, vi x2, vi x3, u4] [] σ K := by
  have ck : pm_code 273 = pc_273 := rfl
  unfold w273_61 at h
  refine g_ic 62 ck rfl rfl ?_
  exact o273_62 hu4 h
def w273 (B : va_E) (σ : l2_m) (x1 : Int) (x2 : Int) (x3 : Int) (K : Int → l2_m → Prop) : Prop := (∀ σ' : l2_m, σ' = l2_u σ 186 0 0 → rg (σ' 186 14) ∧ (if (σ' 186 14) = 0 then (∀ σ''' : l2_m, σ''' = trr σ' 1 → K (-1) σ''') else ((rg x1 ∧ rg x2 ∧ rg x3) ∧ (if isOr x1 x2 x3 then (rg (σ' 186 6) ∧ (if (σ' 186 6) = x1 then (rg (σ' 186 7) ∧ ((((σ' 186 7) = x2) → rg (σ' 186 8)) ∧ (if ((σ' 186 7) = x2) ∧ ((σ' 186 8) = x3) then w273_62 B σ' x1 x2 x3 1 K else w273_61 B σ' x1 x2 x3 K))) else w273_61 B σ' x1 x2 x3 K)) else (∀ σ'' : l2_m, σ'' = trr σ' 2 → K (-1) σ'')))))
theorem o273 {B : va_E} {σ : l2_m} {x1 : Int} {x2 : Int} {x3 : Int} {K : Int → l2_m → Prop}   (h : w273 B σ x1 x2 x3  K) : wC B 273 [vr 186, vi x1, vi x2, vi x3] σ K := by
  have ck : pm_code 273 = pc_273 := rfl
  unfold w273 at h
  show wW B 273 0 [vr 186, vi x1, vi x2, vi x3, pm_un] [] σ K
  replace h := (fun h x e => (And.imp_right (ite_mp id (And.imp_right (ite_mp (And.imp_right (ite_mp (And.imp_right mg_3s) id)) id)))) (h x e)) h
  refine g_al 1 ck rfl rfl rfl ?_
  refine g_ic 2 ck rfl rfl ?_
  refine g_pfi 5 ck rfl rfl rfl 0 rfl rfl ?_
  replace h := h _ rfl
  obtain ⟨hs1, h⟩ := h
  refine g_al 6 ck rfl rfl rfl ?_
  refine r_gfi 9 14 ck rfl rfl rfl rfl ?_
  refine g_ifne 12 18 ck rfl rfl rfl hs1 (fun hc => ?_) (fun hc => ?_)
  · replace h := ite_hf h hc
    obtain ⟨⟨hs2, hs3, hs4⟩, h⟩ := h
    refine g_il 19 ck rfl rfl rfl ?_
    refine g_il 20 ck rfl rfl rfl ?_
    refine g_il 21 ck rfl rfl rfl ?_
    refine g_csi (as := [_, _, _]) (rest := []) 24 ck rfl rfl rfl rfl rfl (by decide) rfl rfl rfl (Nat.le_of_ble_eq_true rfl) (s220 hs2 hs3 hs4 ?_)
    refine g_ifne 27 33 ck rfl rfl rfl rg_b2i (fun hc => ?_) (fun hc => ?_)
    · replace h := ite_ht h (b2i_t hc)
      obtain ⟨hs5, h⟩ := h
      refine g_al 34 ck rfl rfl rfl ?_
      refine r_gfi 37 6 ck rfl rfl rfl rfl ?_
      refine g_il 38 ck rfl rfl rfl ?_
      refine g_icne 41 61 ck rfl rfl rfl hs5 hs2 (fun hc => ?_) (fun hc => ?_)
      · replace h := ite_hf h hc
        exact o273_61 rfl h
      · replace h := ite_ht h (Classical.not_not.mp hc)
        obtain ⟨hs6, h⟩ := h
        refine g_al 42 ck rfl rfl rfl ?_
        refine r_gfi 45 7 ck rfl rfl rfl rfl ?_
        refine g_il 46 ck rfl rfl rfl ?_
        refine g_icne 49 61 ck rfl rfl rfl hs6 hs3 (fun hc => ?_) (fun hc => ?_)
        · replace h := ite_hf h hc
          exact o273_61 rfl h
        · replace h := ite_ht h (Classical.not_not.mp hc)
          obtain ⟨hs7, h⟩ := h
          refine g_al 50 ck rfl rfl rfl ?_
          refine r_gfi 53 8 ck rfl rfl rfl rfl ?_
          refine g_il 54 ck rfl rfl rfl ?_
          refine g_icne 57 61 ck rfl rfl rfl hs7 hs4 (fun hc => ?_) (fun hc => ?_)
          · replace h := ite_hf h hc
            exact o273_61 rfl h
          · replace h := ite_ht h (Classical.not_not.mp hc)
            refine g_ic 58 ck rfl rfl ?_
            refine g_goto 62 ck rfl rfl ?_
            exact o273_62 rfl h
    · replace h := ite_hf h (b2i_f (Classical.not_not.mp hc))
      refine g_al 28 ck rfl rfl rfl ?_
      refine g_ic 29 ck rfl rfl ?_
      refine g_cvi (as := [_]) (rest := []) 32 ck rfl rfl rfl rfl rfl rfl (by decide) rfl rfl rfl rfl (Nat.le_of_ble_eq_true rfl) (s168  ?_)
      replace h := h _ rfl
      exact g_ret ck rfl rfl (Or.inl (by decide)) h
  · replace h := ite_ht h (Classical.not_not.mp hc)
    refine g_al 13 ck rfl rfl rfl ?_
    refine g_ic 14 ck rfl rfl ?_
    refine g_cvi (as := [_]) (rest := []) 17 ck rfl rfl rfl rfl rfl rfl (by decide) rfl rfl rfl rfl (Nat.le_of_ble_eq_true rfl) (s168  ?_)
    replace h := h _ rfl
    exact g_ret ck rfl rfl (Or.inl (by decide)) h
/-! 274 TermDeskModel.undo()Z -/
def w274_94 (B : va_E) (σ : l2_m)   (K : Int → l2_m → Prop) : Prop := ((0 ≤ (σ 186 45) ∧ (σ 186 45) < 8) ∧ ∀ σ' : l2_m, σ' = l2_u σ 186 6 (σ 201 (σ 186 45)) → (0 ≤ (σ' 186 45) ∧ (σ' 186 45) < 8) ∧ ∀ σ'' : l2_m, σ'' = l2_u σ' 186 7 (σ' 202 (σ' 186 45)) → (0 ≤ (σ'' 186 45) ∧ (σ'' 186 45) < 8) ∧ ∀ σ''' : l2_m, σ''' = l2_u σ'' 186 8 (σ'' 203 (σ'' 186 45)) → (wC B 195 [vr 186] σ''' (fun _ σ'''' => (∀ σ''''' : l2_m, σ''''' = trr σ'''' 0 → K 1 σ'''''))))
theorem o274_94 {B : va_E} {σ : l2_m}  {u1 : Value} {u2 : Value}  {K : Int → l2_m → Prop}  (hu1 : (u1.category == 1) = true) (hu2 : (u2.category == 1) = true)  (h : w274_94 B σ   K) : wW B 274 94 [vr 186, u1, u2] [] σ K := by
  have ck : pm_code 274 = pc_274 := rfl
  unfold w274_94 at h
  obtain ⟨⟨hs1, hs2⟩, h⟩ := h
  refine g_al 95 ck rfl rfl rfl ?_
  refine g_al 96 ck rfl rfl rfl ?_
  refine r_gfr 99 201 ck rfl rfl rfl (by decide) ?_
  refine g_al 100 ck rfl rfl rfl ?_
  refine r_gfi 103 45 ck rfl rfl rfl rfl ?_
  refine g_ial (m := 8) 104 ck rfl rfl rfl hs1 hs2 ?_
  refine g_pfi 107 ck rfl rfl rfl 6 rfl rfl ?_
  replace h := h _ rfl
  obtain ⟨⟨hs3, hs4⟩, h⟩ := h
  refine g_al 108 ck rfl rfl rfl ?_
  refine g_al 109 ck rfl rfl rfl ?_
  refine r_gfr 112 202 ck rfl rfl rfl (by decide) ?_
  refine g_al 113 ck rfl rfl rfl ?_
  refine r_gfi 116 45 ck rfl rfl rfl rfl ?_
  refine g_ial (m := 8) 117 ck rfl rfl rfl hs3 hs4 ?_
  refine g_pfi 120 ck rfl rfl rfl 7 rfl rfl ?_
  replace h := h _ rfl
  obtain ⟨⟨hs5, hs6⟩, h⟩ := h
  refine g_al 121 ck rfl rfl rfl ?_
  refine g_al 122 ck rfl rfl rfl ?_
  refine r_gfr 125 203 ck rfl rfl rfl (by decide) ?_
  refine g_al 126 ck rfl rfl rfl ?_
  refine r_gfi 129 45 ck rfl rfl rfl rfl ?_
  refine g_ial (m := 8) 130 ck rfl rfl rfl hs5 hs6 ?_
  refine g_pfi 133 ck rfl rfl rfl 8 rfl rfl ?_
  replace h := h _ rfl
  refine g_al 134 ck rfl rfl rfl ?_
  refine g_cvv (as := []) (rest := []) 137 ck rfl rfl rfl rfl rfl rfl rfl rfl rfl rfl (Nat.le_of_ble_eq_true rfl) (wC.mono h (fun _ σ'''' h => ?_))
  refine g_al 138 ck rfl rfl rfl ?_
  refine g_ic 139 ck rfl rfl ?_
  refine g_cvi (as := [_]) (rest := []) 142 ck rfl rfl rfl rfl rfl rfl (by decide) rfl rfl rfl rfl (Nat.le_of_ble_eq_true rfl) (s169  ?_)
  replace h := h _ rfl
  refine g_pop 143 ck rfl rfl rfl ?_
  refine g_ic 144 ck rfl rfl ?_
  exact g_retb ck rfl rfl (Or.inr rfl) h
def w274_49 (B : va_E) (σ : l2_m) (x1 : Int) (x2 : Int)  (K : Int → l2_m → Prop) : Prop := lz2 (fun X49 x2 σ => (rg x1 ∧ ((¬ x1 = (-1) → rg x2) ∧ (if x1 = (-1) ∨ ¬ (x2 < 4096) then w274_94 B σ K else ((0 ≤ ((4096 * (σ 186 45)) + x2) ∧ ((4096 * (σ 186 45)) + x2) < 32768 ∧ 0 ≤ ((4096 * x1) + x2) ∧ ((4096 * x1) + x2) < 32768) ∧ ∀ σ' : l2_m, σ' = l2_u σ 187 ((4096 * x1) + x2) (σ 199 ((4096 * (σ 186 45)) + x2)) → X49 (x2 + 1) σ'))))) x2 σ
theorem o274_49 {B : va_E} {σ : l2_m} {x1 : Int} {x2 : Int}   {K : Int → l2_m → Prop}    (h : w274_49 B σ x1 x2  K) : wW B 274 49 [vr 186, vi x1, vi x2] [] σ K := by
  have ck : pm_code 274 = pc_274 := rfl
  unfold w274_49 at h
  refine h (fun x2 σ => wW B 274 49 [vr 186, vi x1, vi x2] [] σ K) ?_
  clear h
  intro x2 σ h
  replace h := (And.imp_right mg_2s) h
  obtain ⟨hs1, h⟩ := h
  refine g_il 50 ck rfl rfl rfl ?_
  refine g_ic 51 ck rfl rfl ?_
  refine g_iceq 54 94 ck rfl rfl rfl hs1 (by decide) (fun hc => ?_) (fun hc => ?_)
  · replace h := ite_ht h hc
    exact o274_94 rfl rfl h
  · replace h := ite_hf h hc
    obtain ⟨hs2, h⟩ := h
    refine g_il 55 ck rfl rfl rfl ?_
    refine g_ic 58 ck rfl rfl ?_
    refine g_icge 61 94 ck rfl rfl rfl hs2 (by decide) (fun hc => ?_) (fun hc => ?_)
    · replace h := ite_hf h (Int.not_lt.mpr hc)
      exact o274_94 rfl rfl h
    · replace h := ite_ht h (Int.not_le.mp hc)
      obtain ⟨⟨hs3, hs4, hs5, hs6⟩, h⟩ := h
      refine g_al 62 ck rfl rfl rfl ?_
      refine r_gfr 65 187 ck rfl rfl rfl (by decide) ?_
      refine g_ic 68 ck rfl rfl ?_
      refine g_il 69 ck rfl rfl rfl ?_
      refine g_mul 70 ck rfl rfl ?_
      refine g_il 71 ck rfl rfl rfl ?_
      refine g_add 72 ck rfl rfl ?_
      refine g_al 73 ck rfl rfl rfl ?_
      refine r_gfr 76 199 ck rfl rfl rfl (by decide) ?_
      refine g_ic 79 ck rfl rfl ?_
      refine g_al 80 ck rfl rfl rfl ?_
      refine r_gfi 83 45 ck rfl rfl rfl rfl ?_
      refine g_mul 84 ck rfl rfl ?_
      refine g_il 85 ck rfl rfl rfl ?_
      refine g_add 86 ck rfl rfl ?_
      refine g_ial (m := 32768) 87 ck rfl rfl rfl hs3 hs4 ?_
      refine g_ias (m := 32768) 88 ck rfl rfl rfl hs5 hs6 ?_
      replace h := h _ rfl
      refine r_ii 91 ck rfl rfl rfl rfl ?_
      refine g_goto 49 ck rfl rfl ?_
      exact h
def w274 (B : va_E) (σ : l2_m)  (K : Int → l2_m → Prop) : Prop := (∀ σ' : l2_m, σ' = l2_u σ 186 0 0 → rg (σ' 186 14) ∧ (if (σ' 186 14) = 0 then (∀ σ'' : l2_m, σ'' = trr σ' 1 → K 0 σ'') else (rg (σ' 186 45) ∧ (if (σ' 186 45) = 0 then (∀ σ'''' : l2_m, σ'''' = trr σ' 1 → K 0 σ'''') else (∀ σ''' : l2_m, σ''' = l2_u σ' 186 45 ((σ' 186 45) - 1) → (0 ≤ (σ''' 186 45) ∧ (σ''' 186 45) < 8) ∧ ∀ x1 : Int, x1 = (σ''' 200 (σ''' 186 45)) → w274_49 B σ''' x1 0 K)))))
theorem o274 {B : va_E} {σ : l2_m}  {K : Int → l2_m → Prop}   (h : w274 B σ   K) : wC B 274 [vr 186] σ K := by
  have ck : pm_code 274 = pc_274 := rfl
  unfold w274 at h
  show wW B 274 0 [vr 186, pm_un, pm_un] [] σ K
  refine g_al 1 ck rfl rfl rfl ?_
  refine g_ic 2 ck rfl rfl ?_
  refine g_pfi 5 ck rfl rfl rfl 0 rfl rfl ?_
  replace h := h _ rfl
  obtain ⟨hs1, h⟩ := h
  refine g_al 6 ck rfl rfl rfl ?_
  refine r_gfi 9 14 ck rfl rfl rfl rfl ?_
  refine g_ifeq 12 19 ck rfl rfl rfl hs1 (fun hc => ?_) (fun hc => ?_)
  · replace h := ite_ht h hc
    refine g_al 20 ck rfl rfl rfl ?_
    refine g_ic 21 ck rfl rfl ?_
    refine g_cvi (as := [_]) (rest := []) 24 ck rfl rfl rfl rfl rfl rfl (by decide) rfl rfl rfl rfl (Nat.le_of_ble_eq_true rfl) (s168  ?_)
    replace h := h _ rfl
    refine g_pop 25 ck rfl rfl rfl ?_
    refine g_ic 26 ck rfl rfl ?_
    exact g_retb ck rfl rfl (Or.inl rfl) h
  · replace h := ite_hf h hc
    obtain ⟨hs2, h⟩ := h
    refine g_al 13 ck rfl rfl rfl ?_
    refine r_gfi 16 45 ck rfl rfl rfl rfl ?_
    refine g_ifne 19 27 ck rfl rfl rfl hs2 (fun hc => ?_) (fun hc => ?_)
    · replace h := ite_hf h hc
      refine g_al 28 ck rfl rfl rfl ?_
      refine g_dup 29 ck rfl rfl rfl ?_
      refine r_gfi 32 45 ck rfl rfl rfl rfl ?_
      refine g_ic 33 ck rfl rfl ?_
      refine g_sub 34 ck rfl rfl ?_
      refine g_pfi 37 ck rfl rfl rfl 45 rfl rfl ?_
      replace h := h _ rfl
      obtain ⟨⟨hs3, hs4⟩, h⟩ := h
      refine g_al 38 ck rfl rfl rfl ?_
      refine r_gfr 41 200 ck rfl rfl rfl (by decide) ?_
      refine g_al 42 ck rfl rfl rfl ?_
      refine r_gfi 45 45 ck rfl rfl rfl rfl ?_
      refine g_ial (m := 8) 46 ck rfl rfl rfl hs3 hs4 ?_
      refine r_is 47 ck rfl rfl rfl rfl ?_
      replace h := h _ rfl
      refine g_ic 48 ck rfl rfl ?_
      refine r_is 49 ck rfl rfl rfl rfl ?_
      exact o274_49  h
    · replace h := ite_ht h (Classical.not_not.mp hc)
      refine g_al 20 ck rfl rfl rfl ?_
      refine g_ic 21 ck rfl rfl ?_
      refine g_cvi (as := [_]) (rest := []) 24 ck rfl rfl rfl rfl rfl rfl (by decide) rfl rfl rfl rfl (Nat.le_of_ble_eq_true rfl) (s168  ?_)
      replace h := h _ rfl
      refine g_pop 25 ck rfl rfl rfl ?_
      refine g_ic 26 ck rfl rfl ?_
      exact g_retb ck rfl rfl (Or.inl rfl) h
/-! 275 TermDeskModel.constant(I)I -/
def w275_9 (B : va_E) (σ : l2_m) (x1 : Int) (x2 : Int) (x3 : Int)  (K : Int → l2_m → Prop) : Prop := lz2 (fun X9 x2 x3 => (rg (σ 186 14) ∧ (if (σ 186 14) = 0 then (∀ σ' : l2_m, σ' = l2_u σ 186 0 1 → K 0 σ') else (rg x3 ∧ (if x3 < 8 then ((0 ≤ x3 ∧ x3 < 8 ∧ (∀ j : Int, 0 ≤ j → j < 4096 → rg (σ 187 (4096 * x3 + j))) ∧ rg (cnt (fun k => σ 187 (4096 * x3 + k)) 4096)) ∧ ((((cnt (fun k => σ 187 (4096 * x3 + k)) 4096) = 1) → rg (σ 187 (4096 * x3 + 0))) ∧ (if ((cnt (fun k => σ 187 (4096 * x3 + k)) 4096) = 1) ∧ ¬ ((σ 187 (4096 * x3 + 0)) = 0) then ((rg x2 ∧ rg x1) ∧ (if x2 = x1 then K x3 σ else X9 (x2 + 1) (x3 + 1))) else X9 x2 (x3 + 1)))) else (∀ σ'' : l2_m, σ'' = l2_u σ 186 0 1 → K 0 σ'')))))) x2 x3
theorem o275_9 {B : va_E} {σ : l2_m} {x1 : Int} {x2 : Int} {x3 : Int}   {K : Int → l2_m → Prop}    (h : w275_9 B σ x1 x2 x3  K) : wW B 275 9 [vr 186, vi x1, vi x2, vi x3] [] σ K := by
  have ck : pm_code 275 = pc_275 := rfl
  unfold w275_9 at h
  refine h (fun x2 x3 => wW B 275 9 [vr 186, vi x1, vi x2, vi x3] [] σ K) ?_
  clear h
  intro x2 x3 h
  replace h := (And.imp_right (ite_mp id (And.imp_right (ite_mp (And.imp_right mg_4s) id)))) h
  obtain ⟨hs1, h⟩ := h
  refine g_al 10 ck rfl rfl rfl ?_
  refine r_gfi 13 14 ck rfl rfl rfl rfl ?_
  refine g_ifeq 16 59 ck rfl rfl rfl hs1 (fun hc => ?_) (fun hc => ?_)
  · replace h := ite_ht h hc
    refine g_al 60 ck rfl rfl rfl ?_
    refine g_ic 61 ck rfl rfl ?_
    refine g_pfi 64 ck rfl rfl rfl 0 rfl rfl ?_
    replace h := h _ rfl
    refine g_ic 65 ck rfl rfl ?_
    exact g_ret ck rfl rfl (Or.inl (by decide)) h
  · replace h := ite_hf h hc
    obtain ⟨hs2, h⟩ := h
    refine g_il 17 ck rfl rfl rfl ?_
    refine g_ic 19 ck rfl rfl ?_
    refine g_icge 22 59 ck rfl rfl rfl hs2 (by decide) (fun hc => ?_) (fun hc => ?_)
    · replace h := ite_hf h (Int.not_lt.mpr hc)
      refine g_al 60 ck rfl rfl rfl ?_
      refine g_ic 61 ck rfl rfl ?_
      refine g_pfi 64 ck rfl rfl rfl 0 rfl rfl ?_
      replace h := h _ rfl
      refine g_ic 65 ck rfl rfl ?_
      exact g_ret ck rfl rfl (Or.inl (by decide)) h
    · replace h := ite_ht h (Int.not_le.mp hc)
      obtain ⟨⟨hs3, hs4, hs5, hs6⟩, h⟩ := h
      refine g_al 23 ck rfl rfl rfl ?_
      refine g_il 24 ck rfl rfl rfl ?_
      refine g_cvi (as := [_]) (rest := []) 27 ck rfl rfl rfl rfl rfl rfl (by decide) rfl rfl rfl rfl (Nat.le_of_ble_eq_true rfl) (s202 hs3 hs4 hs5 ?_)
      refine g_ic 28 ck rfl rfl ?_
      refine g_icne 31 53 ck rfl rfl rfl hs6 (by decide) (fun hc => ?_) (fun hc => ?_)
      · replace h := ite_hf h hc
        refine r_ii 56 ck rfl rfl rfl rfl ?_
        refine g_goto 9 ck rfl rfl ?_
        exact h
      · replace h := ite_ht h (Classical.not_not.mp hc)
        obtain ⟨hs7, h⟩ := h
        refine g_al 32 ck rfl rfl rfl ?_
        refine g_il 33 ck rfl rfl rfl ?_
        refine g_ic 34 ck rfl rfl ?_
        refine g_cvi (as := [_, _]) (rest := []) 37 ck rfl rfl rfl rfl rfl rfl (by decide) rfl rfl rfl rfl (Nat.le_of_ble_eq_true rfl) (s201 hs3 hs4 (by decide) (by decide) ?_)
        refine g_ifne 40 43 ck rfl rfl rfl hs7 (fun hc => ?_) (fun hc => ?_)
        · replace h := ite_hf h hc
          obtain ⟨⟨hs8, hs9⟩, h⟩ := h
          refine g_il 44 ck rfl rfl rfl ?_
          refine g_il 45 ck rfl rfl rfl ?_
          refine g_icne 48 50 ck rfl rfl rfl hs8 hs9 (fun hc => ?_) (fun hc => ?_)
          · replace h := ite_hf h hc
            refine r_ii 53 ck rfl rfl rfl rfl ?_
            refine r_ii 56 ck rfl rfl rfl rfl ?_
            refine g_goto 9 ck rfl rfl ?_
            exact h
          · replace h := ite_ht h (Classical.not_not.mp hc)
            refine g_il 49 ck rfl rfl rfl ?_
            exact g_ret ck rfl rfl (Or.inl (by decide)) h
        · replace h := ite_ht h (Classical.not_not.mp hc)
          refine g_goto 53 ck rfl rfl ?_
          refine r_ii 56 ck rfl rfl rfl rfl ?_
          refine g_goto 9 ck rfl rfl ?_
          exact h
def w275 (B : va_E) (σ : l2_m) (x1 : Int) (K : Int → l2_m → Prop) : Prop := (∀ σ' : l2_m, σ' = l2_u σ 186 0 0 → w275_9 B σ' x1 0 0 K)
theorem o275 {B : va_E} {σ : l2_m} {x1 : Int} {K : Int → l2_m → Prop}   (h : w275 B σ x1  K) : wC B 275 [vr 186, vi x1] σ K := by
  have ck : pm_code 275 = pc_275 := rfl
  unfold w275 at h
  show wW B 275 0 [vr 186, vi x1, pm_un, pm_un] [] σ K
  refine g_al 1 ck rfl rfl rfl ?_
  refine g_ic 2 ck rfl rfl ?_
  refine g_pfi 5 ck rfl rfl rfl 0 rfl rfl ?_
  replace h := h _ rfl
  refine g_ic 6 ck rfl rfl ?_
  refine r_is 7 ck rfl rfl rfl rfl ?_
  refine g_ic 8 ck rfl rfl ?_
  refine r_is 9 ck rfl rfl rfl rfl ?_
  exact o275_9  h
/-! 276 TermDeskModel.allTerms()I -/
def w276_4 (B : va_E) (σ : l2_m) (x1 : Int) (x2 : Int)  (K : Int → l2_m → Prop) : Prop := lz2 (fun X4 x1 x2 => (rg x2 ∧ (if x2 < 8 then ((0 ≤ x2 ∧ x2 < 8 ∧ (∀ j : Int, 0 ≤ j → j < 4096 → rg (σ 187 (4096 * x2 + j)))) ∧ ∀ x1' : Int, x1' = (x1 + (cnt (fun k => σ 187 (4096 * x2 + k)) 4096)) → X4 x1' (x2 + 1)) else K x1 σ))) x1 x2
theorem o276_4 {B : va_E} {σ : l2_m} {x1 : Int} {x2 : Int}   {K : Int → l2_m → Prop}    (h : w276_4 B σ x1 x2  K) : wW B 276 4 [vr 186, vi x1, vi x2] [] σ K := by
  have ck : pm_code 276 = pc_276 := rfl
  unfold w276_4 at h
  refine h (fun x1 x2 => wW B 276 4 [vr 186, vi x1, vi x2] [] σ K) ?_
  clear h
  intro x1 x2 h
  obtain ⟨hs1, h⟩ := h
  refine g_il 5 ck rfl rfl rfl ?_
  refine g_ic 7 ck rfl rfl ?_
  refine g_icge 10 24 ck rfl rfl rfl hs1 (by decide) (fun hc => ?_) (fun hc => ?_)
  · replace h := ite_hf h (Int.not_lt.mpr hc)
    refine g_il 25 ck rfl rfl rfl ?_
    exact g_ret ck rfl rfl (Or.inl (by decide)) h
  · replace h := ite_ht h (Int.not_le.mp hc)
    obtain ⟨⟨hs2, hs3, hs4⟩, h⟩ := h
    refine g_il 11 ck rfl rfl rfl ?_
    refine g_al 12 ck rfl rfl rfl ?_
    refine g_il 13 ck rfl rfl rfl ?_
    refine g_cvi (as := [_]) (rest := [_]) 16 ck rfl rfl rfl rfl rfl rfl (by decide) rfl rfl rfl rfl (Nat.le_of_ble_eq_true rfl) (s202 hs2 hs3 hs4 ?_)
    refine g_add 17 ck rfl rfl ?_
    refine r_is 18 ck rfl rfl rfl rfl ?_
    replace h := h _ rfl
    refine r_ii 21 ck rfl rfl rfl rfl ?_
    refine g_goto 4 ck rfl rfl ?_
    exact h
def w276 (B : va_E) (σ : l2_m)  (K : Int → l2_m → Prop) : Prop := w276_4 B σ 0 0 K
theorem o276 {B : va_E} {σ : l2_m}  {K : Int → l2_m → Prop}   (h : w276 B σ   K) : wC B 276 [vr 186] σ K := by
  have ck : pm_code 276 = pc_276 := rfl
  unfold w276 at h
  show wW B 276 0 [vr 186, pm_un, pm_un] [] σ K
  refine g_ic 1 ck rfl rfl ?_
  refine r_is 2 ck rfl rfl rfl rfl ?_
  refine g_ic 3 ck rfl rfl ?_
  refine r_is 4 ck rfl rfl rfl rfl ?_
  exact o276_4  h
/-! 277 TermDeskModel.size(I)I -/
def w277 (B : va_E) (σ : l2_m) (x1 : Int) (K : Int → l2_m → Prop) : Prop := (∀ σ' : l2_m, σ' = l2_u σ 186 0 0 → rg x1 ∧ (if x1 = 0 then K (σ' 186 16) σ' else (if x1 = 1 then (rg (σ' 186 14) ∧ (if (σ' 186 14) = 0 then K 0 σ' else K (σ' 186 45) σ')) else (if x1 = 2 then (rg (σ' 186 14) ∧ (if (σ' 186 14) = 0 then K 0 σ' else (wC B 276 [vr 186] σ' (fun y σ'' => K y σ'')))) else K (-1) σ'))))
theorem o277 {B : va_E} {σ : l2_m} {x1 : Int} {K : Int → l2_m → Prop}   (h : w277 B σ x1  K) : wC B 277 [vr 186, vi x1] σ K := by
  have ck : pm_code 277 = pc_277 := rfl
  unfold w277 at h
  show wW B 277 0 [vr 186, vi x1] [] σ K
  refine g_al 1 ck rfl rfl rfl ?_
  refine g_ic 2 ck rfl rfl ?_
  refine g_pfi 5 ck rfl rfl rfl 0 rfl rfl ?_
  replace h := h _ rfl
  obtain ⟨hs1, h⟩ := h
  refine g_il 6 ck rfl rfl rfl ?_
  by_cases hc0 : x1 = 0
  · replace h := ite_ht h hc0
    refine g_sw 32 ck rfl hs1 (by rw [hc0]; rfl) ?_
    refine g_al 33 ck rfl rfl rfl ?_
    refine r_gfi 36 16 ck rfl rfl rfl rfl ?_
    exact g_ret ck rfl rfl (Or.inl (by decide)) h
  replace h := ite_hf h hc0
  by_cases hc1 : x1 = 1
  · replace h := ite_ht h hc1
    refine g_sw 37 ck rfl hs1 (by rw [hc1]; rfl) ?_
    obtain ⟨hs2, h⟩ := h
    refine g_al 38 ck rfl rfl rfl ?_
    refine r_gfi 41 14 ck rfl rfl rfl rfl ?_
    refine g_ifeq 44 51 ck rfl rfl rfl hs2 (fun hc => ?_) (fun hc => ?_)
    · replace h := ite_ht h hc
      refine g_ic 52 ck rfl rfl ?_
      exact g_ret ck rfl rfl (Or.inl (by decide)) h
    · replace h := ite_hf h hc
      refine g_al 45 ck rfl rfl rfl ?_
      refine r_gfi 48 45 ck rfl rfl rfl rfl ?_
      refine g_goto 52 ck rfl rfl ?_
      exact g_ret ck rfl rfl (Or.inl (by decide)) h
  replace h := ite_hf h hc1
  by_cases hc2 : x1 = 2
  · replace h := ite_ht h hc2
    refine g_sw 53 ck rfl hs1 (by rw [hc2]; rfl) ?_
    obtain ⟨hs3, h⟩ := h
    refine g_al 54 ck rfl rfl rfl ?_
    refine r_gfi 57 14 ck rfl rfl rfl rfl ?_
    refine g_ifeq 60 67 ck rfl rfl rfl hs3 (fun hc => ?_) (fun hc => ?_)
    · replace h := ite_ht h hc
      refine g_ic 68 ck rfl rfl ?_
      exact g_ret ck rfl rfl (Or.inl (by decide)) h
    · replace h := ite_hf h hc
      refine g_al 61 ck rfl rfl rfl ?_
      refine g_cvi (as := []) (rest := []) 64 ck rfl rfl rfl rfl rfl rfl (by decide) rfl rfl rfl rfl (Nat.le_of_ble_eq_true rfl) (wC.mono h (fun y σ'' h => ?_))
      refine g_goto 68 ck rfl rfl ?_
      exact g_ret ck rfl rfl (Or.inl (by decide)) h
  replace h := ite_hf h hc2
  refine g_sw 69 ck rfl hs1 (by unfold l2_sw; rw [if_pos (by omega)]; rfl) ?_
  refine g_ic 70 ck rfl rfl ?_
  exact g_ret ck rfl rfl (Or.inl (by decide)) h
