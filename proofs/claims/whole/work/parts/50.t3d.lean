/-! 175 TermDeskModel.next()V -/
def w175_8 (B : va_E) (σ : l2_m)   (K : Int → l2_m → Prop) : Prop := lz1 (fun X8 σ => ((0 ≤ (σ 186 18) ∧ (σ 186 18) ≤ 100000 ∧ rg (σ 186 17) ∧ (σ 186 17) ≤ 700) ∧ (if (byA σ (σ 186 18)) = 32 then (∀ σ''''''''''''' : l2_m, σ''''''''''''' = l2_u σ 186 18 ((σ 186 18) + 1) → X8 σ''''''''''''') else (∀ σ' : l2_m, σ' = l2_u σ 186 20 (σ 186 18) → (0 ≤ (σ' 186 18) ∧ (σ' 186 18) ≤ 100000 ∧ rg (σ' 186 17) ∧ (σ' 186 17) ≤ 700) ∧ ∀ x1 : Int, x1 = (byA σ' (σ' 186 18)) → (if x1 = (-1) then (∀ σ'''''''''''' : l2_m, σ'''''''''''' = l2_u σ' 186 19 1 → K 0 σ'''''''''''') else (if 97 ≤ x1 ∧ x1 ≤ 122 then (wC B 176 [vr 186] σ' (fun _ σ''''''''''' => K 0 σ''''''''''')) else (if 48 ≤ x1 ∧ x1 ≤ 57 then (wC B 177 [vr 186] σ' (fun _ σ'''''''''' => K 0 σ'''''''''')) else (if x1 = 59 then (∀ σ'''''''' : l2_m, σ'''''''' = l2_u σ' 186 19 4 → ∀ σ''''''''' : l2_m, σ''''''''' = l2_u σ'''''''' 186 18 ((σ'''''''' 186 18) + 1) → K 0 σ''''''''') else (if x1 = 43 then (∀ σ'''''' : l2_m, σ'''''' = l2_u σ' 186 19 5 → ∀ σ''''''' : l2_m, σ''''''' = l2_u σ'''''' 186 18 ((σ'''''' 186 18) + 1) → K 0 σ''''''') else (if x1 = 45 then (∀ σ'''' : l2_m, σ'''' = l2_u σ' 186 19 6 → ∀ σ''''' : l2_m, σ''''' = l2_u σ'''' 186 18 ((σ'''' 186 18) + 1) → K 0 σ''''') else (∀ σ'' : l2_m, σ'' = l2_u σ' 186 19 0 → ∀ σ''' : l2_m, σ''' = l2_u σ'' 186 18 ((σ'' 186 18) + 1) → K 0 σ'''))))))))))) σ
theorem o175_8 {B : va_E} {σ : l2_m}  {u1 : Value}  {K : Int → l2_m → Prop}  (hu1 : (u1.category == 1) = true)  (h : w175_8 B σ   K) : wW B 175 8 [vr 186, u1] [] σ K := by
  have ck : pm_code 175 = pc_175 := rfl
  unfold w175_8 at h
  refine h (fun σ => ∀ u1 : Value, (u1.category == 1) = true → wW B 175 8 [vr 186, u1] [] σ K) ?_ u1 hu1
  clear h
  intro σ h u1 hu1
  obtain ⟨⟨hs1, hs2, hs3, hs4⟩, h⟩ := h
  refine g_al 9 ck rfl rfl rfl ?_
  refine g_al 10 ck rfl rfl rfl ?_
  refine r_gfi 13 18 ck rfl rfl rfl rfl ?_
  refine g_cvi (as := [_]) (rest := []) 16 ck rfl rfl rfl rfl rfl rfl (by decide) rfl rfl rfl rfl (Nat.le_of_ble_eq_true rfl) (s174 hs1 hs2 hs3 hs4 ?_)
  refine g_ic 18 ck rfl rfl ?_
  refine g_icne 21 34 ck rfl rfl rfl (byA_rg _ _) (by decide) (fun hc => ?_) (fun hc => ?_)
  · replace h := ite_hf h hc
    refine g_al 35 ck rfl rfl rfl ?_
    refine g_al 36 ck rfl rfl rfl ?_
    refine r_gfi 39 18 ck rfl rfl rfl rfl ?_
    refine g_pfi 42 ck rfl rfl rfl 20 rfl rfl ?_
    replace h := h _ rfl
    obtain ⟨⟨hs5, hs6, hs7, hs8⟩, h⟩ := h
    refine g_al 43 ck rfl rfl rfl ?_
    refine g_al 44 ck rfl rfl rfl ?_
    refine r_gfi 47 18 ck rfl rfl rfl rfl ?_
    refine g_cvi (as := [_]) (rest := []) 50 ck rfl rfl rfl rfl rfl rfl (by decide) rfl rfl rfl rfl (Nat.le_of_ble_eq_true rfl) (s174 hs5 hs6 hs7 hs8 ?_)
    refine r_is 51 ck rfl rfl rfl rfl ?_
    replace h := h _ rfl
    refine g_il 52 ck rfl rfl rfl ?_
    refine g_ic 53 ck rfl rfl ?_
    refine g_icne 56 64 ck rfl rfl rfl (byA_rg _ _) (by decide) (fun hc => ?_) (fun hc => ?_)
    · replace h := ite_hf h hc
      refine g_il 65 ck rfl rfl rfl ?_
      refine g_ic 67 ck rfl rfl ?_
      refine g_ic 69 ck rfl rfl ?_
      refine g_csi (as := [_, _, _]) (rest := []) 72 ck rfl rfl rfl rfl rfl (by decide) rfl rfl rfl (Nat.le_of_ble_eq_true rfl) (s170 (byA_rg _ _) (by decide) (by decide) ?_)
      refine g_ifeq 75 82 ck rfl rfl rfl rg_b2i (fun hc => ?_) (fun hc => ?_)
      · replace h := ite_hf h (b2i_f hc)
        refine g_il 83 ck rfl rfl rfl ?_
        refine g_ic 85 ck rfl rfl ?_
        refine g_ic 87 ck rfl rfl ?_
        refine g_csi (as := [_, _, _]) (rest := []) 90 ck rfl rfl rfl rfl rfl (by decide) rfl rfl rfl (Nat.le_of_ble_eq_true rfl) (s170 (byA_rg _ _) (by decide) (by decide) ?_)
        refine g_ifeq 93 100 ck rfl rfl rfl rg_b2i (fun hc => ?_) (fun hc => ?_)
        · replace h := ite_hf h (b2i_f hc)
          refine g_al 101 ck rfl rfl rfl ?_
          refine g_il 102 ck rfl rfl rfl ?_
          refine g_ic 104 ck rfl rfl ?_
          refine g_icne 107 111 ck rfl rfl rfl (byA_rg _ _) (by decide) (fun hc => ?_) (fun hc => ?_)
          · replace h := ite_hf h hc
            refine g_il 112 ck rfl rfl rfl ?_
            refine g_ic 114 ck rfl rfl ?_
            refine g_icne 117 121 ck rfl rfl rfl (byA_rg _ _) (by decide) (fun hc => ?_) (fun hc => ?_)
            · replace h := ite_hf h hc
              refine g_il 122 ck rfl rfl rfl ?_
              refine g_ic 124 ck rfl rfl ?_
              refine g_icne 127 132 ck rfl rfl rfl (byA_rg _ _) (by decide) (fun hc => ?_) (fun hc => ?_)
              · replace h := ite_hf h hc
                refine g_ic 133 ck rfl rfl ?_
                refine g_pfi 136 ck rfl rfl rfl 19 rfl rfl ?_
                replace h := h _ rfl
                refine g_al 137 ck rfl rfl rfl ?_
                refine g_dup 138 ck rfl rfl rfl ?_
                refine r_gfi 141 18 ck rfl rfl rfl rfl ?_
                refine g_ic 142 ck rfl rfl ?_
                refine g_add 143 ck rfl rfl ?_
                refine g_pfi 146 ck rfl rfl rfl 18 rfl rfl ?_
                replace h := h _ rfl
                exact g_retv ck rfl rfl h
              · replace h := ite_ht h (Classical.not_not.mp hc)
                refine g_ic 129 ck rfl rfl ?_
                refine g_goto 133 ck rfl rfl ?_
                refine g_pfi 136 ck rfl rfl rfl 19 rfl rfl ?_
                replace h := h _ rfl
                refine g_al 137 ck rfl rfl rfl ?_
                refine g_dup 138 ck rfl rfl rfl ?_
                refine r_gfi 141 18 ck rfl rfl rfl rfl ?_
                refine g_ic 142 ck rfl rfl ?_
                refine g_add 143 ck rfl rfl ?_
                refine g_pfi 146 ck rfl rfl rfl 18 rfl rfl ?_
                replace h := h _ rfl
                exact g_retv ck rfl rfl h
            · replace h := ite_ht h (Classical.not_not.mp hc)
              refine g_ic 118 ck rfl rfl ?_
              refine g_goto 133 ck rfl rfl ?_
              refine g_pfi 136 ck rfl rfl rfl 19 rfl rfl ?_
              replace h := h _ rfl
              refine g_al 137 ck rfl rfl rfl ?_
              refine g_dup 138 ck rfl rfl rfl ?_
              refine r_gfi 141 18 ck rfl rfl rfl rfl ?_
              refine g_ic 142 ck rfl rfl ?_
              refine g_add 143 ck rfl rfl ?_
              refine g_pfi 146 ck rfl rfl rfl 18 rfl rfl ?_
              replace h := h _ rfl
              exact g_retv ck rfl rfl h
          · replace h := ite_ht h (Classical.not_not.mp hc)
            refine g_ic 108 ck rfl rfl ?_
            refine g_goto 133 ck rfl rfl ?_
            refine g_pfi 136 ck rfl rfl rfl 19 rfl rfl ?_
            replace h := h _ rfl
            refine g_al 137 ck rfl rfl rfl ?_
            refine g_dup 138 ck rfl rfl rfl ?_
            refine r_gfi 141 18 ck rfl rfl rfl rfl ?_
            refine g_ic 142 ck rfl rfl ?_
            refine g_add 143 ck rfl rfl ?_
            refine g_pfi 146 ck rfl rfl rfl 18 rfl rfl ?_
            replace h := h _ rfl
            exact g_retv ck rfl rfl h
        · replace h := ite_ht h (b2i_t hc)
          refine g_al 94 ck rfl rfl rfl ?_
          refine g_cvv (as := []) (rest := []) 97 ck rfl rfl rfl rfl rfl rfl rfl rfl rfl rfl (Nat.le_of_ble_eq_true rfl) (wC.mono h (fun _ σ'''''''''' h => ?_))
          refine g_goto 146 ck rfl rfl ?_
          exact g_retv ck rfl rfl h
      · replace h := ite_ht h (b2i_t hc)
        refine g_al 76 ck rfl rfl rfl ?_
        refine g_cvv (as := []) (rest := []) 79 ck rfl rfl rfl rfl rfl rfl rfl rfl rfl rfl (Nat.le_of_ble_eq_true rfl) (wC.mono h (fun _ σ''''''''''' h => ?_))
        refine g_goto 146 ck rfl rfl ?_
        exact g_retv ck rfl rfl h
    · replace h := ite_ht h (Classical.not_not.mp hc)
      refine g_al 57 ck rfl rfl rfl ?_
      refine g_ic 58 ck rfl rfl ?_
      refine g_pfi 61 ck rfl rfl rfl 19 rfl rfl ?_
      replace h := h _ rfl
      refine g_goto 146 ck rfl rfl ?_
      exact g_retv ck rfl rfl h
  · replace h := ite_ht h (Classical.not_not.mp hc)
    refine g_al 22 ck rfl rfl rfl ?_
    refine g_dup 23 ck rfl rfl rfl ?_
    refine r_gfi 26 18 ck rfl rfl rfl rfl ?_
    refine g_ic 27 ck rfl rfl ?_
    refine g_add 28 ck rfl rfl ?_
    refine g_pfi 31 ck rfl rfl rfl 18 rfl rfl ?_
    replace h := h _ rfl
    refine g_goto 8 ck rfl rfl ?_
    exact h _ hu1
def w175 (B : va_E) (σ : l2_m)  (K : Int → l2_m → Prop) : Prop := (rg (σ 186 22) ∧ (if 0 < (σ 186 22) then K 0 σ else w175_8 B σ K))
theorem o175 {B : va_E} {σ : l2_m}  {K : Int → l2_m → Prop}   (h : w175 B σ   K) : wC B 175 [vr 186] σ K := by
  have ck : pm_code 175 = pc_175 := rfl
  unfold w175 at h
  show wW B 175 0 [vr 186, pm_un] [] σ K
  obtain ⟨hs1, h⟩ := h
  refine g_al 1 ck rfl rfl rfl ?_
  refine r_gfi 4 22 ck rfl rfl rfl rfl ?_
  refine g_ifle 7 8 ck rfl rfl rfl hs1 (fun hc => ?_) (fun hc => ?_)
  · replace h := ite_hf h (Int.not_lt.mpr hc)
    exact o175_8 rfl h
  · replace h := ite_ht h (Int.not_le.mp hc)
    exact g_retv ck rfl rfl h
/-! 176 TermDeskModel.nextWord()V -/
def w176_5 (B : va_E) (σ : l2_m)   (K : Int → l2_m → Prop) : Prop := lz1 (fun X5 σ => ((0 ≤ (σ 186 18) ∧ (σ 186 18) ≤ 100000 ∧ rg (σ 186 17) ∧ (σ 186 17) ≤ 700) ∧ (if 97 ≤ (byA σ (σ 186 18)) ∧ (byA σ (σ 186 18)) ≤ 122 then (rg ((σ 186 18) - (σ 186 20)) ∧ (if ((σ 186 18) - (σ 186 20)) < 5 then ((0 ≤ ((σ 186 23) * 256) ∧ 0 ≤ (byA σ (σ 186 18)) ∧ ((σ 186 23) * 256) < 9223372036854775808 ∧ (byA σ (σ 186 18)) < 9223372036854775808) ∧ ∀ σ'''' : l2_m, σ'''' = l2_u σ 186 23 (ior ((σ 186 23) * 256) (byA σ (σ 186 18))) → ∀ σ''''' : l2_m, σ''''' = l2_u σ'''' 186 18 ((σ'''' 186 18) + 1) → X5 σ''''') else (∀ σ''' : l2_m, σ''' = l2_u σ 186 18 ((σ 186 18) + 1) → X5 σ'''))) else (rg ((σ 186 18) - (σ 186 20)) ∧ (if 5 < ((σ 186 18) - (σ 186 20)) then (∀ σ'' : l2_m, σ'' = l2_u σ 186 19 0 → K 0 σ'') else (∀ σ' : l2_m, σ' = l2_u σ 186 19 2 → K 0 σ')))))) σ
theorem o176_5 {B : va_E} {σ : l2_m}    {K : Int → l2_m → Prop}    (h : w176_5 B σ   K) : wW B 176 5 [vr 186] [] σ K := by
  have ck : pm_code 176 = pc_176 := rfl
  unfold w176_5 at h
  refine h (fun σ => wW B 176 5 [vr 186] [] σ K) ?_
  clear h
  intro σ h
  obtain ⟨⟨hs1, hs2, hs3, hs4⟩, h⟩ := h
  refine g_al 6 ck rfl rfl rfl ?_
  refine g_al 7 ck rfl rfl rfl ?_
  refine r_gfi 10 18 ck rfl rfl rfl rfl ?_
  refine g_cvi (as := [_]) (rest := []) 13 ck rfl rfl rfl rfl rfl rfl (by decide) rfl rfl rfl rfl (Nat.le_of_ble_eq_true rfl) (s174 hs1 hs2 hs3 hs4 ?_)
  refine g_ic 15 ck rfl rfl ?_
  refine g_ic 17 ck rfl rfl ?_
  refine g_csi (as := [_, _, _]) (rest := []) 20 ck rfl rfl rfl rfl rfl (by decide) rfl rfl rfl (Nat.le_of_ble_eq_true rfl) (s170 (byA_rg _ _) (by decide) (by decide) ?_)
  refine g_ifeq 23 70 ck rfl rfl rfl rg_b2i (fun hc => ?_) (fun hc => ?_)
  · replace h := ite_hf h (b2i_f hc)
    obtain ⟨hs5, h⟩ := h
    refine g_al 71 ck rfl rfl rfl ?_
    refine g_al 72 ck rfl rfl rfl ?_
    refine r_gfi 75 18 ck rfl rfl rfl rfl ?_
    refine g_al 76 ck rfl rfl rfl ?_
    refine r_gfi 79 20 ck rfl rfl rfl rfl ?_
    refine g_sub 80 ck rfl rfl ?_
    refine g_ic 81 ck rfl rfl ?_
    refine g_icle 84 88 ck rfl rfl rfl hs5 (by decide) (fun hc => ?_) (fun hc => ?_)
    · replace h := ite_hf h (Int.not_lt.mpr hc)
      refine g_ic 89 ck rfl rfl ?_
      refine g_pfi 92 ck rfl rfl rfl 19 rfl rfl ?_
      replace h := h _ rfl
      exact g_retv ck rfl rfl h
    · replace h := ite_ht h (Int.not_le.mp hc)
      refine g_ic 85 ck rfl rfl ?_
      refine g_goto 89 ck rfl rfl ?_
      refine g_pfi 92 ck rfl rfl rfl 19 rfl rfl ?_
      replace h := h _ rfl
      exact g_retv ck rfl rfl h
  · replace h := ite_ht h (b2i_t hc)
    obtain ⟨hs6, h⟩ := h
    refine g_al 24 ck rfl rfl rfl ?_
    refine r_gfi 27 18 ck rfl rfl rfl rfl ?_
    refine g_al 28 ck rfl rfl rfl ?_
    refine r_gfi 31 20 ck rfl rfl rfl rfl ?_
    refine g_sub 32 ck rfl rfl ?_
    refine g_ic 33 ck rfl rfl ?_
    refine g_icge 36 57 ck rfl rfl rfl hs6 (by decide) (fun hc => ?_) (fun hc => ?_)
    · replace h := ite_hf h (Int.not_lt.mpr hc)
      refine g_al 58 ck rfl rfl rfl ?_
      refine g_dup 59 ck rfl rfl rfl ?_
      refine r_gfi 62 18 ck rfl rfl rfl rfl ?_
      refine g_ic 63 ck rfl rfl ?_
      refine g_add 64 ck rfl rfl ?_
      refine g_pfi 67 ck rfl rfl rfl 18 rfl rfl ?_
      replace h := h _ rfl
      refine g_goto 5 ck rfl rfl ?_
      exact h
    · replace h := ite_ht h (Int.not_le.mp hc)
      obtain ⟨⟨hs7, hs8, hs9, hs10⟩, h⟩ := h
      refine g_al 37 ck rfl rfl rfl ?_
      refine g_al 38 ck rfl rfl rfl ?_
      refine r_gfl 41 23 ck rfl rfl rfl rfl ?_
      refine g_ic 43 ck rfl rfl ?_
      refine r_lshl 44 ck rfl rfl ?_
      refine g_al 45 ck rfl rfl rfl ?_
      refine g_al 46 ck rfl rfl rfl ?_
      refine r_gfi 49 18 ck rfl rfl rfl rfl ?_
      refine g_cvi (as := [_]) (rest := [_, _]) 52 ck rfl rfl rfl rfl rfl rfl (by decide) rfl rfl rfl rfl (Nat.le_of_ble_eq_true rfl) (s174 hs1 hs2 hs3 hs4 ?_)
      refine r_i2l 53 ck rfl rfl (byA_rg _ _) ?_
      refine r_lor 54 ck rfl rfl hs7 hs8 hs9 hs10 ?_
      refine g_pfl 57 ck rfl rfl rfl 23 rfl ?_
      replace h := h _ rfl
      refine g_al 58 ck rfl rfl rfl ?_
      refine g_dup 59 ck rfl rfl rfl ?_
      refine r_gfi 62 18 ck rfl rfl rfl rfl ?_
      refine g_ic 63 ck rfl rfl ?_
      refine g_add 64 ck rfl rfl ?_
      refine g_pfi 67 ck rfl rfl rfl 18 rfl rfl ?_
      replace h := h _ rfl
      refine g_goto 5 ck rfl rfl ?_
      exact h
def w176 (B : va_E) (σ : l2_m)  (K : Int → l2_m → Prop) : Prop := (∀ σ' : l2_m, σ' = l2_u σ 186 23 0 → w176_5 B σ' K)
theorem o176 {B : va_E} {σ : l2_m}  {K : Int → l2_m → Prop}   (h : w176 B σ   K) : wC B 176 [vr 186] σ K := by
  have ck : pm_code 176 = pc_176 := rfl
  unfold w176 at h
  show wW B 176 0 [vr 186] [] σ K
  refine g_al 1 ck rfl rfl rfl ?_
  refine r_lc0 2 ck rfl rfl ?_
  refine g_pfl 5 ck rfl rfl rfl 23 rfl ?_
  replace h := h _ rfl
  exact o176_5  h
/-! 177 TermDeskModel.nextWhole()V -/
def w177_5 (B : va_E) (σ : l2_m)   (K : Int → l2_m → Prop) : Prop := lz1 (fun X5 σ => ((0 ≤ (σ 186 18) ∧ (σ 186 18) ≤ 100000 ∧ rg (σ 186 17) ∧ (σ 186 17) ≤ 700) ∧ (if 48 ≤ (byA σ (σ 186 18)) ∧ (byA σ (σ 186 18)) ≤ 57 then (rg ((σ 186 18) - (σ 186 20)) ∧ (if ((σ 186 18) - (σ 186 20)) < 4 then (∀ σ'''' : l2_m, σ'''' = l2_u σ 186 21 (((10 * (σ 186 21)) + (byA σ (σ 186 18))) - 48) → ∀ σ''''' : l2_m, σ''''' = l2_u σ'''' 186 18 ((σ'''' 186 18) + 1) → X5 σ''''') else (∀ σ''' : l2_m, σ''' = l2_u σ 186 18 ((σ 186 18) + 1) → X5 σ'''))) else (rg ((σ 186 18) - (σ 186 20)) ∧ (if 4 < ((σ 186 18) - (σ 186 20)) then (∀ σ'' : l2_m, σ'' = l2_u σ 186 19 0 → K 0 σ'') else (∀ σ' : l2_m, σ' = l2_u σ 186 19 3 → K 0 σ')))))) σ
theorem o177_5 {B : va_E} {σ : l2_m}    {K : Int → l2_m → Prop}    (h : w177_5 B σ   K) : wW B 177 5 [vr 186] [] σ K := by
  have ck : pm_code 177 = pc_177 := rfl
  unfold w177_5 at h
  refine h (fun σ => wW B 177 5 [vr 186] [] σ K) ?_
  clear h
  intro σ h
  obtain ⟨⟨hs1, hs2, hs3, hs4⟩, h⟩ := h
  refine g_al 6 ck rfl rfl rfl ?_
  refine g_al 7 ck rfl rfl rfl ?_
  refine r_gfi 10 18 ck rfl rfl rfl rfl ?_
  refine g_cvi (as := [_]) (rest := []) 13 ck rfl rfl rfl rfl rfl rfl (by decide) rfl rfl rfl rfl (Nat.le_of_ble_eq_true rfl) (s174 hs1 hs2 hs3 hs4 ?_)
  refine g_ic 15 ck rfl rfl ?_
  refine g_ic 17 ck rfl rfl ?_
  refine g_csi (as := [_, _, _]) (rest := []) 20 ck rfl rfl rfl rfl rfl (by decide) rfl rfl rfl (Nat.le_of_ble_eq_true rfl) (s170 (byA_rg _ _) (by decide) (by decide) ?_)
  refine g_ifeq 23 72 ck rfl rfl rfl rg_b2i (fun hc => ?_) (fun hc => ?_)
  · replace h := ite_hf h (b2i_f hc)
    obtain ⟨hs5, h⟩ := h
    refine g_al 73 ck rfl rfl rfl ?_
    refine g_al 74 ck rfl rfl rfl ?_
    refine r_gfi 77 18 ck rfl rfl rfl rfl ?_
    refine g_al 78 ck rfl rfl rfl ?_
    refine r_gfi 81 20 ck rfl rfl rfl rfl ?_
    refine g_sub 82 ck rfl rfl ?_
    refine g_ic 83 ck rfl rfl ?_
    refine g_icle 86 90 ck rfl rfl rfl hs5 (by decide) (fun hc => ?_) (fun hc => ?_)
    · replace h := ite_hf h (Int.not_lt.mpr hc)
      refine g_ic 91 ck rfl rfl ?_
      refine g_pfi 94 ck rfl rfl rfl 19 rfl rfl ?_
      replace h := h _ rfl
      exact g_retv ck rfl rfl h
    · replace h := ite_ht h (Int.not_le.mp hc)
      refine g_ic 87 ck rfl rfl ?_
      refine g_goto 91 ck rfl rfl ?_
      refine g_pfi 94 ck rfl rfl rfl 19 rfl rfl ?_
      replace h := h _ rfl
      exact g_retv ck rfl rfl h
  · replace h := ite_ht h (b2i_t hc)
    obtain ⟨hs6, h⟩ := h
    refine g_al 24 ck rfl rfl rfl ?_
    refine r_gfi 27 18 ck rfl rfl rfl rfl ?_
    refine g_al 28 ck rfl rfl rfl ?_
    refine r_gfi 31 20 ck rfl rfl rfl rfl ?_
    refine g_sub 32 ck rfl rfl ?_
    refine g_ic 33 ck rfl rfl ?_
    refine g_icge 36 59 ck rfl rfl rfl hs6 (by decide) (fun hc => ?_) (fun hc => ?_)
    · replace h := ite_hf h (Int.not_lt.mpr hc)
      refine g_al 60 ck rfl rfl rfl ?_
      refine g_dup 61 ck rfl rfl rfl ?_
      refine r_gfi 64 18 ck rfl rfl rfl rfl ?_
      refine g_ic 65 ck rfl rfl ?_
      refine g_add 66 ck rfl rfl ?_
      refine g_pfi 69 ck rfl rfl rfl 18 rfl rfl ?_
      replace h := h _ rfl
      refine g_goto 5 ck rfl rfl ?_
      exact h
    · replace h := ite_ht h (Int.not_le.mp hc)
      refine g_al 37 ck rfl rfl rfl ?_
      refine g_ic 39 ck rfl rfl ?_
      refine g_al 40 ck rfl rfl rfl ?_
      refine r_gfi 43 21 ck rfl rfl rfl rfl ?_
      refine g_mul 44 ck rfl rfl ?_
      refine g_al 45 ck rfl rfl rfl ?_
      refine g_al 46 ck rfl rfl rfl ?_
      refine r_gfi 49 18 ck rfl rfl rfl rfl ?_
      refine g_cvi (as := [_]) (rest := [_, _]) 52 ck rfl rfl rfl rfl rfl rfl (by decide) rfl rfl rfl rfl (Nat.le_of_ble_eq_true rfl) (s174 hs1 hs2 hs3 hs4 ?_)
      refine g_add 53 ck rfl rfl ?_
      refine g_ic 55 ck rfl rfl ?_
      refine g_sub 56 ck rfl rfl ?_
      refine g_pfi 59 ck rfl rfl rfl 21 rfl rfl ?_
      replace h := h _ rfl
      refine g_al 60 ck rfl rfl rfl ?_
      refine g_dup 61 ck rfl rfl rfl ?_
      refine r_gfi 64 18 ck rfl rfl rfl rfl ?_
      refine g_ic 65 ck rfl rfl ?_
      refine g_add 66 ck rfl rfl ?_
      refine g_pfi 69 ck rfl rfl rfl 18 rfl rfl ?_
      replace h := h _ rfl
      refine g_goto 5 ck rfl rfl ?_
      exact h
def w177 (B : va_E) (σ : l2_m)  (K : Int → l2_m → Prop) : Prop := (∀ σ' : l2_m, σ' = l2_u σ 186 21 0 → w177_5 B σ' K)
theorem o177 {B : va_E} {σ : l2_m}  {K : Int → l2_m → Prop}   (h : w177 B σ   K) : wC B 177 [vr 186] σ K := by
  have ck : pm_code 177 = pc_177 := rfl
  unfold w177 at h
  show wW B 177 0 [vr 186] [] σ K
  refine g_al 1 ck rfl rfl rfl ?_
  refine g_ic 2 ck rfl rfl ?_
  refine g_pfi 5 ck rfl rfl rfl 21 rfl rfl ?_
  replace h := h _ rfl
  exact o177_5  h
/-! 180 TermDeskModel.needs(Ljava/lang/String;)V -/
def w180_13 (B : va_E) (σ : l2_m)   (K : Int → l2_m → Prop) : Prop := (wC B 175 [vr 186] σ (fun _ σ' => K 0 σ'))
theorem o180_13 {B : va_E} {σ : l2_m}  {u1 : Value}  {K : Int → l2_m → Prop}  (hu1 : (u1.category == 1) = true)  (h : w180_13 B σ   K) : wW B 180 13 [vr 186, u1] [] σ K := by
  have ck : pm_code 180 = pc_180 := rfl
  unfold w180_13 at h
  refine g_al 14 ck rfl rfl rfl ?_
  refine g_cvv (as := []) (rest := []) 17 ck rfl rfl rfl rfl rfl rfl rfl rfl rfl rfl (Nat.le_of_ble_eq_true rfl) (wC.mono h (fun _ σ' h => ?_))
  exact g_retv ck rfl rfl h
def w180 (B : va_E) (σ : l2_m) (o1 : Nat) (K : Int → l2_m → Prop) : Prop := ((rg (σ 186 19) ∧ 0 ≤ (σ 186 23) ∧ (σ 186 23) < 9223372036854775808) ∧ (if (σ 186 19) = 2 ∧ (σ 186 23) = wcd (l2_tx o1) then w180_13 B σ K else (rg (σ 186 22) ∧ ∀ σ' : l2_m, σ' = flw σ 1 → w180_13 B σ' K)))
theorem o180 {B : va_E} {σ : l2_m} {o1 : Nat} {K : Int → l2_m → Prop} (ho1 : 3 ≤ o1 ∧ o1 < 20)  (h : w180 B σ o1  K) : wC B 180 [vr 186, vr o1] σ K := by
  have ck : pm_code 180 = pc_180 := rfl
  unfold w180 at h
  show wW B 180 0 [vr 186, vr o1] [] σ K
  obtain ⟨⟨hs1, hs2, hs3⟩, h⟩ := h
  refine g_al 1 ck rfl rfl rfl ?_
  refine g_al 2 ck rfl rfl rfl ?_
  refine g_cvi (as := [_]) (rest := []) 5 ck rfl rfl rfl rfl rfl rfl (by decide) rfl rfl rfl rfl (Nat.le_of_ble_eq_true rfl) (s179 ho1 hs1 hs2 hs3 ?_)
  refine g_ifne 8 13 ck rfl rfl rfl rg_b2i (fun hc => ?_) (fun hc => ?_)
  · replace h := ite_ht h (b2i_t hc)
    exact o180_13 rfl h
  · replace h := ite_hf h (b2i_f (Classical.not_not.mp hc))
    obtain ⟨hs4, h⟩ := h
    refine g_al 9 ck rfl rfl rfl ?_
    refine g_ic 10 ck rfl rfl ?_
    refine g_cvv (as := [_]) (rest := []) 13 ck rfl rfl rfl rfl rfl rfl rfl rfl rfl rfl (Nat.le_of_ble_eq_true rfl) (s178 hs4 ?_)
    replace h := h _ rfl
    exact o180_13 rfl h
/-! 182 TermDeskModel.readAll()V -/
def w182_72 (B : va_E) (σ : l2_m)   (K : Int → l2_m → Prop) : Prop := (rg (σ 186 22) ∧ ((((σ 186 22) = 0) → rg (σ 186 9)) ∧ (if ((σ 186 22) = 0) ∧ ((σ 186 9) = 0) then (∀ σ' : l2_m, σ' = flw σ 6 → K 0 σ') else K 0 σ)))
theorem o182_72 {B : va_E} {σ : l2_m}  {u1 : Value}  {K : Int → l2_m → Prop}  (hu1 : (u1.category == 1) = true)  (h : w182_72 B σ   K) : wW B 182 72 [vr 186, u1] [] σ K := by
  have ck : pm_code 182 = pc_182 := rfl
  unfold w182_72 at h
  replace h := (And.imp_right mg_3s) h
  obtain ⟨hs1, h⟩ := h
  refine g_al 73 ck rfl rfl rfl ?_
  refine r_gfi 76 22 ck rfl rfl rfl rfl ?_
  refine g_ifne 79 92 ck rfl rfl rfl hs1 (fun hc => ?_) (fun hc => ?_)
  · replace h := ite_hf h hc
    exact g_retv ck rfl rfl h
  · replace h := ite_ht h (Classical.not_not.mp hc)
    obtain ⟨hs2, h⟩ := h
    refine g_al 80 ck rfl rfl rfl ?_
    refine r_gfi 83 9 ck rfl rfl rfl rfl ?_
    refine g_ifne 86 92 ck rfl rfl rfl hs2 (fun hc => ?_) (fun hc => ?_)
    · replace h := ite_hf h hc
      exact g_retv ck rfl rfl h
    · replace h := ite_ht h (Classical.not_not.mp hc)
      refine g_al 87 ck rfl rfl rfl ?_
      refine g_ic 89 ck rfl rfl ?_
      refine g_cvv (as := [_]) (rest := []) 92 ck rfl rfl rfl rfl rfl rfl rfl rfl rfl rfl (Nat.le_of_ble_eq_true rfl) (s178 hs1 ?_)
      replace h := h _ rfl
      exact g_retv ck rfl rfl h
def w182_40 (B : va_E) (σ : l2_m)   (K : Int → l2_m → Prop) : Prop := lz1 (fun X40 σ => (rg (σ 186 19) ∧ (if (σ 186 19) = 4 then (wC B 175 [vr 186] σ (fun _ σ'' => (wC B 183 [vr 186] σ'' (fun _ σ''' => X40 σ''')))) else (if (σ 186 19) = 1 then w182_72 B σ K else (rg (σ 186 22) ∧ ∀ σ' : l2_m, σ' = flw σ 1 → w182_72 B σ' K))))) σ
theorem o182_40 {B : va_E} {σ : l2_m}  {u1 : Value}  {K : Int → l2_m → Prop}  (hu1 : (u1.category == 1) = true)  (h : w182_40 B σ   K) : wW B 182 40 [vr 186, u1] [] σ K := by
  have ck : pm_code 182 = pc_182 := rfl
  unfold w182_40 at h
  refine h (fun σ => ∀ u1 : Value, (u1.category == 1) = true → wW B 182 40 [vr 186, u1] [] σ K) ?_ u1 hu1
  clear h
  intro σ h u1 hu1
  obtain ⟨hs1, h⟩ := h
  refine g_al 41 ck rfl rfl rfl ?_
  refine r_gfi 44 19 ck rfl rfl rfl rfl ?_
  refine g_ic 45 ck rfl rfl ?_
  refine g_icne 48 59 ck rfl rfl rfl hs1 (by decide) (fun hc => ?_) (fun hc => ?_)
  · replace h := ite_hf h hc
    refine g_al 60 ck rfl rfl rfl ?_
    refine r_gfi 63 19 ck rfl rfl rfl rfl ?_
    refine g_ic 64 ck rfl rfl ?_
    refine g_iceq 67 72 ck rfl rfl rfl hs1 (by decide) (fun hc => ?_) (fun hc => ?_)
    · replace h := ite_ht h hc
      exact o182_72 hu1 h
    · replace h := ite_hf h hc
      obtain ⟨hs2, h⟩ := h
      refine g_al 68 ck rfl rfl rfl ?_
      refine g_ic 69 ck rfl rfl ?_
      refine g_cvv (as := [_]) (rest := []) 72 ck rfl rfl rfl rfl rfl rfl rfl rfl rfl rfl (Nat.le_of_ble_eq_true rfl) (s178 hs2 ?_)
      replace h := h _ rfl
      exact o182_72 hu1 h
  · replace h := ite_ht h (Classical.not_not.mp hc)
    refine g_al 49 ck rfl rfl rfl ?_
    refine g_cvv (as := []) (rest := []) 52 ck rfl rfl rfl rfl rfl rfl rfl rfl rfl rfl (Nat.le_of_ble_eq_true rfl) (wC.mono h (fun _ σ'' h => ?_))
    refine g_al 53 ck rfl rfl rfl ?_
    refine g_cvv (as := []) (rest := []) 56 ck rfl rfl rfl rfl rfl rfl rfl rfl rfl rfl (Nat.le_of_ble_eq_true rfl) (wC.mono h (fun _ σ''' h => ?_))
    refine g_goto 40 ck rfl rfl ?_
    exact h _ hu1
def w182_12 (B : va_E) (σ : l2_m) (x1 : Int)  (K : Int → l2_m → Prop) : Prop := lz2 (fun X12 x1 σ => (rg x1 ∧ (if x1 < 24576 then ((0 ≤ x1 ∧ x1 < 24576) ∧ ∀ σ''' : l2_m, σ''' = l2_u σ 188 x1 0 → X12 (x1 + 1) σ''') else (wC B 175 [vr 186] σ (fun _ σ' => (wC B 183 [vr 186] σ' (fun _ σ'' => w182_40 B σ'' K))))))) x1 σ
theorem o182_12 {B : va_E} {σ : l2_m} {x1 : Int}   {K : Int → l2_m → Prop}    (h : w182_12 B σ x1  K) : wW B 182 12 [vr 186, vi x1] [] σ K := by
  have ck : pm_code 182 = pc_182 := rfl
  unfold w182_12 at h
  refine h (fun x1 σ => wW B 182 12 [vr 186, vi x1] [] σ K) ?_
  clear h
  intro x1 σ h
  obtain ⟨hs1, h⟩ := h
  refine g_il 13 ck rfl rfl rfl ?_
  refine g_ic 16 ck rfl rfl ?_
  refine g_icge 19 32 ck rfl rfl rfl hs1 (by decide) (fun hc => ?_) (fun hc => ?_)
  · replace h := ite_hf h (Int.not_lt.mpr hc)
    refine g_al 33 ck rfl rfl rfl ?_
    refine g_cvv (as := []) (rest := []) 36 ck rfl rfl rfl rfl rfl rfl rfl rfl rfl rfl (Nat.le_of_ble_eq_true rfl) (wC.mono h (fun _ σ' h => ?_))
    refine g_al 37 ck rfl rfl rfl ?_
    refine g_cvv (as := []) (rest := []) 40 ck rfl rfl rfl rfl rfl rfl rfl rfl rfl rfl (Nat.le_of_ble_eq_true rfl) (wC.mono h (fun _ σ'' h => ?_))
    exact o182_40 rfl h
  · replace h := ite_ht h (Int.not_le.mp hc)
    obtain ⟨⟨hs2, hs3⟩, h⟩ := h
    refine g_al 20 ck rfl rfl rfl ?_
    refine r_gfr 23 188 ck rfl rfl rfl (by decide) ?_
    refine g_il 24 ck rfl rfl rfl ?_
    refine g_ic 25 ck rfl rfl ?_
    refine g_ias (m := 24576) 26 ck rfl rfl rfl hs2 hs3 ?_
    replace h := h _ rfl
    refine r_ii 29 ck rfl rfl rfl rfl ?_
    refine g_goto 12 ck rfl rfl ?_
    exact h
def w182 (B : va_E) (σ : l2_m)  (K : Int → l2_m → Prop) : Prop := (∀ σ' : l2_m, σ' = l2_u σ 186 9 0 → ∀ σ'' : l2_m, σ'' = l2_u σ' 186 13 0 → w182_12 B σ'' 0 K)
theorem o182 {B : va_E} {σ : l2_m}  {K : Int → l2_m → Prop}   (h : w182 B σ   K) : wC B 182 [vr 186] σ K := by
  have ck : pm_code 182 = pc_182 := rfl
  unfold w182 at h
  show wW B 182 0 [vr 186, pm_un] [] σ K
  refine g_al 1 ck rfl rfl rfl ?_
  refine g_ic 2 ck rfl rfl ?_
  refine g_pfi 5 ck rfl rfl rfl 9 rfl rfl ?_
  replace h := h _ rfl
  refine g_al 6 ck rfl rfl rfl ?_
  refine g_ic 7 ck rfl rfl ?_
  refine g_pfi 10 ck rfl rfl rfl 13 rfl rfl ?_
  replace h := h _ rfl
  refine g_ic 11 ck rfl rfl ?_
  refine r_is 12 ck rfl rfl rfl rfl ?_
  exact o182_12  h
/-! 183 TermDeskModel.readLine()V -/
def w183 (B : va_E) (σ : l2_m)  (K : Int → l2_m → Prop) : Prop := ((rg (σ 186 19) ∧ 0 ≤ (σ 186 23) ∧ (σ 186 23) < 9223372036854775808) ∧ (if (σ 186 19) = 2 ∧ (σ 186 23) = wcd (l2_tx 13) then (wC B 185 [vr 186] σ (fun _ σ''' => K 0 σ''')) else (if (σ 186 19) = 2 ∧ (σ 186 23) = wcd (l2_tx 14) then (wC B 187 [vr 186] σ (fun _ σ'' => K 0 σ'')) else (rg (σ 186 22) ∧ ∀ σ' : l2_m, σ' = flw σ 1 → K 0 σ'))))
theorem o183 {B : va_E} {σ : l2_m}  {K : Int → l2_m → Prop}   (h : w183 B σ   K) : wC B 183 [vr 186] σ K := by
  have ck : pm_code 183 = pc_183 := rfl
  unfold w183 at h
  show wW B 183 0 [vr 186] [] σ K
  obtain ⟨⟨hs1, hs2, hs3⟩, h⟩ := h
  refine g_al 1 ck rfl rfl rfl ?_
  refine g_ldc 3 ck rfl rfl ?_
  refine g_cvi (as := [_]) (rest := []) 6 ck rfl rfl rfl rfl rfl rfl (by decide) rfl rfl rfl rfl (Nat.le_of_ble_eq_true rfl) (s179 (by decide) hs1 hs2 hs3 ?_)
  refine g_ifeq 9 16 ck rfl rfl rfl rg_b2i (fun hc => ?_) (fun hc => ?_)
  · replace h := ite_hf h (b2i_f hc)
    refine g_al 17 ck rfl rfl rfl ?_
    refine g_ldc 19 ck rfl rfl ?_
    refine g_cvi (as := [_]) (rest := []) 22 ck rfl rfl rfl rfl rfl rfl (by decide) rfl rfl rfl rfl (Nat.le_of_ble_eq_true rfl) (s179 (by decide) hs1 hs2 hs3 ?_)
    refine g_ifeq 25 32 ck rfl rfl rfl rg_b2i (fun hc => ?_) (fun hc => ?_)
    · replace h := ite_hf h (b2i_f hc)
      obtain ⟨hs4, h⟩ := h
      refine g_al 33 ck rfl rfl rfl ?_
      refine g_ic 34 ck rfl rfl ?_
      refine g_cvv (as := [_]) (rest := []) 37 ck rfl rfl rfl rfl rfl rfl rfl rfl rfl rfl (Nat.le_of_ble_eq_true rfl) (s178 hs4 ?_)
      replace h := h _ rfl
      exact g_retv ck rfl rfl h
    · replace h := ite_ht h (b2i_t hc)
      refine g_al 26 ck rfl rfl rfl ?_
      refine g_cvv (as := []) (rest := []) 29 ck rfl rfl rfl rfl rfl rfl rfl rfl rfl rfl (Nat.le_of_ble_eq_true rfl) (wC.mono h (fun _ σ'' h => ?_))
      refine g_goto 37 ck rfl rfl ?_
      exact g_retv ck rfl rfl h
  · replace h := ite_ht h (b2i_t hc)
    refine g_al 10 ck rfl rfl rfl ?_
    refine g_cvv (as := []) (rest := []) 13 ck rfl rfl rfl rfl rfl rfl rfl rfl rfl rfl (Nat.le_of_ble_eq_true rfl) (wC.mono h (fun _ σ''' h => ?_))
    refine g_goto 37 ck rfl rfl ?_
    exact g_retv ck rfl rfl h
/-! 184 TermDeskModel.isPrime(I)Z -/
def w184_2 (B : va_E) (σ : l2_m) (x0 : Int) (x1 : Int)  (K : Int → l2_m → Prop) : Prop := lz1 (fun X2 x1 => ((rg x1 ∧ rg x0) ∧ (if x1 < x0 then ((0 < x1 ∧ 0 ≤ x0 ∧ rg (x0 % x1)) ∧ (if (x0 % x1) = 0 then K 0 σ else X2 (x1 + 1))) else K (b2i (2 ≤ x0 ∧ x0 ≤ 97)) σ))) x1
theorem o184_2 {B : va_E} {σ : l2_m} {x0 : Int} {x1 : Int}   {K : Int → l2_m → Prop}    (h : w184_2 B σ x0 x1  K) : wW B 184 2 [vi x0, vi x1] [] σ K := by
  have ck : pm_code 184 = pc_184 := rfl
  unfold w184_2 at h
  refine h (fun x1 => wW B 184 2 [vi x0, vi x1] [] σ K) ?_
  clear h
  intro x1 h
  obtain ⟨⟨hs1, hs2⟩, h⟩ := h
  refine g_il 3 ck rfl rfl rfl ?_
  refine g_il 4 ck rfl rfl rfl ?_
  refine g_icge 7 21 ck rfl rfl rfl hs1 hs2 (fun hc => ?_) (fun hc => ?_)
  · replace h := ite_hf h (Int.not_lt.mpr hc)
    refine g_il 22 ck rfl rfl rfl ?_
    refine g_ic 23 ck rfl rfl ?_
    refine g_ic 25 ck rfl rfl ?_
    refine g_csi (as := [_, _, _]) (rest := []) 28 ck rfl rfl rfl rfl rfl (by decide) rfl rfl rfl (Nat.le_of_ble_eq_true rfl) (s170 hs2 (by decide) (by decide) ?_)
    exact g_retb ck rfl rfl b2i_01 h
  · replace h := ite_ht h (Int.not_le.mp hc)
    obtain ⟨⟨hs3, hs4, hs5⟩, h⟩ := h
    refine g_il 8 ck rfl rfl rfl ?_
    refine g_il 9 ck rfl rfl rfl ?_
    refine g_rem 10 ck rfl rfl hs2 hs1 hs4 hs3 ?_
    refine g_ifne 13 15 ck rfl rfl rfl hs5 (fun hc => ?_) (fun hc => ?_)
    · replace h := ite_hf h hc
      refine r_ii 18 ck rfl rfl rfl rfl ?_
      refine g_goto 2 ck rfl rfl ?_
      exact h
    · replace h := ite_ht h (Classical.not_not.mp hc)
      refine g_ic 14 ck rfl rfl ?_
      exact g_retb ck rfl rfl (Or.inl rfl) h
def w184 (B : va_E) (σ : l2_m) (x0 : Int) (K : Int → l2_m → Prop) : Prop := w184_2 B σ x0 2 K
theorem o184 {B : va_E} {σ : l2_m} {x0 : Int} {K : Int → l2_m → Prop}   (h : w184 B σ x0  K) : wC B 184 [vi x0] σ K := by
  have ck : pm_code 184 = pc_184 := rfl
  unfold w184 at h
  show wW B 184 0 [vi x0, pm_un] [] σ K
  refine g_ic 1 ck rfl rfl ?_
  refine r_is 2 ck rfl rfl rfl rfl ?_
  exact o184_2  h
/-! 185 TermDeskModel.readRing()V -/
def w185_125 (B : va_E) (σ : l2_m) (x1 : Int)  (K : Int → l2_m → Prop) : Prop := (wC B 175 [vr 186] σ (fun _ σ' => (wC B 186 [vr 186, vi (-1), vi (-1)] σ' (fun y σ'' => (∀ σ''' : l2_m, σ''' = l2_u σ'' 186 11 y → (wC B 186 [vr 186, vi (σ''' 186 11), vi (-1)] σ''' (fun y' σ'''' => (∀ σ''''' : l2_m, σ''''' = l2_u σ'''' 186 12 y' → (wC B 186 [vr 186, vi (σ''''' 186 11), vi (σ''''' 186 12)] σ''''' (fun y'' σ'''''' => (rg (σ'''''' 186 22) ∧ (if (σ'''''' 186 22) = 0 then (∀ σ''''''' : l2_m, σ''''''' = l2_u σ'''''' 186 9 x1 → K 0 σ''''''') else K 0 σ''''''))))))))))))
theorem o185_125 {B : va_E} {σ : l2_m} {x1 : Int}   {K : Int → l2_m → Prop}    (h : w185_125 B σ x1  K) : wW B 185 125 [vr 186, vi x1] [] σ K := by
  have ck : pm_code 185 = pc_185 := rfl
  unfold w185_125 at h
  refine g_al 126 ck rfl rfl rfl ?_
  refine g_cvv (as := []) (rest := []) 129 ck rfl rfl rfl rfl rfl rfl rfl rfl rfl rfl (Nat.le_of_ble_eq_true rfl) (wC.mono h (fun _ σ' h => ?_))
  refine g_al 130 ck rfl rfl rfl ?_
  refine g_al 131 ck rfl rfl rfl ?_
  refine g_ic 132 ck rfl rfl ?_
  refine g_ic 133 ck rfl rfl ?_
  refine g_cvi (as := [_, _]) (rest := [_]) 136 ck rfl rfl rfl rfl rfl rfl (by decide) rfl rfl rfl rfl (Nat.le_of_ble_eq_true rfl) (wC.mono h (fun y σ'' h => ?_))
  refine g_pfi 139 ck rfl rfl rfl 11 rfl rfl ?_
  replace h := h _ rfl
  refine g_al 140 ck rfl rfl rfl ?_
  refine g_al 141 ck rfl rfl rfl ?_
  refine g_al 142 ck rfl rfl rfl ?_
  refine r_gfi 145 11 ck rfl rfl rfl rfl ?_
  refine g_ic 146 ck rfl rfl ?_
  refine g_cvi (as := [_, _]) (rest := [_]) 149 ck rfl rfl rfl rfl rfl rfl (by decide) rfl rfl rfl rfl (Nat.le_of_ble_eq_true rfl) (wC.mono h (fun y' σ'''' h => ?_))
  refine g_pfi 152 ck rfl rfl rfl 12 rfl rfl ?_
  replace h := h _ rfl
  refine g_al 153 ck rfl rfl rfl ?_
  refine g_al 154 ck rfl rfl rfl ?_
  refine r_gfi 157 11 ck rfl rfl rfl rfl ?_
  refine g_al 158 ck rfl rfl rfl ?_
  refine r_gfi 161 12 ck rfl rfl rfl rfl ?_
  refine g_cvi (as := [_, _]) (rest := []) 164 ck rfl rfl rfl rfl rfl rfl (by decide) rfl rfl rfl rfl (Nat.le_of_ble_eq_true rfl) (wC.mono h (fun y'' σ'''''' h => ?_))
  obtain ⟨hs1, h⟩ := h
  refine g_pop 165 ck rfl rfl rfl ?_
  refine g_al 166 ck rfl rfl rfl ?_
  refine r_gfi 169 22 ck rfl rfl rfl rfl ?_
  refine g_ifne 172 177 ck rfl rfl rfl hs1 (fun hc => ?_) (fun hc => ?_)
  · replace h := ite_hf h hc
    exact g_retv ck rfl rfl h
  · replace h := ite_ht h (Classical.not_not.mp hc)
    refine g_al 173 ck rfl rfl rfl ?_
    refine g_il 174 ck rfl rfl rfl ?_
    refine g_pfi 177 ck rfl rfl rfl 9 rfl rfl ?_
    replace h := h _ rfl
    exact g_retv ck rfl rfl h
def w185_109 (B : va_E) (σ : l2_m) (x1 : Int) (z1 : Int)  (K : Int → l2_m → Prop) : Prop := (∀ σ' : l2_m, σ' = l2_u σ 186 10 z1 → rg (σ' 186 10) ∧ (if (σ' 186 10) = (-1) then (rg (σ' 186 22) ∧ ∀ σ'' : l2_m, σ'' = flw σ' 1 → w185_125 B σ'' x1 K) else w185_125 B σ' x1 K))
theorem o185_109 {B : va_E} {σ : l2_m} {x1 : Int} {z1 : Int}   {K : Int → l2_m → Prop}    (h : w185_109 B σ x1 z1  K) : wW B 185 109 [vr 186, vi x1] [vi z1, vr 186] σ K := by
  have ck : pm_code 185 = pc_185 := rfl
  unfold w185_109 at h
  refine g_pfi 112 ck rfl rfl rfl 10 rfl rfl ?_
  replace h := h _ rfl
  obtain ⟨hs1, h⟩ := h
  refine g_al 113 ck rfl rfl rfl ?_
  refine r_gfi 116 10 ck rfl rfl rfl rfl ?_
  refine g_ic 117 ck rfl rfl ?_
  refine g_icne 120 125 ck rfl rfl rfl hs1 (by decide) (fun hc => ?_) (fun hc => ?_)
  · replace h := ite_hf h hc
    exact o185_125  h
  · replace h := ite_ht h (Classical.not_not.mp hc)
    obtain ⟨hs2, h⟩ := h
    refine g_al 121 ck rfl rfl rfl ?_
    refine g_ic 122 ck rfl rfl ?_
    refine g_cvv (as := [_]) (rest := []) 125 ck rfl rfl rfl rfl rfl rfl rfl rfl rfl rfl (Nat.le_of_ble_eq_true rfl) (s178 hs2 ?_)
    replace h := h _ rfl
    exact o185_125  h
def w185_53 (B : va_E) (σ : l2_m)   (K : Int → l2_m → Prop) : Prop := (∀ x1 : Int, x1 = (σ 186 21) → (wC B 175 [vr 186] σ (fun _ σ' => (wC B 180 [vr 186, vr 16] σ' (fun _ σ'' => ((rg (σ'' 186 19) ∧ 0 ≤ (σ'' 186 23) ∧ (σ'' 186 23) < 9223372036854775808) ∧ (if (σ'' 186 19) = 2 ∧ (σ'' 186 23) = wcd (l2_tx 17) then w185_109 B σ'' x1 0 K else (if (σ'' 186 19) = 2 ∧ (σ'' 186 23) = wcd (l2_tx 18) then w185_109 B σ'' x1 1 K else (if (σ'' 186 19) = 2 ∧ (σ'' 186 23) = wcd (l2_tx 19) then w185_109 B σ'' x1 2 K else w185_109 B σ'' x1 (-1) K)))))))))
theorem o185_53 {B : va_E} {σ : l2_m}  {u1 : Value}  {K : Int → l2_m → Prop}  (hu1 : (u1.category == 1) = true)  (h : w185_53 B σ   K) : wW B 185 53 [vr 186, u1] [] σ K := by
  have ck : pm_code 185 = pc_185 := rfl
  unfold w185_53 at h
  refine g_al 54 ck rfl rfl rfl ?_
  refine r_gfi 57 21 ck rfl rfl rfl rfl ?_
  refine r_is 58 ck rfl rfl rfl rfl ?_
  replace h := h _ rfl
  refine g_al 59 ck rfl rfl rfl ?_
  refine g_cvv (as := []) (rest := []) 62 ck rfl rfl rfl rfl rfl rfl rfl rfl rfl rfl (Nat.le_of_ble_eq_true rfl) (wC.mono h (fun _ σ' h => ?_))
  refine g_al 63 ck rfl rfl rfl ?_
  refine g_ldc 65 ck rfl rfl ?_
  refine g_cvv (as := [_]) (rest := []) 68 ck rfl rfl rfl rfl rfl rfl rfl rfl rfl rfl (Nat.le_of_ble_eq_true rfl) (wC.mono h (fun _ σ'' h => ?_))
  obtain ⟨⟨hs1, hs2, hs3⟩, h⟩ := h
  refine g_al 69 ck rfl rfl rfl ?_
  refine g_al 70 ck rfl rfl rfl ?_
  refine g_ldc 72 ck rfl rfl ?_
  refine g_cvi (as := [_]) (rest := [_]) 75 ck rfl rfl rfl rfl rfl rfl (by decide) rfl rfl rfl rfl (Nat.le_of_ble_eq_true rfl) (s179 (by decide) hs1 hs2 hs3 ?_)
  refine g_ifeq 78 82 ck rfl rfl rfl rg_b2i (fun hc => ?_) (fun hc => ?_)
  · replace h := ite_hf h (b2i_f hc)
    refine g_al 83 ck rfl rfl rfl ?_
    refine g_ldc 85 ck rfl rfl ?_
    refine g_cvi (as := [_]) (rest := [_]) 88 ck rfl rfl rfl rfl rfl rfl (by decide) rfl rfl rfl rfl (Nat.le_of_ble_eq_true rfl) (s179 (by decide) hs1 hs2 hs3 ?_)
    refine g_ifeq 91 95 ck rfl rfl rfl rg_b2i (fun hc => ?_) (fun hc => ?_)
    · replace h := ite_hf h (b2i_f hc)
      refine g_al 96 ck rfl rfl rfl ?_
      refine g_ldc 98 ck rfl rfl ?_
      refine g_cvi (as := [_]) (rest := [_]) 101 ck rfl rfl rfl rfl rfl rfl (by decide) rfl rfl rfl rfl (Nat.le_of_ble_eq_true rfl) (s179 (by decide) hs1 hs2 hs3 ?_)
      refine g_ifeq 104 108 ck rfl rfl rfl rg_b2i (fun hc => ?_) (fun hc => ?_)
      · replace h := ite_hf h (b2i_f hc)
        refine g_ic 109 ck rfl rfl ?_
        exact o185_109  h
      · replace h := ite_ht h (b2i_t hc)
        refine g_ic 105 ck rfl rfl ?_
        refine g_goto 109 ck rfl rfl ?_
        exact o185_109  h
    · replace h := ite_ht h (b2i_t hc)
      refine g_ic 92 ck rfl rfl ?_
      refine g_goto 109 ck rfl rfl ?_
      exact o185_109  h
  · replace h := ite_ht h (b2i_t hc)
    refine g_ic 79 ck rfl rfl ?_
    refine g_goto 109 ck rfl rfl ?_
    exact o185_109  h
def w185_12 (B : va_E) (σ : l2_m)   (K : Int → l2_m → Prop) : Prop := (wC B 175 [vr 186] σ (fun _ σ' => (wC B 180 [vr 186, vr 15] σ' (fun _ σ'' => (rg (σ'' 186 19) ∧ (if (σ'' 186 19) = 3 then (wC B 184 [vi (σ'' 186 21)] σ'' (fun y σ''' => (rg y ∧ (if y = 0 then (rg (σ''' 186 22) ∧ ∀ σ'''' : l2_m, σ'''' = flw σ''' 2 → w185_53 B σ'''' K) else w185_53 B σ''' K)))) else (rg (σ'' 186 22) ∧ ∀ σ''''' : l2_m, σ''''' = flw σ'' 1 → w185_53 B σ''''' K)))))))
theorem o185_12 {B : va_E} {σ : l2_m}  {u1 : Value}  {K : Int → l2_m → Prop}  (hu1 : (u1.category == 1) = true)  (h : w185_12 B σ   K) : wW B 185 12 [vr 186, u1] [] σ K := by
  have ck : pm_code 185 = pc_185 := rfl
  unfold w185_12 at h
  refine g_al 13 ck rfl rfl rfl ?_
  refine g_cvv (as := []) (rest := []) 16 ck rfl rfl rfl rfl rfl rfl rfl rfl rfl rfl (Nat.le_of_ble_eq_true rfl) (wC.mono h (fun _ σ' h => ?_))
  refine g_al 17 ck rfl rfl rfl ?_
  refine g_ldc 19 ck rfl rfl ?_
  refine g_cvv (as := [_]) (rest := []) 22 ck rfl rfl rfl rfl rfl rfl rfl rfl rfl rfl (Nat.le_of_ble_eq_true rfl) (wC.mono h (fun _ σ'' h => ?_))
  obtain ⟨hs1, h⟩ := h
  refine g_al 23 ck rfl rfl rfl ?_
  refine r_gfi 26 19 ck rfl rfl rfl rfl ?_
  refine g_ic 27 ck rfl rfl ?_
  refine g_iceq 30 38 ck rfl rfl rfl hs1 (by decide) (fun hc => ?_) (fun hc => ?_)
  · replace h := ite_ht h hc
    refine g_al 39 ck rfl rfl rfl ?_
    refine r_gfi 42 21 ck rfl rfl rfl rfl ?_
    refine g_csi (as := [_]) (rest := []) 45 ck rfl rfl rfl rfl rfl (by decide) rfl rfl rfl (Nat.le_of_ble_eq_true rfl) (wC.mono h (fun y σ''' h => ?_))
    obtain ⟨hs2, h⟩ := h
    refine g_ifne 48 53 ck rfl rfl rfl hs2 (fun hc => ?_) (fun hc => ?_)
    · replace h := ite_hf h hc
      exact o185_53 hu1 h
    · replace h := ite_ht h (Classical.not_not.mp hc)
      obtain ⟨hs3, h⟩ := h
      refine g_al 49 ck rfl rfl rfl ?_
      refine g_ic 50 ck rfl rfl ?_
      refine g_cvv (as := [_]) (rest := []) 53 ck rfl rfl rfl rfl rfl rfl rfl rfl rfl rfl (Nat.le_of_ble_eq_true rfl) (s178 hs3 ?_)
      replace h := h _ rfl
      exact o185_53 hu1 h
  · replace h := ite_hf h hc
    obtain ⟨hs4, h⟩ := h
    refine g_al 31 ck rfl rfl rfl ?_
    refine g_ic 32 ck rfl rfl ?_
    refine g_cvv (as := [_]) (rest := []) 35 ck rfl rfl rfl rfl rfl rfl rfl rfl rfl rfl (Nat.le_of_ble_eq_true rfl) (s178 hs4 ?_)
    replace h := h _ rfl
    refine g_goto 53 ck rfl rfl ?_
    exact o185_53 hu1 h
def w185 (B : va_E) (σ : l2_m)  (K : Int → l2_m → Prop) : Prop := (rg (σ 186 9) ∧ (if 0 < (σ 186 9) then (rg (σ 186 22) ∧ ∀ σ' : l2_m, σ' = flw σ 3 → w185_12 B σ' K) else w185_12 B σ K))
theorem o185 {B : va_E} {σ : l2_m}  {K : Int → l2_m → Prop}   (h : w185 B σ   K) : wC B 185 [vr 186] σ K := by
  have ck : pm_code 185 = pc_185 := rfl
  unfold w185 at h
  show wW B 185 0 [vr 186, pm_un] [] σ K
  obtain ⟨hs1, h⟩ := h
  refine g_al 1 ck rfl rfl rfl ?_
  refine r_gfi 4 9 ck rfl rfl rfl rfl ?_
  refine g_ifle 7 12 ck rfl rfl rfl hs1 (fun hc => ?_) (fun hc => ?_)
  · replace h := ite_hf h (Int.not_lt.mpr hc)
    exact o185_12 rfl h
  · replace h := ite_ht h (Int.not_le.mp hc)
    obtain ⟨hs2, h⟩ := h
    refine g_al 8 ck rfl rfl rfl ?_
    refine g_ic 9 ck rfl rfl ?_
    refine g_cvv (as := [_]) (rest := []) 12 ck rfl rfl rfl rfl rfl rfl rfl rfl rfl rfl (Nat.le_of_ble_eq_true rfl) (s178 hs2 ?_)
    replace h := h _ rfl
    exact o185_12 rfl h
/-! 186 TermDeskModel.readUnknown(II)I -/
def w186_33 (B : va_E) (σ : l2_m) (x3 : Int)  (K : Int → l2_m → Prop) : Prop := (wC B 175 [vr 186] σ (fun _ σ' => K x3 σ'))
theorem o186_33 {B : va_E} {σ : l2_m} {x3 : Int} {u1 : Value} {u2 : Value}  {K : Int → l2_m → Prop}  (hu1 : (u1.category == 1) = true) (hu2 : (u2.category == 1) = true)  (h : w186_33 B σ x3  K) : wW B 186 33 [vr 186, u1, u2, vi x3] [] σ K := by
  have ck : pm_code 186 = pc_186 := rfl
  unfold w186_33 at h
  refine g_al 34 ck rfl rfl rfl ?_
  refine g_cvv (as := []) (rest := []) 37 ck rfl rfl rfl rfl rfl rfl rfl rfl rfl rfl (Nat.le_of_ble_eq_true rfl) (wC.mono h (fun _ σ' h => ?_))
  refine g_il 38 ck rfl rfl rfl ?_
  exact g_ret ck rfl rfl (Or.inl (by decide)) h
def w186_28 (B : va_E) (σ : l2_m) (x3 : Int)  (K : Int → l2_m → Prop) : Prop := (rg (σ 186 22) ∧ ∀ σ' : l2_m, σ' = flw σ 3 → w186_33 B σ' x3 K)
theorem o186_28 {B : va_E} {σ : l2_m} {x3 : Int} {u1 : Value} {u2 : Value}  {K : Int → l2_m → Prop}  (hu1 : (u1.category == 1) = true) (hu2 : (u2.category == 1) = true)  (h : w186_28 B σ x3  K) : wW B 186 28 [vr 186, u1, u2, vi x3] [] σ K := by
  have ck : pm_code 186 = pc_186 := rfl
  unfold w186_28 at h
  obtain ⟨hs1, h⟩ := h
  refine g_al 29 ck rfl rfl rfl ?_
  refine g_ic 30 ck rfl rfl ?_
  refine g_cvv (as := [_]) (rest := []) 33 ck rfl rfl rfl rfl rfl rfl rfl rfl rfl rfl (Nat.le_of_ble_eq_true rfl) (s178 hs1 ?_)
  replace h := h _ rfl
  exact o186_33 hu1 hu2 h
def w186 (B : va_E) (σ : l2_m) (x1 : Int) (x2 : Int) (K : Int → l2_m → Prop) : Prop := ((rg (σ 186 19) ∧ 0 ≤ (σ 186 23) ∧ (σ 186 23) < 9223372036854775808) ∧ ∀ x3 : Int, x3 = (unkR σ) → (if x3 = (-1) then (rg (σ 186 22) ∧ ∀ σ' : l2_m, σ' = flw σ 1 → w186_33 B σ' x3 K) else (rg x1 ∧ ((¬ (x3 = x1) → rg x2) ∧ (if (x3 = x1) ∨ (x3 = x2) then w186_28 B σ x3 K else w186_33 B σ x3 K)))))
theorem o186 {B : va_E} {σ : l2_m} {x1 : Int} {x2 : Int} {K : Int → l2_m → Prop}   (h : w186 B σ x1 x2  K) : wC B 186 [vr 186, vi x1, vi x2] σ K := by
  have ck : pm_code 186 = pc_186 := rfl
  unfold w186 at h
  show wW B 186 0 [vr 186, vi x1, vi x2, pm_un] [] σ K
  replace h := (And.imp_right (fun h x e => (ite_mp id (And.imp_right mg_1s)) (h x e))) h
  obtain ⟨⟨hs1, hs2, hs3⟩, h⟩ := h
  refine g_al 1 ck rfl rfl rfl ?_
  refine g_cvi (as := []) (rest := []) 4 ck rfl rfl rfl rfl rfl rfl (by decide) rfl rfl rfl rfl (Nat.le_of_ble_eq_true rfl) (s181 hs1 hs2 hs3 ?_)
  refine r_is 5 ck rfl rfl rfl rfl ?_
  replace h := h _ rfl
  refine g_il 6 ck rfl rfl rfl ?_
  refine g_ic 7 ck rfl rfl ?_
  refine g_icne 10 18 ck rfl rfl rfl (unkR_rg _) (by decide) (fun hc => ?_) (fun hc => ?_)
  · replace h := ite_hf h hc
    obtain ⟨hs4, h⟩ := h
    refine g_il 19 ck rfl rfl rfl ?_
    refine g_il 20 ck rfl rfl rfl ?_
    refine g_iceq 23 28 ck rfl rfl rfl (unkR_rg _) hs4 (fun hc => ?_) (fun hc => ?_)
    · replace h := ite_ht h hc
      exact o186_28 rfl rfl h
    · replace h := ite_hf h hc
      obtain ⟨hs5, h⟩ := h
      refine g_il 24 ck rfl rfl rfl ?_
      refine g_il 25 ck rfl rfl rfl ?_
      refine g_icne 28 33 ck rfl rfl rfl (unkR_rg _) hs5 (fun hc => ?_) (fun hc => ?_)
      · replace h := ite_hf h hc
        exact o186_33 rfl rfl h
      · replace h := ite_ht h (Classical.not_not.mp hc)
        exact o186_28 rfl rfl h
  · replace h := ite_ht h (Classical.not_not.mp hc)
    obtain ⟨hs6, h⟩ := h
    refine g_al 11 ck rfl rfl rfl ?_
    refine g_ic 12 ck rfl rfl ?_
    refine g_cvv (as := [_]) (rest := []) 15 ck rfl rfl rfl rfl rfl rfl rfl rfl rfl rfl (Nat.le_of_ble_eq_true rfl) (s178 hs6 ?_)
    replace h := h _ rfl
    refine g_goto 33 ck rfl rfl ?_
    exact o186_33 rfl rfl h
/-! 187 TermDeskModel.readPoly()V -/
def w187_126 (B : va_E) (σ : l2_m)   (K : Int → l2_m → Prop) : Prop := (rg (σ 186 22) ∧ (if (σ 186 22) = 0 then (∀ σ' : l2_m, σ' = l2_u σ 186 13 ((σ 186 13) + 1) → K 0 σ') else K 0 σ))
theorem o187_126 {B : va_E} {σ : l2_m}  {u1 : Value} {u2 : Value}  {K : Int → l2_m → Prop}  (hu1 : (u1.category == 1) = true) (hu2 : (u2.category == 1) = true)  (h : w187_126 B σ   K) : wW B 187 126 [vr 186, u1, u2] [] σ K := by
  have ck : pm_code 187 = pc_187 := rfl
  unfold w187_126 at h
  obtain ⟨hs1, h⟩ := h
  refine g_al 127 ck rfl rfl rfl ?_
  refine r_gfi 130 22 ck rfl rfl rfl rfl ?_
  refine g_ifne 133 143 ck rfl rfl rfl hs1 (fun hc => ?_) (fun hc => ?_)
  · replace h := ite_hf h hc
    exact g_retv ck rfl rfl h
  · replace h := ite_ht h (Classical.not_not.mp hc)
    refine g_al 134 ck rfl rfl rfl ?_
    refine g_dup 135 ck rfl rfl rfl ?_
    refine r_gfi 138 13 ck rfl rfl rfl rfl ?_
    refine g_ic 139 ck rfl rfl ?_
    refine g_add 140 ck rfl rfl ?_
    refine g_pfi 143 ck rfl rfl rfl 13 rfl rfl ?_
    replace h := h _ rfl
    exact g_retv ck rfl rfl h
def w187_110 (B : va_E) (σ : l2_m) (x2 : Int) (z0 : Int) (X61 : Int → l2_m → Prop) (K : Int → l2_m → Prop) : Prop := (wC B 175 [vr 186] σ (fun _ σ' => (wC B 188 [vr 186, vi z0] σ' (fun _ σ'' => X61 (x2 + 1) σ''))))
theorem o187_110 {B : va_E} {σ : l2_m} {x2 : Int} {z0 : Int} {u1 : Value} {X61 : Int → l2_m → Prop} {K : Int → l2_m → Prop}  (hu1 : (u1.category == 1) = true) (hX61 : ∀ (x2 : Int) (σ : l2_m) (u1 : Value), (u1.category == 1) = true → X61 x2 σ → wW B 187 61 [vr 186, u1, vi x2] [] σ K) (h : w187_110 B σ x2 z0 X61 K) : wW B 187 110 [vr 186, u1, vi x2] [vi z0] σ K := by
  have ck : pm_code 187 = pc_187 := rfl
  unfold w187_110 at h
  refine r_is 111 ck rfl rfl rfl rfl ?_
  refine g_al 112 ck rfl rfl rfl ?_
  refine g_cvv (as := []) (rest := []) 115 ck rfl rfl rfl rfl rfl rfl rfl rfl rfl rfl (Nat.le_of_ble_eq_true rfl) (wC.mono h (fun _ σ' h => ?_))
  refine g_al 116 ck rfl rfl rfl ?_
  refine g_il 117 ck rfl rfl rfl ?_
  refine g_cvv (as := [_]) (rest := []) 120 ck rfl rfl rfl rfl rfl rfl rfl rfl rfl rfl (Nat.le_of_ble_eq_true rfl) (wC.mono h (fun _ σ'' h => ?_))
  refine r_ii 123 ck rfl rfl rfl rfl ?_
  refine g_goto 61 ck rfl rfl ?_
  exact hX61 _ _ _ rfl h
def w187_96 (B : va_E) (σ : l2_m) (x2 : Int) (X61 : Int → l2_m → Prop) (K : Int → l2_m → Prop) : Prop := (rg (σ 186 19) ∧ (if (σ 186 19) = 6 then w187_110 B σ x2 1 X61 K else w187_110 B σ x2 0 X61 K))
theorem o187_96 {B : va_E} {σ : l2_m} {x2 : Int} {u1 : Value} {X61 : Int → l2_m → Prop} {K : Int → l2_m → Prop}  (hu1 : (u1.category == 1) = true) (hX61 : ∀ (x2 : Int) (σ : l2_m) (u1 : Value), (u1.category == 1) = true → X61 x2 σ → wW B 187 61 [vr 186, u1, vi x2] [] σ K) (h : w187_96 B σ x2 X61 K) : wW B 187 96 [vr 186, u1, vi x2] [] σ K := by
  have ck : pm_code 187 = pc_187 := rfl
  unfold w187_96 at h
  obtain ⟨hs1, h⟩ := h
  refine g_al 97 ck rfl rfl rfl ?_
  refine r_gfi 100 19 ck rfl rfl rfl rfl ?_
  refine g_ic 102 ck rfl rfl ?_
  refine g_icne 105 109 ck rfl rfl rfl hs1 (by decide) (fun hc => ?_) (fun hc => ?_)
  · replace h := ite_hf h hc
    refine g_ic 110 ck rfl rfl ?_
    exact o187_110 hu1 hX61 h
  · replace h := ite_ht h (Classical.not_not.mp hc)
    refine g_ic 106 ck rfl rfl ?_
    refine g_goto 110 ck rfl rfl ?_
    exact o187_110 hu1 hX61 h
def w187_85 (B : va_E) (σ : l2_m) (x2 : Int) (X61 : Int → l2_m → Prop) (K : Int → l2_m → Prop) : Prop := (rg x2 ∧ (if x2 = 12 then (rg (σ 186 22) ∧ ∀ σ' : l2_m, σ' = flw σ 5 → w187_96 B σ' x2 X61 K) else w187_96 B σ x2 X61 K))
theorem o187_85 {B : va_E} {σ : l2_m} {x2 : Int} {u1 : Value} {X61 : Int → l2_m → Prop} {K : Int → l2_m → Prop}  (hu1 : (u1.category == 1) = true) (hX61 : ∀ (x2 : Int) (σ : l2_m) (u1 : Value), (u1.category == 1) = true → X61 x2 σ → wW B 187 61 [vr 186, u1, vi x2] [] σ K) (h : w187_85 B σ x2 X61 K) : wW B 187 85 [vr 186, u1, vi x2] [] σ K := by
  have ck : pm_code 187 = pc_187 := rfl
  unfold w187_85 at h
  obtain ⟨hs1, h⟩ := h
  refine g_il 86 ck rfl rfl rfl ?_
  refine g_ic 88 ck rfl rfl ?_
  refine g_icne 91 96 ck rfl rfl rfl hs1 (by decide) (fun hc => ?_) (fun hc => ?_)
  · replace h := ite_hf h hc
    exact o187_96 hu1 hX61 h
  · replace h := ite_ht h (Classical.not_not.mp hc)
    obtain ⟨hs2, h⟩ := h
    refine g_al 92 ck rfl rfl rfl ?_
    refine g_ic 93 ck rfl rfl ?_
    refine g_cvv (as := [_]) (rest := []) 96 ck rfl rfl rfl rfl rfl rfl rfl rfl rfl rfl (Nat.le_of_ble_eq_true rfl) (s178 hs2 ?_)
    replace h := h _ rfl
    exact o187_96 hu1 hX61 h
def w187_61 (B : va_E) (σ : l2_m) (x2 : Int)  (K : Int → l2_m → Prop) : Prop := lz2 (fun X61 x2 σ => (rg (σ 186 22) ∧ ((((σ 186 22) = 0) → rg (σ 186 19)) ∧ (if ((σ 186 22) = 0) ∧ (((σ 186 19) = 5) ∨ ((σ 186 19) = 6)) then w187_85 B σ x2 X61 K else w187_126 B σ K)))) x2 σ
theorem o187_61 {B : va_E} {σ : l2_m} {x2 : Int} {u1 : Value}  {K : Int → l2_m → Prop}  (hu1 : (u1.category == 1) = true)  (h : w187_61 B σ x2  K) : wW B 187 61 [vr 186, u1, vi x2] [] σ K := by
  have ck : pm_code 187 = pc_187 := rfl
  unfold w187_61 at h
  refine h (fun x2 σ => ∀ u1 : Value, (u1.category == 1) = true → wW B 187 61 [vr 186, u1, vi x2] [] σ K) ?_ u1 hu1
  clear h
  intro x2 σ h u1 hu1
  replace h := (And.imp_right (fun h => ite_mp (And.imp_right mg_1) id (mg_3s h))) h
  obtain ⟨hs1, h⟩ := h
  refine g_al 62 ck rfl rfl rfl ?_
  refine r_gfi 65 22 ck rfl rfl rfl rfl ?_
  refine g_ifne 68 126 ck rfl rfl rfl hs1 (fun hc => ?_) (fun hc => ?_)
  · replace h := ite_hf h hc
    exact o187_126 hu1 rfl h
  · replace h := ite_ht h (Classical.not_not.mp hc)
    obtain ⟨hs2, h⟩ := h
    refine g_al 69 ck rfl rfl rfl ?_
    refine r_gfi 72 19 ck rfl rfl rfl rfl ?_
    refine g_ic 73 ck rfl rfl ?_
    refine g_iceq 76 85 ck rfl rfl rfl hs2 (by decide) (fun hc => ?_) (fun hc => ?_)
    · replace h := ite_ht h hc
      exact o187_85 hu1 (fun _ _ u1 hu1 hx => hx u1 hu1) h
    · replace h := ite_hf h hc
      refine g_al 77 ck rfl rfl rfl ?_
      refine r_gfi 80 19 ck rfl rfl rfl rfl ?_
      refine g_ic 82 ck rfl rfl ?_
      refine g_icne 85 126 ck rfl rfl rfl hs2 (by decide) (fun hc => ?_) (fun hc => ?_)
      · replace h := ite_hf h hc
        exact o187_126 hu1 rfl h
      · replace h := ite_ht h (Classical.not_not.mp hc)
        exact o187_85 hu1 (fun _ _ u1 hu1 hx => hx u1 hu1) h
def w187_54 (B : va_E) (σ : l2_m) (x1 : Int)  (K : Int → l2_m → Prop) : Prop := (wC B 188 [vr 186, vi x1] σ (fun _ σ' => w187_61 B σ' 1 K))
theorem o187_54 {B : va_E} {σ : l2_m} {x1 : Int} {u2 : Value}  {K : Int → l2_m → Prop}  (hu2 : (u2.category == 1) = true)  (h : w187_54 B σ x1  K) : wW B 187 54 [vr 186, vi x1, u2] [] σ K := by
  have ck : pm_code 187 = pc_187 := rfl
  unfold w187_54 at h
  refine g_al 55 ck rfl rfl rfl ?_
  refine g_il 56 ck rfl rfl rfl ?_
  refine g_cvv (as := [_]) (rest := []) 59 ck rfl rfl rfl rfl rfl rfl rfl rfl rfl rfl (Nat.le_of_ble_eq_true rfl) (wC.mono h (fun _ σ' h => ?_))
  refine g_ic 60 ck rfl rfl ?_
  refine r_is 61 ck rfl rfl rfl rfl ?_
  exact o187_61 rfl h
def w187_45 (B : va_E) (σ : l2_m) (z0 : Int)  (K : Int → l2_m → Prop) : Prop := (rg z0 ∧ (if z0 = 0 then w187_54 B σ z0 K else (wC B 175 [vr 186] σ (fun _ σ' => w187_54 B σ' z0 K))))
theorem o187_45 {B : va_E} {σ : l2_m} {z0 : Int} {u1 : Value} {u2 : Value}  {K : Int → l2_m → Prop}  (hu1 : (u1.category == 1) = true) (hu2 : (u2.category == 1) = true)  (h : w187_45 B σ z0  K) : wW B 187 45 [vr 186, u1, u2] [vi z0] σ K := by
  have ck : pm_code 187 = pc_187 := rfl
  unfold w187_45 at h
  obtain ⟨hs1, h⟩ := h
  refine r_is 46 ck rfl rfl rfl rfl ?_
  refine g_il 47 ck rfl rfl rfl ?_
  refine g_ifeq 50 54 ck rfl rfl rfl hs1 (fun hc => ?_) (fun hc => ?_)
  · replace h := ite_ht h hc
    exact o187_54 hu2 h
  · replace h := ite_hf h hc
    refine g_al 51 ck rfl rfl rfl ?_
    refine g_cvv (as := []) (rest := []) 54 ck rfl rfl rfl rfl rfl rfl rfl rfl rfl rfl (Nat.le_of_ble_eq_true rfl) (wC.mono h (fun _ σ' h => ?_))
    exact o187_54 hu2 h
def w187_27 (B : va_E) (σ : l2_m)   (K : Int → l2_m → Prop) : Prop := (wC B 175 [vr 186] σ (fun _ σ' => (rg (σ' 186 19) ∧ (if (σ' 186 19) = 6 then w187_45 B σ' 1 K else w187_45 B σ' 0 K))))
theorem o187_27 {B : va_E} {σ : l2_m}  {u1 : Value} {u2 : Value}  {K : Int → l2_m → Prop}  (hu1 : (u1.category == 1) = true) (hu2 : (u2.category == 1) = true)  (h : w187_27 B σ   K) : wW B 187 27 [vr 186, u1, u2] [] σ K := by
  have ck : pm_code 187 = pc_187 := rfl
  unfold w187_27 at h
  refine g_al 28 ck rfl rfl rfl ?_
  refine g_cvv (as := []) (rest := []) 31 ck rfl rfl rfl rfl rfl rfl rfl rfl rfl rfl (Nat.le_of_ble_eq_true rfl) (wC.mono h (fun _ σ' h => ?_))
  obtain ⟨hs1, h⟩ := h
  refine g_al 32 ck rfl rfl rfl ?_
  refine r_gfi 35 19 ck rfl rfl rfl rfl ?_
  refine g_ic 37 ck rfl rfl ?_
  refine g_icne 40 44 ck rfl rfl rfl hs1 (by decide) (fun hc => ?_) (fun hc => ?_)
  · replace h := ite_hf h hc
    refine g_ic 45 ck rfl rfl ?_
    exact o187_45 hu1 hu2 h
  · replace h := ite_ht h (Classical.not_not.mp hc)
    refine g_ic 41 ck rfl rfl ?_
    refine g_goto 45 ck rfl rfl ?_
    exact o187_45 hu1 hu2 h
def w187_14 (B : va_E) (σ : l2_m)   (K : Int → l2_m → Prop) : Prop := (rg (σ 186 9) ∧ (if (σ 186 9) = 0 then (rg (σ 186 22) ∧ ∀ σ' : l2_m, σ' = flw σ 6 → w187_27 B σ' K) else w187_27 B σ K))
theorem o187_14 {B : va_E} {σ : l2_m}  {u1 : Value} {u2 : Value}  {K : Int → l2_m → Prop}  (hu1 : (u1.category == 1) = true) (hu2 : (u2.category == 1) = true)  (h : w187_14 B σ   K) : wW B 187 14 [vr 186, u1, u2] [] σ K := by
  have ck : pm_code 187 = pc_187 := rfl
  unfold w187_14 at h
  obtain ⟨hs1, h⟩ := h
  refine g_al 15 ck rfl rfl rfl ?_
  refine r_gfi 18 9 ck rfl rfl rfl rfl ?_
  refine g_ifne 21 27 ck rfl rfl rfl hs1 (fun hc => ?_) (fun hc => ?_)
  · replace h := ite_hf h hc
    exact o187_27 hu1 hu2 h
  · replace h := ite_ht h (Classical.not_not.mp hc)
    obtain ⟨hs2, h⟩ := h
    refine g_al 22 ck rfl rfl rfl ?_
    refine g_ic 24 ck rfl rfl ?_
    refine g_cvv (as := [_]) (rest := []) 27 ck rfl rfl rfl rfl rfl rfl rfl rfl rfl rfl (Nat.le_of_ble_eq_true rfl) (s178 hs2 ?_)
    replace h := h _ rfl
    exact o187_27 hu1 hu2 h
def w187 (B : va_E) (σ : l2_m)  (K : Int → l2_m → Prop) : Prop := (rg (σ 186 13) ∧ (if (σ 186 13) = 6 then (rg (σ 186 22) ∧ ∀ σ' : l2_m, σ' = flw σ 5 → w187_14 B σ' K) else w187_14 B σ K))
theorem o187 {B : va_E} {σ : l2_m}  {K : Int → l2_m → Prop}   (h : w187 B σ   K) : wC B 187 [vr 186] σ K := by
  have ck : pm_code 187 = pc_187 := rfl
  unfold w187 at h
  show wW B 187 0 [vr 186, pm_un, pm_un] [] σ K
  obtain ⟨hs1, h⟩ := h
  refine g_al 1 ck rfl rfl rfl ?_
  refine r_gfi 4 13 ck rfl rfl rfl rfl ?_
  refine g_ic 6 ck rfl rfl ?_
  refine g_icne 9 14 ck rfl rfl rfl hs1 (by decide) (fun hc => ?_) (fun hc => ?_)
  · replace h := ite_hf h hc
    exact o187_14 rfl rfl h
  · replace h := ite_ht h (Classical.not_not.mp hc)
    obtain ⟨hs2, h⟩ := h
    refine g_al 10 ck rfl rfl rfl ?_
    refine g_ic 11 ck rfl rfl ?_
    refine g_cvv (as := [_]) (rest := []) 14 ck rfl rfl rfl rfl rfl rfl rfl rfl rfl rfl (Nat.le_of_ble_eq_true rfl) (s178 hs2 ?_)
    replace h := h _ rfl
    exact o187_14 rfl rfl h
/-! 188 TermDeskModel.readTerm(Z)V -/
def w188_174 (B : va_E) (σ : l2_m) (x1 : Int) (x2 : Int) (x4 : Int)  (K : Int → l2_m → Prop) : Prop := (rg (σ 186 22) ∧ (if 0 < (σ 186 22) then K 0 σ else (∀ x6 : Int, x6 = ((4096 * (σ 186 13)) + x4) → (0 ≤ x6 ∧ x6 < 24576 ∧ rg x1) ∧ (if x1 = 0 then ((rg ((σ 188 x6) + x2) ∧ rg (σ 186 9) ∧ 0 < (σ 186 9) ∧ 0 ≤ ((σ 188 x6) + x2)) ∧ ∀ σ' : l2_m, σ' = l2_u σ 188 x6 (((σ 188 x6) + x2) % (σ 186 9)) → K 0 σ') else ((rg ((σ 188 x6) + ((σ 186 9) - x2)) ∧ rg (σ 186 9) ∧ 0 < (σ 186 9) ∧ 0 ≤ ((σ 188 x6) + ((σ 186 9) - x2))) ∧ ∀ σ'' : l2_m, σ'' = l2_u σ 188 x6 (((σ 188 x6) + ((σ 186 9) - x2)) % (σ 186 9)) → K 0 σ'')))))
theorem o188_174 {B : va_E} {σ : l2_m} {x1 : Int} {x2 : Int} {x4 : Int} {u3 : Value} {u5 : Value} {u6 : Value} {u7 : Value}  {K : Int → l2_m → Prop}  (hu3 : (u3.category == 1) = true) (hu5 : (u5.category == 1) = true) (hu6 : (u6.category == 1) = true) (hu7 : (u7.category == 1) = true)  (h : w188_174 B σ x1 x2 x4  K) : wW B 188 174 [vr 186, vi x1, vi x2, u3, vi x4, u5, u6, u7] [] σ K := by
  have ck : pm_code 188 = pc_188 := rfl
  unfold w188_174 at h
  obtain ⟨hs1, h⟩ := h
  refine g_al 175 ck rfl rfl rfl ?_
  refine r_gfi 178 22 ck rfl rfl rfl rfl ?_
  refine g_ifle 181 182 ck rfl rfl rfl hs1 (fun hc => ?_) (fun hc => ?_)
  · replace h := ite_hf h (Int.not_lt.mpr hc)
    refine g_ic 185 ck rfl rfl ?_
    refine g_al 186 ck rfl rfl rfl ?_
    refine r_gfi 189 13 ck rfl rfl rfl rfl ?_
    refine g_mul 190 ck rfl rfl ?_
    refine g_il 192 ck rfl rfl rfl ?_
    refine g_add 193 ck rfl rfl ?_
    refine r_is 195 ck rfl rfl hu5 rfl ?_
    replace h := h _ rfl
    obtain ⟨⟨hs2, hs3, hs4⟩, h⟩ := h
    refine g_al 196 ck rfl rfl rfl ?_
    refine r_gfr 199 188 ck rfl rfl rfl (by decide) ?_
    refine g_il 201 ck rfl rfl rfl ?_
    refine g_al 202 ck rfl rfl rfl ?_
    refine r_gfr 205 188 ck rfl rfl rfl (by decide) ?_
    refine g_il 207 ck rfl rfl rfl ?_
    refine g_ial (m := 24576) 208 ck rfl rfl rfl hs2 hs3 ?_
    refine g_il 209 ck rfl rfl rfl ?_
    refine g_ifeq 212 221 ck rfl rfl rfl hs4 (fun hc => ?_) (fun hc => ?_)
    · replace h := ite_ht h hc
      obtain ⟨⟨hs5, hs6, hs7, hs8⟩, h⟩ := h
      refine g_il 222 ck rfl rfl rfl ?_
      refine g_add 223 ck rfl rfl ?_
      refine g_al 224 ck rfl rfl rfl ?_
      refine r_gfi 227 9 ck rfl rfl rfl rfl ?_
      refine g_rem 228 ck rfl rfl hs5 hs6 hs8 hs7 ?_
      refine g_ias (m := 24576) 229 ck rfl rfl rfl hs2 hs3 ?_
      replace h := h _ rfl
      exact g_retv ck rfl rfl h
    · replace h := ite_hf h hc
      obtain ⟨⟨hs9, hs10, hs11, hs12⟩, h⟩ := h
      refine g_al 213 ck rfl rfl rfl ?_
      refine r_gfi 216 9 ck rfl rfl rfl rfl ?_
      refine g_il 217 ck rfl rfl rfl ?_
      refine g_sub 218 ck rfl rfl ?_
      refine g_goto 222 ck rfl rfl ?_
      refine g_add 223 ck rfl rfl ?_
      refine g_al 224 ck rfl rfl rfl ?_
      refine r_gfi 227 9 ck rfl rfl rfl rfl ?_
      refine g_rem 228 ck rfl rfl hs9 hs10 hs12 hs11 ?_
      refine g_ias (m := 24576) 229 ck rfl rfl rfl hs2 hs3 ?_
      replace h := h _ rfl
      exact g_retv ck rfl rfl h
  · replace h := ite_ht h (Int.not_le.mp hc)
    exact g_retv ck rfl rfl h
def w188_152 (B : va_E) (σ : l2_m) (x1 : Int) (x2 : Int) (x4 : Int) (x5 : Int) (x6 : Int) (x7 : Int) (X56 : Int → Int → l2_m → Prop) (K : Int → l2_m → Prop) : Prop := (rg (σ 186 22) ∧ (if (σ 186 22) = 0 then ((0 ≤ (4 * x6) ∧ (4 * x6) < 32 ∧ 0 ≤ x4 ∧ 0 ≤ (x7 * 2 ^ (Int.toNat (4 * x6))) ∧ x4 < 2147483648 ∧ (x7 * 2 ^ (Int.toNat (4 * x6))) < 2147483648) ∧ ∀ x4' : Int, x4' = (ior x4 (x7 * 2 ^ (Int.toNat (4 * x6)))) → X56 x4' x5 σ) else X56 x4 x5 σ))
theorem o188_152 {B : va_E} {σ : l2_m} {x1 : Int} {x2 : Int} {x4 : Int} {x5 : Int} {x6 : Int} {x7 : Int} {u3 : Value} {X56 : Int → Int → l2_m → Prop} {K : Int → l2_m → Prop}  (hu3 : (u3.category == 1) = true) (hX56 : ∀ (x4 : Int) (x5 : Int) (σ : l2_m) (u3 : Value) (u6 : Value) (u7 : Value), (u3.category == 1) = true → (u6.category == 1) = true → (u7.category == 1) = true → X56 x4 x5 σ → wW B 188 56 [vr 186, vi x1, vi x2, u3, vi x4, vi x5, u6, u7] [] σ K) (h : w188_152 B σ x1 x2 x4 x5 x6 x7 X56 K) : wW B 188 152 [vr 186, vi x1, vi x2, u3, vi x4, vi x5, vi x6, vi x7] [] σ K := by
  have ck : pm_code 188 = pc_188 := rfl
  unfold w188_152 at h
  obtain ⟨hs1, h⟩ := h
  refine g_al 153 ck rfl rfl rfl ?_
  refine r_gfi 156 22 ck rfl rfl rfl rfl ?_
  refine g_ifne 159 171 ck rfl rfl rfl hs1 (fun hc => ?_) (fun hc => ?_)
  · replace h := ite_hf h hc
    refine g_goto 56 ck rfl rfl ?_
    exact hX56 _ _ _ _ _ _ hu3 rfl rfl h
  · replace h := ite_ht h (Classical.not_not.mp hc)
    obtain ⟨⟨hs2, hs3, hs4, hs5, hs6, hs7⟩, h⟩ := h
    refine g_il 161 ck rfl rfl rfl ?_
    refine g_il 163 ck rfl rfl rfl ?_
    refine g_ic 164 ck rfl rfl ?_
    refine g_il 166 ck rfl rfl rfl ?_
    refine g_mul 167 ck rfl rfl ?_
    refine g_shl 168 ck rfl rfl hs2 hs3 ?_
    refine g_or 169 ck rfl rfl hs4 hs5 hs6 hs7 ?_
    refine r_is 171 ck rfl rfl hu3 rfl ?_
    replace h := h _ rfl
    refine g_goto 56 ck rfl rfl ?_
    exact hX56 _ _ _ _ _ _ hu3 rfl rfl h
def w188_142 (B : va_E) (σ : l2_m) (x1 : Int) (x2 : Int) (x4 : Int) (x5 : Int) (x6 : Int) (X56 : Int → Int → l2_m → Prop) (K : Int → l2_m → Prop) : Prop := (∀ x7 : Int, x7 = (σ 186 21) → (wC B 175 [vr 186] σ (fun _ σ' => w188_152 B σ' x1 x2 x4 x5 x6 x7 X56 K)))
theorem o188_142 {B : va_E} {σ : l2_m} {x1 : Int} {x2 : Int} {x4 : Int} {x5 : Int} {x6 : Int} {u3 : Value} {u7 : Value} {X56 : Int → Int → l2_m → Prop} {K : Int → l2_m → Prop}  (hu3 : (u3.category == 1) = true) (hu7 : (u7.category == 1) = true) (hX56 : ∀ (x4 : Int) (x5 : Int) (σ : l2_m) (u3 : Value) (u6 : Value) (u7 : Value), (u3.category == 1) = true → (u6.category == 1) = true → (u7.category == 1) = true → X56 x4 x5 σ → wW B 188 56 [vr 186, vi x1, vi x2, u3, vi x4, vi x5, u6, u7] [] σ K) (h : w188_142 B σ x1 x2 x4 x5 x6 X56 K) : wW B 188 142 [vr 186, vi x1, vi x2, u3, vi x4, vi x5, vi x6, u7] [] σ K := by
  have ck : pm_code 188 = pc_188 := rfl
  unfold w188_142 at h
  refine g_al 143 ck rfl rfl rfl ?_
  refine r_gfi 146 21 ck rfl rfl rfl rfl ?_
  refine r_is 148 ck rfl rfl rfl rfl ?_
  replace h := h _ rfl
  refine g_al 149 ck rfl rfl rfl ?_
  refine g_cvv (as := []) (rest := []) 152 ck rfl rfl rfl rfl rfl rfl rfl rfl rfl rfl (Nat.le_of_ble_eq_true rfl) (wC.mono h (fun _ σ' h => ?_))
  exact o188_152 hu3 hX56 h
def w188_93 (B : va_E) (σ : l2_m) (x1 : Int) (x2 : Int) (x4 : Int) (x5 : Int) (x6 : Int) (X56 : Int → Int → l2_m → Prop) (K : Int → l2_m → Prop) : Prop := ((0 ≤ x6 ∧ x6 < 32 ∧ 0 ≤ x5 ∧ 0 ≤ ((1 : Int) * 2 ^ (Int.toNat x6)) ∧ x5 < 2147483648 ∧ ((1 : Int) * 2 ^ (Int.toNat x6)) < 2147483648) ∧ ∀ x5' : Int, x5' = (ior x5 ((1 : Int) * 2 ^ (Int.toNat x6))) → (wC B 175 [vr 186] σ (fun _ σ' => (rg (σ' 186 22) ∧ ((((σ' 186 22) = 0) → rg (σ' 186 19)) ∧ (if ((σ' 186 22) = 0) ∧ ((σ' 186 19) = 3) then (rg (σ' 186 21) ∧ (if 1 ≤ (σ' 186 21) ∧ (σ' 186 21) ≤ 15 then w188_142 B σ' x1 x2 x4 x5' x6 X56 K else (∀ σ'' : l2_m, σ'' = flw σ' 4 → w188_142 B σ'' x1 x2 x4 x5' x6 X56 K))) else w188_152 B σ' x1 x2 x4 x5' x6 1 X56 K))))))
theorem o188_93 {B : va_E} {σ : l2_m} {x1 : Int} {x2 : Int} {x4 : Int} {x5 : Int} {x6 : Int} {u3 : Value} {u7 : Value} {X56 : Int → Int → l2_m → Prop} {K : Int → l2_m → Prop}  (hu3 : (u3.category == 1) = true) (hu7 : (u7.category == 1) = true) (hX56 : ∀ (x4 : Int) (x5 : Int) (σ : l2_m) (u3 : Value) (u6 : Value) (u7 : Value), (u3.category == 1) = true → (u6.category == 1) = true → (u7.category == 1) = true → X56 x4 x5 σ → wW B 188 56 [vr 186, vi x1, vi x2, u3, vi x4, vi x5, u6, u7] [] σ K) (h : w188_93 B σ x1 x2 x4 x5 x6 X56 K) : wW B 188 93 [vr 186, vi x1, vi x2, u3, vi x4, vi x5, vi x6, u7] [] σ K := by
  have ck : pm_code 188 = pc_188 := rfl
  unfold w188_93 at h
  replace h := (And.imp_right (fun h x e => (fun h => wC.mono h (fun _ _ => (And.imp_right mg_3s))) (h x e))) h
  obtain ⟨⟨hs1, hs2, hs3, hs4, hs5, hs6⟩, h⟩ := h
  refine g_il 95 ck rfl rfl rfl ?_
  refine g_ic 96 ck rfl rfl ?_
  refine g_il 98 ck rfl rfl rfl ?_
  refine g_shl 99 ck rfl rfl hs1 hs2 ?_
  refine g_or 100 ck rfl rfl hs3 hs4 hs5 hs6 ?_
  refine r_is 102 ck rfl rfl rfl rfl ?_
  replace h := h _ rfl
  refine g_al 103 ck rfl rfl rfl ?_
  refine g_cvv (as := []) (rest := []) 106 ck rfl rfl rfl rfl rfl rfl rfl rfl rfl rfl (Nat.le_of_ble_eq_true rfl) (wC.mono h (fun _ σ' h => ?_))
  obtain ⟨hs7, h⟩ := h
  refine g_ic 107 ck rfl rfl ?_
  refine r_is 109 ck rfl rfl rfl rfl ?_
  refine g_al 110 ck rfl rfl rfl ?_
  refine r_gfi 113 22 ck rfl rfl rfl rfl ?_
  refine g_ifne 116 152 ck rfl rfl rfl hs7 (fun hc => ?_) (fun hc => ?_)
  · replace h := ite_hf h hc
    exact o188_152 hu3 hX56 h
  · replace h := ite_ht h (Classical.not_not.mp hc)
    obtain ⟨hs8, h⟩ := h
    refine g_al 117 ck rfl rfl rfl ?_
    refine r_gfi 120 19 ck rfl rfl rfl rfl ?_
    refine g_ic 121 ck rfl rfl ?_
    refine g_icne 124 152 ck rfl rfl rfl hs8 (by decide) (fun hc => ?_) (fun hc => ?_)
    · replace h := ite_hf h hc
      exact o188_152 hu3 hX56 h
    · replace h := ite_ht h (Classical.not_not.mp hc)
      obtain ⟨hs9, h⟩ := h
      refine g_al 125 ck rfl rfl rfl ?_
      refine r_gfi 128 21 ck rfl rfl rfl rfl ?_
      refine g_ic 129 ck rfl rfl ?_
      refine g_ic 131 ck rfl rfl ?_
      refine g_csi (as := [_, _, _]) (rest := []) 134 ck rfl rfl rfl rfl rfl (by decide) rfl rfl rfl (Nat.le_of_ble_eq_true rfl) (s170 hs9 (by decide) (by decide) ?_)
      refine g_ifne 137 142 ck rfl rfl rfl rg_b2i (fun hc => ?_) (fun hc => ?_)
      · replace h := ite_ht h (b2i_t hc)
        exact o188_142 hu3 rfl hX56 h
      · replace h := ite_hf h (b2i_f (Classical.not_not.mp hc))
        refine g_al 138 ck rfl rfl rfl ?_
        refine g_ic 139 ck rfl rfl ?_
        refine g_cvv (as := [_]) (rest := []) 142 ck rfl rfl rfl rfl rfl rfl rfl rfl rfl rfl (Nat.le_of_ble_eq_true rfl) (s178 hs7 ?_)
        replace h := h _ rfl
        exact o188_142 hu3 rfl hX56 h
def w188_56 (B : va_E) (σ : l2_m) (x1 : Int) (x2 : Int) (x4 : Int) (x5 : Int)  (K : Int → l2_m → Prop) : Prop := lz3 (fun X56 x4 x5 σ => (rg (σ 186 22) ∧ ((((σ 186 22) = 0) → rg (σ 186 19) ∧ 0 ≤ (σ 186 23) ∧ (σ 186 23) < 9223372036854775808) ∧ (if ((σ 186 22) = 0) ∧ ¬ ((unkR σ) = (-1)) then (∀ x6 : Int, x6 = (unkR σ) → (rg x5 ∧ 0 ≤ x6 ∧ x6 < 32) ∧ (if ((x5 / 2 ^ (Int.toNat x6)) % 2) = 1 then (∀ σ' : l2_m, σ' = flw σ 3 → w188_93 B σ' x1 x2 x4 x5 x6 X56 K) else w188_93 B σ x1 x2 x4 x5 x6 X56 K)) else w188_174 B σ x1 x2 x4 K)))) x4 x5 σ
theorem o188_56 {B : va_E} {σ : l2_m} {x1 : Int} {x2 : Int} {x4 : Int} {x5 : Int} {u3 : Value} {u6 : Value} {u7 : Value}  {K : Int → l2_m → Prop}  (hu3 : (u3.category == 1) = true) (hu6 : (u6.category == 1) = true) (hu7 : (u7.category == 1) = true)  (h : w188_56 B σ x1 x2 x4 x5  K) : wW B 188 56 [vr 186, vi x1, vi x2, u3, vi x4, vi x5, u6, u7] [] σ K := by
  have ck : pm_code 188 = pc_188 := rfl
  unfold w188_56 at h
  refine h (fun x4 x5 σ => ∀ u3 : Value, (u3.category == 1) = true → ∀ u6 : Value, (u6.category == 1) = true → ∀ u7 : Value, (u7.category == 1) = true → wW B 188 56 [vr 186, vi x1, vi x2, u3, vi x4, vi x5, u6, u7] [] σ K) ?_ u3 hu3 u6 hu6 u7 hu7
  clear h
  intro x4 x5 σ h u3 hu3 u6 hu6 u7 hu7
  replace h := (And.imp_right mg_4s) h
  obtain ⟨hs1, h⟩ := h
  refine g_al 57 ck rfl rfl rfl ?_
  refine r_gfi 60 22 ck rfl rfl rfl rfl ?_
  refine g_ifne 63 174 ck rfl rfl rfl hs1 (fun hc => ?_) (fun hc => ?_)
  · replace h := ite_hf h hc
    exact o188_174 hu3 rfl hu6 hu7 h
  · replace h := ite_ht h (Classical.not_not.mp hc)
    obtain ⟨⟨hs2, hs3, hs4⟩, h⟩ := h
    refine g_al 64 ck rfl rfl rfl ?_
    refine g_cvi (as := []) (rest := []) 67 ck rfl rfl rfl rfl rfl rfl (by decide) rfl rfl rfl rfl (Nat.le_of_ble_eq_true rfl) (s181 hs2 hs3 hs4 ?_)
    refine g_ic 68 ck rfl rfl ?_
    refine g_iceq 71 174 ck rfl rfl rfl (unkR_rg _) (by decide) (fun hc => ?_) (fun hc => ?_)
    · replace h := ite_ht h hc
      exact o188_174 hu3 rfl hu6 hu7 h
    · replace h := ite_hf h hc
      refine g_al 72 ck rfl rfl rfl ?_
      refine g_cvi (as := []) (rest := []) 75 ck rfl rfl rfl rfl rfl rfl (by decide) rfl rfl rfl rfl (Nat.le_of_ble_eq_true rfl) (s181 hs2 hs3 hs4 ?_)
      refine r_is 77 ck rfl rfl rfl rfl ?_
      replace h := h _ rfl
      obtain ⟨⟨hs5, hs6, hs7⟩, h⟩ := h
      refine g_il 79 ck rfl rfl rfl ?_
      refine g_il 81 ck rfl rfl rfl ?_
      refine g_shr 82 ck rfl rfl hs5 hs6 hs7 ?_
      refine g_ic 83 ck rfl rfl ?_
      refine r_andk 2 1 84 ck rfl rfl (by decide) (by decide) (by decide) ?_
      refine g_ic 85 ck rfl rfl ?_
      refine g_icne 88 93 ck rfl rfl rfl (rg_mod _ (by decide) (by decide)) (by decide) (fun hc => ?_) (fun hc => ?_)
      · replace h := ite_hf h hc
        exact o188_93 hu3 hu7 (fun _ _ _ u3 u6 u7 hu3 hu6 hu7 hx => hx u3 hu3 u6 hu6 u7 hu7) h
      · replace h := ite_ht h (Classical.not_not.mp hc)
        refine g_al 89 ck rfl rfl rfl ?_
        refine g_ic 90 ck rfl rfl ?_
        refine g_cvv (as := [_]) (rest := []) 93 ck rfl rfl rfl rfl rfl rfl rfl rfl rfl rfl (Nat.le_of_ble_eq_true rfl) (s178 hs1 ?_)
        replace h := h _ rfl
        exact o188_93 hu3 hu7 (fun _ _ _ u3 u6 u7 hu3 hu6 hu7 hx => hx u3 hu3 u6 hu6 u7 hu7) h
def w188_15 (B : va_E) (σ : l2_m) (x1 : Int) (x2 : Int) (z0 : Int)  (K : Int → l2_m → Prop) : Prop := (rg z0 ∧ (if z0 = 0 then ((rg (σ 186 19) ∧ 0 ≤ (σ 186 23) ∧ (σ 186 23) < 9223372036854775808) ∧ (if (unkR σ) = (-1) then (rg (σ 186 22) ∧ ∀ σ' : l2_m, σ' = flw σ 1 → w188_56 B σ' x1 x2 0 0 K) else w188_56 B σ x1 x2 0 0 K)) else ((rg (σ 186 21) ∧ rg (σ 186 9) ∧ 0 < (σ 186 9) ∧ 0 ≤ (σ 186 21)) ∧ ∀ x2' : Int, x2' = ((σ 186 21) % (σ 186 9)) → (wC B 175 [vr 186] σ (fun _ σ'' => w188_56 B σ'' x1 x2' 0 0 K)))))
theorem o188_15 {B : va_E} {σ : l2_m} {x1 : Int} {x2 : Int} {z0 : Int} {u3 : Value} {u4 : Value} {u5 : Value} {u6 : Value} {u7 : Value}  {K : Int → l2_m → Prop}  (hu3 : (u3.category == 1) = true) (hu4 : (u4.category == 1) = true) (hu5 : (u5.category == 1) = true) (hu6 : (u6.category == 1) = true) (hu7 : (u7.category == 1) = true)  (h : w188_15 B σ x1 x2 z0  K) : wW B 188 15 [vr 186, vi x1, vi x2, u3, u4, u5, u6, u7] [vi z0] σ K := by
  have ck : pm_code 188 = pc_188 := rfl
  unfold w188_15 at h
  obtain ⟨hs1, h⟩ := h
  refine r_is 16 ck rfl rfl rfl rfl ?_
  refine g_il 17 ck rfl rfl rfl ?_
  refine g_ifeq 20 37 ck rfl rfl rfl hs1 (fun hc => ?_) (fun hc => ?_)
  · replace h := ite_ht h hc
    obtain ⟨⟨hs2, hs3, hs4⟩, h⟩ := h
    refine g_al 38 ck rfl rfl rfl ?_
    refine g_cvi (as := []) (rest := []) 41 ck rfl rfl rfl rfl rfl rfl (by decide) rfl rfl rfl rfl (Nat.le_of_ble_eq_true rfl) (s181 hs2 hs3 hs4 ?_)
    refine g_ic 42 ck rfl rfl ?_
    refine g_icne 45 50 ck rfl rfl rfl (unkR_rg _) (by decide) (fun hc => ?_) (fun hc => ?_)
    · replace h := ite_hf h hc
      refine g_ic 51 ck rfl rfl ?_
      refine r_is 53 ck rfl rfl rfl rfl ?_
      refine g_ic 54 ck rfl rfl ?_
      refine r_is 56 ck rfl rfl rfl rfl ?_
      exact o188_56 rfl hu6 hu7 h
    · replace h := ite_ht h (Classical.not_not.mp hc)
      obtain ⟨hs5, h⟩ := h
      refine g_al 46 ck rfl rfl rfl ?_
      refine g_ic 47 ck rfl rfl ?_
      refine g_cvv (as := [_]) (rest := []) 50 ck rfl rfl rfl rfl rfl rfl rfl rfl rfl rfl (Nat.le_of_ble_eq_true rfl) (s178 hs5 ?_)
      replace h := h _ rfl
      refine g_ic 51 ck rfl rfl ?_
      refine r_is 53 ck rfl rfl rfl rfl ?_
      refine g_ic 54 ck rfl rfl ?_
      refine r_is 56 ck rfl rfl rfl rfl ?_
      exact o188_56 rfl hu6 hu7 h
  · replace h := ite_hf h hc
    obtain ⟨⟨hs6, hs7, hs8, hs9⟩, h⟩ := h
    refine g_al 21 ck rfl rfl rfl ?_
    refine r_gfi 24 21 ck rfl rfl rfl rfl ?_
    refine g_al 25 ck rfl rfl rfl ?_
    refine r_gfi 28 9 ck rfl rfl rfl rfl ?_
    refine g_rem 29 ck rfl rfl hs6 hs7 hs9 hs8 ?_
    refine r_is 30 ck rfl rfl rfl rfl ?_
    replace h := h _ rfl
    refine g_al 31 ck rfl rfl rfl ?_
    refine g_cvv (as := []) (rest := []) 34 ck rfl rfl rfl rfl rfl rfl rfl rfl rfl rfl (Nat.le_of_ble_eq_true rfl) (wC.mono h (fun _ σ'' h => ?_))
    refine g_goto 50 ck rfl rfl ?_
    refine g_ic 51 ck rfl rfl ?_
    refine r_is 53 ck rfl rfl rfl rfl ?_
    refine g_ic 54 ck rfl rfl ?_
    refine r_is 56 ck rfl rfl rfl rfl ?_
    exact o188_56 rfl hu6 hu7 h
def w188 (B : va_E) (σ : l2_m) (x1 : Int) (K : Int → l2_m → Prop) : Prop := (rg (σ 186 19) ∧ (if (σ 186 19) = 3 then w188_15 B σ x1 1 1 K else w188_15 B σ x1 1 0 K))
theorem o188 {B : va_E} {σ : l2_m} {x1 : Int} {K : Int → l2_m → Prop}   (h : w188 B σ x1  K) : wC B 188 [vr 186, vi x1] σ K := by
  have ck : pm_code 188 = pc_188 := rfl
  unfold w188 at h
  show wW B 188 0 [vr 186, vi x1, pm_un, pm_un, pm_un, pm_un, pm_un, pm_un] [] σ K
  obtain ⟨hs1, h⟩ := h
  refine g_ic 1 ck rfl rfl ?_
  refine r_is 2 ck rfl rfl rfl rfl ?_
  refine g_al 3 ck rfl rfl rfl ?_
  refine r_gfi 6 19 ck rfl rfl rfl rfl ?_
  refine g_ic 7 ck rfl rfl ?_
  refine g_icne 10 14 ck rfl rfl rfl hs1 (by decide) (fun hc => ?_) (fun hc => ?_)
  · replace h := ite_hf h hc
    refine g_ic 15 ck rfl rfl ?_
    exact o188_15 rfl rfl rfl rfl rfl h
  · replace h := ite_ht h (Classical.not_not.mp hc)
    refine g_ic 11 ck rfl rfl ?_
    refine g_goto 15 ck rfl rfl ?_
    exact o188_15 rfl rfl rfl rfl rfl h
/-! 190 TermDeskModel.desk(I)I -/
def w190_108 (B : va_E) (σ : l2_m) (x2 : Int)  (K : Int → l2_m → Prop) : Prop := lz2 (fun X108 x2 σ => (rg x2 ∧ (if x2 < 32768 then (if x2 < 24576 then ((0 ≤ x2 ∧ x2 < 24576 ∧ x2 < 32768) ∧ ∀ σ''''' : l2_m, σ''''' = l2_u σ 187 x2 (σ 188 x2) → X108 (x2 + 1) σ''''') else ((0 ≤ x2 ∧ x2 < 32768) ∧ ∀ σ'''' : l2_m, σ'''' = l2_u σ 187 x2 0 → X108 (x2 + 1) σ'''')) else (∀ σ' : l2_m, σ' = l2_u σ 186 45 0 → (wC B 195 [vr 186] σ' (fun _ σ'' => (∀ σ''' : l2_m, σ''' = trr σ'' 0 → K (σ'' 186 13) σ'''))))))) x2 σ
theorem o190_108 {B : va_E} {σ : l2_m} {x2 : Int} {u1 : Value}  {K : Int → l2_m → Prop}  (hu1 : (u1.category == 1) = true)  (h : w190_108 B σ x2  K) : wW B 190 108 [vr 186, u1, vi x2] [] σ K := by
  have ck : pm_code 190 = pc_190 := rfl
  unfold w190_108 at h
  refine h (fun x2 σ => ∀ u1 : Value, (u1.category == 1) = true → wW B 190 108 [vr 186, u1, vi x2] [] σ K) ?_ u1 hu1
  clear h
  intro x2 σ h u1 hu1
  obtain ⟨hs1, h⟩ := h
  refine g_il 109 ck rfl rfl rfl ?_
  refine g_ic 111 ck rfl rfl ?_
  refine g_icge 114 143 ck rfl rfl rfl hs1 (by decide) (fun hc => ?_) (fun hc => ?_)
  · replace h := ite_hf h (Int.not_lt.mpr hc)
    refine g_al 144 ck rfl rfl rfl ?_
    refine g_ic 145 ck rfl rfl ?_
    refine g_pfi 148 ck rfl rfl rfl 45 rfl rfl ?_
    replace h := h _ rfl
    refine g_al 149 ck rfl rfl rfl ?_
    refine g_cvv (as := []) (rest := []) 152 ck rfl rfl rfl rfl rfl rfl rfl rfl rfl rfl (Nat.le_of_ble_eq_true rfl) (wC.mono h (fun _ σ'' h => ?_))
    refine g_al 153 ck rfl rfl rfl ?_
    refine g_al 154 ck rfl rfl rfl ?_
    refine r_gfi 157 13 ck rfl rfl rfl rfl ?_
    refine g_cvi (as := [_]) (rest := []) 160 ck rfl rfl rfl rfl rfl rfl (by decide) rfl rfl rfl rfl (Nat.le_of_ble_eq_true rfl) (s169  ?_)
    replace h := h _ rfl
    exact g_ret ck rfl rfl (Or.inl (by decide)) h
  · replace h := ite_ht h (Int.not_le.mp hc)
    refine g_al 115 ck rfl rfl rfl ?_
    refine r_gfr 118 187 ck rfl rfl rfl (by decide) ?_
    refine g_il 119 ck rfl rfl rfl ?_
    refine g_il 120 ck rfl rfl rfl ?_
    refine g_ic 123 ck rfl rfl ?_
    refine g_icge 126 135 ck rfl rfl rfl hs1 (by decide) (fun hc => ?_) (fun hc => ?_)
    · replace h := ite_hf h (Int.not_lt.mpr hc)
      obtain ⟨⟨hs2, hs3⟩, h⟩ := h
      refine g_ic 136 ck rfl rfl ?_
      refine g_ias (m := 32768) 137 ck rfl rfl rfl hs2 hs3 ?_
      replace h := h _ rfl
      refine r_ii 140 ck rfl rfl hu1 rfl ?_
      refine g_goto 108 ck rfl rfl ?_
      exact h _ hu1
    · replace h := ite_ht h (Int.not_le.mp hc)
      obtain ⟨⟨hs4, hs5, hs6⟩, h⟩ := h
      refine g_al 127 ck rfl rfl rfl ?_
      refine r_gfr 130 188 ck rfl rfl rfl (by decide) ?_
      refine g_il 131 ck rfl rfl rfl ?_
      refine g_ial (m := 24576) 132 ck rfl rfl rfl hs4 hs5 ?_
      refine g_goto 136 ck rfl rfl ?_
      refine g_ias (m := 32768) 137 ck rfl rfl rfl hs4 hs6 ?_
      replace h := h _ rfl
      refine r_ii 140 ck rfl rfl hu1 rfl ?_
      refine g_goto 108 ck rfl rfl ?_
      exact h _ hu1
def w190 (B : va_E) (σ : l2_m) (x1 : Int) (K : Int → l2_m → Prop) : Prop := (∀ σ' : l2_m, σ' = l2_u σ 186 0 0 → rg x1 ∧ (if x1 < 0 then (∀ σ'' : l2_m, σ'' = trr σ' 2 → K (-1) σ'') else (rg (σ' 186 16) ∧ (if (σ' 186 16) < x1 then (∀ σ''''''''''''''' : l2_m, σ''''''''''''''' = trr σ' 2 → K (-1) σ''''''''''''''') else (∀ σ''' : l2_m, σ''' = l2_u σ' 186 17 x1 → ∀ σ'''' : l2_m, σ'''' = l2_u σ''' 186 16 0 → ∀ σ''''' : l2_m, σ''''' = l2_u σ'''' 186 18 0 → ∀ σ'''''' : l2_m, σ'''''' = l2_u σ''''' 186 22 0 → (wC B 182 [vr 186] σ'''''' (fun _ σ''''''' => (rg (σ''''''' 186 22) ∧ (if 0 < (σ''''''' 186 22) then (∀ σ''''''''''''' : l2_m, σ''''''''''''' = l2_u σ''''''' 186 1 4 → ∀ σ'''''''''''''' : l2_m, σ'''''''''''''' = l2_u σ''''''''''''' 186 2 (σ''''''''''''' 186 20) → K (-1) σ'''''''''''''') else (∀ σ'''''''' : l2_m, σ'''''''' = l2_u σ''''''' 186 14 1 → ∀ σ''''''''' : l2_m, σ''''''''' = l2_u σ'''''''' 186 5 (σ'''''''' 186 9) → ∀ σ'''''''''' : l2_m, σ'''''''''' = l2_u σ''''''''' 186 6 (σ''''''''' 186 10) → ∀ σ''''''''''' : l2_m, σ''''''''''' = l2_u σ'''''''''' 186 7 (σ'''''''''' 186 11) → ∀ σ'''''''''''' : l2_m, σ'''''''''''' = l2_u σ''''''''''' 186 8 (σ''''''''''' 186 12) → w190_108 B σ'''''''''''' 0 K))))))))))
theorem o190 {B : va_E} {σ : l2_m} {x1 : Int} {K : Int → l2_m → Prop}   (h : w190 B σ x1  K) : wC B 190 [vr 186, vi x1] σ K := by
  have ck : pm_code 190 = pc_190 := rfl
  unfold w190 at h
  show wW B 190 0 [vr 186, vi x1, pm_un] [] σ K
  refine g_al 1 ck rfl rfl rfl ?_
  refine g_ic 2 ck rfl rfl ?_
  refine g_pfi 5 ck rfl rfl rfl 0 rfl rfl ?_
  replace h := h _ rfl
  obtain ⟨hs1, h⟩ := h
  refine g_il 6 ck rfl rfl rfl ?_
  refine g_iflt 9 17 ck rfl rfl rfl hs1 (fun hc => ?_) (fun hc => ?_)
  · replace h := ite_ht h hc
    refine g_al 18 ck rfl rfl rfl ?_
    refine g_ic 19 ck rfl rfl ?_
    refine g_cvi (as := [_]) (rest := []) 22 ck rfl rfl rfl rfl rfl rfl (by decide) rfl rfl rfl rfl (Nat.le_of_ble_eq_true rfl) (s168  ?_)
    replace h := h _ rfl
    exact g_ret ck rfl rfl (Or.inl (by decide)) h
  · replace h := ite_hf h hc
    obtain ⟨hs2, h⟩ := h
    refine g_il 10 ck rfl rfl rfl ?_
    refine g_al 11 ck rfl rfl rfl ?_
    refine r_gfi 14 16 ck rfl rfl rfl rfl ?_
    refine g_icle 17 23 ck rfl rfl rfl hs1 hs2 (fun hc => ?_) (fun hc => ?_)
    · replace h := ite_hf h (Int.not_lt.mpr hc)
      refine g_al 24 ck rfl rfl rfl ?_
      refine g_il 25 ck rfl rfl rfl ?_
      refine g_pfi 28 ck rfl rfl rfl 17 rfl rfl ?_
      replace h := h _ rfl
      refine g_al 29 ck rfl rfl rfl ?_
      refine g_ic 30 ck rfl rfl ?_
      refine g_pfi 33 ck rfl rfl rfl 16 rfl rfl ?_
      replace h := h _ rfl
      refine g_al 34 ck rfl rfl rfl ?_
      refine g_ic 35 ck rfl rfl ?_
      refine g_pfi 38 ck rfl rfl rfl 18 rfl rfl ?_
      replace h := h _ rfl
      refine g_al 39 ck rfl rfl rfl ?_
      refine g_ic 40 ck rfl rfl ?_
      refine g_pfi 43 ck rfl rfl rfl 22 rfl rfl ?_
      replace h := h _ rfl
      refine g_al 44 ck rfl rfl rfl ?_
      refine g_cvv (as := []) (rest := []) 47 ck rfl rfl rfl rfl rfl rfl rfl rfl rfl rfl (Nat.le_of_ble_eq_true rfl) (wC.mono h (fun _ σ''''''' h => ?_))
      obtain ⟨hs3, h⟩ := h
      refine g_al 48 ck rfl rfl rfl ?_
      refine r_gfi 51 22 ck rfl rfl rfl rfl ?_
      refine g_ifle 54 69 ck rfl rfl rfl hs3 (fun hc => ?_) (fun hc => ?_)
      · replace h := ite_hf h (Int.not_lt.mpr hc)
        refine g_al 70 ck rfl rfl rfl ?_
        refine g_ic 71 ck rfl rfl ?_
        refine g_pfb 74 ck rfl rfl rfl 14 rfl (Or.inr rfl) ?_
        replace h := h _ rfl
        refine g_al 75 ck rfl rfl rfl ?_
        refine g_al 76 ck rfl rfl rfl ?_
        refine r_gfi 79 9 ck rfl rfl rfl rfl ?_
        refine g_pfi 82 ck rfl rfl rfl 5 rfl rfl ?_
        replace h := h _ rfl
        refine g_al 83 ck rfl rfl rfl ?_
        refine g_al 84 ck rfl rfl rfl ?_
        refine r_gfi 87 10 ck rfl rfl rfl rfl ?_
        refine g_pfi 90 ck rfl rfl rfl 6 rfl rfl ?_
        replace h := h _ rfl
        refine g_al 91 ck rfl rfl rfl ?_
        refine g_al 92 ck rfl rfl rfl ?_
        refine r_gfi 95 11 ck rfl rfl rfl rfl ?_
        refine g_pfi 98 ck rfl rfl rfl 7 rfl rfl ?_
        replace h := h _ rfl
        refine g_al 99 ck rfl rfl rfl ?_
        refine g_al 100 ck rfl rfl rfl ?_
        refine r_gfi 103 12 ck rfl rfl rfl rfl ?_
        refine g_pfi 106 ck rfl rfl rfl 8 rfl rfl ?_
        replace h := h _ rfl
        refine g_ic 107 ck rfl rfl ?_
        refine r_is 108 ck rfl rfl rfl rfl ?_
        exact o190_108 rfl h
      · replace h := ite_ht h (Int.not_le.mp hc)
        refine g_al 55 ck rfl rfl rfl ?_
        refine g_ic 56 ck rfl rfl ?_
        refine g_pfi 59 ck rfl rfl rfl 1 rfl rfl ?_
        replace h := h _ rfl
        refine g_al 60 ck rfl rfl rfl ?_
        refine g_al 61 ck rfl rfl rfl ?_
        refine r_gfi 64 20 ck rfl rfl rfl rfl ?_
        refine g_pfi 67 ck rfl rfl rfl 2 rfl rfl ?_
        replace h := h _ rfl
        refine g_ic 68 ck rfl rfl ?_
        exact g_ret ck rfl rfl (Or.inl (by decide)) h
    · replace h := ite_ht h (Int.not_le.mp hc)
      refine g_al 18 ck rfl rfl rfl ?_
      refine g_ic 19 ck rfl rfl ?_
      refine g_cvi (as := [_]) (rest := []) 22 ck rfl rfl rfl rfl rfl rfl (by decide) rfl rfl rfl rfl (Nat.le_of_ble_eq_true rfl) (s168  ?_)
      replace h := h _ rfl
      exact g_ret ck rfl rfl (Or.inl (by decide)) h
/-! 194 TermDeskModel.laysKey(III)V -/
def w194 (B : va_E) (σ : l2_m) (x1 : Int) (x2 : Int) (x3 : Int) (K : Int → l2_m → Prop) : Prop := ((0 ≤ (4 * (σ 186 7)) ∧ (4 * (σ 186 7)) < 32 ∧ 0 ≤ (4 * (σ 186 8)) ∧ (4 * (σ 186 8)) < 32 ∧ 0 ≤ (x1 * 2 ^ (Int.toNat (4 * (σ 186 7)))) ∧ 0 ≤ (x2 * 2 ^ (Int.toNat (4 * (σ 186 8)))) ∧ (x1 * 2 ^ (Int.toNat (4 * (σ 186 7)))) < 2147483648 ∧ (x2 * 2 ^ (Int.toNat (4 * (σ 186 8)))) < 2147483648 ∧ 0 ≤ (4 * ((3 - (σ 186 7)) - (σ 186 8))) ∧ (4 * ((3 - (σ 186 7)) - (σ 186 8))) < 32 ∧ 0 ≤ (ior (x1 * 2 ^ (Int.toNat (4 * (σ 186 7)))) (x2 * 2 ^ (Int.toNat (4 * (σ 186 8))))) ∧ 0 ≤ (x3 * 2 ^ (Int.toNat (4 * ((3 - (σ 186 7)) - (σ 186 8))))) ∧ (ior (x1 * 2 ^ (Int.toNat (4 * (σ 186 7)))) (x2 * 2 ^ (Int.toNat (4 * (σ 186 8))))) < 2147483648 ∧ (x3 * 2 ^ (Int.toNat (4 * ((3 - (σ 186 7)) - (σ 186 8))))) < 2147483648 ∧ 0 ≤ (σ 186 25) ∧ (σ 186 25) < 4096) ∧ ∀ σ' : l2_m, σ' = l2_u σ 190 (σ 186 25) (ior (ior (x1 * 2 ^ (Int.toNat (4 * (σ 186 7)))) (x2 * 2 ^ (Int.toNat (4 * (σ 186 8))))) (x3 * 2 ^ (Int.toNat (4 * ((3 - (σ 186 7)) - (σ 186 8)))))) → ∀ σ'' : l2_m, σ'' = l2_u σ' 186 25 ((σ' 186 25) + 1) → K 0 σ'')
theorem o194 {B : va_E} {σ : l2_m} {x1 : Int} {x2 : Int} {x3 : Int} {K : Int → l2_m → Prop}   (h : w194 B σ x1 x2 x3  K) : wC B 194 [vr 186, vi x1, vi x2, vi x3] σ K := by
  have ck : pm_code 194 = pc_194 := rfl
  unfold w194 at h
  show wW B 194 0 [vr 186, vi x1, vi x2, vi x3] [] σ K
  obtain ⟨⟨hs1, hs2, hs3, hs4, hs5, hs6, hs7, hs8, hs9, hs10, hs11, hs12, hs13, hs14, hs15, hs16⟩, h⟩ := h
  refine g_al 1 ck rfl rfl rfl ?_
  refine r_gfr 4 190 ck rfl rfl rfl (by decide) ?_
  refine g_al 5 ck rfl rfl rfl ?_
  refine r_gfi 8 25 ck rfl rfl rfl rfl ?_
  refine g_il 9 ck rfl rfl rfl ?_
  refine g_ic 10 ck rfl rfl ?_
  refine g_al 11 ck rfl rfl rfl ?_
  refine r_gfi 14 7 ck rfl rfl rfl rfl ?_
  refine g_mul 15 ck rfl rfl ?_
  refine g_shl 16 ck rfl rfl hs1 hs2 ?_
  refine g_il 17 ck rfl rfl rfl ?_
  refine g_ic 18 ck rfl rfl ?_
  refine g_al 19 ck rfl rfl rfl ?_
  refine r_gfi 22 8 ck rfl rfl rfl rfl ?_
  refine g_mul 23 ck rfl rfl ?_
  refine g_shl 24 ck rfl rfl hs3 hs4 ?_
  refine g_or 25 ck rfl rfl hs5 hs6 hs7 hs8 ?_
  refine g_il 26 ck rfl rfl rfl ?_
  refine g_ic 27 ck rfl rfl ?_
  refine g_al 28 ck rfl rfl rfl ?_
  refine g_cvi (as := []) (rest := [_, _, _, _, _]) 31 ck rfl rfl rfl rfl rfl rfl (by decide) rfl rfl rfl rfl (Nat.le_of_ble_eq_true rfl) (s193  ?_)
  refine g_mul 32 ck rfl rfl ?_
  refine g_shl 33 ck rfl rfl hs9 hs10 ?_
  refine g_or 34 ck rfl rfl hs11 hs12 hs13 hs14 ?_
  refine g_ias (m := 4096) 35 ck rfl rfl rfl hs15 hs16 ?_
  replace h := h _ rfl
  refine g_al 36 ck rfl rfl rfl ?_
  refine g_dup 37 ck rfl rfl rfl ?_
  refine r_gfi 40 25 ck rfl rfl rfl rfl ?_
  refine g_ic 41 ck rfl rfl ?_
  refine g_add 42 ck rfl rfl ?_
  refine g_pfi 45 ck rfl rfl rfl 25 rfl rfl ?_
  replace h := h _ rfl
  exact g_retv ck rfl rfl h
/-! 195 TermDeskModel.laysOrder()V -/
def w195_138 (B : va_E) (σ : l2_m) (x1 : Int) (x2 : Int) (x3 : Int) (X62 : Int → l2_m → Prop) (X130 : Int → l2_m → Prop) (K : Int → l2_m → Prop) : Prop := lz2 (fun X138 x3 σ => (rg x3 ∧ (if 15 < x3 then X130 (x2 + 1) σ else (rg ((x1 - x3) - x2) ∧ (if 0 ≤ ((x1 - x3) - x2) ∧ ((x1 - x3) - x2) ≤ 15 then (wC B 194 [vr 186, vi ((x1 - x3) - x2), vi x3, vi x2] σ (fun _ σ' => X138 (x3 + 1) σ')) else X138 (x3 + 1) σ))))) x3 σ
theorem o195_138 {B : va_E} {σ : l2_m} {x1 : Int} {x2 : Int} {x3 : Int}  {X62 : Int → l2_m → Prop} {X130 : Int → l2_m → Prop} {K : Int → l2_m → Prop}   (hX62 : ∀ (x1 : Int) (σ : l2_m) (u2 : Value) (u3 : Value), (u2.category == 1) = true → (u3.category == 1) = true → X62 x1 σ → wW B 195 62 [vr 186, vi x1, u2, u3] [] σ K) (hX130 : ∀ (x2 : Int) (σ : l2_m) (u3 : Value), (u3.category == 1) = true → X130 x2 σ → wW B 195 130 [vr 186, vi x1, vi x2, u3] [] σ K) (h : w195_138 B σ x1 x2 x3 X62 X130 K) : wW B 195 138 [vr 186, vi x1, vi x2, vi x3] [] σ K := by
  have ck : pm_code 195 = pc_195 := rfl
  unfold w195_138 at h
  refine h (fun x3 σ => wW B 195 138 [vr 186, vi x1, vi x2, vi x3] [] σ K) ?_
  clear h
  intro x3 σ h
  obtain ⟨hs1, h⟩ := h
  refine g_il 139 ck rfl rfl rfl ?_
  refine g_ic 141 ck rfl rfl ?_
  refine g_icgt 144 175 ck rfl rfl rfl hs1 (by decide) (fun hc => ?_) (fun hc => ?_)
  · replace h := ite_ht h hc
    refine r_ii 178 ck rfl rfl rfl rfl ?_
    refine g_goto 130 ck rfl rfl ?_
    exact hX130 _ _ _ rfl h
  · replace h := ite_hf h hc
    obtain ⟨hs2, h⟩ := h
    refine g_il 145 ck rfl rfl rfl ?_
    refine g_il 146 ck rfl rfl rfl ?_
    refine g_sub 147 ck rfl rfl ?_
    refine g_il 148 ck rfl rfl rfl ?_
    refine g_sub 149 ck rfl rfl ?_
    refine g_ic 150 ck rfl rfl ?_
    refine g_ic 152 ck rfl rfl ?_
    refine g_csi (as := [_, _, _]) (rest := []) 155 ck rfl rfl rfl rfl rfl (by decide) rfl rfl rfl (Nat.le_of_ble_eq_true rfl) (s170 hs2 (by decide) (by decide) ?_)
    refine g_ifeq 158 169 ck rfl rfl rfl rg_b2i (fun hc => ?_) (fun hc => ?_)
    · replace h := ite_hf h (b2i_f hc)
      refine r_ii 172 ck rfl rfl rfl rfl ?_
      refine g_goto 138 ck rfl rfl ?_
      exact h
    · replace h := ite_ht h (b2i_t hc)
      refine g_al 159 ck rfl rfl rfl ?_
      refine g_il 160 ck rfl rfl rfl ?_
      refine g_il 161 ck rfl rfl rfl ?_
      refine g_sub 162 ck rfl rfl ?_
      refine g_il 163 ck rfl rfl rfl ?_
      refine g_sub 164 ck rfl rfl ?_
      refine g_il 165 ck rfl rfl rfl ?_
      refine g_il 166 ck rfl rfl rfl ?_
      refine g_cvv (as := [_, _, _]) (rest := []) 169 ck rfl rfl rfl rfl rfl rfl rfl rfl rfl rfl (Nat.le_of_ble_eq_true rfl) (wC.mono h (fun _ σ' h => ?_))
      refine r_ii 172 ck rfl rfl rfl rfl ?_
      refine g_goto 138 ck rfl rfl ?_
      exact h
def w195_130 (B : va_E) (σ : l2_m) (x1 : Int) (x2 : Int) (X62 : Int → l2_m → Prop) (K : Int → l2_m → Prop) : Prop := lz2 (fun X130 x2 σ => (rg x2 ∧ (if 15 < x2 then X62 (x1 + (-1)) σ else w195_138 B σ x1 x2 0 X62 X130 K))) x2 σ
theorem o195_130 {B : va_E} {σ : l2_m} {x1 : Int} {x2 : Int} {u3 : Value} {X62 : Int → l2_m → Prop} {K : Int → l2_m → Prop}  (hu3 : (u3.category == 1) = true) (hX62 : ∀ (x1 : Int) (σ : l2_m) (u2 : Value) (u3 : Value), (u2.category == 1) = true → (u3.category == 1) = true → X62 x1 σ → wW B 195 62 [vr 186, vi x1, u2, u3] [] σ K) (h : w195_130 B σ x1 x2 X62 K) : wW B 195 130 [vr 186, vi x1, vi x2, u3] [] σ K := by
  have ck : pm_code 195 = pc_195 := rfl
  unfold w195_130 at h
  refine h (fun x2 σ => ∀ u3 : Value, (u3.category == 1) = true → wW B 195 130 [vr 186, vi x1, vi x2, u3] [] σ K) ?_ u3 hu3
  clear h
  intro x2 σ h u3 hu3
  obtain ⟨hs1, h⟩ := h
  refine g_il 131 ck rfl rfl rfl ?_
  refine g_ic 133 ck rfl rfl ?_
  refine g_icgt 136 181 ck rfl rfl rfl hs1 (by decide) (fun hc => ?_) (fun hc => ?_)
  · replace h := ite_ht h hc
    refine r_ii 184 ck rfl rfl rfl rfl ?_
    refine g_goto 62 ck rfl rfl ?_
    exact hX62 _ _ _ _ rfl hu3 h
  · replace h := ite_hf h hc
    refine g_ic 137 ck rfl rfl ?_
    refine r_is 138 ck rfl rfl rfl rfl ?_
    exact o195_138 hX62 (fun _ _ u3 hu3 hx => hx u3 hu3) h
def w195_84 (B : va_E) (σ : l2_m) (x1 : Int) (x2 : Int) (x3 : Int) (X62 : Int → l2_m → Prop) (X77 : Int → l2_m → Prop) (K : Int → l2_m → Prop) : Prop := lz2 (fun X84 x3 σ => (rg x3 ∧ (if x3 < 0 then X77 (x2 + (-1)) σ else (rg ((x1 - x2) - x3) ∧ (if 0 ≤ ((x1 - x2) - x3) ∧ ((x1 - x2) - x3) ≤ 15 then (wC B 194 [vr 186, vi x2, vi x3, vi ((x1 - x2) - x3)] σ (fun _ σ' => X84 (x3 + (-1)) σ')) else X84 (x3 + (-1)) σ))))) x3 σ
theorem o195_84 {B : va_E} {σ : l2_m} {x1 : Int} {x2 : Int} {x3 : Int}  {X62 : Int → l2_m → Prop} {X77 : Int → l2_m → Prop} {K : Int → l2_m → Prop}   (hX62 : ∀ (x1 : Int) (σ : l2_m) (u2 : Value) (u3 : Value), (u2.category == 1) = true → (u3.category == 1) = true → X62 x1 σ → wW B 195 62 [vr 186, vi x1, u2, u3] [] σ K) (hX77 : ∀ (x2 : Int) (σ : l2_m) (u3 : Value), (u3.category == 1) = true → X77 x2 σ → wW B 195 77 [vr 186, vi x1, vi x2, u3] [] σ K) (h : w195_84 B σ x1 x2 x3 X62 X77 K) : wW B 195 84 [vr 186, vi x1, vi x2, vi x3] [] σ K := by
  have ck : pm_code 195 = pc_195 := rfl
  unfold w195_84 at h
  refine h (fun x3 σ => wW B 195 84 [vr 186, vi x1, vi x2, vi x3] [] σ K) ?_
  clear h
  intro x3 σ h
  obtain ⟨hs1, h⟩ := h
  refine g_il 85 ck rfl rfl rfl ?_
  refine g_iflt 88 119 ck rfl rfl rfl hs1 (fun hc => ?_) (fun hc => ?_)
  · replace h := ite_ht h hc
    refine r_ii 122 ck rfl rfl rfl rfl ?_
    refine g_goto 77 ck rfl rfl ?_
    exact hX77 _ _ _ rfl h
  · replace h := ite_hf h hc
    obtain ⟨hs2, h⟩ := h
    refine g_il 89 ck rfl rfl rfl ?_
    refine g_il 90 ck rfl rfl rfl ?_
    refine g_sub 91 ck rfl rfl ?_
    refine g_il 92 ck rfl rfl rfl ?_
    refine g_sub 93 ck rfl rfl ?_
    refine g_ic 94 ck rfl rfl ?_
    refine g_ic 96 ck rfl rfl ?_
    refine g_csi (as := [_, _, _]) (rest := []) 99 ck rfl rfl rfl rfl rfl (by decide) rfl rfl rfl (Nat.le_of_ble_eq_true rfl) (s170 hs2 (by decide) (by decide) ?_)
    refine g_ifeq 102 113 ck rfl rfl rfl rg_b2i (fun hc => ?_) (fun hc => ?_)
    · replace h := ite_hf h (b2i_f hc)
      refine r_ii 116 ck rfl rfl rfl rfl ?_
      refine g_goto 84 ck rfl rfl ?_
      exact h
    · replace h := ite_ht h (b2i_t hc)
      refine g_al 103 ck rfl rfl rfl ?_
      refine g_il 104 ck rfl rfl rfl ?_
      refine g_il 105 ck rfl rfl rfl ?_
      refine g_il 106 ck rfl rfl rfl ?_
      refine g_il 107 ck rfl rfl rfl ?_
      refine g_sub 108 ck rfl rfl ?_
      refine g_il 109 ck rfl rfl rfl ?_
      refine g_sub 110 ck rfl rfl ?_
      refine g_cvv (as := [_, _, _]) (rest := []) 113 ck rfl rfl rfl rfl rfl rfl rfl rfl rfl rfl (Nat.le_of_ble_eq_true rfl) (wC.mono h (fun _ σ' h => ?_))
      refine r_ii 116 ck rfl rfl rfl rfl ?_
      refine g_goto 84 ck rfl rfl ?_
      exact h
def w195_77 (B : va_E) (σ : l2_m) (x1 : Int) (x2 : Int) (X62 : Int → l2_m → Prop) (K : Int → l2_m → Prop) : Prop := lz2 (fun X77 x2 σ => (rg x2 ∧ (if x2 < 0 then X62 (x1 + (-1)) σ else w195_84 B σ x1 x2 15 X62 X77 K))) x2 σ
theorem o195_77 {B : va_E} {σ : l2_m} {x1 : Int} {x2 : Int} {u3 : Value} {X62 : Int → l2_m → Prop} {K : Int → l2_m → Prop}  (hu3 : (u3.category == 1) = true) (hX62 : ∀ (x1 : Int) (σ : l2_m) (u2 : Value) (u3 : Value), (u2.category == 1) = true → (u3.category == 1) = true → X62 x1 σ → wW B 195 62 [vr 186, vi x1, u2, u3] [] σ K) (h : w195_77 B σ x1 x2 X62 K) : wW B 195 77 [vr 186, vi x1, vi x2, u3] [] σ K := by
  have ck : pm_code 195 = pc_195 := rfl
  unfold w195_77 at h
  refine h (fun x2 σ => ∀ u3 : Value, (u3.category == 1) = true → wW B 195 77 [vr 186, vi x1, vi x2, u3] [] σ K) ?_ u3 hu3
  clear h
  intro x2 σ h u3 hu3
  obtain ⟨hs1, h⟩ := h
  refine g_il 78 ck rfl rfl rfl ?_
  refine g_iflt 81 125 ck rfl rfl rfl hs1 (fun hc => ?_) (fun hc => ?_)
  · replace h := ite_ht h hc
    refine g_goto 181 ck rfl rfl ?_
    refine r_ii 184 ck rfl rfl rfl rfl ?_
    refine g_goto 62 ck rfl rfl ?_
    exact hX62 _ _ _ _ rfl hu3 h
  · replace h := ite_hf h hc
    refine g_ic 83 ck rfl rfl ?_
    refine r_is 84 ck rfl rfl rfl rfl ?_
    exact o195_84 hX62 (fun _ _ u3 hu3 hx => hx u3 hu3) h
def w195_62 (B : va_E) (σ : l2_m) (x1 : Int)  (K : Int → l2_m → Prop) : Prop := lz2 (fun X62 x1 σ => (rg x1 ∧ (if x1 < 0 then K 0 σ else (rg (σ 186 6) ∧ (if (σ 186 6) = 1 then w195_77 B σ x1 15 X62 K else w195_130 B σ x1 0 X62 K))))) x1 σ
theorem o195_62 {B : va_E} {σ : l2_m} {x1 : Int} {u2 : Value} {u3 : Value}  {K : Int → l2_m → Prop}  (hu2 : (u2.category == 1) = true) (hu3 : (u3.category == 1) = true)  (h : w195_62 B σ x1  K) : wW B 195 62 [vr 186, vi x1, u2, u3] [] σ K := by
  have ck : pm_code 195 = pc_195 := rfl
  unfold w195_62 at h
  refine h (fun x1 σ => ∀ u2 : Value, (u2.category == 1) = true → ∀ u3 : Value, (u3.category == 1) = true → wW B 195 62 [vr 186, vi x1, u2, u3] [] σ K) ?_ u2 hu2 u3 hu3
  clear h
  intro x1 σ h u2 hu2 u3 hu3
  obtain ⟨hs1, h⟩ := h
  refine g_il 63 ck rfl rfl rfl ?_
  refine g_iflt 66 187 ck rfl rfl rfl hs1 (fun hc => ?_) (fun hc => ?_)
  · replace h := ite_ht h hc
    exact g_retv ck rfl rfl h
  · replace h := ite_hf h hc
    obtain ⟨hs2, h⟩ := h
    refine g_al 67 ck rfl rfl rfl ?_
    refine r_gfi 70 6 ck rfl rfl rfl rfl ?_
    refine g_ic 71 ck rfl rfl ?_
    refine g_icne 74 128 ck rfl rfl rfl hs2 (by decide) (fun hc => ?_) (fun hc => ?_)
    · replace h := ite_hf h hc
      refine g_ic 129 ck rfl rfl ?_
      refine r_is 130 ck rfl rfl rfl rfl ?_
      exact o195_130 hu3 (fun _ _ u2 u3 hu2 hu3 hx => hx u2 hu2 u3 hu3) h
    · replace h := ite_ht h (Classical.not_not.mp hc)
      refine g_ic 76 ck rfl rfl ?_
      refine r_is 77 ck rfl rfl rfl rfl ?_
      exact o195_77 hu3 (fun _ _ u2 u3 hu2 hu3 hx => hx u2 hu2 u3 hu3) h
def w195_29 (B : va_E) (σ : l2_m) (x1 : Int) (x2 : Int) (x3 : Int) (X15 : Int → l2_m → Prop) (X22 : Int → l2_m → Prop) (K : Int → l2_m → Prop) : Prop := lz2 (fun X29 x3 σ => (rg x3 ∧ (if x3 < 0 then X22 (x2 + (-1)) σ else (wC B 194 [vr 186, vi x1, vi x2, vi x3] σ (fun _ σ' => X29 (x3 + (-1)) σ'))))) x3 σ
theorem o195_29 {B : va_E} {σ : l2_m} {x1 : Int} {x2 : Int} {x3 : Int}  {X15 : Int → l2_m → Prop} {X22 : Int → l2_m → Prop} {K : Int → l2_m → Prop}   (hX15 : ∀ (x1 : Int) (σ : l2_m) (u2 : Value) (u3 : Value), (u2.category == 1) = true → (u3.category == 1) = true → X15 x1 σ → wW B 195 15 [vr 186, vi x1, u2, u3] [] σ K) (hX22 : ∀ (x2 : Int) (σ : l2_m) (u3 : Value), (u3.category == 1) = true → X22 x2 σ → wW B 195 22 [vr 186, vi x1, vi x2, u3] [] σ K) (h : w195_29 B σ x1 x2 x3 X15 X22 K) : wW B 195 29 [vr 186, vi x1, vi x2, vi x3] [] σ K := by
  have ck : pm_code 195 = pc_195 := rfl
  unfold w195_29 at h
  refine h (fun x3 σ => wW B 195 29 [vr 186, vi x1, vi x2, vi x3] [] σ K) ?_
  clear h
  intro x3 σ h
  obtain ⟨hs1, h⟩ := h
  refine g_il 30 ck rfl rfl rfl ?_
  refine g_iflt 33 46 ck rfl rfl rfl hs1 (fun hc => ?_) (fun hc => ?_)
  · replace h := ite_ht h hc
    refine r_ii 49 ck rfl rfl rfl rfl ?_
    refine g_goto 22 ck rfl rfl ?_
    exact hX22 _ _ _ rfl h
  · replace h := ite_hf h hc
    refine g_al 34 ck rfl rfl rfl ?_
    refine g_il 35 ck rfl rfl rfl ?_
    refine g_il 36 ck rfl rfl rfl ?_
    refine g_il 37 ck rfl rfl rfl ?_
    refine g_cvv (as := [_, _, _]) (rest := []) 40 ck rfl rfl rfl rfl rfl rfl rfl rfl rfl rfl (Nat.le_of_ble_eq_true rfl) (wC.mono h (fun _ σ' h => ?_))
    refine r_ii 43 ck rfl rfl rfl rfl ?_
    refine g_goto 29 ck rfl rfl ?_
    exact h
def w195_22 (B : va_E) (σ : l2_m) (x1 : Int) (x2 : Int) (X15 : Int → l2_m → Prop) (K : Int → l2_m → Prop) : Prop := lz2 (fun X22 x2 σ => (rg x2 ∧ (if x2 < 0 then X15 (x1 + (-1)) σ else w195_29 B σ x1 x2 15 X15 X22 K))) x2 σ
theorem o195_22 {B : va_E} {σ : l2_m} {x1 : Int} {x2 : Int} {u3 : Value} {X15 : Int → l2_m → Prop} {K : Int → l2_m → Prop}  (hu3 : (u3.category == 1) = true) (hX15 : ∀ (x1 : Int) (σ : l2_m) (u2 : Value) (u3 : Value), (u2.category == 1) = true → (u3.category == 1) = true → X15 x1 σ → wW B 195 15 [vr 186, vi x1, u2, u3] [] σ K) (h : w195_22 B σ x1 x2 X15 K) : wW B 195 22 [vr 186, vi x1, vi x2, u3] [] σ K := by
  have ck : pm_code 195 = pc_195 := rfl
  unfold w195_22 at h
  refine h (fun x2 σ => ∀ u3 : Value, (u3.category == 1) = true → wW B 195 22 [vr 186, vi x1, vi x2, u3] [] σ K) ?_ u3 hu3
  clear h
  intro x2 σ h u3 hu3
  obtain ⟨hs1, h⟩ := h
  refine g_il 23 ck rfl rfl rfl ?_
  refine g_iflt 26 52 ck rfl rfl rfl hs1 (fun hc => ?_) (fun hc => ?_)
  · replace h := ite_ht h hc
    refine r_ii 55 ck rfl rfl rfl rfl ?_
    refine g_goto 15 ck rfl rfl ?_
    exact hX15 _ _ _ _ rfl hu3 h
  · replace h := ite_hf h hc
    refine g_ic 28 ck rfl rfl ?_
    refine r_is 29 ck rfl rfl rfl rfl ?_
    exact o195_29 hX15 (fun _ _ u3 hu3 hx => hx u3 hu3) h
def w195_15 (B : va_E) (σ : l2_m) (x1 : Int)  (K : Int → l2_m → Prop) : Prop := lz2 (fun X15 x1 σ => (rg x1 ∧ (if x1 < 0 then K 0 σ else w195_22 B σ x1 15 X15 K))) x1 σ
theorem o195_15 {B : va_E} {σ : l2_m} {x1 : Int} {u2 : Value} {u3 : Value}  {K : Int → l2_m → Prop}  (hu2 : (u2.category == 1) = true) (hu3 : (u3.category == 1) = true)  (h : w195_15 B σ x1  K) : wW B 195 15 [vr 186, vi x1, u2, u3] [] σ K := by
  have ck : pm_code 195 = pc_195 := rfl
  unfold w195_15 at h
  refine h (fun x1 σ => ∀ u2 : Value, (u2.category == 1) = true → ∀ u3 : Value, (u3.category == 1) = true → wW B 195 15 [vr 186, vi x1, u2, u3] [] σ K) ?_ u2 hu2 u3 hu3
  clear h
  intro x1 σ h u2 hu2 u3 hu3
  obtain ⟨hs1, h⟩ := h
  refine g_il 16 ck rfl rfl rfl ?_
  refine g_iflt 19 58 ck rfl rfl rfl hs1 (fun hc => ?_) (fun hc => ?_)
  · replace h := ite_ht h hc
    exact g_retv ck rfl rfl h
  · replace h := ite_hf h hc
    refine g_ic 21 ck rfl rfl ?_
    refine r_is 22 ck rfl rfl rfl rfl ?_
    exact o195_22 hu3 (fun _ _ u2 u3 hu2 hu3 hx => hx u2 hu2 u3 hu3) h
def w195 (B : va_E) (σ : l2_m)  (K : Int → l2_m → Prop) : Prop := (∀ σ' : l2_m, σ' = l2_u σ 186 25 0 → rg (σ' 186 6) ∧ (if (σ' 186 6) = 0 then w195_15 B σ' 15 K else w195_62 B σ' 45 K))
theorem o195 {B : va_E} {σ : l2_m}  {K : Int → l2_m → Prop}   (h : w195 B σ   K) : wC B 195 [vr 186] σ K := by
  have ck : pm_code 195 = pc_195 := rfl
  unfold w195 at h
  show wW B 195 0 [vr 186, pm_un, pm_un, pm_un] [] σ K
  refine g_al 1 ck rfl rfl rfl ?_
  refine g_ic 2 ck rfl rfl ?_
  refine g_pfi 5 ck rfl rfl rfl 25 rfl rfl ?_
  replace h := h _ rfl
  obtain ⟨hs1, h⟩ := h
  refine g_al 6 ck rfl rfl rfl ?_
  refine r_gfi 9 6 ck rfl rfl rfl rfl ?_
  refine g_ifne 12 59 ck rfl rfl rfl hs1 (fun hc => ?_) (fun hc => ?_)
  · replace h := ite_hf h hc
    refine g_ic 61 ck rfl rfl ?_
    refine r_is 62 ck rfl rfl rfl rfl ?_
    exact o195_62 rfl rfl h
  · replace h := ite_ht h (Classical.not_not.mp hc)
    refine g_ic 14 ck rfl rfl ?_
    refine r_is 15 ck rfl rfl rfl rfl ?_
    exact o195_15 rfl rfl h
/-! 196 TermDeskModel.compares(IIIII)I -/
def w196_31 (B : va_E) (σ : l2_m) (x0 : Int) (x1 : Int) (x2 : Int) (x3 : Int) (x4 : Int) (x5 : Int)  (K : Int → l2_m → Prop) : Prop := (rg x2 ∧ (if x2 = 2 then ((rg x1 ∧ 0 ≤ x5 ∧ x5 < 3 ∧ rg x0) ∧ ∀ x7' : Int, x7' = ((e4 x1 x5) - (e4 x0 x5)) → rg x7' ∧ (if x7' = 0 then ((0 ≤ x4 ∧ x4 < 3) ∧ K ((e4 x1 x4) - (e4 x0 x4)) σ) else K x7' σ)) else ((rg x0 ∧ 0 ≤ x3 ∧ x3 < 3 ∧ rg x1) ∧ ∀ x7 : Int, x7 = ((e4 x0 x3) - (e4 x1 x3)) → (0 ≤ x4 ∧ x4 < 3) ∧ ∀ x8 : Int, x8 = ((e4 x0 x4) - (e4 x1 x4)) → rg x7 ∧ (if x7 = 0 then (rg x8 ∧ (if x8 = 0 then ((0 ≤ x5 ∧ x5 < 3) ∧ K ((e4 x0 x5) - (e4 x1 x5)) σ) else K x8 σ)) else K x7 σ))))
theorem o196_31 {B : va_E} {σ : l2_m} {x0 : Int} {x1 : Int} {x2 : Int} {x3 : Int} {x4 : Int} {x5 : Int} {u6 : Value} {u7 : Value} {u8 : Value}  {K : Int → l2_m → Prop}  (hu6 : (u6.category == 1) = true) (hu7 : (u7.category == 1) = true) (hu8 : (u8.category == 1) = true)  (h : w196_31 B σ x0 x1 x2 x3 x4 x5  K) : wW B 196 31 [vi x0, vi x1, vi x2, vi x3, vi x4, vi x5, u6, u7, u8] [] σ K := by
  have ck : pm_code 196 = pc_196 := rfl
  unfold w196_31 at h
  obtain ⟨hs1, h⟩ := h
  refine g_il 32 ck rfl rfl rfl ?_
  refine g_ic 33 ck rfl rfl ?_
  refine g_icne 36 75 ck rfl rfl rfl hs1 (by decide) (fun hc => ?_) (fun hc => ?_)
  · replace h := ite_hf h hc
    obtain ⟨⟨hs2, hs3, hs4, hs5⟩, h⟩ := h
    refine g_il 76 ck rfl rfl rfl ?_
    refine g_il 77 ck rfl rfl rfl ?_
    refine g_csi (as := [_, _]) (rest := []) 80 ck rfl rfl rfl rfl rfl (by decide) rfl rfl rfl (Nat.le_of_ble_eq_true rfl) (s171 hs2 hs3 hs4 ?_)
    refine g_il 81 ck rfl rfl rfl ?_
    refine g_il 82 ck rfl rfl rfl ?_
    refine g_csi (as := [_, _]) (rest := [_]) 85 ck rfl rfl rfl rfl rfl (by decide) rfl rfl rfl (Nat.le_of_ble_eq_true rfl) (s171 hs5 hs3 hs4 ?_)
    refine g_sub 86 ck rfl rfl ?_
    refine r_is 88 ck rfl rfl hu6 rfl ?_
    replace h := h _ rfl
    obtain ⟨⟨hs6, hs7⟩, h⟩ := h
    refine g_il 89 ck rfl rfl rfl ?_
    refine g_il 91 ck rfl rfl rfl ?_
    refine g_csi (as := [_, _]) (rest := []) 94 ck rfl rfl rfl rfl rfl (by decide) rfl rfl rfl (Nat.le_of_ble_eq_true rfl) (s171 hs2 hs6 hs7 ?_)
    refine g_il 95 ck rfl rfl rfl ?_
    refine g_il 97 ck rfl rfl rfl ?_
    refine g_csi (as := [_, _]) (rest := [_]) 100 ck rfl rfl rfl rfl rfl (by decide) rfl rfl rfl (Nat.le_of_ble_eq_true rfl) (s171 hs5 hs6 hs7 ?_)
    refine g_sub 101 ck rfl rfl ?_
    refine r_is 103 ck rfl rfl rfl rfl ?_
    replace h := h _ rfl
    obtain ⟨hs8, h⟩ := h
    refine g_il 105 ck rfl rfl rfl ?_
    refine g_ifeq 108 113 ck rfl rfl rfl hs8 (fun hc => ?_) (fun hc => ?_)
    · replace h := ite_ht h hc
      obtain ⟨hs9, h⟩ := h
      refine g_il 115 ck rfl rfl rfl ?_
      refine g_ifeq 118 123 ck rfl rfl rfl hs9 (fun hc => ?_) (fun hc => ?_)
      · replace h := ite_ht h hc
        obtain ⟨⟨hs10, hs11⟩, h⟩ := h
        refine g_il 124 ck rfl rfl rfl ?_
        refine g_il 126 ck rfl rfl rfl ?_
        refine g_csi (as := [_, _]) (rest := []) 129 ck rfl rfl rfl rfl rfl (by decide) rfl rfl rfl (Nat.le_of_ble_eq_true rfl) (s171 hs2 hs10 hs11 ?_)
        refine g_il 130 ck rfl rfl rfl ?_
        refine g_il 132 ck rfl rfl rfl ?_
        refine g_csi (as := [_, _]) (rest := [_]) 135 ck rfl rfl rfl rfl rfl (by decide) rfl rfl rfl (Nat.le_of_ble_eq_true rfl) (s171 hs5 hs10 hs11 ?_)
        refine g_sub 136 ck rfl rfl ?_
        exact g_ret ck rfl rfl (Or.inl (by decide)) h
      · replace h := ite_hf h hc
        refine g_il 120 ck rfl rfl rfl ?_
        refine g_goto 136 ck rfl rfl ?_
        exact g_ret ck rfl rfl (Or.inl (by decide)) h
    · replace h := ite_hf h hc
      refine g_il 110 ck rfl rfl rfl ?_
      refine g_goto 136 ck rfl rfl ?_
      exact g_ret ck rfl rfl (Or.inl (by decide)) h
  · replace h := ite_ht h (Classical.not_not.mp hc)
    obtain ⟨⟨hs12, hs13, hs14, hs15⟩, h⟩ := h
    refine g_il 37 ck rfl rfl rfl ?_
    refine g_il 39 ck rfl rfl rfl ?_
    refine g_csi (as := [_, _]) (rest := []) 42 ck rfl rfl rfl rfl rfl (by decide) rfl rfl rfl (Nat.le_of_ble_eq_true rfl) (s171 hs12 hs13 hs14 ?_)
    refine g_il 43 ck rfl rfl rfl ?_
    refine g_il 45 ck rfl rfl rfl ?_
    refine g_csi (as := [_, _]) (rest := [_]) 48 ck rfl rfl rfl rfl rfl (by decide) rfl rfl rfl (Nat.le_of_ble_eq_true rfl) (s171 hs15 hs13 hs14 ?_)
    refine g_sub 49 ck rfl rfl ?_
    refine r_is 51 ck rfl rfl hu6 rfl ?_
    replace h := h _ rfl
    obtain ⟨hs16, h⟩ := h
    refine g_il 53 ck rfl rfl rfl ?_
    refine g_ifeq 56 61 ck rfl rfl rfl hs16 (fun hc => ?_) (fun hc => ?_)
    · replace h := ite_ht h hc
      obtain ⟨⟨hs17, hs18⟩, h⟩ := h
      refine g_il 62 ck rfl rfl rfl ?_
      refine g_il 64 ck rfl rfl rfl ?_
      refine g_csi (as := [_, _]) (rest := []) 67 ck rfl rfl rfl rfl rfl (by decide) rfl rfl rfl (Nat.le_of_ble_eq_true rfl) (s171 hs12 hs17 hs18 ?_)
      refine g_il 68 ck rfl rfl rfl ?_
      refine g_il 70 ck rfl rfl rfl ?_
      refine g_csi (as := [_, _]) (rest := [_]) 73 ck rfl rfl rfl rfl rfl (by decide) rfl rfl rfl (Nat.le_of_ble_eq_true rfl) (s171 hs15 hs17 hs18 ?_)
      refine g_sub 74 ck rfl rfl ?_
      exact g_ret ck rfl rfl (Or.inl (by decide)) h
    · replace h := ite_hf h hc
      refine g_il 58 ck rfl rfl rfl ?_
      refine g_goto 74 ck rfl rfl ?_
      exact g_ret ck rfl rfl (Or.inl (by decide)) h
def w196 (B : va_E) (σ : l2_m) (x0 : Int) (x1 : Int) (x2 : Int) (x3 : Int) (x4 : Int) (K : Int → l2_m → Prop) : Prop := (∀ x5 : Int, x5 = ((3 - x3) - x4) → (rg x0 ∧ rg x1) ∧ ∀ x6 : Int, x6 = ((((e4 x0 0) + (e4 x0 1)) + (e4 x0 2)) - (((e4 x1 0) + (e4 x1 1)) + (e4 x1 2))) → rg x2 ∧ ((¬ (x2 = 0) → rg x6) ∧ (if (x2 = 0) ∨ (x6 = 0) then w196_31 B σ x0 x1 x2 x3 x4 x5 K else K x6 σ)))
theorem o196 {B : va_E} {σ : l2_m} {x0 : Int} {x1 : Int} {x2 : Int} {x3 : Int} {x4 : Int} {K : Int → l2_m → Prop}   (h : w196 B σ x0 x1 x2 x3 x4  K) : wC B 196 [vi x0, vi x1, vi x2, vi x3, vi x4] σ K := by
  have ck : pm_code 196 = pc_196 := rfl
  unfold w196 at h
  show wW B 196 0 [vi x0, vi x1, vi x2, vi x3, vi x4, pm_un, pm_un, pm_un, pm_un] [] σ K
  replace h := (fun h x e => (And.imp_right (fun h x e => (And.imp_right mg_1s) (h x e))) (h x e)) h
  refine g_ic 1 ck rfl rfl ?_
  refine g_il 2 ck rfl rfl rfl ?_
  refine g_sub 3 ck rfl rfl ?_
  refine g_il 5 ck rfl rfl rfl ?_
  refine g_sub 6 ck rfl rfl ?_
  refine r_is 8 ck rfl rfl rfl rfl ?_
  replace h := h _ rfl
  obtain ⟨⟨hs1, hs2⟩, h⟩ := h
  refine g_il 9 ck rfl rfl rfl ?_
  refine g_csi (as := [_]) (rest := []) 12 ck rfl rfl rfl rfl rfl (by decide) rfl rfl rfl (Nat.le_of_ble_eq_true rfl) (s172 hs1 ?_)
  refine g_il 13 ck rfl rfl rfl ?_
  refine g_csi (as := [_]) (rest := [_]) 16 ck rfl rfl rfl rfl rfl (by decide) rfl rfl rfl (Nat.le_of_ble_eq_true rfl) (s172 hs2 ?_)
  refine g_sub 17 ck rfl rfl ?_
  refine r_is 19 ck rfl rfl rfl rfl ?_
  replace h := h _ rfl
  obtain ⟨hs3, h⟩ := h
  refine g_il 20 ck rfl rfl rfl ?_
  refine g_ifeq 23 31 ck rfl rfl rfl hs3 (fun hc => ?_) (fun hc => ?_)
  · replace h := ite_ht h hc
    exact o196_31 rfl rfl rfl h
  · replace h := ite_hf h hc
    obtain ⟨hs4, h⟩ := h
    refine g_il 25 ck rfl rfl rfl ?_
    refine g_ifeq 28 31 ck rfl rfl rfl hs4 (fun hc => ?_) (fun hc => ?_)
    · replace h := ite_ht h hc
      exact o196_31 rfl rfl rfl h
    · replace h := ite_hf h hc
      refine g_il 30 ck rfl rfl rfl ?_
      exact g_ret ck rfl rfl (Or.inl (by decide)) h
/-! 204 TermDeskModel.leadOf(I)I -/
def w204_2 (B : va_E) (σ : l2_m) (x1 : Int) (x2 : Int)  (K : Int → l2_m → Prop) : Prop := lz1 (fun X2 x2 => (rg x2 ∧ (if x2 < 4096 then ((0 ≤ x2 ∧ x2 < 4096 ∧ 0 ≤ x1 ∧ x1 < 8 ∧ 0 ≤ (σ 190 x2) ∧ (σ 190 x2) < 4096 ∧ rg (σ 187 (4096 * x1 + (σ 190 x2)))) ∧ (if (σ 187 (4096 * x1 + (σ 190 x2))) = 0 then X2 (x2 + 1) else K (σ 190 x2) σ)) else K (-1) σ))) x2
theorem o204_2 {B : va_E} {σ : l2_m} {x1 : Int} {x2 : Int}   {K : Int → l2_m → Prop}    (h : w204_2 B σ x1 x2  K) : wW B 204 2 [vr 186, vi x1, vi x2] [] σ K := by
  have ck : pm_code 204 = pc_204 := rfl
  unfold w204_2 at h
  refine h (fun x2 => wW B 204 2 [vr 186, vi x1, vi x2] [] σ K) ?_
  clear h
  intro x2 h
  obtain ⟨hs1, h⟩ := h
  refine g_il 3 ck rfl rfl rfl ?_
  refine g_ic 6 ck rfl rfl ?_
  refine g_icge 9 36 ck rfl rfl rfl hs1 (by decide) (fun hc => ?_) (fun hc => ?_)
  · replace h := ite_hf h (Int.not_lt.mpr hc)
    refine g_ic 37 ck rfl rfl ?_
    exact g_ret ck rfl rfl (Or.inl (by decide)) h
  · replace h := ite_ht h (Int.not_le.mp hc)
    obtain ⟨⟨hs2, hs3, hs4, hs5, hs6, hs7, hs8⟩, h⟩ := h
    refine g_al 10 ck rfl rfl rfl ?_
    refine g_il 11 ck rfl rfl rfl ?_
    refine g_al 12 ck rfl rfl rfl ?_
    refine r_gfr 15 190 ck rfl rfl rfl (by decide) ?_
    refine g_il 16 ck rfl rfl rfl ?_
    refine g_ial (m := 4096) 17 ck rfl rfl rfl hs2 hs3 ?_
    refine g_cvi (as := [_, _]) (rest := []) 20 ck rfl rfl rfl rfl rfl rfl (by decide) rfl rfl rfl rfl (Nat.le_of_ble_eq_true rfl) (s201 hs4 hs5 hs6 hs7 ?_)
    refine g_ifeq 23 30 ck rfl rfl rfl hs8 (fun hc => ?_) (fun hc => ?_)
    · replace h := ite_ht h hc
      refine r_ii 33 ck rfl rfl rfl rfl ?_
      refine g_goto 2 ck rfl rfl ?_
      exact h
    · replace h := ite_hf h hc
      refine g_al 24 ck rfl rfl rfl ?_
      refine r_gfr 27 190 ck rfl rfl rfl (by decide) ?_
      refine g_il 28 ck rfl rfl rfl ?_
      refine g_ial (m := 4096) 29 ck rfl rfl rfl hs2 hs3 ?_
      exact g_ret ck rfl rfl (Or.inl (by decide)) h
def w204 (B : va_E) (σ : l2_m) (x1 : Int) (K : Int → l2_m → Prop) : Prop := w204_2 B σ x1 0 K
theorem o204 {B : va_E} {σ : l2_m} {x1 : Int} {K : Int → l2_m → Prop}   (h : w204 B σ x1  K) : wC B 204 [vr 186, vi x1] σ K := by
  have ck : pm_code 204 = pc_204 := rfl
  unfold w204 at h
  show wW B 204 0 [vr 186, vi x1, pm_un] [] σ K
  refine g_ic 1 ck rfl rfl ?_
  refine r_is 2 ck rfl rfl rfl rfl ?_
  exact o204_2  h
/-! 205 TermDeskModel.notZero()I -/
def w205_4 (B : va_E) (σ : l2_m) (x1 : Int) (x2 : Int)  (K : Int → l2_m → Prop) : Prop := lz2 (fun X4 x1 x2 => (rg x2 ∧ (if x2 < 8 then ((0 ≤ x2 ∧ x2 < 8 ∧ (∀ j : Int, 0 ≤ j → j < 4096 → rg (σ 187 (4096 * x2 + j)))) ∧ (if (cnt (fun k => σ 187 (4096 * x2 + k)) 4096) = 0 then (∀ x1'' : Int, x1'' = (x1 + 0) → X4 x1'' (x2 + 1)) else (∀ x1' : Int, x1' = (x1 + 1) → X4 x1' (x2 + 1)))) else K x1 σ))) x1 x2
theorem o205_4 {B : va_E} {σ : l2_m} {x1 : Int} {x2 : Int}   {K : Int → l2_m → Prop}    (h : w205_4 B σ x1 x2  K) : wW B 205 4 [vr 186, vi x1, vi x2] [] σ K := by
  have ck : pm_code 205 = pc_205 := rfl
  unfold w205_4 at h
  refine h (fun x1 x2 => wW B 205 4 [vr 186, vi x1, vi x2] [] σ K) ?_
  clear h
  intro x1 x2 h
  obtain ⟨hs1, h⟩ := h
  refine g_il 5 ck rfl rfl rfl ?_
  refine g_ic 7 ck rfl rfl ?_
  refine g_icge 10 32 ck rfl rfl rfl hs1 (by decide) (fun hc => ?_) (fun hc => ?_)
  · replace h := ite_hf h (Int.not_lt.mpr hc)
    refine g_il 33 ck rfl rfl rfl ?_
    exact g_ret ck rfl rfl (Or.inl (by decide)) h
  · replace h := ite_ht h (Int.not_le.mp hc)
    obtain ⟨⟨hs2, hs3, hs4⟩, h⟩ := h
    refine g_il 11 ck rfl rfl rfl ?_
    refine g_al 12 ck rfl rfl rfl ?_
    refine g_il 13 ck rfl rfl rfl ?_
    refine g_cvi (as := [_]) (rest := [_]) 16 ck rfl rfl rfl rfl rfl rfl (by decide) rfl rfl rfl rfl (Nat.le_of_ble_eq_true rfl) (s203 hs2 hs3 hs4 ?_)
    refine g_ifeq 19 23 ck rfl rfl rfl rg_b2i (fun hc => ?_) (fun hc => ?_)
    · replace h := ite_hf h (b2i_f hc)
      refine g_ic 24 ck rfl rfl ?_
      refine g_add 25 ck rfl rfl ?_
      refine r_is 26 ck rfl rfl rfl rfl ?_
      replace h := h _ rfl
      refine r_ii 29 ck rfl rfl rfl rfl ?_
      refine g_goto 4 ck rfl rfl ?_
      exact h
    · replace h := ite_ht h (b2i_t hc)
      refine g_ic 20 ck rfl rfl ?_
      refine g_goto 24 ck rfl rfl ?_
      refine g_add 25 ck rfl rfl ?_
      refine r_is 26 ck rfl rfl rfl rfl ?_
      replace h := h _ rfl
      refine r_ii 29 ck rfl rfl rfl rfl ?_
      refine g_goto 4 ck rfl rfl ?_
      exact h
def w205 (B : va_E) (σ : l2_m)  (K : Int → l2_m → Prop) : Prop := w205_4 B σ 0 0 K
theorem o205 {B : va_E} {σ : l2_m}  {K : Int → l2_m → Prop}   (h : w205 B σ   K) : wC B 205 [vr 186] σ K := by
  have ck : pm_code 205 = pc_205 := rfl
  unfold w205 at h
  show wW B 205 0 [vr 186, pm_un, pm_un] [] σ K
  refine g_ic 1 ck rfl rfl ?_
  refine r_is 2 ck rfl rfl rfl rfl ?_
  refine g_ic 3 ck rfl rfl ?_
  refine r_is 4 ck rfl rfl rfl rfl ?_
  exact o205_4  h
/-! 206 TermDeskModel.about(I)I -/
def w206 (B : va_E) (σ : l2_m) (x1 : Int) (K : Int → l2_m → Prop) : Prop := (∀ σ' : l2_m, σ' = l2_u σ 186 0 0 → rg (σ' 186 14) ∧ (if (σ' 186 14) = 0 then (∀ σ'''''''''' : l2_m, σ'''''''''' = trr σ' 1 → K (-1) σ'''''''''') else (rg x1 ∧ (if x1 = 0 then (∀ σ'' : l2_m, σ'' = trr σ' 0 → K (σ' 186 5) σ'') else (if x1 = 1 then (∀ σ''' : l2_m, σ''' = trr σ' 0 → K (σ' 186 6) σ''') else (if x1 = 2 then (∀ σ'''' : l2_m, σ'''' = trr σ' 0 → K (σ' 186 7) σ'''') else (if x1 = 3 then (∀ σ''''' : l2_m, σ''''' = trr σ' 0 → K (σ' 186 8) σ''''') else (if x1 = 4 then (∀ σ'''''' : l2_m, σ'''''' = trr σ' 0 → K ((3 - (σ' 186 7)) - (σ' 186 8)) σ'''''') else (if x1 = 5 then (wC B 205 [vr 186] σ' (fun y σ''''''' => (∀ σ'''''''' : l2_m, σ'''''''' = trr σ''''''' 0 → K y σ''''''''))) else (∀ σ''''''''' : l2_m, σ''''''''' = trr σ' 1 → K (-1) σ'''''''''))))))))))
theorem o206 {B : va_E} {σ : l2_m} {x1 : Int} {K : Int → l2_m → Prop}   (h : w206 B σ x1  K) : wC B 206 [vr 186, vi x1] σ K := by
  have ck : pm_code 206 = pc_206 := rfl
  unfold w206 at h
  show wW B 206 0 [vr 186, vi x1] [] σ K
  refine g_al 1 ck rfl rfl rfl ?_
  refine g_ic 2 ck rfl rfl ?_
  refine g_pfi 5 ck rfl rfl rfl 0 rfl rfl ?_
  replace h := h _ rfl
  obtain ⟨hs1, h⟩ := h
  refine g_al 6 ck rfl rfl rfl ?_
  refine r_gfi 9 14 ck rfl rfl rfl rfl ?_
  refine g_ifne 12 18 ck rfl rfl rfl hs1 (fun hc => ?_) (fun hc => ?_)
  · replace h := ite_hf h hc
    obtain ⟨hs2, h⟩ := h
    refine g_il 19 ck rfl rfl rfl ?_
    by_cases hc0 : x1 = 0
    · replace h := ite_ht h hc0
      refine g_sw 56 ck rfl hs2 (by rw [hc0]; rfl) ?_
      refine g_al 57 ck rfl rfl rfl ?_
      refine g_al 58 ck rfl rfl rfl ?_
      refine r_gfi 61 5 ck rfl rfl rfl rfl ?_
      refine g_cvi (as := [_]) (rest := []) 64 ck rfl rfl rfl rfl rfl rfl (by decide) rfl rfl rfl rfl (Nat.le_of_ble_eq_true rfl) (s169  ?_)
      replace h := h _ rfl
      exact g_ret ck rfl rfl (Or.inl (by decide)) h
    replace h := ite_hf h hc0
    by_cases hc1 : x1 = 1
    · replace h := ite_ht h hc1
      refine g_sw 65 ck rfl hs2 (by rw [hc1]; rfl) ?_
      refine g_al 66 ck rfl rfl rfl ?_
      refine g_al 67 ck rfl rfl rfl ?_
      refine r_gfi 70 6 ck rfl rfl rfl rfl ?_
      refine g_cvi (as := [_]) (rest := []) 73 ck rfl rfl rfl rfl rfl rfl (by decide) rfl rfl rfl rfl (Nat.le_of_ble_eq_true rfl) (s169  ?_)
      replace h := h _ rfl
      exact g_ret ck rfl rfl (Or.inl (by decide)) h
    replace h := ite_hf h hc1
    by_cases hc2 : x1 = 2
    · replace h := ite_ht h hc2
      refine g_sw 74 ck rfl hs2 (by rw [hc2]; rfl) ?_
      refine g_al 75 ck rfl rfl rfl ?_
      refine g_al 76 ck rfl rfl rfl ?_
      refine r_gfi 79 7 ck rfl rfl rfl rfl ?_
      refine g_cvi (as := [_]) (rest := []) 82 ck rfl rfl rfl rfl rfl rfl (by decide) rfl rfl rfl rfl (Nat.le_of_ble_eq_true rfl) (s169  ?_)
      replace h := h _ rfl
      exact g_ret ck rfl rfl (Or.inl (by decide)) h
    replace h := ite_hf h hc2
    by_cases hc3 : x1 = 3
    · replace h := ite_ht h hc3
      refine g_sw 83 ck rfl hs2 (by rw [hc3]; rfl) ?_
      refine g_al 84 ck rfl rfl rfl ?_
      refine g_al 85 ck rfl rfl rfl ?_
      refine r_gfi 88 8 ck rfl rfl rfl rfl ?_
      refine g_cvi (as := [_]) (rest := []) 91 ck rfl rfl rfl rfl rfl rfl (by decide) rfl rfl rfl rfl (Nat.le_of_ble_eq_true rfl) (s169  ?_)
      replace h := h _ rfl
      exact g_ret ck rfl rfl (Or.inl (by decide)) h
    replace h := ite_hf h hc3
    by_cases hc4 : x1 = 4
    · replace h := ite_ht h hc4
      refine g_sw 92 ck rfl hs2 (by rw [hc4]; rfl) ?_
      refine g_al 93 ck rfl rfl rfl ?_
      refine g_al 94 ck rfl rfl rfl ?_
      refine g_cvi (as := []) (rest := [_]) 97 ck rfl rfl rfl rfl rfl rfl (by decide) rfl rfl rfl rfl (Nat.le_of_ble_eq_true rfl) (s193  ?_)
      refine g_cvi (as := [_]) (rest := []) 100 ck rfl rfl rfl rfl rfl rfl (by decide) rfl rfl rfl rfl (Nat.le_of_ble_eq_true rfl) (s169  ?_)
      replace h := h _ rfl
      exact g_ret ck rfl rfl (Or.inl (by decide)) h
    replace h := ite_hf h hc4
    by_cases hc5 : x1 = 5
    · replace h := ite_ht h hc5
      refine g_sw 101 ck rfl hs2 (by rw [hc5]; rfl) ?_
      refine g_al 102 ck rfl rfl rfl ?_
      refine g_al 103 ck rfl rfl rfl ?_
      refine g_cvi (as := []) (rest := [_]) 106 ck rfl rfl rfl rfl rfl rfl (by decide) rfl rfl rfl rfl (Nat.le_of_ble_eq_true rfl) (wC.mono h (fun y σ''''''' h => ?_))
      refine g_cvi (as := [_]) (rest := []) 109 ck rfl rfl rfl rfl rfl rfl (by decide) rfl rfl rfl rfl (Nat.le_of_ble_eq_true rfl) (s169  ?_)
      replace h := h _ rfl
      exact g_ret ck rfl rfl (Or.inl (by decide)) h
    replace h := ite_hf h hc5
    refine g_sw 110 ck rfl hs2 (by unfold l2_sw; rw [if_pos (by omega)]; rfl) ?_
    refine g_al 111 ck rfl rfl rfl ?_
    refine g_ic 112 ck rfl rfl ?_
    refine g_cvi (as := [_]) (rest := []) 115 ck rfl rfl rfl rfl rfl rfl (by decide) rfl rfl rfl rfl (Nat.le_of_ble_eq_true rfl) (s168  ?_)
    replace h := h _ rfl
    exact g_ret ck rfl rfl (Or.inl (by decide)) h
  · replace h := ite_ht h (Classical.not_not.mp hc)
    refine g_al 13 ck rfl rfl rfl ?_
    refine g_ic 14 ck rfl rfl ?_
    refine g_cvi (as := [_]) (rest := []) 17 ck rfl rfl rfl rfl rfl rfl (by decide) rfl rfl rfl rfl (Nat.le_of_ble_eq_true rfl) (s168  ?_)
    replace h := h _ rfl
    exact g_ret ck rfl rfl (Or.inl (by decide)) h
/-! 207 TermDeskModel.terms(I)I -/
def w207 (B : va_E) (σ : l2_m) (x1 : Int) (K : Int → l2_m → Prop) : Prop := (∀ σ' : l2_m, σ' = l2_u σ 186 0 0 → (rg x1 ∧ ((σ' 186 14) = 0 ∨ (σ' 186 14) = 1)) ∧ (if (σ' 186 14) = 1 ∧ 0 ≤ x1 ∧ x1 < 8 then ((0 ≤ x1 ∧ x1 < 8 ∧ (∀ j : Int, 0 ≤ j → j < 4096 → rg (σ' 187 (4096 * x1 + j)))) ∧ ∀ σ''' : l2_m, σ''' = trr σ' 0 → K (cnt (fun k => σ' 187 (4096 * x1 + k)) 4096) σ''') else (∀ σ'' : l2_m, σ'' = trr σ' 1 → K (-1) σ'')))
theorem o207 {B : va_E} {σ : l2_m} {x1 : Int} {K : Int → l2_m → Prop}   (h : w207 B σ x1  K) : wC B 207 [vr 186, vi x1] σ K := by
  have ck : pm_code 207 = pc_207 := rfl
  unfold w207 at h
  show wW B 207 0 [vr 186, vi x1] [] σ K
  refine g_al 1 ck rfl rfl rfl ?_
  refine g_ic 2 ck rfl rfl ?_
  refine g_pfi 5 ck rfl rfl rfl 0 rfl rfl ?_
  replace h := h _ rfl
  obtain ⟨⟨hs1, hs2⟩, h⟩ := h
  refine g_al 6 ck rfl rfl rfl ?_
  refine g_il 7 ck rfl rfl rfl ?_
  refine g_cvi (as := [_]) (rest := []) 10 ck rfl rfl rfl rfl rfl rfl (by decide) rfl rfl rfl rfl (Nat.le_of_ble_eq_true rfl) (s197 hs1 hs2 ?_)
  refine g_ifeq 13 25 ck rfl rfl rfl rg_b2i (fun hc => ?_) (fun hc => ?_)
  · replace h := ite_hf h (b2i_f hc)
    refine g_al 26 ck rfl rfl rfl ?_
    refine g_ic 27 ck rfl rfl ?_
    refine g_cvi (as := [_]) (rest := []) 30 ck rfl rfl rfl rfl rfl rfl (by decide) rfl rfl rfl rfl (Nat.le_of_ble_eq_true rfl) (s168  ?_)
    replace h := h _ rfl
    exact g_ret ck rfl rfl (Or.inl (by decide)) h
  · replace h := ite_ht h (b2i_t hc)
    obtain ⟨⟨hs3, hs4, hs5⟩, h⟩ := h
    refine g_al 14 ck rfl rfl rfl ?_
    refine g_al 15 ck rfl rfl rfl ?_
    refine g_il 16 ck rfl rfl rfl ?_
    refine g_cvi (as := [_]) (rest := [_]) 19 ck rfl rfl rfl rfl rfl rfl (by decide) rfl rfl rfl rfl (Nat.le_of_ble_eq_true rfl) (s202 hs3 hs4 hs5 ?_)
    refine g_cvi (as := [_]) (rest := []) 22 ck rfl rfl rfl rfl rfl rfl (by decide) rfl rfl rfl rfl (Nat.le_of_ble_eq_true rfl) (s169  ?_)
    replace h := h _ rfl
    refine g_goto 30 ck rfl rfl ?_
    exact g_ret ck rfl rfl (Or.inl (by decide)) h
/-! 208 TermDeskModel.term(III)I -/
def w208_69 (B : va_E) (σ : l2_m) (x1 : Int) (x3 : Int) (x4 : Int) (x5 : Int) (X49 : Int → Int → Prop) (K : Int → l2_m → Prop) : Prop := ((0 ≤ x4 ∧ x4 < 4096 ∧ 0 ≤ x1 ∧ x1 < 8 ∧ 0 ≤ (σ 190 x4) ∧ (σ 190 x4) < 4096 ∧ rg (σ 187 (4096 * x1 + (σ 190 x4)))) ∧ (if (σ 187 (4096 * x1 + (σ 190 x4))) = 0 then (∀ x5' : Int, x5' = (x5 - 0) → X49 (x4 + 1) x5') else (∀ x5'' : Int, x5'' = (x5 - 1) → X49 (x4 + 1) x5'')))
theorem o208_69 {B : va_E} {σ : l2_m} {x1 : Int} {x3 : Int} {x4 : Int} {x5 : Int} {u2 : Value} {u6 : Value} {X49 : Int → Int → Prop} {K : Int → l2_m → Prop}  (hu2 : (u2.category == 1) = true) (hu6 : (u6.category == 1) = true) (hX49 : ∀ (x4 : Int) (x5 : Int) (u2 : Value) (u6 : Value), (u2.category == 1) = true → (u6.category == 1) = true → X49 x4 x5 → wW B 208 49 [vr 186, vi x1, u2, vi x3, vi x4, vi x5, u6] [] σ K) (h : w208_69 B σ x1 x3 x4 x5 X49 K) : wW B 208 69 [vr 186, vi x1, u2, vi x3, vi x4, vi x5, u6] [] σ K := by
  have ck : pm_code 208 = pc_208 := rfl
  unfold w208_69 at h
  obtain ⟨⟨hs1, hs2, hs3, hs4, hs5, hs6, hs7⟩, h⟩ := h
  refine g_il 71 ck rfl rfl rfl ?_
  refine g_al 72 ck rfl rfl rfl ?_
  refine g_il 73 ck rfl rfl rfl ?_
  refine g_al 74 ck rfl rfl rfl ?_
  refine r_gfr 77 190 ck rfl rfl rfl (by decide) ?_
  refine g_il 79 ck rfl rfl rfl ?_
  refine g_ial (m := 4096) 80 ck rfl rfl rfl hs1 hs2 ?_
  refine g_cvi (as := [_, _]) (rest := [_]) 83 ck rfl rfl rfl rfl rfl rfl (by decide) rfl rfl rfl rfl (Nat.le_of_ble_eq_true rfl) (s201 hs3 hs4 hs5 hs6 ?_)
  refine g_ifeq 86 90 ck rfl rfl rfl hs7 (fun hc => ?_) (fun hc => ?_)
  · replace h := ite_ht h hc
    refine g_ic 91 ck rfl rfl ?_
    refine g_sub 92 ck rfl rfl ?_
    refine r_is 94 ck rfl rfl rfl rfl ?_
    replace h := h _ rfl
    refine r_ii 97 ck rfl rfl rfl rfl ?_
    refine g_goto 49 ck rfl rfl ?_
    exact hX49 _ _ _ _ hu2 hu6 h
  · replace h := ite_hf h hc
    refine g_ic 87 ck rfl rfl ?_
    refine g_goto 91 ck rfl rfl ?_
    refine g_sub 92 ck rfl rfl ?_
    refine r_is 94 ck rfl rfl rfl rfl ?_
    replace h := h _ rfl
    refine r_ii 97 ck rfl rfl rfl rfl ?_
    refine g_goto 49 ck rfl rfl ?_
    exact hX49 _ _ _ _ hu2 hu6 h
def w208_49 (B : va_E) (σ : l2_m) (x1 : Int) (x3 : Int) (x4 : Int) (x5 : Int)  (K : Int → l2_m → Prop) : Prop := lz2 (fun X49 x4 x5 => (rg x5 ∧ ((¬ (0 < x5) → 0 ≤ x4 ∧ x4 < 4096 ∧ 0 ≤ x1 ∧ x1 < 8 ∧ 0 ≤ (σ 190 x4) ∧ (σ 190 x4) < 4096 ∧ rg (σ 187 (4096 * x1 + (σ 190 x4)))) ∧ (if (0 < x5) ∨ ((σ 187 (4096 * x1 + (σ 190 x4))) = 0) then w208_69 B σ x1 x3 x4 x5 X49 K else (∀ x6 : Int, x6 = (σ 190 x4) → rg x3 ∧ (if x3 = 0 then ((0 ≤ x6 ∧ x6 < 4096) ∧ ∀ σ''' : l2_m, σ''' = trr σ 0 → K (σ 187 (4096 * x1 + x6)) σ''') else (if x3 = 4 then (rg x6 ∧ ∀ σ'' : l2_m, σ'' = trr σ 0 → K (((e4 x6 0) + (e4 x6 1)) + (e4 x6 2)) σ'') else ((rg x6 ∧ 0 ≤ (x3 - 1) ∧ (x3 - 1) < 3) ∧ ∀ σ' : l2_m, σ' = trr σ 0 → K (e4 x6 (x3 - 1)) σ')))))))) x4 x5
theorem o208_49 {B : va_E} {σ : l2_m} {x1 : Int} {x3 : Int} {x4 : Int} {x5 : Int} {u2 : Value} {u6 : Value}  {K : Int → l2_m → Prop}  (hu2 : (u2.category == 1) = true) (hu6 : (u6.category == 1) = true)  (h : w208_49 B σ x1 x3 x4 x5  K) : wW B 208 49 [vr 186, vi x1, u2, vi x3, vi x4, vi x5, u6] [] σ K := by
  have ck : pm_code 208 = pc_208 := rfl
  unfold w208_49 at h
  refine h (fun x4 x5 => ∀ u2 : Value, (u2.category == 1) = true → ∀ u6 : Value, (u6.category == 1) = true → wW B 208 49 [vr 186, vi x1, u2, vi x3, vi x4, vi x5, u6] [] σ K) ?_ u2 hu2 u6 hu6
  clear h
  intro x4 x5 h u2 hu2 u6 hu6
  replace h := (And.imp_right mg_1s) h
  obtain ⟨hs1, h⟩ := h
  refine g_il 51 ck rfl rfl rfl ?_
  refine g_ifgt 54 69 ck rfl rfl rfl hs1 (fun hc => ?_) (fun hc => ?_)
  · replace h := ite_ht h hc
    exact o208_69 hu2 hu6 (fun _ _ u2 u6 hu2 hu6 hx => hx u2 hu2 u6 hu6) h
  · replace h := ite_hf h hc
    obtain ⟨⟨hs2, hs3, hs4, hs5, hs6, hs7, hs8⟩, h⟩ := h
    refine g_al 55 ck rfl rfl rfl ?_
    refine g_il 56 ck rfl rfl rfl ?_
    refine g_al 57 ck rfl rfl rfl ?_
    refine r_gfr 60 190 ck rfl rfl rfl (by decide) ?_
    refine g_il 62 ck rfl rfl rfl ?_
    refine g_ial (m := 4096) 63 ck rfl rfl rfl hs2 hs3 ?_
    refine g_cvi (as := [_, _]) (rest := []) 66 ck rfl rfl rfl rfl rfl rfl (by decide) rfl rfl rfl rfl (Nat.le_of_ble_eq_true rfl) (s201 hs4 hs5 hs6 hs7 ?_)
    refine g_ifne 69 100 ck rfl rfl rfl hs8 (fun hc => ?_) (fun hc => ?_)
    · replace h := ite_hf h hc
      refine g_al 101 ck rfl rfl rfl ?_
      refine r_gfr 104 190 ck rfl rfl rfl (by decide) ?_
      refine g_il 106 ck rfl rfl rfl ?_
      refine g_ial (m := 4096) 107 ck rfl rfl rfl hs2 hs3 ?_
      refine r_is 109 ck rfl rfl rfl rfl ?_
      replace h := h _ rfl
      obtain ⟨hs9, h⟩ := h
      refine g_al 110 ck rfl rfl rfl ?_
      refine g_il 111 ck rfl rfl rfl ?_
      refine g_ifne 114 124 ck rfl rfl rfl hs9 (fun hc => ?_) (fun hc => ?_)
      · replace h := ite_hf h hc
        refine g_il 125 ck rfl rfl rfl ?_
        refine g_ic 126 ck rfl rfl ?_
        refine g_icne 129 137 ck rfl rfl rfl hs9 (by decide) (fun hc => ?_) (fun hc => ?_)
        · replace h := ite_hf h hc
          obtain ⟨⟨hs10, hs11, hs12⟩, h⟩ := h
          refine g_il 139 ck rfl rfl rfl ?_
          refine g_il 140 ck rfl rfl rfl ?_
          refine g_ic 141 ck rfl rfl ?_
          refine g_sub 142 ck rfl rfl ?_
          refine g_csi (as := [_, _]) (rest := [_]) 145 ck rfl rfl rfl rfl rfl (by decide) rfl rfl rfl (Nat.le_of_ble_eq_true rfl) (s171 hs10 hs11 hs12 ?_)
          refine g_cvi (as := [_]) (rest := []) 148 ck rfl rfl rfl rfl rfl rfl (by decide) rfl rfl rfl rfl (Nat.le_of_ble_eq_true rfl) (s169  ?_)
          replace h := h _ rfl
          exact g_ret ck rfl rfl (Or.inl (by decide)) h
        · replace h := ite_ht h (Classical.not_not.mp hc)
          obtain ⟨hs13, h⟩ := h
          refine g_il 131 ck rfl rfl rfl ?_
          refine g_csi (as := [_]) (rest := [_]) 134 ck rfl rfl rfl rfl rfl (by decide) rfl rfl rfl (Nat.le_of_ble_eq_true rfl) (s172 hs13 ?_)
          refine g_goto 145 ck rfl rfl ?_
          refine g_cvi (as := [_]) (rest := []) 148 ck rfl rfl rfl rfl rfl rfl (by decide) rfl rfl rfl rfl (Nat.le_of_ble_eq_true rfl) (s169  ?_)
          replace h := h _ rfl
          exact g_ret ck rfl rfl (Or.inl (by decide)) h
      · replace h := ite_ht h (Classical.not_not.mp hc)
        obtain ⟨⟨hs14, hs15⟩, h⟩ := h
        refine g_al 115 ck rfl rfl rfl ?_
        refine g_il 116 ck rfl rfl rfl ?_
        refine g_il 118 ck rfl rfl rfl ?_
        refine g_cvi (as := [_, _]) (rest := [_]) 121 ck rfl rfl rfl rfl rfl rfl (by decide) rfl rfl rfl rfl (Nat.le_of_ble_eq_true rfl) (s201 hs4 hs5 hs14 hs15 ?_)
        refine g_goto 145 ck rfl rfl ?_
        refine g_cvi (as := [_]) (rest := []) 148 ck rfl rfl rfl rfl rfl rfl (by decide) rfl rfl rfl rfl (Nat.le_of_ble_eq_true rfl) (s169  ?_)
        replace h := h _ rfl
        exact g_ret ck rfl rfl (Or.inl (by decide)) h
    · replace h := ite_ht h (Classical.not_not.mp hc)
      exact o208_69 hu2 hu6 (fun _ _ u2 u6 hu2 hu6 hx => hx u2 hu2 u6 hu6) h
def w208 (B : va_E) (σ : l2_m) (x1 : Int) (x2 : Int) (x3 : Int) (K : Int → l2_m → Prop) : Prop := (∀ σ' : l2_m, σ' = l2_u σ 186 0 0 → (rg x1 ∧ ((σ' 186 14) = 0 ∨ (σ' 186 14) = 1)) ∧ (if (σ' 186 14) = 1 ∧ 0 ≤ x1 ∧ x1 < 8 then ((0 ≤ x1 ∧ x1 < 8 ∧ (∀ j : Int, 0 ≤ j → j < 4096 → rg (σ' 187 (4096 * x1 + j))) ∧ rg x2 ∧ rg ((cnt (fun k => σ' 187 (4096 * x1 + k)) 4096) - 1)) ∧ (if 0 ≤ x2 ∧ x2 ≤ ((cnt (fun k => σ' 187 (4096 * x1 + k)) 4096) - 1) then (rg x3 ∧ (if 0 ≤ x3 ∧ x3 ≤ 4 then w208_49 B σ' x1 x3 0 x2 K else (∀ σ'''' : l2_m, σ'''' = trr σ' 1 → K (-1) σ''''))) else (∀ σ''' : l2_m, σ''' = trr σ' 1 → K (-1) σ'''))) else (∀ σ'' : l2_m, σ'' = trr σ' 1 → K (-1) σ'')))
theorem o208 {B : va_E} {σ : l2_m} {x1 : Int} {x2 : Int} {x3 : Int} {K : Int → l2_m → Prop}   (h : w208 B σ x1 x2 x3  K) : wC B 208 [vr 186, vi x1, vi x2, vi x3] σ K := by
  have ck : pm_code 208 = pc_208 := rfl
  unfold w208 at h
  show wW B 208 0 [vr 186, vi x1, vi x2, vi x3, pm_un, pm_un, pm_un] [] σ K
  refine g_al 1 ck rfl rfl rfl ?_
  refine g_ic 2 ck rfl rfl ?_
  refine g_pfi 5 ck rfl rfl rfl 0 rfl rfl ?_
  replace h := h _ rfl
  obtain ⟨⟨hs1, hs2⟩, h⟩ := h
  refine g_al 6 ck rfl rfl rfl ?_
  refine g_il 7 ck rfl rfl rfl ?_
  refine g_cvi (as := [_]) (rest := []) 10 ck rfl rfl rfl rfl rfl rfl (by decide) rfl rfl rfl rfl (Nat.le_of_ble_eq_true rfl) (s197 hs1 hs2 ?_)
  refine g_ifeq 13 37 ck rfl rfl rfl rg_b2i (fun hc => ?_) (fun hc => ?_)
  · replace h := ite_hf h (b2i_f hc)
    refine g_al 38 ck rfl rfl rfl ?_
    refine g_ic 39 ck rfl rfl ?_
    refine g_cvi (as := [_]) (rest := []) 42 ck rfl rfl rfl rfl rfl rfl (by decide) rfl rfl rfl rfl (Nat.le_of_ble_eq_true rfl) (s168  ?_)
    replace h := h _ rfl
    exact g_ret ck rfl rfl (Or.inl (by decide)) h
  · replace h := ite_ht h (b2i_t hc)
    obtain ⟨⟨hs3, hs4, hs5, hs6, hs7⟩, h⟩ := h
    refine g_il 14 ck rfl rfl rfl ?_
    refine g_ic 15 ck rfl rfl ?_
    refine g_al 16 ck rfl rfl rfl ?_
    refine g_il 17 ck rfl rfl rfl ?_
    refine g_cvi (as := [_]) (rest := [_, _]) 20 ck rfl rfl rfl rfl rfl rfl (by decide) rfl rfl rfl rfl (Nat.le_of_ble_eq_true rfl) (s202 hs3 hs4 hs5 ?_)
    refine g_ic 21 ck rfl rfl ?_
    refine g_sub 22 ck rfl rfl ?_
    refine g_csi (as := [_, _, _]) (rest := []) 25 ck rfl rfl rfl rfl rfl (by decide) rfl rfl rfl (Nat.le_of_ble_eq_true rfl) (s170 hs6 (by decide) hs7 ?_)
    refine g_ifeq 28 37 ck rfl rfl rfl rg_b2i (fun hc => ?_) (fun hc => ?_)
    · replace h := ite_hf h (b2i_f hc)
      refine g_al 38 ck rfl rfl rfl ?_
      refine g_ic 39 ck rfl rfl ?_
      refine g_cvi (as := [_]) (rest := []) 42 ck rfl rfl rfl rfl rfl rfl (by decide) rfl rfl rfl rfl (Nat.le_of_ble_eq_true rfl) (s168  ?_)
      replace h := h _ rfl
      exact g_ret ck rfl rfl (Or.inl (by decide)) h
    · replace h := ite_ht h (b2i_t hc)
      obtain ⟨hs8, h⟩ := h
      refine g_il 29 ck rfl rfl rfl ?_
      refine g_ic 30 ck rfl rfl ?_
      refine g_ic 31 ck rfl rfl ?_
      refine g_csi (as := [_, _, _]) (rest := []) 34 ck rfl rfl rfl rfl rfl (by decide) rfl rfl rfl (Nat.le_of_ble_eq_true rfl) (s170 hs8 (by decide) (by decide) ?_)
      refine g_ifne 37 43 ck rfl rfl rfl rg_b2i (fun hc => ?_) (fun hc => ?_)
      · replace h := ite_ht h (b2i_t hc)
        refine g_ic 44 ck rfl rfl ?_
        refine r_is 46 ck rfl rfl rfl rfl ?_
        refine g_il 47 ck rfl rfl rfl ?_
        refine r_is 49 ck rfl rfl rfl rfl ?_
        exact o208_49 rfl rfl h
      · replace h := ite_hf h (b2i_f (Classical.not_not.mp hc))
        refine g_al 38 ck rfl rfl rfl ?_
        refine g_ic 39 ck rfl rfl ?_
        refine g_cvi (as := [_]) (rest := []) 42 ck rfl rfl rfl rfl rfl rfl (by decide) rfl rfl rfl rfl (Nat.le_of_ble_eq_true rfl) (s168  ?_)
        replace h := h _ rfl
        exact g_ret ck rfl rfl (Or.inl (by decide)) h
/-! 209 TermDeskModel.degree(I)I -/
def w209_24 (B : va_E) (σ : l2_m) (x1 : Int) (x2 : Int) (x3 : Int)  (K : Int → l2_m → Prop) : Prop := lz2 (fun X24 x2 x3 => (rg x3 ∧ (if x3 < 4096 then ((0 ≤ x1 ∧ x1 < 8 ∧ 0 ≤ x3 ∧ x3 < 4096 ∧ rg (σ 187 (4096 * x1 + x3))) ∧ ((¬ ((σ 187 (4096 * x1 + x3)) = 0) → rg x2) ∧ (if ((σ 187 (4096 * x1 + x3)) = 0) ∨ ¬ x2 < (((e4 x3 0) + (e4 x3 1)) + (e4 x3 2)) then X24 x2 (x3 + 1) else (∀ x2' : Int, x2' = (((e4 x3 0) + (e4 x3 1)) + (e4 x3 2)) → X24 x2' (x3 + 1))))) else (∀ σ' : l2_m, σ' = trr σ 0 → K x2 σ')))) x2 x3
theorem o209_24 {B : va_E} {σ : l2_m} {x1 : Int} {x2 : Int} {x3 : Int}   {K : Int → l2_m → Prop}    (h : w209_24 B σ x1 x2 x3  K) : wW B 209 24 [vr 186, vi x1, vi x2, vi x3] [] σ K := by
  have ck : pm_code 209 = pc_209 := rfl
  unfold w209_24 at h
  refine h (fun x2 x3 => wW B 209 24 [vr 186, vi x1, vi x2, vi x3] [] σ K) ?_
  clear h
  intro x2 x3 h
  replace h := (And.imp_right (ite_mp (And.imp_right mg_2s) id)) h
  obtain ⟨hs1, h⟩ := h
  refine g_il 25 ck rfl rfl rfl ?_
  refine g_ic 28 ck rfl rfl ?_
  refine g_icge 31 59 ck rfl rfl rfl hs1 (by decide) (fun hc => ?_) (fun hc => ?_)
  · replace h := ite_hf h (Int.not_lt.mpr hc)
    refine g_al 60 ck rfl rfl rfl ?_
    refine g_il 61 ck rfl rfl rfl ?_
    refine g_cvi (as := [_]) (rest := []) 64 ck rfl rfl rfl rfl rfl rfl (by decide) rfl rfl rfl rfl (Nat.le_of_ble_eq_true rfl) (s169  ?_)
    replace h := h _ rfl
    exact g_ret ck rfl rfl (Or.inl (by decide)) h
  · replace h := ite_ht h (Int.not_le.mp hc)
    obtain ⟨⟨hs2, hs3, hs4, hs5, hs6⟩, h⟩ := h
    refine g_al 32 ck rfl rfl rfl ?_
    refine g_il 33 ck rfl rfl rfl ?_
    refine g_il 34 ck rfl rfl rfl ?_
    refine g_cvi (as := [_, _]) (rest := []) 37 ck rfl rfl rfl rfl rfl rfl (by decide) rfl rfl rfl rfl (Nat.le_of_ble_eq_true rfl) (s201 hs2 hs3 hs4 hs5 ?_)
    refine g_ifeq 40 53 ck rfl rfl rfl hs6 (fun hc => ?_) (fun hc => ?_)
    · replace h := ite_ht h hc
      refine r_ii 56 ck rfl rfl rfl rfl ?_
      refine g_goto 24 ck rfl rfl ?_
      exact h
    · replace h := ite_hf h hc
      obtain ⟨hs7, h⟩ := h
      refine g_il 41 ck rfl rfl rfl ?_
      refine g_csi (as := [_]) (rest := []) 44 ck rfl rfl rfl rfl rfl (by decide) rfl rfl rfl (Nat.le_of_ble_eq_true rfl) (s172 hs1 ?_)
      refine g_il 45 ck rfl rfl rfl ?_
      refine g_icle 48 53 ck rfl rfl rfl (rg_tot4 _) hs7 (fun hc => ?_) (fun hc => ?_)
      · replace h := ite_hf h (Int.not_lt.mpr hc)
        refine r_ii 56 ck rfl rfl rfl rfl ?_
        refine g_goto 24 ck rfl rfl ?_
        exact h
      · replace h := ite_ht h (Int.not_le.mp hc)
        refine g_il 49 ck rfl rfl rfl ?_
        refine g_csi (as := [_]) (rest := []) 52 ck rfl rfl rfl rfl rfl (by decide) rfl rfl rfl (Nat.le_of_ble_eq_true rfl) (s172 hs1 ?_)
        refine r_is 53 ck rfl rfl rfl rfl ?_
        replace h := h _ rfl
        refine r_ii 56 ck rfl rfl rfl rfl ?_
        refine g_goto 24 ck rfl rfl ?_
        exact h
def w209 (B : va_E) (σ : l2_m) (x1 : Int) (K : Int → l2_m → Prop) : Prop := (∀ σ' : l2_m, σ' = l2_u σ 186 0 0 → (rg x1 ∧ ((σ' 186 14) = 0 ∨ (σ' 186 14) = 1)) ∧ (if (σ' 186 14) = 1 ∧ 0 ≤ x1 ∧ x1 < 8 then w209_24 B σ' x1 (-2) 0 K else (∀ σ'' : l2_m, σ'' = trr σ' 1 → K (-1) σ'')))
theorem o209 {B : va_E} {σ : l2_m} {x1 : Int} {K : Int → l2_m → Prop}   (h : w209 B σ x1  K) : wC B 209 [vr 186, vi x1] σ K := by
  have ck : pm_code 209 = pc_209 := rfl
  unfold w209 at h
  show wW B 209 0 [vr 186, vi x1, pm_un, pm_un] [] σ K
  refine g_al 1 ck rfl rfl rfl ?_
  refine g_ic 2 ck rfl rfl ?_
  refine g_pfi 5 ck rfl rfl rfl 0 rfl rfl ?_
  replace h := h _ rfl
  obtain ⟨⟨hs1, hs2⟩, h⟩ := h
  refine g_al 6 ck rfl rfl rfl ?_
  refine g_il 7 ck rfl rfl rfl ?_
  refine g_cvi (as := [_]) (rest := []) 10 ck rfl rfl rfl rfl rfl rfl (by decide) rfl rfl rfl rfl (Nat.le_of_ble_eq_true rfl) (s197 hs1 hs2 ?_)
  refine g_ifne 13 19 ck rfl rfl rfl rg_b2i (fun hc => ?_) (fun hc => ?_)
  · replace h := ite_ht h (b2i_t hc)
    refine g_ic 21 ck rfl rfl ?_
    refine r_is 22 ck rfl rfl rfl rfl ?_
    refine g_ic 23 ck rfl rfl ?_
    refine r_is 24 ck rfl rfl rfl rfl ?_
    exact o209_24  h
  · replace h := ite_hf h (b2i_f (Classical.not_not.mp hc))
    refine g_al 14 ck rfl rfl rfl ?_
    refine g_ic 15 ck rfl rfl ?_
    refine g_cvi (as := [_]) (rest := []) 18 ck rfl rfl rfl rfl rfl rfl (by decide) rfl rfl rfl rfl (Nat.le_of_ble_eq_true rfl) (s168  ?_)
    replace h := h _ rfl
    exact g_ret ck rfl rfl (Or.inl (by decide)) h
/-! 211 TermDeskModel.degreeIn(II)I -/
def w211 (B : va_E) (σ : l2_m) (x1 : Int) (x2 : Int) (K : Int → l2_m → Prop) : Prop := (∀ σ' : l2_m, σ' = l2_u σ 186 0 0 → (rg x1 ∧ ((σ' 186 14) = 0 ∨ (σ' 186 14) = 1)) ∧ (if (σ' 186 14) = 1 ∧ 0 ≤ x1 ∧ x1 < 8 then (rg x2 ∧ (if 0 ≤ x2 ∧ x2 < 3 then (wC B 210 [vr 186, vi x1, vi x2] σ' (fun y σ'''' => (∀ σ''''' : l2_m, σ''''' = trr σ'''' 0 → K y σ'''''))) else (∀ σ''' : l2_m, σ''' = trr σ' 1 → K (-1) σ'''))) else (∀ σ'' : l2_m, σ'' = trr σ' 1 → K (-1) σ'')))
theorem o211 {B : va_E} {σ : l2_m} {x1 : Int} {x2 : Int} {K : Int → l2_m → Prop}   (h : w211 B σ x1 x2  K) : wC B 211 [vr 186, vi x1, vi x2] σ K := by
  have ck : pm_code 211 = pc_211 := rfl
  unfold w211 at h
  show wW B 211 0 [vr 186, vi x1, vi x2] [] σ K
  refine g_al 1 ck rfl rfl rfl ?_
  refine g_ic 2 ck rfl rfl ?_
  refine g_pfi 5 ck rfl rfl rfl 0 rfl rfl ?_
  replace h := h _ rfl
  obtain ⟨⟨hs1, hs2⟩, h⟩ := h
  refine g_al 6 ck rfl rfl rfl ?_
  refine g_il 7 ck rfl rfl rfl ?_
  refine g_cvi (as := [_]) (rest := []) 10 ck rfl rfl rfl rfl rfl rfl (by decide) rfl rfl rfl rfl (Nat.le_of_ble_eq_true rfl) (s197 hs1 hs2 ?_)
  refine g_ifeq 13 33 ck rfl rfl rfl rg_b2i (fun hc => ?_) (fun hc => ?_)
  · replace h := ite_hf h (b2i_f hc)
    refine g_al 34 ck rfl rfl rfl ?_
    refine g_ic 35 ck rfl rfl ?_
    refine g_cvi (as := [_]) (rest := []) 38 ck rfl rfl rfl rfl rfl rfl (by decide) rfl rfl rfl rfl (Nat.le_of_ble_eq_true rfl) (s168  ?_)
    replace h := h _ rfl
    exact g_ret ck rfl rfl (Or.inl (by decide)) h
  · replace h := ite_ht h (b2i_t hc)
    obtain ⟨hs3, h⟩ := h
    refine g_il 14 ck rfl rfl rfl ?_
    refine g_csi (as := [_]) (rest := []) 17 ck rfl rfl rfl rfl rfl (by decide) rfl rfl rfl (Nat.le_of_ble_eq_true rfl) (s198 hs3 ?_)
    refine g_ifeq 20 33 ck rfl rfl rfl rg_b2i (fun hc => ?_) (fun hc => ?_)
    · replace h := ite_hf h (b2i_f hc)
      refine g_al 34 ck rfl rfl rfl ?_
      refine g_ic 35 ck rfl rfl ?_
      refine g_cvi (as := [_]) (rest := []) 38 ck rfl rfl rfl rfl rfl rfl (by decide) rfl rfl rfl rfl (Nat.le_of_ble_eq_true rfl) (s168  ?_)
      replace h := h _ rfl
      exact g_ret ck rfl rfl (Or.inl (by decide)) h
    · replace h := ite_ht h (b2i_t hc)
      refine g_al 21 ck rfl rfl rfl ?_
      refine g_al 22 ck rfl rfl rfl ?_
      refine g_il 23 ck rfl rfl rfl ?_
      refine g_il 24 ck rfl rfl rfl ?_
      refine g_cvi (as := [_, _]) (rest := [_]) 27 ck rfl rfl rfl rfl rfl rfl (by decide) rfl rfl rfl rfl (Nat.le_of_ble_eq_true rfl) (wC.mono h (fun y σ'''' h => ?_))
      refine g_cvi (as := [_]) (rest := []) 30 ck rfl rfl rfl rfl rfl rfl (by decide) rfl rfl rfl rfl (Nat.le_of_ble_eq_true rfl) (s169  ?_)
      replace h := h _ rfl
      refine g_goto 38 ck rfl rfl ?_
      exact g_ret ck rfl rfl (Or.inl (by decide)) h
/-! 212 TermDeskModel.coefficient(IIII)I -/
def w212 (B : va_E) (σ : l2_m) (x1 : Int) (x2 : Int) (x3 : Int) (x4 : Int) (K : Int → l2_m → Prop) : Prop := (∀ σ' : l2_m, σ' = l2_u σ 186 0 0 → (rg x1 ∧ ((σ' 186 14) = 0 ∨ (σ' 186 14) = 1)) ∧ (if (σ' 186 14) = 1 ∧ 0 ≤ x1 ∧ x1 < 8 then (rg x2 ∧ (if 0 ≤ x2 ∧ x2 < 16 then (rg x3 ∧ (if 0 ≤ x3 ∧ x3 < 16 then (rg x4 ∧ (if 0 ≤ x4 ∧ x4 < 16 then ((0 ≤ x2 ∧ x2 < 16 ∧ 0 ≤ x3 ∧ x3 < 16 ∧ 0 ≤ x4 ∧ x4 < 16 ∧ 0 ≤ x1 ∧ x1 < 8 ∧ 0 ≤ (x2 + 16 * x3 + 256 * x4) ∧ (x2 + 16 * x3 + 256 * x4) < 4096) ∧ ∀ σ''''' : l2_m, σ''''' = trr σ' 0 → K (σ' 187 (4096 * x1 + (x2 + 16 * x3 + 256 * x4))) σ''''') else (∀ σ'''' : l2_m, σ'''' = trr σ' 2 → K (-1) σ''''))) else (∀ σ''' : l2_m, σ''' = trr σ' 2 → K (-1) σ'''))) else (∀ σ'' : l2_m, σ'' = trr σ' 2 → K (-1) σ''))) else (∀ σ'''''' : l2_m, σ'''''' = trr σ' 1 → K (-1) σ'''''')))
theorem o212 {B : va_E} {σ : l2_m} {x1 : Int} {x2 : Int} {x3 : Int} {x4 : Int} {K : Int → l2_m → Prop}   (h : w212 B σ x1 x2 x3 x4  K) : wC B 212 [vr 186, vi x1, vi x2, vi x3, vi x4] σ K := by
  have ck : pm_code 212 = pc_212 := rfl
  unfold w212 at h
  show wW B 212 0 [vr 186, vi x1, vi x2, vi x3, vi x4] [] σ K
  refine g_al 1 ck rfl rfl rfl ?_
  refine g_ic 2 ck rfl rfl ?_
  refine g_pfi 5 ck rfl rfl rfl 0 rfl rfl ?_
  replace h := h _ rfl
  obtain ⟨⟨hs1, hs2⟩, h⟩ := h
  refine g_al 6 ck rfl rfl rfl ?_
  refine g_il 7 ck rfl rfl rfl ?_
  refine g_cvi (as := [_]) (rest := []) 10 ck rfl rfl rfl rfl rfl rfl (by decide) rfl rfl rfl rfl (Nat.le_of_ble_eq_true rfl) (s197 hs1 hs2 ?_)
  refine g_ifne 13 19 ck rfl rfl rfl rg_b2i (fun hc => ?_) (fun hc => ?_)
  · replace h := ite_ht h (b2i_t hc)
    obtain ⟨hs3, h⟩ := h
    refine g_il 20 ck rfl rfl rfl ?_
    refine g_csi (as := [_]) (rest := []) 23 ck rfl rfl rfl rfl rfl (by decide) rfl rfl rfl (Nat.le_of_ble_eq_true rfl) (s200 hs3 ?_)
    refine g_ifeq 26 60 ck rfl rfl rfl rg_b2i (fun hc => ?_) (fun hc => ?_)
    · replace h := ite_hf h (b2i_f hc)
      refine g_al 61 ck rfl rfl rfl ?_
      refine g_ic 62 ck rfl rfl ?_
      refine g_cvi (as := [_]) (rest := []) 65 ck rfl rfl rfl rfl rfl rfl (by decide) rfl rfl rfl rfl (Nat.le_of_ble_eq_true rfl) (s168  ?_)
      replace h := h _ rfl
      exact g_ret ck rfl rfl (Or.inl (by decide)) h
    · replace h := ite_ht h (b2i_t hc)
      obtain ⟨hs4, h⟩ := h
      refine g_il 27 ck rfl rfl rfl ?_
      refine g_csi (as := [_]) (rest := []) 30 ck rfl rfl rfl rfl rfl (by decide) rfl rfl rfl (Nat.le_of_ble_eq_true rfl) (s200 hs4 ?_)
      refine g_ifeq 33 60 ck rfl rfl rfl rg_b2i (fun hc => ?_) (fun hc => ?_)
      · replace h := ite_hf h (b2i_f hc)
        refine g_al 61 ck rfl rfl rfl ?_
        refine g_ic 62 ck rfl rfl ?_
        refine g_cvi (as := [_]) (rest := []) 65 ck rfl rfl rfl rfl rfl rfl (by decide) rfl rfl rfl rfl (Nat.le_of_ble_eq_true rfl) (s168  ?_)
        replace h := h _ rfl
        exact g_ret ck rfl rfl (Or.inl (by decide)) h
      · replace h := ite_ht h (b2i_t hc)
        obtain ⟨hs5, h⟩ := h
        refine g_il 35 ck rfl rfl rfl ?_
        refine g_csi (as := [_]) (rest := []) 38 ck rfl rfl rfl rfl rfl (by decide) rfl rfl rfl (Nat.le_of_ble_eq_true rfl) (s200 hs5 ?_)
        refine g_ifeq 41 60 ck rfl rfl rfl rg_b2i (fun hc => ?_) (fun hc => ?_)
        · replace h := ite_hf h (b2i_f hc)
          refine g_al 61 ck rfl rfl rfl ?_
          refine g_ic 62 ck rfl rfl ?_
          refine g_cvi (as := [_]) (rest := []) 65 ck rfl rfl rfl rfl rfl rfl (by decide) rfl rfl rfl rfl (Nat.le_of_ble_eq_true rfl) (s168  ?_)
          replace h := h _ rfl
          exact g_ret ck rfl rfl (Or.inl (by decide)) h
        · replace h := ite_ht h (b2i_t hc)
          obtain ⟨⟨hs6, hs7, hs8, hs9, hs10, hs11, hs12, hs13, hs14, hs15⟩, h⟩ := h
          refine g_al 42 ck rfl rfl rfl ?_
          refine g_al 43 ck rfl rfl rfl ?_
          refine g_il 44 ck rfl rfl rfl ?_
          refine g_il 45 ck rfl rfl rfl ?_
          refine g_il 46 ck rfl rfl rfl ?_
          refine g_il 48 ck rfl rfl rfl ?_
          refine g_csi (as := [_, _, _]) (rest := [_, _, _]) 51 ck rfl rfl rfl rfl rfl (by decide) rfl rfl rfl (Nat.le_of_ble_eq_true rfl) (s173 hs6 hs7 hs8 hs9 hs10 hs11 ?_)
          refine g_cvi (as := [_, _]) (rest := [_]) 54 ck rfl rfl rfl rfl rfl rfl (by decide) rfl rfl rfl rfl (Nat.le_of_ble_eq_true rfl) (s201 hs12 hs13 hs14 hs15 ?_)
          refine g_cvi (as := [_]) (rest := []) 57 ck rfl rfl rfl rfl rfl rfl (by decide) rfl rfl rfl rfl (Nat.le_of_ble_eq_true rfl) (s169  ?_)
          replace h := h _ rfl
          refine g_goto 65 ck rfl rfl ?_
          exact g_ret ck rfl rfl (Or.inl (by decide)) h
  · replace h := ite_hf h (b2i_f (Classical.not_not.mp hc))
    refine g_al 14 ck rfl rfl rfl ?_
    refine g_ic 15 ck rfl rfl ?_
    refine g_cvi (as := [_]) (rest := []) 18 ck rfl rfl rfl rfl rfl rfl (by decide) rfl rfl rfl rfl (Nat.le_of_ble_eq_true rfl) (s168  ?_)
    replace h := h _ rfl
    exact g_ret ck rfl rfl (Or.inl (by decide)) h
/-! 214 TermDeskModel.laysKeys(I)V -/
def w214_7 (B : va_E) (σ : l2_m) (x1 : Int) (x2 : Int)  (K : Int → l2_m → Prop) : Prop := lz2 (fun X7 x2 σ => (rg x2 ∧ (if x2 < 4096 then ((0 ≤ x1 ∧ x1 < 8 ∧ 0 ≤ x2 ∧ x2 < 4096 ∧ rg (σ 187 (4096 * x1 + x2))) ∧ (if (σ 187 (4096 * x1 + x2)) = 0 then X7 (x2 + 1) σ else ((0 ≤ (σ 186 27) ∧ (σ 186 27) < 61) ∧ ∀ σ' : l2_m, σ' = l2_u σ 191 (σ 186 27) x2 → ∀ σ'' : l2_m, σ'' = l2_u σ' 186 27 ((σ' 186 27) + 1) → X7 (x2 + 1) σ''))) else K 0 σ))) x2 σ
theorem o214_7 {B : va_E} {σ : l2_m} {x1 : Int} {x2 : Int}   {K : Int → l2_m → Prop}    (h : w214_7 B σ x1 x2  K) : wW B 214 7 [vr 186, vi x1, vi x2] [] σ K := by
  have ck : pm_code 214 = pc_214 := rfl
  unfold w214_7 at h
  refine h (fun x2 σ => wW B 214 7 [vr 186, vi x1, vi x2] [] σ K) ?_
  clear h
  intro x2 σ h
  obtain ⟨hs1, h⟩ := h
  refine g_il 8 ck rfl rfl rfl ?_
  refine g_ic 11 ck rfl rfl ?_
  refine g_icge 14 52 ck rfl rfl rfl hs1 (by decide) (fun hc => ?_) (fun hc => ?_)
  · replace h := ite_hf h (Int.not_lt.mpr hc)
    exact g_retv ck rfl rfl h
  · replace h := ite_ht h (Int.not_le.mp hc)
    obtain ⟨⟨hs2, hs3, hs4, hs5, hs6⟩, h⟩ := h
    refine g_al 15 ck rfl rfl rfl ?_
    refine g_il 16 ck rfl rfl rfl ?_
    refine g_il 17 ck rfl rfl rfl ?_
    refine g_cvi (as := [_, _]) (rest := []) 20 ck rfl rfl rfl rfl rfl rfl (by decide) rfl rfl rfl rfl (Nat.le_of_ble_eq_true rfl) (s201 hs2 hs3 hs4 hs5 ?_)
    refine g_ifne 23 26 ck rfl rfl rfl hs6 (fun hc => ?_) (fun hc => ?_)
    · replace h := ite_hf h hc
      obtain ⟨⟨hs7, hs8⟩, h⟩ := h
      refine g_al 27 ck rfl rfl rfl ?_
      refine r_gfr 30 191 ck rfl rfl rfl (by decide) ?_
      refine g_al 31 ck rfl rfl rfl ?_
      refine r_gfi 34 27 ck rfl rfl rfl rfl ?_
      refine g_il 35 ck rfl rfl rfl ?_
      refine g_ias (m := 61) 36 ck rfl rfl rfl hs7 hs8 ?_
      replace h := h _ rfl
      refine g_al 37 ck rfl rfl rfl ?_
      refine g_dup 38 ck rfl rfl rfl ?_
      refine r_gfi 41 27 ck rfl rfl rfl rfl ?_
      refine g_ic 42 ck rfl rfl ?_
      refine g_add 43 ck rfl rfl ?_
      refine g_pfi 46 ck rfl rfl rfl 27 rfl rfl ?_
      replace h := h _ rfl
      refine r_ii 49 ck rfl rfl rfl rfl ?_
      refine g_goto 7 ck rfl rfl ?_
      exact h
    · replace h := ite_ht h (Classical.not_not.mp hc)
      refine g_goto 46 ck rfl rfl ?_
      refine r_ii 49 ck rfl rfl rfl rfl ?_
      refine g_goto 7 ck rfl rfl ?_
      exact h
def w214 (B : va_E) (σ : l2_m) (x1 : Int) (K : Int → l2_m → Prop) : Prop := (∀ σ' : l2_m, σ' = l2_u σ 186 27 0 → w214_7 B σ' x1 0 K)
theorem o214 {B : va_E} {σ : l2_m} {x1 : Int} {K : Int → l2_m → Prop}   (h : w214 B σ x1  K) : wC B 214 [vr 186, vi x1] σ K := by
  have ck : pm_code 214 = pc_214 := rfl
  unfold w214 at h
  show wW B 214 0 [vr 186, vi x1, pm_un] [] σ K
  refine g_al 1 ck rfl rfl rfl ?_
  refine g_ic 2 ck rfl rfl ?_
  refine g_pfi 5 ck rfl rfl rfl 27 rfl rfl ?_
  replace h := h _ rfl
  refine g_ic 6 ck rfl rfl ?_
  refine r_is 7 ck rfl rfl rfl rfl ?_
  exact o214_7  h
/-! 215 TermDeskModel.valueOf(IIII)I -/
def w215_6 (B : va_E) (σ : l2_m) (x1 : Int) (x2 : Int) (x3 : Int) (x4 : Int) (x5 : Int) (x6 : Int)  (K : Int → l2_m → Prop) : Prop := lz2 (fun X6 x5 x6 => ((rg x6 ∧ rg (σ 186 27)) ∧ (if x6 < (σ 186 27) then ((0 ≤ x6 ∧ x6 < 61) ∧ ∀ x7 : Int, x7 = (σ 191 x6) → (0 ≤ x1 ∧ x1 < 8 ∧ 0 ≤ x7 ∧ x7 < 4096 ∧ rg x7 ∧ 2 ≤ (σ 186 5) ∧ (σ 186 5) ≤ 97 ∧ 0 ≤ x2 ∧ x2 < (σ 186 5) ∧ 0 ≤ (e4 x7 0) ∧ (e4 x7 0) ≤ 100 ∧ rg ((σ 187 (4096 * x1 + x7)) * (pw (σ 186 5) x2 (e4 x7 0))) ∧ rg (σ 186 5) ∧ 0 < (σ 186 5) ∧ 0 ≤ ((σ 187 (4096 * x1 + x7)) * (pw (σ 186 5) x2 (e4 x7 0))) ∧ 0 ≤ x3 ∧ x3 < (σ 186 5) ∧ 0 ≤ (e4 x7 1) ∧ (e4 x7 1) ≤ 100 ∧ rg ((((σ 187 (4096 * x1 + x7)) * (pw (σ 186 5) x2 (e4 x7 0))) % (σ 186 5)) * (pw (σ 186 5) x3 (e4 x7 1))) ∧ 0 ≤ ((((σ 187 (4096 * x1 + x7)) * (pw (σ 186 5) x2 (e4 x7 0))) % (σ 186 5)) * (pw (σ 186 5) x3 (e4 x7 1))) ∧ 0 ≤ x4 ∧ x4 < (σ 186 5) ∧ 0 ≤ (e4 x7 2) ∧ (e4 x7 2) ≤ 100 ∧ rg ((((((σ 187 (4096 * x1 + x7)) * (pw (σ 186 5) x2 (e4 x7 0))) % (σ 186 5)) * (pw (σ 186 5) x3 (e4 x7 1))) % (σ 186 5)) * (pw (σ 186 5) x4 (e4 x7 2))) ∧ 0 ≤ ((((((σ 187 (4096 * x1 + x7)) * (pw (σ 186 5) x2 (e4 x7 0))) % (σ 186 5)) * (pw (σ 186 5) x3 (e4 x7 1))) % (σ 186 5)) * (pw (σ 186 5) x4 (e4 x7 2)))) ∧ ∀ x8 : Int, x8 = (((((((σ 187 (4096 * x1 + x7)) * (pw (σ 186 5) x2 (e4 x7 0))) % (σ 186 5)) * (pw (σ 186 5) x3 (e4 x7 1))) % (σ 186 5)) * (pw (σ 186 5) x4 (e4 x7 2))) % (σ 186 5)) → (rg (x5 + x8) ∧ 0 ≤ (x5 + x8)) ∧ ∀ x5' : Int, x5' = ((x5 + x8) % (σ 186 5)) → X6 x5' (x6 + 1)) else K x5 σ))) x5 x6
theorem o215_6 {B : va_E} {σ : l2_m} {x1 : Int} {x2 : Int} {x3 : Int} {x4 : Int} {x5 : Int} {x6 : Int} {u7 : Value} {u8 : Value}  {K : Int → l2_m → Prop}  (hu7 : (u7.category == 1) = true) (hu8 : (u8.category == 1) = true)  (h : w215_6 B σ x1 x2 x3 x4 x5 x6  K) : wW B 215 6 [vr 186, vi x1, vi x2, vi x3, vi x4, vi x5, vi x6, u7, u8] [] σ K := by
  have ck : pm_code 215 = pc_215 := rfl
  unfold w215_6 at h
  refine h (fun x5 x6 => ∀ u7 : Value, (u7.category == 1) = true → ∀ u8 : Value, (u8.category == 1) = true → wW B 215 6 [vr 186, vi x1, vi x2, vi x3, vi x4, vi x5, vi x6, u7, u8] [] σ K) ?_ u7 hu7 u8 hu8
  clear h
  intro x5 x6 h u7 hu7 u8 hu8
  obtain ⟨⟨hs1, hs2⟩, h⟩ := h
  refine g_il 8 ck rfl rfl rfl ?_
  refine g_al 9 ck rfl rfl rfl ?_
  refine r_gfi 12 27 ck rfl rfl rfl rfl ?_
  refine g_icge 15 103 ck rfl rfl rfl hs1 hs2 (fun hc => ?_) (fun hc => ?_)
  · replace h := ite_hf h (Int.not_lt.mpr hc)
    refine g_il 105 ck rfl rfl rfl ?_
    exact g_ret ck rfl rfl (Or.inl (by decide)) h
  · replace h := ite_ht h (Int.not_le.mp hc)
    obtain ⟨⟨hs3, hs4⟩, h⟩ := h
    refine g_al 16 ck rfl rfl rfl ?_
    refine r_gfr 19 191 ck rfl rfl rfl (by decide) ?_
    refine g_il 21 ck rfl rfl rfl ?_
    refine g_ial (m := 61) 22 ck rfl rfl rfl hs3 hs4 ?_
    refine r_is 24 ck rfl rfl rfl rfl ?_
    replace h := h _ rfl
    obtain ⟨⟨hs5, hs6, hs7, hs8, hs9, hs10, hs11, hs12, hs13, hs14, hs15, hs16, hs17, hs18, hs19, hs20, hs21, hs22, hs23, hs24, hs25, hs26, hs27, hs28, hs29, hs30, hs31⟩, h⟩ := h
    refine g_al 25 ck rfl rfl rfl ?_
    refine g_il 26 ck rfl rfl rfl ?_
    refine g_il 28 ck rfl rfl rfl ?_
    refine g_cvi (as := [_, _]) (rest := []) 31 ck rfl rfl rfl rfl rfl rfl (by decide) rfl rfl rfl rfl (Nat.le_of_ble_eq_true rfl) (s201 hs5 hs6 hs7 hs8 ?_)
    refine g_al 32 ck rfl rfl rfl ?_
    refine g_il 33 ck rfl rfl rfl ?_
    refine g_il 35 ck rfl rfl rfl ?_
    refine g_ic 36 ck rfl rfl ?_
    refine g_csi (as := [_, _]) (rest := [_, _, _]) 39 ck rfl rfl rfl rfl rfl (by decide) rfl rfl rfl (Nat.le_of_ble_eq_true rfl) (s171 hs9 (by decide) (by decide) ?_)
    refine g_cvi (as := [_, _]) (rest := [_]) 42 ck rfl rfl rfl rfl rfl rfl (by decide) rfl rfl rfl rfl (Nat.le_of_ble_eq_true rfl) (s213 hs10 hs11 hs12 hs13 hs14 hs15 ?_)
    refine g_mul 43 ck rfl rfl ?_
    refine g_al 44 ck rfl rfl rfl ?_
    refine r_gfi 47 5 ck rfl rfl rfl rfl ?_
    refine g_rem 48 ck rfl rfl hs16 hs17 hs19 hs18 ?_
    refine g_al 49 ck rfl rfl rfl ?_
    refine g_il 50 ck rfl rfl rfl ?_
    refine g_il 52 ck rfl rfl rfl ?_
    refine g_ic 53 ck rfl rfl ?_
    refine g_csi (as := [_, _]) (rest := [_, _, _]) 56 ck rfl rfl rfl rfl rfl (by decide) rfl rfl rfl (Nat.le_of_ble_eq_true rfl) (s171 hs9 (by decide) (by decide) ?_)
    refine g_cvi (as := [_, _]) (rest := [_]) 59 ck rfl rfl rfl rfl rfl rfl (by decide) rfl rfl rfl rfl (Nat.le_of_ble_eq_true rfl) (s213 hs10 hs11 hs20 hs21 hs22 hs23 ?_)
    refine g_mul 60 ck rfl rfl ?_
    refine g_al 61 ck rfl rfl rfl ?_
    refine r_gfi 64 5 ck rfl rfl rfl rfl ?_
    refine g_rem 65 ck rfl rfl hs24 hs17 hs25 hs18 ?_
    refine g_al 66 ck rfl rfl rfl ?_
    refine g_il 68 ck rfl rfl rfl ?_
    refine g_il 70 ck rfl rfl rfl ?_
    refine g_ic 71 ck rfl rfl ?_
    refine g_csi (as := [_, _]) (rest := [_, _, _]) 74 ck rfl rfl rfl rfl rfl (by decide) rfl rfl rfl (Nat.le_of_ble_eq_true rfl) (s171 hs9 (by decide) (by decide) ?_)
    refine g_cvi (as := [_, _]) (rest := [_]) 77 ck rfl rfl rfl rfl rfl rfl (by decide) rfl rfl rfl rfl (Nat.le_of_ble_eq_true rfl) (s213 hs10 hs11 hs26 hs27 hs28 hs29 ?_)
    refine g_mul 78 ck rfl rfl ?_
    refine g_al 79 ck rfl rfl rfl ?_
    refine r_gfi 82 5 ck rfl rfl rfl rfl ?_
    refine g_rem 83 ck rfl rfl hs30 hs17 hs31 hs18 ?_
    refine r_is 85 ck rfl rfl rfl rfl ?_
    replace h := h _ rfl
    obtain ⟨⟨hs32, hs33⟩, h⟩ := h
    refine g_il 87 ck rfl rfl rfl ?_
    refine g_il 89 ck rfl rfl rfl ?_
    refine g_add 90 ck rfl rfl ?_
    refine g_al 91 ck rfl rfl rfl ?_
    refine r_gfi 94 5 ck rfl rfl rfl rfl ?_
    refine g_rem 95 ck rfl rfl hs32 hs17 hs33 hs18 ?_
    refine r_is 97 ck rfl rfl rfl rfl ?_
    replace h := h _ rfl
    refine r_ii 100 ck rfl rfl rfl rfl ?_
    refine g_goto 6 ck rfl rfl ?_
    exact h _ rfl _ rfl
def w215 (B : va_E) (σ : l2_m) (x1 : Int) (x2 : Int) (x3 : Int) (x4 : Int) (K : Int → l2_m → Prop) : Prop := w215_6 B σ x1 x2 x3 x4 0 0 K
theorem o215 {B : va_E} {σ : l2_m} {x1 : Int} {x2 : Int} {x3 : Int} {x4 : Int} {K : Int → l2_m → Prop}   (h : w215 B σ x1 x2 x3 x4  K) : wC B 215 [vr 186, vi x1, vi x2, vi x3, vi x4] σ K := by
  have ck : pm_code 215 = pc_215 := rfl
  unfold w215 at h
  show wW B 215 0 [vr 186, vi x1, vi x2, vi x3, vi x4, pm_un, pm_un, pm_un, pm_un] [] σ K
  refine g_ic 1 ck rfl rfl ?_
  refine r_is 3 ck rfl rfl rfl rfl ?_
  refine g_ic 4 ck rfl rfl ?_
  refine r_is 6 ck rfl rfl rfl rfl ?_
  exact o215_6 rfl rfl h
/-! 216 TermDeskModel.value(IIII)I -/
def w216 (B : va_E) (σ : l2_m) (x1 : Int) (x2 : Int) (x3 : Int) (x4 : Int) (K : Int → l2_m → Prop) : Prop := (∀ σ' : l2_m, σ' = l2_u σ 186 0 0 → (rg x1 ∧ ((σ' 186 14) = 0 ∨ (σ' 186 14) = 1)) ∧ (if (σ' 186 14) = 1 ∧ 0 ≤ x1 ∧ x1 < 8 then ((rg x2 ∧ 0 ≤ (σ' 186 5) ∧ (σ' 186 5) ≤ 97) ∧ (if 0 ≤ x2 ∧ x2 < (σ' 186 5) then (rg x3 ∧ (if 0 ≤ x3 ∧ x3 < (σ' 186 5) then (rg x4 ∧ (if 0 ≤ x4 ∧ x4 < (σ' 186 5) then (wC B 214 [vr 186, vi x1] σ' (fun _ σ'''' => (wC B 215 [vr 186, vi x1, vi x2, vi x3, vi x4] σ'''' (fun y σ''''' => (∀ σ'''''' : l2_m, σ'''''' = trr σ''''' 0 → K y σ''''''))))) else (∀ σ''''''' : l2_m, σ''''''' = trr σ' 2 → K (-1) σ'''''''))) else (∀ σ''' : l2_m, σ''' = trr σ' 2 → K (-1) σ'''))) else (∀ σ'' : l2_m, σ'' = trr σ' 2 → K (-1) σ''))) else (∀ σ'''''''' : l2_m, σ'''''''' = trr σ' 1 → K (-1) σ'''''''')))
theorem o216 {B : va_E} {σ : l2_m} {x1 : Int} {x2 : Int} {x3 : Int} {x4 : Int} {K : Int → l2_m → Prop}   (h : w216 B σ x1 x2 x3 x4  K) : wC B 216 [vr 186, vi x1, vi x2, vi x3, vi x4] σ K := by
  have ck : pm_code 216 = pc_216 := rfl
  unfold w216 at h
  show wW B 216 0 [vr 186, vi x1, vi x2, vi x3, vi x4] [] σ K
  refine g_al 1 ck rfl rfl rfl ?_
  refine g_ic 2 ck rfl rfl ?_
  refine g_pfi 5 ck rfl rfl rfl 0 rfl rfl ?_
  replace h := h _ rfl
  obtain ⟨⟨hs1, hs2⟩, h⟩ := h
  refine g_al 6 ck rfl rfl rfl ?_
  refine g_il 7 ck rfl rfl rfl ?_
  refine g_cvi (as := [_]) (rest := []) 10 ck rfl rfl rfl rfl rfl rfl (by decide) rfl rfl rfl rfl (Nat.le_of_ble_eq_true rfl) (s197 hs1 hs2 ?_)
  refine g_ifne 13 19 ck rfl rfl rfl rg_b2i (fun hc => ?_) (fun hc => ?_)
  · replace h := ite_ht h (b2i_t hc)
    obtain ⟨⟨hs3, hs4, hs5⟩, h⟩ := h
    refine g_al 20 ck rfl rfl rfl ?_
    refine g_il 21 ck rfl rfl rfl ?_
    refine g_cvi (as := [_]) (rest := []) 24 ck rfl rfl rfl rfl rfl rfl (by decide) rfl rfl rfl rfl (Nat.le_of_ble_eq_true rfl) (s199 hs3 hs4 hs5 ?_)
    refine g_ifeq 27 44 ck rfl rfl rfl rg_b2i (fun hc => ?_) (fun hc => ?_)
    · replace h := ite_hf h (b2i_f hc)
      refine g_al 45 ck rfl rfl rfl ?_
      refine g_ic 46 ck rfl rfl ?_
      refine g_cvi (as := [_]) (rest := []) 49 ck rfl rfl rfl rfl rfl rfl (by decide) rfl rfl rfl rfl (Nat.le_of_ble_eq_true rfl) (s168  ?_)
      replace h := h _ rfl
      exact g_ret ck rfl rfl (Or.inl (by decide)) h
    · replace h := ite_ht h (b2i_t hc)
      obtain ⟨hs6, h⟩ := h
      refine g_al 28 ck rfl rfl rfl ?_
      refine g_il 29 ck rfl rfl rfl ?_
      refine g_cvi (as := [_]) (rest := []) 32 ck rfl rfl rfl rfl rfl rfl (by decide) rfl rfl rfl rfl (Nat.le_of_ble_eq_true rfl) (s199 hs6 hs4 hs5 ?_)
      refine g_ifeq 35 44 ck rfl rfl rfl rg_b2i (fun hc => ?_) (fun hc => ?_)
      · replace h := ite_hf h (b2i_f hc)
        refine g_al 45 ck rfl rfl rfl ?_
        refine g_ic 46 ck rfl rfl ?_
        refine g_cvi (as := [_]) (rest := []) 49 ck rfl rfl rfl rfl rfl rfl (by decide) rfl rfl rfl rfl (Nat.le_of_ble_eq_true rfl) (s168  ?_)
        replace h := h _ rfl
        exact g_ret ck rfl rfl (Or.inl (by decide)) h
      · replace h := ite_ht h (b2i_t hc)
        obtain ⟨hs7, h⟩ := h
        refine g_al 36 ck rfl rfl rfl ?_
        refine g_il 38 ck rfl rfl rfl ?_
        refine g_cvi (as := [_]) (rest := []) 41 ck rfl rfl rfl rfl rfl rfl (by decide) rfl rfl rfl rfl (Nat.le_of_ble_eq_true rfl) (s199 hs7 hs4 hs5 ?_)
        refine g_ifne 44 50 ck rfl rfl rfl rg_b2i (fun hc => ?_) (fun hc => ?_)
        · replace h := ite_ht h (b2i_t hc)
          refine g_al 51 ck rfl rfl rfl ?_
          refine g_il 52 ck rfl rfl rfl ?_
          refine g_cvv (as := [_]) (rest := []) 55 ck rfl rfl rfl rfl rfl rfl rfl rfl rfl rfl (Nat.le_of_ble_eq_true rfl) (wC.mono h (fun _ σ'''' h => ?_))
          refine g_al 56 ck rfl rfl rfl ?_
          refine g_al 57 ck rfl rfl rfl ?_
          refine g_il 58 ck rfl rfl rfl ?_
          refine g_il 59 ck rfl rfl rfl ?_
          refine g_il 60 ck rfl rfl rfl ?_
          refine g_il 62 ck rfl rfl rfl ?_
          refine g_cvi (as := [_, _, _, _]) (rest := [_]) 65 ck rfl rfl rfl rfl rfl rfl (by decide) rfl rfl rfl rfl (Nat.le_of_ble_eq_true rfl) (wC.mono h (fun y σ''''' h => ?_))
          refine g_cvi (as := [_]) (rest := []) 68 ck rfl rfl rfl rfl rfl rfl (by decide) rfl rfl rfl rfl (Nat.le_of_ble_eq_true rfl) (s169  ?_)
          replace h := h _ rfl
          exact g_ret ck rfl rfl (Or.inl (by decide)) h
        · replace h := ite_hf h (b2i_f (Classical.not_not.mp hc))
          refine g_al 45 ck rfl rfl rfl ?_
          refine g_ic 46 ck rfl rfl ?_
          refine g_cvi (as := [_]) (rest := []) 49 ck rfl rfl rfl rfl rfl rfl (by decide) rfl rfl rfl rfl (Nat.le_of_ble_eq_true rfl) (s168  ?_)
          replace h := h _ rfl
          exact g_ret ck rfl rfl (Or.inl (by decide)) h
  · replace h := ite_hf h (b2i_f (Classical.not_not.mp hc))
    refine g_al 14 ck rfl rfl rfl ?_
    refine g_ic 15 ck rfl rfl ?_
    refine g_cvi (as := [_]) (rest := []) 18 ck rfl rfl rfl rfl rfl rfl (by decide) rfl rfl rfl rfl (Nat.le_of_ble_eq_true rfl) (s168  ?_)
    replace h := h _ rfl
    exact g_ret ck rfl rfl (Or.inl (by decide)) h
/-! 217 TermDeskModel.roots(I)I -/
def w217_121 (B : va_E) (σ : l2_m) (x1 : Int) (x2 : Int) (x3 : Int) (x4 : Int) (x5 : Int) (x6 : Int) (x7 : Int) (x8 : Int) (X103 : Int → Int → l2_m → Prop) (X112 : Int → Int → l2_m → Prop) (K : Int → l2_m → Prop) : Prop := lz3 (fun X121 x5 x8 σ => ((rg x8 ∧ rg x4) ∧ (if x8 < x4 then (wC B 215 [vr 186, vi x1, vi x6, vi x7, vi x8] σ (fun y σ' => (rg y ∧ (if y = 0 then (∀ x5'' : Int, x5'' = (x5 + 1) → X121 x5'' (x8 + 1) σ') else (∀ x5' : Int, x5' = (x5 + 0) → X121 x5' (x8 + 1) σ'))))) else X112 x5 (x7 + 1) σ))) x5 x8 σ
theorem o217_121 {B : va_E} {σ : l2_m} {x1 : Int} {x2 : Int} {x3 : Int} {x4 : Int} {x5 : Int} {x6 : Int} {x7 : Int} {x8 : Int}  {X103 : Int → Int → l2_m → Prop} {X112 : Int → Int → l2_m → Prop} {K : Int → l2_m → Prop}   (hX103 : ∀ (x5 : Int) (x6 : Int) (σ : l2_m) (u7 : Value) (u8 : Value), (u7.category == 1) = true → (u8.category == 1) = true → X103 x5 x6 σ → wW B 217 103 [vr 186, vi x1, vi x2, vi x3, vi x4, vi x5, vi x6, u7, u8] [] σ K) (hX112 : ∀ (x5 : Int) (x7 : Int) (σ : l2_m) (u8 : Value), (u8.category == 1) = true → X112 x5 x7 σ → wW B 217 112 [vr 186, vi x1, vi x2, vi x3, vi x4, vi x5, vi x6, vi x7, u8] [] σ K) (h : w217_121 B σ x1 x2 x3 x4 x5 x6 x7 x8 X103 X112 K) : wW B 217 121 [vr 186, vi x1, vi x2, vi x3, vi x4, vi x5, vi x6, vi x7, vi x8] [] σ K := by
  have ck : pm_code 217 = pc_217 := rfl
  unfold w217_121 at h
  refine h (fun x5 x8 σ => wW B 217 121 [vr 186, vi x1, vi x2, vi x3, vi x4, vi x5, vi x6, vi x7, vi x8] [] σ K) ?_
  clear h
  intro x5 x8 σ h
  obtain ⟨⟨hs1, hs2⟩, h⟩ := h
  refine g_il 123 ck rfl rfl rfl ?_
  refine g_il 125 ck rfl rfl rfl ?_
  refine g_icge 128 158 ck rfl rfl rfl hs1 hs2 (fun hc => ?_) (fun hc => ?_)
  · replace h := ite_hf h (Int.not_lt.mpr hc)
    refine r_ii 161 ck rfl rfl rfl rfl ?_
    refine g_goto 112 ck rfl rfl ?_
    exact hX112 _ _ _ _ rfl h
  · replace h := ite_ht h (Int.not_le.mp hc)
    refine g_il 130 ck rfl rfl rfl ?_
    refine g_al 131 ck rfl rfl rfl ?_
    refine g_il 132 ck rfl rfl rfl ?_
    refine g_il 134 ck rfl rfl rfl ?_
    refine g_il 136 ck rfl rfl rfl ?_
    refine g_il 138 ck rfl rfl rfl ?_
    refine g_cvi (as := [_, _, _, _]) (rest := [_]) 141 ck rfl rfl rfl rfl rfl rfl (by decide) rfl rfl rfl rfl (Nat.le_of_ble_eq_true rfl) (wC.mono h (fun y σ' h => ?_))
    obtain ⟨hs3, h⟩ := h
    refine g_ifne 144 148 ck rfl rfl rfl hs3 (fun hc => ?_) (fun hc => ?_)
    · replace h := ite_hf h hc
      refine g_ic 149 ck rfl rfl ?_
      refine g_add 150 ck rfl rfl ?_
      refine r_is 152 ck rfl rfl rfl rfl ?_
      replace h := h _ rfl
      refine r_ii 155 ck rfl rfl rfl rfl ?_
      refine g_goto 121 ck rfl rfl ?_
      exact h
    · replace h := ite_ht h (Classical.not_not.mp hc)
      refine g_ic 145 ck rfl rfl ?_
      refine g_goto 149 ck rfl rfl ?_
      refine g_add 150 ck rfl rfl ?_
      refine r_is 152 ck rfl rfl rfl rfl ?_
      replace h := h _ rfl
      refine r_ii 155 ck rfl rfl rfl rfl ?_
      refine g_goto 121 ck rfl rfl ?_
      exact h
def w217_112 (B : va_E) (σ : l2_m) (x1 : Int) (x2 : Int) (x3 : Int) (x4 : Int) (x5 : Int) (x6 : Int) (x7 : Int) (X103 : Int → Int → l2_m → Prop) (K : Int → l2_m → Prop) : Prop := lz3 (fun X112 x5 x7 σ => ((rg x7 ∧ rg x3) ∧ (if x7 < x3 then w217_121 B σ x1 x2 x3 x4 x5 x6 x7 0 X103 X112 K else X103 x5 (x6 + 1) σ))) x5 x7 σ
theorem o217_112 {B : va_E} {σ : l2_m} {x1 : Int} {x2 : Int} {x3 : Int} {x4 : Int} {x5 : Int} {x6 : Int} {x7 : Int} {u8 : Value} {X103 : Int → Int → l2_m → Prop} {K : Int → l2_m → Prop}  (hu8 : (u8.category == 1) = true) (hX103 : ∀ (x5 : Int) (x6 : Int) (σ : l2_m) (u7 : Value) (u8 : Value), (u7.category == 1) = true → (u8.category == 1) = true → X103 x5 x6 σ → wW B 217 103 [vr 186, vi x1, vi x2, vi x3, vi x4, vi x5, vi x6, u7, u8] [] σ K) (h : w217_112 B σ x1 x2 x3 x4 x5 x6 x7 X103 K) : wW B 217 112 [vr 186, vi x1, vi x2, vi x3, vi x4, vi x5, vi x6, vi x7, u8] [] σ K := by
  have ck : pm_code 217 = pc_217 := rfl
  unfold w217_112 at h
  refine h (fun x5 x7 σ => ∀ u8 : Value, (u8.category == 1) = true → wW B 217 112 [vr 186, vi x1, vi x2, vi x3, vi x4, vi x5, vi x6, vi x7, u8] [] σ K) ?_ u8 hu8
  clear h
  intro x5 x7 σ h u8 hu8
  obtain ⟨⟨hs1, hs2⟩, h⟩ := h
  refine g_il 114 ck rfl rfl rfl ?_
  refine g_il 115 ck rfl rfl rfl ?_
  refine g_icge 118 164 ck rfl rfl rfl hs1 hs2 (fun hc => ?_) (fun hc => ?_)
  · replace h := ite_hf h (Int.not_lt.mpr hc)
    refine r_ii 167 ck rfl rfl rfl rfl ?_
    refine g_goto 103 ck rfl rfl ?_
    exact hX103 _ _ _ _ _ rfl hu8 h
  · replace h := ite_ht h (Int.not_le.mp hc)
    refine g_ic 119 ck rfl rfl ?_
    refine r_is 121 ck rfl rfl rfl rfl ?_
    exact o217_121 hX103 (fun _ _ _ u8 hu8 hx => hx u8 hu8) h
def w217_103 (B : va_E) (σ : l2_m) (x1 : Int) (x2 : Int) (x3 : Int) (x4 : Int) (x5 : Int) (x6 : Int)  (K : Int → l2_m → Prop) : Prop := lz3 (fun X103 x5 x6 σ => ((rg x6 ∧ rg x2) ∧ (if x6 < x2 then w217_112 B σ x1 x2 x3 x4 x5 x6 0 X103 K else (∀ σ' : l2_m, σ' = trr σ 0 → K x5 σ')))) x5 x6 σ
theorem o217_103 {B : va_E} {σ : l2_m} {x1 : Int} {x2 : Int} {x3 : Int} {x4 : Int} {x5 : Int} {x6 : Int} {u7 : Value} {u8 : Value}  {K : Int → l2_m → Prop}  (hu7 : (u7.category == 1) = true) (hu8 : (u8.category == 1) = true)  (h : w217_103 B σ x1 x2 x3 x4 x5 x6  K) : wW B 217 103 [vr 186, vi x1, vi x2, vi x3, vi x4, vi x5, vi x6, u7, u8] [] σ K := by
  have ck : pm_code 217 = pc_217 := rfl
  unfold w217_103 at h
  refine h (fun x5 x6 σ => ∀ u7 : Value, (u7.category == 1) = true → ∀ u8 : Value, (u8.category == 1) = true → wW B 217 103 [vr 186, vi x1, vi x2, vi x3, vi x4, vi x5, vi x6, u7, u8] [] σ K) ?_ u7 hu7 u8 hu8
  clear h
  intro x5 x6 σ h u7 hu7 u8 hu8
  obtain ⟨⟨hs1, hs2⟩, h⟩ := h
  refine g_il 105 ck rfl rfl rfl ?_
  refine g_il 106 ck rfl rfl rfl ?_
  refine g_icge 109 170 ck rfl rfl rfl hs1 hs2 (fun hc => ?_) (fun hc => ?_)
  · replace h := ite_hf h (Int.not_lt.mpr hc)
    refine g_al 171 ck rfl rfl rfl ?_
    refine g_il 173 ck rfl rfl rfl ?_
    refine g_cvi (as := [_]) (rest := []) 176 ck rfl rfl rfl rfl rfl rfl (by decide) rfl rfl rfl rfl (Nat.le_of_ble_eq_true rfl) (s169  ?_)
    replace h := h _ rfl
    exact g_ret ck rfl rfl (Or.inl (by decide)) h
  · replace h := ite_ht h (Int.not_le.mp hc)
    refine g_ic 110 ck rfl rfl ?_
    refine r_is 112 ck rfl rfl rfl rfl ?_
    exact o217_112 hu8 (fun _ _ _ u7 u8 hu7 hu8 hx => hx u7 hu7 u8 hu8) h
def w217_72 (B : va_E) (σ : l2_m) (x1 : Int) (x2 : Int) (x3 : Int) (z0 : Int)  (K : Int → l2_m → Prop) : Prop := (rg ((x2 * x3) * z0) ∧ (if 10000 < ((x2 * x3) * z0) then (∀ σ'' : l2_m, σ'' = trr σ 5 → K (-1) σ'') else (wC B 214 [vr 186, vi x1] σ (fun _ σ' => w217_103 B σ' x1 x2 x3 z0 0 0 K))))
theorem o217_72 {B : va_E} {σ : l2_m} {x1 : Int} {x2 : Int} {x3 : Int} {z0 : Int} {u4 : Value} {u5 : Value} {u6 : Value} {u7 : Value} {u8 : Value}  {K : Int → l2_m → Prop}  (hu4 : (u4.category == 1) = true) (hu5 : (u5.category == 1) = true) (hu6 : (u6.category == 1) = true) (hu7 : (u7.category == 1) = true) (hu8 : (u8.category == 1) = true)  (h : w217_72 B σ x1 x2 x3 z0  K) : wW B 217 72 [vr 186, vi x1, vi x2, vi x3, u4, u5, u6, u7, u8] [vi z0] σ K := by
  have ck : pm_code 217 = pc_217 := rfl
  unfold w217_72 at h
  obtain ⟨hs1, h⟩ := h
  refine r_is 74 ck rfl rfl rfl rfl ?_
  refine g_il 75 ck rfl rfl rfl ?_
  refine g_il 76 ck rfl rfl rfl ?_
  refine g_mul 77 ck rfl rfl ?_
  refine g_il 79 ck rfl rfl rfl ?_
  refine g_mul 80 ck rfl rfl ?_
  refine g_ic 83 ck rfl rfl ?_
  refine g_icle 86 92 ck rfl rfl rfl hs1 (by decide) (fun hc => ?_) (fun hc => ?_)
  · replace h := ite_hf h (Int.not_lt.mpr hc)
    refine g_al 93 ck rfl rfl rfl ?_
    refine g_il 94 ck rfl rfl rfl ?_
    refine g_cvv (as := [_]) (rest := []) 97 ck rfl rfl rfl rfl rfl rfl rfl rfl rfl rfl (Nat.le_of_ble_eq_true rfl) (wC.mono h (fun _ σ' h => ?_))
    refine g_ic 98 ck rfl rfl ?_
    refine r_is 100 ck rfl rfl rfl rfl ?_
    refine g_ic 101 ck rfl rfl ?_
    refine r_is 103 ck rfl rfl rfl rfl ?_
    exact o217_103 hu7 hu8 h
  · replace h := ite_ht h (Int.not_le.mp hc)
    refine g_al 87 ck rfl rfl rfl ?_
    refine g_ic 88 ck rfl rfl ?_
    refine g_cvi (as := [_]) (rest := []) 91 ck rfl rfl rfl rfl rfl rfl (by decide) rfl rfl rfl rfl (Nat.le_of_ble_eq_true rfl) (s168  ?_)
    replace h := h _ rfl
    exact g_ret ck rfl rfl (Or.inl (by decide)) h
def w217_54 (B : va_E) (σ : l2_m) (x1 : Int) (x2 : Int) (z0 : Int)  (K : Int → l2_m → Prop) : Prop := (wC B 210 [vr 186, vi x1, vi 2] σ (fun y σ' => (rg y ∧ (if 0 < y then w217_72 B σ' x1 x2 z0 (σ' 186 5) K else w217_72 B σ' x1 x2 z0 1 K))))
theorem o217_54 {B : va_E} {σ : l2_m} {x1 : Int} {x2 : Int} {z0 : Int} {u3 : Value} {u4 : Value} {u5 : Value} {u6 : Value} {u7 : Value} {u8 : Value}  {K : Int → l2_m → Prop}  (hu3 : (u3.category == 1) = true) (hu4 : (u4.category == 1) = true) (hu5 : (u5.category == 1) = true) (hu6 : (u6.category == 1) = true) (hu7 : (u7.category == 1) = true) (hu8 : (u8.category == 1) = true)  (h : w217_54 B σ x1 x2 z0  K) : wW B 217 54 [vr 186, vi x1, vi x2, u3, u4, u5, u6, u7, u8] [vi z0] σ K := by
  have ck : pm_code 217 = pc_217 := rfl
  unfold w217_54 at h
  refine r_is 55 ck rfl rfl rfl rfl ?_
  refine g_al 56 ck rfl rfl rfl ?_
  refine g_il 57 ck rfl rfl rfl ?_
  refine g_ic 58 ck rfl rfl ?_
  refine g_cvi (as := [_, _]) (rest := []) 61 ck rfl rfl rfl rfl rfl rfl (by decide) rfl rfl rfl rfl (Nat.le_of_ble_eq_true rfl) (wC.mono h (fun y σ' h => ?_))
  obtain ⟨hs1, h⟩ := h
  refine g_ifle 64 71 ck rfl rfl rfl hs1 (fun hc => ?_) (fun hc => ?_)
  · replace h := ite_hf h (Int.not_lt.mpr hc)
    refine g_ic 72 ck rfl rfl ?_
    exact o217_72 hu4 hu5 hu6 hu7 hu8 h
  · replace h := ite_ht h (Int.not_le.mp hc)
    refine g_al 65 ck rfl rfl rfl ?_
    refine r_gfi 68 5 ck rfl rfl rfl rfl ?_
    refine g_goto 72 ck rfl rfl ?_
    exact o217_72 hu4 hu5 hu6 hu7 hu8 h
def w217_36 (B : va_E) (σ : l2_m) (x1 : Int) (z0 : Int)  (K : Int → l2_m → Prop) : Prop := (wC B 210 [vr 186, vi x1, vi 1] σ (fun y σ' => (rg y ∧ (if 0 < y then w217_54 B σ' x1 z0 (σ' 186 5) K else w217_54 B σ' x1 z0 1 K))))
theorem o217_36 {B : va_E} {σ : l2_m} {x1 : Int} {z0 : Int} {u2 : Value} {u3 : Value} {u4 : Value} {u5 : Value} {u6 : Value} {u7 : Value} {u8 : Value}  {K : Int → l2_m → Prop}  (hu2 : (u2.category == 1) = true) (hu3 : (u3.category == 1) = true) (hu4 : (u4.category == 1) = true) (hu5 : (u5.category == 1) = true) (hu6 : (u6.category == 1) = true) (hu7 : (u7.category == 1) = true) (hu8 : (u8.category == 1) = true)  (h : w217_36 B σ x1 z0  K) : wW B 217 36 [vr 186, vi x1, u2, u3, u4, u5, u6, u7, u8] [vi z0] σ K := by
  have ck : pm_code 217 = pc_217 := rfl
  unfold w217_36 at h
  refine r_is 37 ck rfl rfl rfl rfl ?_
  refine g_al 38 ck rfl rfl rfl ?_
  refine g_il 39 ck rfl rfl rfl ?_
  refine g_ic 40 ck rfl rfl ?_
  refine g_cvi (as := [_, _]) (rest := []) 43 ck rfl rfl rfl rfl rfl rfl (by decide) rfl rfl rfl rfl (Nat.le_of_ble_eq_true rfl) (wC.mono h (fun y σ' h => ?_))
  obtain ⟨hs1, h⟩ := h
  refine g_ifle 46 53 ck rfl rfl rfl hs1 (fun hc => ?_) (fun hc => ?_)
  · replace h := ite_hf h (Int.not_lt.mpr hc)
    refine g_ic 54 ck rfl rfl ?_
    exact o217_54 hu3 hu4 hu5 hu6 hu7 hu8 h
  · replace h := ite_ht h (Int.not_le.mp hc)
    refine g_al 47 ck rfl rfl rfl ?_
    refine r_gfi 50 5 ck rfl rfl rfl rfl ?_
    refine g_goto 54 ck rfl rfl ?_
    exact o217_54 hu3 hu4 hu5 hu6 hu7 hu8 h
def w217 (B : va_E) (σ : l2_m) (x1 : Int) (K : Int → l2_m → Prop) : Prop := (∀ σ' : l2_m, σ' = l2_u σ 186 0 0 → (rg x1 ∧ ((σ' 186 14) = 0 ∨ (σ' 186 14) = 1)) ∧ (if (σ' 186 14) = 1 ∧ 0 ≤ x1 ∧ x1 < 8 then (wC B 210 [vr 186, vi x1, vi 0] σ' (fun y σ'' => (rg y ∧ (if 0 < y then w217_36 B σ'' x1 (σ'' 186 5) K else w217_36 B σ'' x1 1 K)))) else (∀ σ''' : l2_m, σ''' = trr σ' 1 → K (-1) σ''')))
theorem o217 {B : va_E} {σ : l2_m} {x1 : Int} {K : Int → l2_m → Prop}   (h : w217 B σ x1  K) : wC B 217 [vr 186, vi x1] σ K := by
  have ck : pm_code 217 = pc_217 := rfl
  unfold w217 at h
  show wW B 217 0 [vr 186, vi x1, pm_un, pm_un, pm_un, pm_un, pm_un, pm_un, pm_un] [] σ K
  refine g_al 1 ck rfl rfl rfl ?_
  refine g_ic 2 ck rfl rfl ?_
  refine g_pfi 5 ck rfl rfl rfl 0 rfl rfl ?_
  replace h := h _ rfl
  obtain ⟨⟨hs1, hs2⟩, h⟩ := h
  refine g_al 6 ck rfl rfl rfl ?_
  refine g_il 7 ck rfl rfl rfl ?_
  refine g_cvi (as := [_]) (rest := []) 10 ck rfl rfl rfl rfl rfl rfl (by decide) rfl rfl rfl rfl (Nat.le_of_ble_eq_true rfl) (s197 hs1 hs2 ?_)
  refine g_ifne 13 19 ck rfl rfl rfl rg_b2i (fun hc => ?_) (fun hc => ?_)
  · replace h := ite_ht h (b2i_t hc)
    refine g_al 20 ck rfl rfl rfl ?_
    refine g_il 21 ck rfl rfl rfl ?_
    refine g_ic 22 ck rfl rfl ?_
    refine g_cvi (as := [_, _]) (rest := []) 25 ck rfl rfl rfl rfl rfl rfl (by decide) rfl rfl rfl rfl (Nat.le_of_ble_eq_true rfl) (wC.mono h (fun y σ'' h => ?_))
    obtain ⟨hs3, h⟩ := h
    refine g_ifle 28 35 ck rfl rfl rfl hs3 (fun hc => ?_) (fun hc => ?_)
    · replace h := ite_hf h (Int.not_lt.mpr hc)
      refine g_ic 36 ck rfl rfl ?_
      exact o217_36 rfl rfl rfl rfl rfl rfl rfl h
    · replace h := ite_ht h (Int.not_le.mp hc)
      refine g_al 29 ck rfl rfl rfl ?_
      refine r_gfi 32 5 ck rfl rfl rfl rfl ?_
      refine g_goto 36 ck rfl rfl ?_
      exact o217_36 rfl rfl rfl rfl rfl rfl rfl h
  · replace h := ite_hf h (b2i_f (Classical.not_not.mp hc))
    refine g_al 14 ck rfl rfl rfl ?_
    refine g_ic 15 ck rfl rfl ?_
    refine g_cvi (as := [_]) (rest := []) 18 ck rfl rfl rfl rfl rfl rfl (by decide) rfl rfl rfl rfl (Nat.le_of_ble_eq_true rfl) (s168  ?_)
    replace h := h _ rfl
    exact g_ret ck rfl rfl (Or.inl (by decide)) h
/-! 218 TermDeskModel.same(II)I -/
def w218_32 (B : va_E) (σ : l2_m) (x1 : Int) (x2 : Int) (x3 : Int) (x4 : Int)  (K : Int → l2_m → Prop) : Prop := lz2 (fun X32 x3 x4 => (rg x4 ∧ (if x4 < 4096 then (rg x3 ∧ ((¬ (x3 = 0) → 0 ≤ x1 ∧ x1 < 8 ∧ 0 ≤ x4 ∧ x4 < 4096 ∧ 0 ≤ x2 ∧ x2 < 8 ∧ rg (σ 187 (4096 * x1 + x4)) ∧ rg (σ 187 (4096 * x2 + x4))) ∧ (if (x3 = 0) ∨ ¬ ((σ 187 (4096 * x1 + x4)) = (σ 187 (4096 * x2 + x4))) then X32 0 (x4 + 1) else X32 1 (x4 + 1)))) else (rg x3 ∧ (if x3 = 0 then (∀ σ' : l2_m, σ' = trr σ 0 → K 0 σ') else (∀ σ'' : l2_m, σ'' = trr σ 0 → K 1 σ'')))))) x3 x4
theorem o218_32 {B : va_E} {σ : l2_m} {x1 : Int} {x2 : Int} {x3 : Int} {x4 : Int}   {K : Int → l2_m → Prop}    (h : w218_32 B σ x1 x2 x3 x4  K) : wW B 218 32 [vr 186, vi x1, vi x2, vi x3, vi x4] [] σ K := by
  have ck : pm_code 218 = pc_218 := rfl
  unfold w218_32 at h
  refine h (fun x3 x4 => wW B 218 32 [vr 186, vi x1, vi x2, vi x3, vi x4] [] σ K) ?_
  clear h
  intro x3 x4 h
  replace h := (And.imp_right (ite_mp (And.imp_right mg_2s) id)) h
  obtain ⟨hs1, h⟩ := h
  refine g_il 34 ck rfl rfl rfl ?_
  refine g_ic 37 ck rfl rfl ?_
  refine g_icge 40 73 ck rfl rfl rfl hs1 (by decide) (fun hc => ?_) (fun hc => ?_)
  · replace h := ite_hf h (Int.not_lt.mpr hc)
    obtain ⟨hs2, h⟩ := h
    refine g_al 74 ck rfl rfl rfl ?_
    refine g_il 75 ck rfl rfl rfl ?_
    refine g_ifeq 78 82 ck rfl rfl rfl hs2 (fun hc => ?_) (fun hc => ?_)
    · replace h := ite_ht h hc
      refine g_ic 83 ck rfl rfl ?_
      refine g_cvi (as := [_]) (rest := []) 86 ck rfl rfl rfl rfl rfl rfl (by decide) rfl rfl rfl rfl (Nat.le_of_ble_eq_true rfl) (s169  ?_)
      replace h := h _ rfl
      exact g_ret ck rfl rfl (Or.inl (by decide)) h
    · replace h := ite_hf h hc
      refine g_ic 79 ck rfl rfl ?_
      refine g_goto 83 ck rfl rfl ?_
      refine g_cvi (as := [_]) (rest := []) 86 ck rfl rfl rfl rfl rfl rfl (by decide) rfl rfl rfl rfl (Nat.le_of_ble_eq_true rfl) (s169  ?_)
      replace h := h _ rfl
      exact g_ret ck rfl rfl (Or.inl (by decide)) h
  · replace h := ite_ht h (Int.not_le.mp hc)
    obtain ⟨hs3, h⟩ := h
    refine g_il 41 ck rfl rfl rfl ?_
    refine g_ifeq 44 65 ck rfl rfl rfl hs3 (fun hc => ?_) (fun hc => ?_)
    · replace h := ite_ht h hc
      refine g_ic 66 ck rfl rfl ?_
      refine r_is 67 ck rfl rfl rfl rfl ?_
      refine r_ii 70 ck rfl rfl rfl rfl ?_
      refine g_goto 32 ck rfl rfl ?_
      exact h
    · replace h := ite_hf h hc
      obtain ⟨⟨hs4, hs5, hs6, hs7, hs8, hs9, hs10, hs11⟩, h⟩ := h
      refine g_al 45 ck rfl rfl rfl ?_
      refine g_il 46 ck rfl rfl rfl ?_
      refine g_il 48 ck rfl rfl rfl ?_
      refine g_cvi (as := [_, _]) (rest := []) 51 ck rfl rfl rfl rfl rfl rfl (by decide) rfl rfl rfl rfl (Nat.le_of_ble_eq_true rfl) (s201 hs4 hs5 hs6 hs7 ?_)
      refine g_al 52 ck rfl rfl rfl ?_
      refine g_il 53 ck rfl rfl rfl ?_
      refine g_il 55 ck rfl rfl rfl ?_
      refine g_cvi (as := [_, _]) (rest := [_]) 58 ck rfl rfl rfl rfl rfl rfl (by decide) rfl rfl rfl rfl (Nat.le_of_ble_eq_true rfl) (s201 hs8 hs9 hs6 hs7 ?_)
      refine g_icne 61 65 ck rfl rfl rfl hs10 hs11 (fun hc => ?_) (fun hc => ?_)
      · replace h := ite_hf h hc
        refine g_ic 66 ck rfl rfl ?_
        refine r_is 67 ck rfl rfl rfl rfl ?_
        refine r_ii 70 ck rfl rfl rfl rfl ?_
        refine g_goto 32 ck rfl rfl ?_
        exact h
      · replace h := ite_ht h (Classical.not_not.mp hc)
        refine g_ic 62 ck rfl rfl ?_
        refine g_goto 66 ck rfl rfl ?_
        refine r_is 67 ck rfl rfl rfl rfl ?_
        refine r_ii 70 ck rfl rfl rfl rfl ?_
        refine g_goto 32 ck rfl rfl ?_
        exact h
def w218 (B : va_E) (σ : l2_m) (x1 : Int) (x2 : Int) (K : Int → l2_m → Prop) : Prop := (∀ σ' : l2_m, σ' = l2_u σ 186 0 0 → (rg x1 ∧ ((σ' 186 14) = 0 ∨ (σ' 186 14) = 1)) ∧ (if (σ' 186 14) = 1 ∧ 0 ≤ x1 ∧ x1 < 8 then (rg x2 ∧ (if (σ' 186 14) = 1 ∧ 0 ≤ x2 ∧ x2 < 8 then w218_32 B σ' x1 x2 1 0 K else (∀ σ''' : l2_m, σ''' = trr σ' 1 → K (-1) σ'''))) else (∀ σ'' : l2_m, σ'' = trr σ' 1 → K (-1) σ'')))
theorem o218 {B : va_E} {σ : l2_m} {x1 : Int} {x2 : Int} {K : Int → l2_m → Prop}   (h : w218 B σ x1 x2  K) : wC B 218 [vr 186, vi x1, vi x2] σ K := by
  have ck : pm_code 218 = pc_218 := rfl
  unfold w218 at h
  show wW B 218 0 [vr 186, vi x1, vi x2, pm_un, pm_un] [] σ K
  refine g_al 1 ck rfl rfl rfl ?_
  refine g_ic 2 ck rfl rfl ?_
  refine g_pfi 5 ck rfl rfl rfl 0 rfl rfl ?_
  replace h := h _ rfl
  obtain ⟨⟨hs1, hs2⟩, h⟩ := h
  refine g_al 6 ck rfl rfl rfl ?_
  refine g_il 7 ck rfl rfl rfl ?_
  refine g_cvi (as := [_]) (rest := []) 10 ck rfl rfl rfl rfl rfl rfl (by decide) rfl rfl rfl rfl (Nat.le_of_ble_eq_true rfl) (s197 hs1 hs2 ?_)
  refine g_ifeq 13 21 ck rfl rfl rfl rg_b2i (fun hc => ?_) (fun hc => ?_)
  · replace h := ite_hf h (b2i_f hc)
    refine g_al 22 ck rfl rfl rfl ?_
    refine g_ic 23 ck rfl rfl ?_
    refine g_cvi (as := [_]) (rest := []) 26 ck rfl rfl rfl rfl rfl rfl (by decide) rfl rfl rfl rfl (Nat.le_of_ble_eq_true rfl) (s168  ?_)
    replace h := h _ rfl
    exact g_ret ck rfl rfl (Or.inl (by decide)) h
  · replace h := ite_ht h (b2i_t hc)
    obtain ⟨hs3, h⟩ := h
    refine g_al 14 ck rfl rfl rfl ?_
    refine g_il 15 ck rfl rfl rfl ?_
    refine g_cvi (as := [_]) (rest := []) 18 ck rfl rfl rfl rfl rfl rfl (by decide) rfl rfl rfl rfl (Nat.le_of_ble_eq_true rfl) (s197 hs3 hs2 ?_)
    refine g_ifne 21 27 ck rfl rfl rfl rg_b2i (fun hc => ?_) (fun hc => ?_)
    · replace h := ite_ht h (b2i_t hc)
      refine g_ic 28 ck rfl rfl ?_
      refine r_is 29 ck rfl rfl rfl rfl ?_
      refine g_ic 30 ck rfl rfl ?_
      refine r_is 32 ck rfl rfl rfl rfl ?_
      exact o218_32  h
    · replace h := ite_hf h (b2i_f (Classical.not_not.mp hc))
      refine g_al 22 ck rfl rfl rfl ?_
      refine g_ic 23 ck rfl rfl ?_
      refine g_cvi (as := [_]) (rest := []) 26 ck rfl rfl rfl rfl rfl rfl (by decide) rfl rfl rfl rfl (Nat.le_of_ble_eq_true rfl) (s168  ?_)
      replace h := h _ rfl
      exact g_ret ck rfl rfl (Or.inl (by decide)) h
/-! 219 TermDeskModel.ahead(IIIIII)I -/
def w219_66 (B : va_E) (σ : l2_m) (x1 : Int) (x2 : Int) (x3 : Int) (x4 : Int) (x5 : Int) (x6 : Int) (z0 : Int)  (K : Int → l2_m → Prop) : Prop := (rg z0 ∧ (if 0 < z0 then (∀ σ''''' : l2_m, σ''''' = trr σ z0 → K (-2) σ''''') else ((0 ≤ x1 ∧ x1 < 16 ∧ 0 ≤ x2 ∧ x2 < 16 ∧ 0 ≤ x3 ∧ x3 < 16 ∧ 0 ≤ x4 ∧ x4 < 16 ∧ 0 ≤ x5 ∧ x5 < 16 ∧ 0 ≤ x6 ∧ x6 < 16) ∧ (wC B 196 [vi (x1 + 16 * x2 + 256 * x3), vi (x4 + 16 * x5 + 256 * x6), vi (σ 186 6), vi (σ 186 7), vi (σ 186 8)] σ (fun y σ' => (rg y ∧ (if 0 < y then (∀ σ'''' : l2_m, σ'''' = trr σ' 0 → K 1 σ'''') else (if y < 0 then (∀ σ''' : l2_m, σ''' = trr σ' 0 → K (-1) σ''') else (∀ σ'' : l2_m, σ'' = trr σ' 0 → K 0 σ'')))))))))
theorem o219_66 {B : va_E} {σ : l2_m} {x1 : Int} {x2 : Int} {x3 : Int} {x4 : Int} {x5 : Int} {x6 : Int} {z0 : Int} {u7 : Value} {u8 : Value}  {K : Int → l2_m → Prop}  (hu7 : (u7.category == 1) = true) (hu8 : (u8.category == 1) = true)  (h : w219_66 B σ x1 x2 x3 x4 x5 x6 z0  K) : wW B 219 66 [vr 186, vi x1, vi x2, vi x3, vi x4, vi x5, vi x6, u7, u8] [vi z0] σ K := by
  have ck : pm_code 219 = pc_219 := rfl
  unfold w219_66 at h
  obtain ⟨hs1, h⟩ := h
  refine r_is 68 ck rfl rfl rfl rfl ?_
  refine g_il 70 ck rfl rfl rfl ?_
  refine g_ifle 73 83 ck rfl rfl rfl hs1 (fun hc => ?_) (fun hc => ?_)
  · replace h := ite_hf h (Int.not_lt.mpr hc)
    obtain ⟨⟨hs2, hs3, hs4, hs5, hs6, hs7, hs8, hs9, hs10, hs11, hs12, hs13⟩, h⟩ := h
    refine g_il 84 ck rfl rfl rfl ?_
    refine g_il 85 ck rfl rfl rfl ?_
    refine g_il 86 ck rfl rfl rfl ?_
    refine g_csi (as := [_, _, _]) (rest := []) 89 ck rfl rfl rfl rfl rfl (by decide) rfl rfl rfl (Nat.le_of_ble_eq_true rfl) (s173 hs2 hs3 hs4 hs5 hs6 hs7 ?_)
    refine g_il 91 ck rfl rfl rfl ?_
    refine g_il 93 ck rfl rfl rfl ?_
    refine g_il 95 ck rfl rfl rfl ?_
    refine g_csi (as := [_, _, _]) (rest := [_]) 98 ck rfl rfl rfl rfl rfl (by decide) rfl rfl rfl (Nat.le_of_ble_eq_true rfl) (s173 hs8 hs9 hs10 hs11 hs12 hs13 ?_)
    refine g_al 99 ck rfl rfl rfl ?_
    refine r_gfi 102 6 ck rfl rfl rfl rfl ?_
    refine g_al 103 ck rfl rfl rfl ?_
    refine r_gfi 106 7 ck rfl rfl rfl rfl ?_
    refine g_al 107 ck rfl rfl rfl ?_
    refine r_gfi 110 8 ck rfl rfl rfl rfl ?_
    refine g_csi (as := [_, _, _, _, _]) (rest := []) 113 ck rfl rfl rfl rfl rfl (by decide) rfl rfl rfl (Nat.le_of_ble_eq_true rfl) (wC.mono h (fun y σ' h => ?_))
    obtain ⟨hs14, h⟩ := h
    refine r_is 115 ck rfl rfl rfl rfl ?_
    refine g_al 116 ck rfl rfl rfl ?_
    refine g_il 118 ck rfl rfl rfl ?_
    refine g_ifle 121 125 ck rfl rfl rfl hs14 (fun hc => ?_) (fun hc => ?_)
    · replace h := ite_hf h (Int.not_lt.mpr hc)
      refine g_il 127 ck rfl rfl rfl ?_
      refine g_ifge 130 134 ck rfl rfl rfl hs14 (fun hc => ?_) (fun hc => ?_)
      · replace h := ite_hf h (Int.not_lt.mpr hc)
        refine g_ic 135 ck rfl rfl ?_
        refine g_cvi (as := [_]) (rest := []) 138 ck rfl rfl rfl rfl rfl rfl (by decide) rfl rfl rfl rfl (Nat.le_of_ble_eq_true rfl) (s169  ?_)
        replace h := h _ rfl
        exact g_ret ck rfl rfl (Or.inl (by decide)) h
      · replace h := ite_ht h (Int.not_le.mp hc)
        refine g_ic 131 ck rfl rfl ?_
        refine g_goto 135 ck rfl rfl ?_
        refine g_cvi (as := [_]) (rest := []) 138 ck rfl rfl rfl rfl rfl rfl (by decide) rfl rfl rfl rfl (Nat.le_of_ble_eq_true rfl) (s169  ?_)
        replace h := h _ rfl
        exact g_ret ck rfl rfl (Or.inl (by decide)) h
    · replace h := ite_ht h (Int.not_le.mp hc)
      refine g_ic 122 ck rfl rfl ?_
      refine g_goto 135 ck rfl rfl ?_
      refine g_cvi (as := [_]) (rest := []) 138 ck rfl rfl rfl rfl rfl rfl (by decide) rfl rfl rfl rfl (Nat.le_of_ble_eq_true rfl) (s169  ?_)
      replace h := h _ rfl
      exact g_ret ck rfl rfl (Or.inl (by decide)) h
  · replace h := ite_ht h (Int.not_le.mp hc)
    refine g_al 74 ck rfl rfl rfl ?_
    refine g_il 76 ck rfl rfl rfl ?_
    refine g_cvi (as := [_]) (rest := []) 79 ck rfl rfl rfl rfl rfl rfl (by decide) rfl rfl rfl rfl (Nat.le_of_ble_eq_true rfl) (s168  ?_)
    replace h := h _ rfl
    refine g_pop 80 ck rfl rfl rfl ?_
    refine g_ic 82 ck rfl rfl ?_
    exact g_ret ck rfl rfl (Or.inl (by decide)) h
def w219_65 (B : va_E) (σ : l2_m) (x1 : Int) (x2 : Int) (x3 : Int) (x4 : Int) (x5 : Int) (x6 : Int)  (K : Int → l2_m → Prop) : Prop := w219_66 B σ x1 x2 x3 x4 x5 x6 2 K
theorem o219_65 {B : va_E} {σ : l2_m} {x1 : Int} {x2 : Int} {x3 : Int} {x4 : Int} {x5 : Int} {x6 : Int} {u7 : Value} {u8 : Value}  {K : Int → l2_m → Prop}  (hu7 : (u7.category == 1) = true) (hu8 : (u8.category == 1) = true)  (h : w219_65 B σ x1 x2 x3 x4 x5 x6  K) : wW B 219 65 [vr 186, vi x1, vi x2, vi x3, vi x4, vi x5, vi x6, u7, u8] [] σ K := by
  have ck : pm_code 219 = pc_219 := rfl
  unfold w219_65 at h
  refine g_ic 66 ck rfl rfl ?_
  exact o219_66 hu7 hu8 h
def w219 (B : va_E) (σ : l2_m) (x1 : Int) (x2 : Int) (x3 : Int) (x4 : Int) (x5 : Int) (x6 : Int) (K : Int → l2_m → Prop) : Prop := (∀ σ' : l2_m, σ' = l2_u σ 186 0 0 → rg (σ' 186 14) ∧ (if (σ' 186 14) = 0 then w219_66 B σ' x1 x2 x3 x4 x5 x6 1 K else (rg x1 ∧ (((0 ≤ x1 ∧ x1 < 16) → rg x2) ∧ (if (0 ≤ x1 ∧ x1 < 16) ∧ (0 ≤ x2 ∧ x2 < 16) then (rg x3 ∧ (((0 ≤ x3 ∧ x3 < 16) → rg x4) ∧ (if (0 ≤ x3 ∧ x3 < 16) ∧ (0 ≤ x4 ∧ x4 < 16) then (rg x5 ∧ (((0 ≤ x5 ∧ x5 < 16) → rg x6) ∧ (if (0 ≤ x5 ∧ x5 < 16) ∧ (0 ≤ x6 ∧ x6 < 16) then w219_66 B σ' x1 x2 x3 x4 x5 x6 0 K else w219_65 B σ' x1 x2 x3 x4 x5 x6 K))) else w219_65 B σ' x1 x2 x3 x4 x5 x6 K))) else w219_65 B σ' x1 x2 x3 x4 x5 x6 K)))))
theorem o219 {B : va_E} {σ : l2_m} {x1 : Int} {x2 : Int} {x3 : Int} {x4 : Int} {x5 : Int} {x6 : Int} {K : Int → l2_m → Prop}   (h : w219 B σ x1 x2 x3 x4 x5 x6  K) : wC B 219 [vr 186, vi x1, vi x2, vi x3, vi x4, vi x5, vi x6] σ K := by
  have ck : pm_code 219 = pc_219 := rfl
  unfold w219 at h
  show wW B 219 0 [vr 186, vi x1, vi x2, vi x3, vi x4, vi x5, vi x6, pm_un, pm_un] [] σ K
  replace h := (fun h x e => (And.imp_right (ite_mp id (And.imp_right (fun h => ite_mp (And.imp_right (ite_mp (And.imp_right (fun h => ite_mp (And.imp_right (ite_mp (And.imp_right mg_3s) id)) id (mg_3s h))) id)) id (mg_3s h))))) (h x e)) h
  refine g_al 1 ck rfl rfl rfl ?_
  refine g_ic 2 ck rfl rfl ?_
  refine g_pfi 5 ck rfl rfl rfl 0 rfl rfl ?_
  replace h := h _ rfl
  obtain ⟨hs1, h⟩ := h
  refine g_al 6 ck rfl rfl rfl ?_
  refine r_gfi 9 14 ck rfl rfl rfl rfl ?_
  refine g_ifne 12 16 ck rfl rfl rfl hs1 (fun hc => ?_) (fun hc => ?_)
  · replace h := ite_hf h hc
    obtain ⟨hs2, h⟩ := h
    refine g_il 17 ck rfl rfl rfl ?_
    refine g_csi (as := [_]) (rest := []) 20 ck rfl rfl rfl rfl rfl (by decide) rfl rfl rfl (Nat.le_of_ble_eq_true rfl) (s200 hs2 ?_)
    refine g_ifeq 23 65 ck rfl rfl rfl rg_b2i (fun hc => ?_) (fun hc => ?_)
    · replace h := ite_hf h (b2i_f hc)
      exact o219_65 rfl rfl h
    · replace h := ite_ht h (b2i_t hc)
      obtain ⟨hs3, h⟩ := h
      refine g_il 24 ck rfl rfl rfl ?_
      refine g_csi (as := [_]) (rest := []) 27 ck rfl rfl rfl rfl rfl (by decide) rfl rfl rfl (Nat.le_of_ble_eq_true rfl) (s200 hs3 ?_)
      refine g_ifeq 30 65 ck rfl rfl rfl rg_b2i (fun hc => ?_) (fun hc => ?_)
      · replace h := ite_hf h (b2i_f hc)
        exact o219_65 rfl rfl h
      · replace h := ite_ht h (b2i_t hc)
        obtain ⟨hs4, h⟩ := h
        refine g_il 31 ck rfl rfl rfl ?_
        refine g_csi (as := [_]) (rest := []) 34 ck rfl rfl rfl rfl rfl (by decide) rfl rfl rfl (Nat.le_of_ble_eq_true rfl) (s200 hs4 ?_)
        refine g_ifeq 37 65 ck rfl rfl rfl rg_b2i (fun hc => ?_) (fun hc => ?_)
        · replace h := ite_hf h (b2i_f hc)
          exact o219_65 rfl rfl h
        · replace h := ite_ht h (b2i_t hc)
          obtain ⟨hs5, h⟩ := h
          refine g_il 39 ck rfl rfl rfl ?_
          refine g_csi (as := [_]) (rest := []) 42 ck rfl rfl rfl rfl rfl (by decide) rfl rfl rfl (Nat.le_of_ble_eq_true rfl) (s200 hs5 ?_)
          refine g_ifeq 45 65 ck rfl rfl rfl rg_b2i (fun hc => ?_) (fun hc => ?_)
          · replace h := ite_hf h (b2i_f hc)
            exact o219_65 rfl rfl h
          · replace h := ite_ht h (b2i_t hc)
            obtain ⟨hs6, h⟩ := h
            refine g_il 47 ck rfl rfl rfl ?_
            refine g_csi (as := [_]) (rest := []) 50 ck rfl rfl rfl rfl rfl (by decide) rfl rfl rfl (Nat.le_of_ble_eq_true rfl) (s200 hs6 ?_)
            refine g_ifeq 53 65 ck rfl rfl rfl rg_b2i (fun hc => ?_) (fun hc => ?_)
            · replace h := ite_hf h (b2i_f hc)
              exact o219_65 rfl rfl h
            · replace h := ite_ht h (b2i_t hc)
              obtain ⟨hs7, h⟩ := h
              refine g_il 55 ck rfl rfl rfl ?_
              refine g_csi (as := [_]) (rest := []) 58 ck rfl rfl rfl rfl rfl (by decide) rfl rfl rfl (Nat.le_of_ble_eq_true rfl) (s200 hs7 ?_)
              refine g_ifeq 61 65 ck rfl rfl rfl rg_b2i (fun hc => ?_) (fun hc => ?_)
              · replace h := ite_hf h (b2i_f hc)
                exact o219_65 rfl rfl h
              · replace h := ite_ht h (b2i_t hc)
                refine g_ic 62 ck rfl rfl ?_
                refine g_goto 66 ck rfl rfl ?_
                exact o219_66 rfl rfl h
  · replace h := ite_ht h (Classical.not_not.mp hc)
    refine g_ic 13 ck rfl rfl ?_
    refine g_goto 66 ck rfl rfl ?_
    exact o219_66 rfl rfl h
/-! 221 TermDeskModel.leadBy(IIII)I -/
def w221_41 (B : va_E) (σ : l2_m) (x1 : Int) (x2 : Int) (x3 : Int) (x4 : Int) (x5 : Int) (x6 : Int)  (K : Int → l2_m → Prop) : Prop := lz3 (fun X41 x5 x6 σ => (rg x6 ∧ (if x6 < 4096 then ((0 ≤ x1 ∧ x1 < 8 ∧ 0 ≤ x6 ∧ x6 < 4096 ∧ rg (σ 187 (4096 * x1 + x6))) ∧ (if (σ 187 (4096 * x1 + x6)) = 0 then X41 x5 (x6 + 1) σ else (rg x5 ∧ (if x5 = (-1) then X41 x6 (x6 + 1) σ else (wC B 196 [vi x6, vi x5, vi x2, vi x3, vi x4] σ (fun y σ''' => (rg y ∧ (if 0 < y then X41 x6 (x6 + 1) σ''' else X41 x5 (x6 + 1) σ''')))))))) else (rg x5 ∧ (if x5 = (-1) then (∀ σ'' : l2_m, σ'' = trr σ 0 → K (-2) σ'') else (∀ σ' : l2_m, σ' = trr σ 0 → K x5 σ')))))) x5 x6 σ
theorem o221_41 {B : va_E} {σ : l2_m} {x1 : Int} {x2 : Int} {x3 : Int} {x4 : Int} {x5 : Int} {x6 : Int}   {K : Int → l2_m → Prop}    (h : w221_41 B σ x1 x2 x3 x4 x5 x6  K) : wW B 221 41 [vr 186, vi x1, vi x2, vi x3, vi x4, vi x5, vi x6] [] σ K := by
  have ck : pm_code 221 = pc_221 := rfl
  unfold w221_41 at h
  refine h (fun x5 x6 σ => wW B 221 41 [vr 186, vi x1, vi x2, vi x3, vi x4, vi x5, vi x6] [] σ K) ?_
  clear h
  intro x5 x6 σ h
  obtain ⟨hs1, h⟩ := h
  refine g_il 43 ck rfl rfl rfl ?_
  refine g_ic 46 ck rfl rfl ?_
  refine g_icge 49 89 ck rfl rfl rfl hs1 (by decide) (fun hc => ?_) (fun hc => ?_)
  · replace h := ite_hf h (Int.not_lt.mpr hc)
    obtain ⟨hs2, h⟩ := h
    refine g_al 90 ck rfl rfl rfl ?_
    refine g_il 92 ck rfl rfl rfl ?_
    refine g_ic 93 ck rfl rfl ?_
    refine g_icne 96 101 ck rfl rfl rfl hs2 (by decide) (fun hc => ?_) (fun hc => ?_)
    · replace h := ite_hf h hc
      refine g_il 103 ck rfl rfl rfl ?_
      refine g_cvi (as := [_]) (rest := []) 106 ck rfl rfl rfl rfl rfl rfl (by decide) rfl rfl rfl rfl (Nat.le_of_ble_eq_true rfl) (s169  ?_)
      replace h := h _ rfl
      exact g_ret ck rfl rfl (Or.inl (by decide)) h
    · replace h := ite_ht h (Classical.not_not.mp hc)
      refine g_ic 98 ck rfl rfl ?_
      refine g_goto 103 ck rfl rfl ?_
      refine g_cvi (as := [_]) (rest := []) 106 ck rfl rfl rfl rfl rfl rfl (by decide) rfl rfl rfl rfl (Nat.le_of_ble_eq_true rfl) (s169  ?_)
      replace h := h _ rfl
      exact g_ret ck rfl rfl (Or.inl (by decide)) h
  · replace h := ite_ht h (Int.not_le.mp hc)
    obtain ⟨⟨hs3, hs4, hs5, hs6, hs7⟩, h⟩ := h
    refine g_al 50 ck rfl rfl rfl ?_
    refine g_il 51 ck rfl rfl rfl ?_
    refine g_il 53 ck rfl rfl rfl ?_
    refine g_cvi (as := [_, _]) (rest := []) 56 ck rfl rfl rfl rfl rfl rfl (by decide) rfl rfl rfl rfl (Nat.le_of_ble_eq_true rfl) (s201 hs3 hs4 hs5 hs6 ?_)
    refine g_ifeq 59 83 ck rfl rfl rfl hs7 (fun hc => ?_) (fun hc => ?_)
    · replace h := ite_ht h hc
      refine r_ii 86 ck rfl rfl rfl rfl ?_
      refine g_goto 41 ck rfl rfl ?_
      exact h
    · replace h := ite_hf h hc
      obtain ⟨hs8, h⟩ := h
      refine g_il 61 ck rfl rfl rfl ?_
      refine g_ic 62 ck rfl rfl ?_
      refine g_iceq 65 79 ck rfl rfl rfl hs8 (by decide) (fun hc => ?_) (fun hc => ?_)
      · replace h := ite_ht h hc
        refine g_il 81 ck rfl rfl rfl ?_
        refine r_is 83 ck rfl rfl rfl rfl ?_
        refine r_ii 86 ck rfl rfl rfl rfl ?_
        refine g_goto 41 ck rfl rfl ?_
        exact h
      · replace h := ite_hf h hc
        refine g_il 67 ck rfl rfl rfl ?_
        refine g_il 69 ck rfl rfl rfl ?_
        refine g_il 70 ck rfl rfl rfl ?_
        refine g_il 71 ck rfl rfl rfl ?_
        refine g_il 73 ck rfl rfl rfl ?_
        refine g_csi (as := [_, _, _, _, _]) (rest := []) 76 ck rfl rfl rfl rfl rfl (by decide) rfl rfl rfl (Nat.le_of_ble_eq_true rfl) (wC.mono h (fun y σ''' h => ?_))
        obtain ⟨hs9, h⟩ := h
        refine g_ifle 79 83 ck rfl rfl rfl hs9 (fun hc => ?_) (fun hc => ?_)
        · replace h := ite_hf h (Int.not_lt.mpr hc)
          refine r_ii 86 ck rfl rfl rfl rfl ?_
          refine g_goto 41 ck rfl rfl ?_
          exact h
        · replace h := ite_ht h (Int.not_le.mp hc)
          refine g_il 81 ck rfl rfl rfl ?_
          refine r_is 83 ck rfl rfl rfl rfl ?_
          refine r_ii 86 ck rfl rfl rfl rfl ?_
          refine g_goto 41 ck rfl rfl ?_
          exact h
def w221 (B : va_E) (σ : l2_m) (x1 : Int) (x2 : Int) (x3 : Int) (x4 : Int) (K : Int → l2_m → Prop) : Prop := (∀ σ' : l2_m, σ' = l2_u σ 186 0 0 → (rg x1 ∧ ((σ' 186 14) = 0 ∨ (σ' 186 14) = 1)) ∧ (if (σ' 186 14) = 1 ∧ 0 ≤ x1 ∧ x1 < 8 then ((rg x2 ∧ rg x3 ∧ rg x4) ∧ (if isOr x2 x3 x4 then w221_41 B σ' x1 x2 x3 x4 (-1) 0 K else (∀ σ'' : l2_m, σ'' = trr σ' 2 → K (-1) σ''))) else (∀ σ''' : l2_m, σ''' = trr σ' 1 → K (-1) σ''')))
theorem o221 {B : va_E} {σ : l2_m} {x1 : Int} {x2 : Int} {x3 : Int} {x4 : Int} {K : Int → l2_m → Prop}   (h : w221 B σ x1 x2 x3 x4  K) : wC B 221 [vr 186, vi x1, vi x2, vi x3, vi x4] σ K := by
  have ck : pm_code 221 = pc_221 := rfl
  unfold w221 at h
  show wW B 221 0 [vr 186, vi x1, vi x2, vi x3, vi x4, pm_un, pm_un] [] σ K
  refine g_al 1 ck rfl rfl rfl ?_
  refine g_ic 2 ck rfl rfl ?_
  refine g_pfi 5 ck rfl rfl rfl 0 rfl rfl ?_
  replace h := h _ rfl
  obtain ⟨⟨hs1, hs2⟩, h⟩ := h
  refine g_al 6 ck rfl rfl rfl ?_
  refine g_il 7 ck rfl rfl rfl ?_
  refine g_cvi (as := [_]) (rest := []) 10 ck rfl rfl rfl rfl rfl rfl (by decide) rfl rfl rfl rfl (Nat.le_of_ble_eq_true rfl) (s197 hs1 hs2 ?_)
  refine g_ifne 13 19 ck rfl rfl rfl rg_b2i (fun hc => ?_) (fun hc => ?_)
  · replace h := ite_ht h (b2i_t hc)
    obtain ⟨⟨hs3, hs4, hs5⟩, h⟩ := h
    refine g_il 20 ck rfl rfl rfl ?_
    refine g_il 21 ck rfl rfl rfl ?_
    refine g_il 23 ck rfl rfl rfl ?_
    refine g_csi (as := [_, _, _]) (rest := []) 26 ck rfl rfl rfl rfl rfl (by decide) rfl rfl rfl (Nat.le_of_ble_eq_true rfl) (s220 hs3 hs4 hs5 ?_)
    refine g_ifne 29 35 ck rfl rfl rfl rg_b2i (fun hc => ?_) (fun hc => ?_)
    · replace h := ite_ht h (b2i_t hc)
      refine g_ic 36 ck rfl rfl ?_
      refine r_is 38 ck rfl rfl rfl rfl ?_
      refine g_ic 39 ck rfl rfl ?_
      refine r_is 41 ck rfl rfl rfl rfl ?_
      exact o221_41  h
    · replace h := ite_hf h (b2i_f (Classical.not_not.mp hc))
      refine g_al 30 ck rfl rfl rfl ?_
      refine g_ic 31 ck rfl rfl ?_
      refine g_cvi (as := [_]) (rest := []) 34 ck rfl rfl rfl rfl rfl rfl (by decide) rfl rfl rfl rfl (Nat.le_of_ble_eq_true rfl) (s168  ?_)
      replace h := h _ rfl
      exact g_ret ck rfl rfl (Or.inl (by decide)) h
  · replace h := ite_hf h (b2i_f (Classical.not_not.mp hc))
    refine g_al 14 ck rfl rfl rfl ?_
    refine g_ic 15 ck rfl rfl ?_
    refine g_cvi (as := [_]) (rest := []) 18 ck rfl rfl rfl rfl rfl rfl (by decide) rfl rfl rfl rfl (Nat.le_of_ble_eq_true rfl) (s168  ?_)
    replace h := h _ rfl
    exact g_ret ck rfl rfl (Or.inl (by decide)) h
/-! 224 TermDeskModel.puts(III)V -/
def w224_3 (B : va_E) (σ : l2_m) (x1 : Int) (x2 : Int) (x3 : Int) (x4 : Int)  (K : Int → l2_m → Prop) : Prop := lz2 (fun X3 x4 σ => (rg x4 ∧ (if x4 < 4096 then ((0 ≤ x1 ∧ x1 < 8 ∧ 0 ≤ x4 ∧ x4 < 4096 ∧ rg (σ 187 (4096 * x1 + x4))) ∧ ((¬ ((σ 187 (4096 * x1 + x4)) = 0) → rg x2) ∧ (if ((σ 187 (4096 * x1 + x4)) = 0) ∨ (x2 = 0) then X3 (x4 + 1) σ else (rg x3 ∧ ∀ x5 : Int, x5 = (ksum x4 x3) → rg x5 ∧ (if x5 = (-1) then (∀ σ'' : l2_m, σ'' = l2_u σ 186 29 0 → X3 (x4 + 1) σ'') else ((0 ≤ x5 ∧ x5 < 4096 ∧ rg ((σ 192 x5) + ((σ 187 (4096 * x1 + x4)) * x2)) ∧ rg (σ 186 5) ∧ 0 < (σ 186 5) ∧ 0 ≤ ((σ 192 x5) + ((σ 187 (4096 * x1 + x4)) * x2))) ∧ ∀ σ' : l2_m, σ' = l2_u σ 192 x5 (((σ 192 x5) + ((σ 187 (4096 * x1 + x4)) * x2)) % (σ 186 5)) → X3 (x4 + 1) σ')))))) else K 0 σ))) x4 σ
theorem o224_3 {B : va_E} {σ : l2_m} {x1 : Int} {x2 : Int} {x3 : Int} {x4 : Int} {u5 : Value}  {K : Int → l2_m → Prop}  (hu5 : (u5.category == 1) = true)  (h : w224_3 B σ x1 x2 x3 x4  K) : wW B 224 3 [vr 186, vi x1, vi x2, vi x3, vi x4, u5] [] σ K := by
  have ck : pm_code 224 = pc_224 := rfl
  unfold w224_3 at h
  refine h (fun x4 σ => ∀ u5 : Value, (u5.category == 1) = true → wW B 224 3 [vr 186, vi x1, vi x2, vi x3, vi x4, u5] [] σ K) ?_ u5 hu5
  clear h
  intro x4 σ h u5 hu5
  replace h := (And.imp_right (ite_mp (And.imp_right mg_1s) id)) h
  obtain ⟨hs1, h⟩ := h
  refine g_il 5 ck rfl rfl rfl ?_
  refine g_ic 8 ck rfl rfl ?_
  refine g_icge 11 85 ck rfl rfl rfl hs1 (by decide) (fun hc => ?_) (fun hc => ?_)
  · replace h := ite_hf h (Int.not_lt.mpr hc)
    exact g_retv ck rfl rfl h
  · replace h := ite_ht h (Int.not_le.mp hc)
    obtain ⟨⟨hs2, hs3, hs4, hs5, hs6⟩, h⟩ := h
    refine g_al 12 ck rfl rfl rfl ?_
    refine g_il 13 ck rfl rfl rfl ?_
    refine g_il 15 ck rfl rfl rfl ?_
    refine g_cvi (as := [_, _]) (rest := []) 18 ck rfl rfl rfl rfl rfl rfl (by decide) rfl rfl rfl rfl (Nat.le_of_ble_eq_true rfl) (s201 hs2 hs3 hs4 hs5 ?_)
    refine g_ifeq 21 79 ck rfl rfl rfl hs6 (fun hc => ?_) (fun hc => ?_)
    · replace h := ite_ht h hc
      refine r_ii 82 ck rfl rfl rfl rfl ?_
      refine g_goto 3 ck rfl rfl ?_
      exact h _ hu5
    · replace h := ite_hf h hc
      obtain ⟨hs7, h⟩ := h
      refine g_il 22 ck rfl rfl rfl ?_
      refine g_ifne 25 28 ck rfl rfl rfl hs7 (fun hc => ?_) (fun hc => ?_)
      · replace h := ite_hf h hc
        obtain ⟨hs8, h⟩ := h
        refine g_il 30 ck rfl rfl rfl ?_
        refine g_il 31 ck rfl rfl rfl ?_
        refine g_csi (as := [_, _]) (rest := []) 34 ck rfl rfl rfl rfl rfl (by decide) rfl rfl rfl (Nat.le_of_ble_eq_true rfl) (s225 hs1 hs8 ?_)
        refine r_is 36 ck rfl rfl rfl rfl ?_
        replace h := h _ rfl
        obtain ⟨hs9, h⟩ := h
        refine g_il 38 ck rfl rfl rfl ?_
        refine g_ic 39 ck rfl rfl ?_
        refine g_icne 42 50 ck rfl rfl rfl hs9 (by decide) (fun hc => ?_) (fun hc => ?_)
        · replace h := ite_hf h hc
          obtain ⟨⟨hs10, hs11, hs12, hs13, hs14, hs15⟩, h⟩ := h
          refine g_al 51 ck rfl rfl rfl ?_
          refine r_gfr 54 192 ck rfl rfl rfl (by decide) ?_
          refine g_il 56 ck rfl rfl rfl ?_
          refine g_al 57 ck rfl rfl rfl ?_
          refine r_gfr 60 192 ck rfl rfl rfl (by decide) ?_
          refine g_il 62 ck rfl rfl rfl ?_
          refine g_ial (m := 4096) 63 ck rfl rfl rfl hs10 hs11 ?_
          refine g_al 64 ck rfl rfl rfl ?_
          refine g_il 65 ck rfl rfl rfl ?_
          refine g_il 67 ck rfl rfl rfl ?_
          refine g_cvi (as := [_, _]) (rest := [_, _, _]) 70 ck rfl rfl rfl rfl rfl rfl (by decide) rfl rfl rfl rfl (Nat.le_of_ble_eq_true rfl) (s201 hs2 hs3 hs4 hs5 ?_)
          refine g_il 71 ck rfl rfl rfl ?_
          refine g_mul 72 ck rfl rfl ?_
          refine g_add 73 ck rfl rfl ?_
          refine g_al 74 ck rfl rfl rfl ?_
          refine r_gfi 77 5 ck rfl rfl rfl rfl ?_
          refine g_rem 78 ck rfl rfl hs12 hs13 hs15 hs14 ?_
          refine g_ias (m := 4096) 79 ck rfl rfl rfl hs10 hs11 ?_
          replace h := h _ rfl
          refine r_ii 82 ck rfl rfl rfl rfl ?_
          refine g_goto 3 ck rfl rfl ?_
          exact h _ rfl
        · replace h := ite_ht h (Classical.not_not.mp hc)
          refine g_al 43 ck rfl rfl rfl ?_
          refine g_ic 44 ck rfl rfl ?_
          refine g_pfb 47 ck rfl rfl rfl 29 rfl (Or.inl rfl) ?_
          replace h := h _ rfl
          refine g_goto 79 ck rfl rfl ?_
          refine r_ii 82 ck rfl rfl rfl rfl ?_
          refine g_goto 3 ck rfl rfl ?_
          exact h _ rfl
      · replace h := ite_ht h (Classical.not_not.mp hc)
        refine g_goto 79 ck rfl rfl ?_
        refine r_ii 82 ck rfl rfl rfl rfl ?_
        refine g_goto 3 ck rfl rfl ?_
        exact h _ hu5
def w224 (B : va_E) (σ : l2_m) (x1 : Int) (x2 : Int) (x3 : Int) (K : Int → l2_m → Prop) : Prop := w224_3 B σ x1 x2 x3 0 K
theorem o224 {B : va_E} {σ : l2_m} {x1 : Int} {x2 : Int} {x3 : Int} {K : Int → l2_m → Prop}   (h : w224 B σ x1 x2 x3  K) : wC B 224 [vr 186, vi x1, vi x2, vi x3] σ K := by
  have ck : pm_code 224 = pc_224 := rfl
  unfold w224 at h
  show wW B 224 0 [vr 186, vi x1, vi x2, vi x3, pm_un, pm_un] [] σ K
  refine g_ic 1 ck rfl rfl ?_
  refine r_is 3 ck rfl rfl rfl rfl ?_
  exact o224_3 rfl h
/-! 227 TermDeskModel.laysRegister(I)V -/
def w227_2 (B : va_E) (σ : l2_m) (x1 : Int) (x2 : Int)  (K : Int → l2_m → Prop) : Prop := lz2 (fun X2 x2 σ => (rg x2 ∧ (if x2 < 4096 then ((0 ≤ x1 ∧ x1 < 8 ∧ 0 ≤ x2 ∧ x2 < 4096) ∧ ∀ σ'' : l2_m, σ'' = l2_u σ 192 x2 (σ 187 (4096 * x1 + x2)) → X2 (x2 + 1) σ'') else (∀ σ' : l2_m, σ' = l2_u σ 186 29 1 → K 0 σ')))) x2 σ
theorem o227_2 {B : va_E} {σ : l2_m} {x1 : Int} {x2 : Int}   {K : Int → l2_m → Prop}    (h : w227_2 B σ x1 x2  K) : wW B 227 2 [vr 186, vi x1, vi x2] [] σ K := by
  have ck : pm_code 227 = pc_227 := rfl
  unfold w227_2 at h
  refine h (fun x2 σ => wW B 227 2 [vr 186, vi x1, vi x2] [] σ K) ?_
  clear h
  intro x2 σ h
  obtain ⟨hs1, h⟩ := h
  refine g_il 3 ck rfl rfl rfl ?_
  refine g_ic 6 ck rfl rfl ?_
  refine g_icge 9 27 ck rfl rfl rfl hs1 (by decide) (fun hc => ?_) (fun hc => ?_)
  · replace h := ite_hf h (Int.not_lt.mpr hc)
    refine g_al 28 ck rfl rfl rfl ?_
    refine g_ic 29 ck rfl rfl ?_
    refine g_pfb 32 ck rfl rfl rfl 29 rfl (Or.inr rfl) ?_
    replace h := h _ rfl
    exact g_retv ck rfl rfl h
  · replace h := ite_ht h (Int.not_le.mp hc)
    obtain ⟨⟨hs2, hs3, hs4, hs5⟩, h⟩ := h
    refine g_al 10 ck rfl rfl rfl ?_
    refine r_gfr 13 192 ck rfl rfl rfl (by decide) ?_
    refine g_il 14 ck rfl rfl rfl ?_
    refine g_al 15 ck rfl rfl rfl ?_
    refine g_il 16 ck rfl rfl rfl ?_
    refine g_il 17 ck rfl rfl rfl ?_
    refine g_cvi (as := [_, _]) (rest := [_, _]) 20 ck rfl rfl rfl rfl rfl rfl (by decide) rfl rfl rfl rfl (Nat.le_of_ble_eq_true rfl) (s201 hs2 hs3 hs4 hs5 ?_)
    refine g_ias (m := 4096) 21 ck rfl rfl rfl hs4 hs5 ?_
    replace h := h _ rfl
    refine r_ii 24 ck rfl rfl rfl rfl ?_
    refine g_goto 2 ck rfl rfl ?_
    exact h
def w227 (B : va_E) (σ : l2_m) (x1 : Int) (K : Int → l2_m → Prop) : Prop := w227_2 B σ x1 0 K
theorem o227 {B : va_E} {σ : l2_m} {x1 : Int} {K : Int → l2_m → Prop}   (h : w227 B σ x1  K) : wC B 227 [vr 186, vi x1] σ K := by
  have ck : pm_code 227 = pc_227 := rfl
  unfold w227 at h
  show wW B 227 0 [vr 186, vi x1, pm_un] [] σ K
  refine g_ic 1 ck rfl rfl ?_
  refine r_is 2 ck rfl rfl rfl rfl ?_
  exact o227_2  h
/-! 229 TermDeskModel.refusesSet(I)I -/
def w229_15 (B : va_E) (σ : l2_m) (x1 : Int) (x2 : Int)  (K : Int → l2_m → Prop) : Prop := lz1 (fun X15 x2 => (rg x2 ∧ (if x2 < 8 then ((rg x1 ∧ 0 ≤ x2 ∧ x2 < 32) ∧ (((((x1 / 2 ^ (Int.toNat x2)) % 2) = 1) → x2 < 8 ∧ (∀ j : Int, 0 ≤ j → j < 4096 → rg (σ 187 (4096 * x2 + j)))) ∧ (if (((x1 / 2 ^ (Int.toNat x2)) % 2) = 1) ∧ ((cnt (fun k => σ 187 (4096 * x2 + k)) 4096) = 0) then K 5 σ else X15 (x2 + 1)))) else K 0 σ))) x2
theorem o229_15 {B : va_E} {σ : l2_m} {x1 : Int} {x2 : Int}   {K : Int → l2_m → Prop}    (h : w229_15 B σ x1 x2  K) : wW B 229 15 [vr 186, vi x1, vi x2] [] σ K := by
  have ck : pm_code 229 = pc_229 := rfl
  unfold w229_15 at h
  refine h (fun x2 => wW B 229 15 [vr 186, vi x1, vi x2] [] σ K) ?_
  clear h
  intro x2 h
  replace h := (And.imp_right (ite_mp (And.imp_right mg_3s) id)) h
  obtain ⟨hs1, h⟩ := h
  refine g_il 16 ck rfl rfl rfl ?_
  refine g_ic 18 ck rfl rfl ?_
  refine g_icge 21 46 ck rfl rfl rfl hs1 (by decide) (fun hc => ?_) (fun hc => ?_)
  · replace h := ite_hf h (Int.not_lt.mpr hc)
    refine g_ic 47 ck rfl rfl ?_
    exact g_ret ck rfl rfl (Or.inl (by decide)) h
  · replace h := ite_ht h (Int.not_le.mp hc)
    obtain ⟨⟨hs2, hs3, hs4⟩, h⟩ := h
    refine g_il 22 ck rfl rfl rfl ?_
    refine g_il 23 ck rfl rfl rfl ?_
    refine g_shr 24 ck rfl rfl hs2 hs3 hs4 ?_
    refine g_ic 25 ck rfl rfl ?_
    refine r_andk 2 1 26 ck rfl rfl (by decide) (by decide) (by decide) ?_
    refine g_ic 27 ck rfl rfl ?_
    refine g_icne 30 40 ck rfl rfl rfl (rg_mod _ (by decide) (by decide)) (by decide) (fun hc => ?_) (fun hc => ?_)
    · replace h := ite_hf h hc
      refine r_ii 43 ck rfl rfl rfl rfl ?_
      refine g_goto 15 ck rfl rfl ?_
      exact h
    · replace h := ite_ht h (Classical.not_not.mp hc)
      obtain ⟨⟨hs5, hs6⟩, h⟩ := h
      refine g_al 31 ck rfl rfl rfl ?_
      refine g_il 32 ck rfl rfl rfl ?_
      refine g_cvi (as := [_]) (rest := []) 35 ck rfl rfl rfl rfl rfl rfl (by decide) rfl rfl rfl rfl (Nat.le_of_ble_eq_true rfl) (s203 hs3 hs5 hs6 ?_)
      refine g_ifeq 38 40 ck rfl rfl rfl rg_b2i (fun hc => ?_) (fun hc => ?_)
      · replace h := ite_hf h (b2i_f hc)
        refine r_ii 43 ck rfl rfl rfl rfl ?_
        refine g_goto 15 ck rfl rfl ?_
        exact h
      · replace h := ite_ht h (b2i_t hc)
        refine g_ic 39 ck rfl rfl ?_
        exact g_ret ck rfl rfl (Or.inl (by decide)) h
def w229 (B : va_E) (σ : l2_m) (x1 : Int) (K : Int → l2_m → Prop) : Prop := (rg x1 ∧ (if 1 ≤ x1 ∧ x1 ≤ 255 then w229_15 B σ x1 0 K else K 2 σ))
theorem o229 {B : va_E} {σ : l2_m} {x1 : Int} {K : Int → l2_m → Prop}   (h : w229 B σ x1  K) : wC B 229 [vr 186, vi x1] σ K := by
  have ck : pm_code 229 = pc_229 := rfl
  unfold w229 at h
  show wW B 229 0 [vr 186, vi x1, pm_un] [] σ K
  obtain ⟨hs1, h⟩ := h
  refine g_il 1 ck rfl rfl rfl ?_
  refine g_ic 2 ck rfl rfl ?_
  refine g_ic 5 ck rfl rfl ?_
  refine g_csi (as := [_, _, _]) (rest := []) 8 ck rfl rfl rfl rfl rfl (by decide) rfl rfl rfl (Nat.le_of_ble_eq_true rfl) (s170 hs1 (by decide) (by decide) ?_)
  refine g_ifne 11 13 ck rfl rfl rfl rg_b2i (fun hc => ?_) (fun hc => ?_)
  · replace h := ite_ht h (b2i_t hc)
    refine g_ic 14 ck rfl rfl ?_
    refine r_is 15 ck rfl rfl rfl rfl ?_
    exact o229_15  h
  · replace h := ite_hf h (b2i_f (Classical.not_not.mp hc))
    refine g_ic 12 ck rfl rfl ?_
    exact g_ret ck rfl rfl (Or.inl (by decide)) h
/-! 230 TermDeskModel.divisorOf(II)I -/
def w230_2 (B : va_E) (σ : l2_m) (x1 : Int) (x2 : Int) (x3 : Int)  (K : Int → l2_m → Prop) : Prop := lz1 (fun X2 x3 => (rg x3 ∧ (if x3 < 8 then ((rg x1 ∧ 0 ≤ x3 ∧ x3 < 32) ∧ (((((x1 / 2 ^ (Int.toNat x3)) % 2) = 1) → x3 < 8 ∧ rg (σ 197 x3) ∧ rg x2) ∧ (if (((x1 / 2 ^ (Int.toNat x3)) % 2) = 1) ∧ (isUn (σ 197 x3) x2) then K x3 σ else X2 (x3 + 1)))) else K (-1) σ))) x3
theorem o230_2 {B : va_E} {σ : l2_m} {x1 : Int} {x2 : Int} {x3 : Int}   {K : Int → l2_m → Prop}    (h : w230_2 B σ x1 x2 x3  K) : wW B 230 2 [vr 186, vi x1, vi x2, vi x3] [] σ K := by
  have ck : pm_code 230 = pc_230 := rfl
  unfold w230_2 at h
  refine h (fun x3 => wW B 230 2 [vr 186, vi x1, vi x2, vi x3] [] σ K) ?_
  clear h
  intro x3 h
  replace h := (And.imp_right (ite_mp (And.imp_right mg_3s) id)) h
  obtain ⟨hs1, h⟩ := h
  refine g_il 3 ck rfl rfl rfl ?_
  refine g_ic 5 ck rfl rfl ?_
  refine g_icge 8 38 ck rfl rfl rfl hs1 (by decide) (fun hc => ?_) (fun hc => ?_)
  · replace h := ite_hf h (Int.not_lt.mpr hc)
    refine g_ic 39 ck rfl rfl ?_
    exact g_ret ck rfl rfl (Or.inl (by decide)) h
  · replace h := ite_ht h (Int.not_le.mp hc)
    obtain ⟨⟨hs2, hs3, hs4⟩, h⟩ := h
    refine g_il 9 ck rfl rfl rfl ?_
    refine g_il 10 ck rfl rfl rfl ?_
    refine g_shr 11 ck rfl rfl hs2 hs3 hs4 ?_
    refine g_ic 12 ck rfl rfl ?_
    refine r_andk 2 1 13 ck rfl rfl (by decide) (by decide) (by decide) ?_
    refine g_ic 14 ck rfl rfl ?_
    refine g_icne 17 32 ck rfl rfl rfl (rg_mod _ (by decide) (by decide)) (by decide) (fun hc => ?_) (fun hc => ?_)
    · replace h := ite_hf h hc
      refine r_ii 35 ck rfl rfl rfl rfl ?_
      refine g_goto 2 ck rfl rfl ?_
      exact h
    · replace h := ite_ht h (Classical.not_not.mp hc)
      obtain ⟨⟨hs5, hs6, hs7⟩, h⟩ := h
      refine g_al 18 ck rfl rfl rfl ?_
      refine r_gfr 21 197 ck rfl rfl rfl (by decide) ?_
      refine g_il 22 ck rfl rfl rfl ?_
      refine g_ial (m := 8) 23 ck rfl rfl rfl hs3 hs5 ?_
      refine g_il 24 ck rfl rfl rfl ?_
      refine g_csi (as := [_, _]) (rest := []) 27 ck rfl rfl rfl rfl rfl (by decide) rfl rfl rfl (Nat.le_of_ble_eq_true rfl) (s228 hs6 hs7 ?_)
      refine g_ifeq 30 32 ck rfl rfl rfl rg_b2i (fun hc => ?_) (fun hc => ?_)
      · replace h := ite_hf h (b2i_f hc)
        refine r_ii 35 ck rfl rfl rfl rfl ?_
        refine g_goto 2 ck rfl rfl ?_
        exact h
      · replace h := ite_ht h (b2i_t hc)
        refine g_il 31 ck rfl rfl rfl ?_
        exact g_ret ck rfl rfl (Or.inl (by decide)) h
def w230 (B : va_E) (σ : l2_m) (x1 : Int) (x2 : Int) (K : Int → l2_m → Prop) : Prop := w230_2 B σ x1 x2 0 K
theorem o230 {B : va_E} {σ : l2_m} {x1 : Int} {x2 : Int} {K : Int → l2_m → Prop}   (h : w230 B σ x1 x2  K) : wC B 230 [vr 186, vi x1, vi x2] σ K := by
  have ck : pm_code 230 = pc_230 := rfl
  unfold w230 at h
  show wW B 230 0 [vr 186, vi x1, vi x2, pm_un] [] σ K
  refine g_ic 1 ck rfl rfl ?_
  refine r_is 2 ck rfl rfl rfl rfl ?_
  exact o230_2  h
/-! 231 TermDeskModel.dividesBy(I)Z -/
def w231_190 (B : va_E) (σ : l2_m) (x1 : Int) (x2 : Int) (X183 : Int → l2_m → Prop) (K : Int → l2_m → Prop) : Prop := lz1 (fun X190 x2 => ((0 ≤ x2 ∧ x2 < 4096 ∧ 0 ≤ (σ 190 x2) ∧ (σ 190 x2) < 4096 ∧ rg (σ 193 (σ 190 x2))) ∧ (if (σ 193 (σ 190 x2)) = 0 then X190 (x2 + 1) else (rg (σ 186 38) ∧ (if (σ 186 38) = 500 then K 0 σ else (wC B 230 [vr 186, vi x1, vi (σ 190 x2)] σ (fun y σ' => (wC B 232 [vr 186, vi (σ 190 x2), vi y] σ' (fun y' σ'' => (rg y' ∧ (if y' = 0 then K 0 σ'' else X183 x2 σ''))))))))))) x2
theorem o231_190 {B : va_E} {σ : l2_m} {x1 : Int} {x2 : Int}  {X183 : Int → l2_m → Prop} {K : Int → l2_m → Prop}   (hX183 : ∀ (x2 : Int) (σ : l2_m), X183 x2 σ → wW B 231 183 [vr 186, vi x1, vi x2] [] σ K) (h : w231_190 B σ x1 x2 X183 K) : wW B 231 190 [vr 186, vi x1, vi x2] [] σ K := by
  have ck : pm_code 231 = pc_231 := rfl
  unfold w231_190 at h
  refine h (fun x2 => wW B 231 190 [vr 186, vi x1, vi x2] [] σ K) ?_
  clear h
  intro x2 h
  obtain ⟨⟨hs1, hs2, hs3, hs4, hs5⟩, h⟩ := h
  refine g_al 191 ck rfl rfl rfl ?_
  refine r_gfr 194 193 ck rfl rfl rfl (by decide) ?_
  refine g_al 195 ck rfl rfl rfl ?_
  refine r_gfr 198 190 ck rfl rfl rfl (by decide) ?_
  refine g_il 199 ck rfl rfl rfl ?_
  refine g_ial (m := 4096) 200 ck rfl rfl rfl hs1 hs2 ?_
  refine g_ial (m := 4096) 201 ck rfl rfl rfl hs3 hs4 ?_
  refine g_ifne 204 210 ck rfl rfl rfl hs5 (fun hc => ?_) (fun hc => ?_)
  · replace h := ite_hf h hc
    obtain ⟨hs6, h⟩ := h
    refine g_al 211 ck rfl rfl rfl ?_
    refine r_gfi 214 38 ck rfl rfl rfl rfl ?_
    refine g_ic 217 ck rfl rfl ?_
    refine g_iceq 220 244 ck rfl rfl rfl hs6 (by decide) (fun hc => ?_) (fun hc => ?_)
    · replace h := ite_ht h hc
      refine g_ic 245 ck rfl rfl ?_
      exact g_retb ck rfl rfl (Or.inl rfl) h
    · replace h := ite_hf h hc
      refine g_al 221 ck rfl rfl rfl ?_
      refine g_al 222 ck rfl rfl rfl ?_
      refine r_gfr 225 190 ck rfl rfl rfl (by decide) ?_
      refine g_il 226 ck rfl rfl rfl ?_
      refine g_ial (m := 4096) 227 ck rfl rfl rfl hs1 hs2 ?_
      refine g_al 228 ck rfl rfl rfl ?_
      refine g_il 229 ck rfl rfl rfl ?_
      refine g_al 230 ck rfl rfl rfl ?_
      refine r_gfr 233 190 ck rfl rfl rfl (by decide) ?_
      refine g_il 234 ck rfl rfl rfl ?_
      refine g_ial (m := 4096) 235 ck rfl rfl rfl hs1 hs2 ?_
      refine g_cvi (as := [_, _]) (rest := [_, _]) 238 ck rfl rfl rfl rfl rfl rfl (by decide) rfl rfl rfl rfl (Nat.le_of_ble_eq_true rfl) (wC.mono h (fun y σ' h => ?_))
      refine g_cvi (as := [_, _]) (rest := []) 241 ck rfl rfl rfl rfl rfl rfl (by decide) rfl rfl rfl rfl (Nat.le_of_ble_eq_true rfl) (wC.mono h (fun y' σ'' h => ?_))
      obtain ⟨hs7, h⟩ := h
      refine g_ifne 244 183 ck rfl rfl rfl hs7 (fun hc => ?_) (fun hc => ?_)
      · replace h := ite_hf h hc
        exact hX183 _ _   h
      · replace h := ite_ht h (Classical.not_not.mp hc)
        refine g_ic 245 ck rfl rfl ?_
        exact g_retb ck rfl rfl (Or.inl rfl) h
  · replace h := ite_ht h (Classical.not_not.mp hc)
    refine r_ii 207 ck rfl rfl rfl rfl ?_
    refine g_goto 190 ck rfl rfl ?_
    exact h
def w231_183 (B : va_E) (σ : l2_m) (x1 : Int) (x2 : Int)  (K : Int → l2_m → Prop) : Prop := lz2 (fun X183 x2 σ => (rg (σ 186 36) ∧ (if 0 < (σ 186 36) then w231_190 B σ x1 x2 X183 K else K 1 σ))) x2 σ
theorem o231_183 {B : va_E} {σ : l2_m} {x1 : Int} {x2 : Int}   {K : Int → l2_m → Prop}    (h : w231_183 B σ x1 x2  K) : wW B 231 183 [vr 186, vi x1, vi x2] [] σ K := by
  have ck : pm_code 231 = pc_231 := rfl
  unfold w231_183 at h
  refine h (fun x2 σ => wW B 231 183 [vr 186, vi x1, vi x2] [] σ K) ?_
  clear h
  intro x2 σ h
  obtain ⟨hs1, h⟩ := h
  refine g_al 184 ck rfl rfl rfl ?_
  refine r_gfi 187 36 ck rfl rfl rfl rfl ?_
  refine g_ifle 190 246 ck rfl rfl rfl hs1 (fun hc => ?_) (fun hc => ?_)
  · replace h := ite_hf h (Int.not_lt.mpr hc)
    refine g_ic 247 ck rfl rfl ?_
    exact g_retb ck rfl rfl (Or.inr rfl) h
  · replace h := ite_ht h (Int.not_le.mp hc)
    exact o231_190 (fun _ _ hx => hx) h
def w231_131 (B : va_E) (σ : l2_m) (x1 : Int) (x2 : Int) (z1 : Int) (z2 : Int) (X95 : Int → l2_m → Prop) (K : Int → l2_m → Prop) : Prop := ((0 ≤ z1 ∧ z1 < 8) ∧ ∀ σ' : l2_m, σ' = l2_u σ 197 z1 z2 → (0 ≤ x2 ∧ x2 < 8 ∧ rg (σ' 197 x2)) ∧ (if (σ' 197 x2) = (-1) then (∀ σ'''' : l2_m, σ'''' = l2_u σ' 198 x2 0 → X95 (x2 + 1) σ'''') else ((0 ≤ (σ' 197 x2) ∧ (σ' 197 x2) < 4096) ∧ (wC B 226 [vr 186, vi (σ' 187 (4096 * x2 + (σ' 197 x2)))] σ' (fun y σ'' => ((0 ≤ x2 ∧ x2 < 8) ∧ ∀ σ''' : l2_m, σ''' = l2_u σ'' 198 x2 y → X95 (x2 + 1) σ'''))))))
theorem o231_131 {B : va_E} {σ : l2_m} {x1 : Int} {x2 : Int} {z1 : Int} {z2 : Int}  {X95 : Int → l2_m → Prop} {K : Int → l2_m → Prop}   (hX95 : ∀ (x2 : Int) (σ : l2_m), X95 x2 σ → wW B 231 95 [vr 186, vi x1, vi x2] [] σ K) (h : w231_131 B σ x1 x2 z1 z2 X95 K) : wW B 231 131 [vr 186, vi x1, vi x2] [vi z2, vi z1, vr 197] σ K := by
  have ck : pm_code 231 = pc_231 := rfl
  unfold w231_131 at h
  obtain ⟨⟨hs1, hs2⟩, h⟩ := h
  refine g_ias (m := 8) 132 ck rfl rfl rfl hs1 hs2 ?_
  replace h := h _ rfl
  obtain ⟨⟨hs3, hs4, hs5⟩, h⟩ := h
  refine g_al 133 ck rfl rfl rfl ?_
  refine r_gfr 136 198 ck rfl rfl rfl (by decide) ?_
  refine g_il 137 ck rfl rfl rfl ?_
  refine g_al 138 ck rfl rfl rfl ?_
  refine r_gfr 141 197 ck rfl rfl rfl (by decide) ?_
  refine g_il 142 ck rfl rfl rfl ?_
  refine g_ial (m := 8) 143 ck rfl rfl rfl hs3 hs4 ?_
  refine g_ic 144 ck rfl rfl ?_
  refine g_icne 147 151 ck rfl rfl rfl hs5 (by decide) (fun hc => ?_) (fun hc => ?_)
  · replace h := ite_hf h hc
    obtain ⟨⟨hs6, hs7⟩, h⟩ := h
    refine g_al 152 ck rfl rfl rfl ?_
    refine g_al 153 ck rfl rfl rfl ?_
    refine g_il 154 ck rfl rfl rfl ?_
    refine g_al 155 ck rfl rfl rfl ?_
    refine r_gfr 158 197 ck rfl rfl rfl (by decide) ?_
    refine g_il 159 ck rfl rfl rfl ?_
    refine g_ial (m := 8) 160 ck rfl rfl rfl hs3 hs4 ?_
    refine g_cvi (as := [_, _]) (rest := [_, _, _]) 163 ck rfl rfl rfl rfl rfl rfl (by decide) rfl rfl rfl rfl (Nat.le_of_ble_eq_true rfl) (s201 hs3 hs4 hs6 hs7 ?_)
    refine g_cvi (as := [_]) (rest := [_, _]) 166 ck rfl rfl rfl rfl rfl rfl (by decide) rfl rfl rfl rfl (Nat.le_of_ble_eq_true rfl) (wC.mono h (fun y σ'' h => ?_))
    obtain ⟨⟨hs8, hs9⟩, h⟩ := h
    refine g_ias (m := 8) 167 ck rfl rfl rfl hs8 hs9 ?_
    replace h := h _ rfl
    refine r_ii 170 ck rfl rfl rfl rfl ?_
    refine g_goto 95 ck rfl rfl ?_
    exact hX95 _ _   h
  · replace h := ite_ht h (Classical.not_not.mp hc)
    refine g_ic 148 ck rfl rfl ?_
    refine g_goto 166 ck rfl rfl ?_
    refine g_ias (m := 8) 167 ck rfl rfl rfl hs3 hs4 ?_
    replace h := h _ rfl
    refine r_ii 170 ck rfl rfl rfl rfl ?_
    refine g_goto 95 ck rfl rfl ?_
    exact hX95 _ _   h
def w231_95 (B : va_E) (σ : l2_m) (x1 : Int) (x2 : Int)  (K : Int → l2_m → Prop) : Prop := lz2 (fun X95 x2 σ => (rg x2 ∧ (if x2 < 8 then ((0 ≤ x2 ∧ x2 < 8) ∧ ∀ σ'' : l2_m, σ'' = l2_u σ 196 x2 0 → (rg x1 ∧ x2 < 32) ∧ (if ((x1 / 2 ^ (Int.toNat x2)) % 2) = 1 then (wC B 204 [vr 186, vi x2] σ'' (fun y σ''' => w231_131 B σ''' x1 x2 x2 y X95 K)) else w231_131 B σ'' x1 x2 x2 (-1) X95 K)) else (∀ σ' : l2_m, σ' = l2_u σ 186 39 (σ 186 36) → w231_183 B σ' x1 0 K)))) x2 σ
theorem o231_95 {B : va_E} {σ : l2_m} {x1 : Int} {x2 : Int}   {K : Int → l2_m → Prop}    (h : w231_95 B σ x1 x2  K) : wW B 231 95 [vr 186, vi x1, vi x2] [] σ K := by
  have ck : pm_code 231 = pc_231 := rfl
  unfold w231_95 at h
  refine h (fun x2 σ => wW B 231 95 [vr 186, vi x1, vi x2] [] σ K) ?_
  clear h
  intro x2 σ h
  obtain ⟨hs1, h⟩ := h
  refine g_il 96 ck rfl rfl rfl ?_
  refine g_ic 98 ck rfl rfl ?_
  refine g_icge 101 173 ck rfl rfl rfl hs1 (by decide) (fun hc => ?_) (fun hc => ?_)
  · replace h := ite_hf h (Int.not_lt.mpr hc)
    refine g_al 174 ck rfl rfl rfl ?_
    refine g_al 175 ck rfl rfl rfl ?_
    refine r_gfi 178 36 ck rfl rfl rfl rfl ?_
    refine g_pfi 181 ck rfl rfl rfl 39 rfl rfl ?_
    replace h := h _ rfl
    refine g_ic 182 ck rfl rfl ?_
    refine r_is 183 ck rfl rfl rfl rfl ?_
    exact o231_183  h
  · replace h := ite_ht h (Int.not_le.mp hc)
    obtain ⟨⟨hs2, hs3⟩, h⟩ := h
    refine g_al 102 ck rfl rfl rfl ?_
    refine r_gfr 105 196 ck rfl rfl rfl (by decide) ?_
    refine g_il 106 ck rfl rfl rfl ?_
    refine g_ic 107 ck rfl rfl ?_
    refine g_ias (m := 8) 108 ck rfl rfl rfl hs2 hs3 ?_
    replace h := h _ rfl
    obtain ⟨⟨hs4, hs5⟩, h⟩ := h
    refine g_al 109 ck rfl rfl rfl ?_
    refine r_gfr 112 197 ck rfl rfl rfl (by decide) ?_
    refine g_il 113 ck rfl rfl rfl ?_
    refine g_il 114 ck rfl rfl rfl ?_
    refine g_il 115 ck rfl rfl rfl ?_
    refine g_shr 116 ck rfl rfl hs4 hs2 hs5 ?_
    refine g_ic 117 ck rfl rfl ?_
    refine r_andk 2 1 118 ck rfl rfl (by decide) (by decide) (by decide) ?_
    refine g_ic 119 ck rfl rfl ?_
    refine g_icne 122 130 ck rfl rfl rfl (rg_mod _ (by decide) (by decide)) (by decide) (fun hc => ?_) (fun hc => ?_)
    · replace h := ite_hf h hc
      refine g_ic 131 ck rfl rfl ?_
      exact o231_131 (fun _ _ hx => hx) h
    · replace h := ite_ht h (Classical.not_not.mp hc)
      refine g_al 123 ck rfl rfl rfl ?_
      refine g_il 124 ck rfl rfl rfl ?_
      refine g_cvi (as := [_]) (rest := [_, _]) 127 ck rfl rfl rfl rfl rfl rfl (by decide) rfl rfl rfl rfl (Nat.le_of_ble_eq_true rfl) (wC.mono h (fun y σ''' h => ?_))
      refine g_goto 131 ck rfl rfl ?_
      exact o231_131 (fun _ _ hx => hx) h
def w231_74 (B : va_E) (σ : l2_m) (x1 : Int) (x2 : Int)  (K : Int → l2_m → Prop) : Prop := lz2 (fun X74 x2 σ => (rg x2 ∧ (if x2 < 32768 then ((0 ≤ x2 ∧ x2 < 32768) ∧ ∀ σ' : l2_m, σ' = l2_u σ 195 x2 0 → X74 (x2 + 1) σ') else w231_95 B σ x1 0 K))) x2 σ
theorem o231_74 {B : va_E} {σ : l2_m} {x1 : Int} {x2 : Int}   {K : Int → l2_m → Prop}    (h : w231_74 B σ x1 x2  K) : wW B 231 74 [vr 186, vi x1, vi x2] [] σ K := by
  have ck : pm_code 231 = pc_231 := rfl
  unfold w231_74 at h
  refine h (fun x2 σ => wW B 231 74 [vr 186, vi x1, vi x2] [] σ K) ?_
  clear h
  intro x2 σ h
  obtain ⟨hs1, h⟩ := h
  refine g_il 75 ck rfl rfl rfl ?_
  refine g_ic 77 ck rfl rfl ?_
  refine g_icge 80 93 ck rfl rfl rfl hs1 (by decide) (fun hc => ?_) (fun hc => ?_)
  · replace h := ite_hf h (Int.not_lt.mpr hc)
    refine g_ic 94 ck rfl rfl ?_
    refine r_is 95 ck rfl rfl rfl rfl ?_
    exact o231_95  h
  · replace h := ite_ht h (Int.not_le.mp hc)
    obtain ⟨⟨hs2, hs3⟩, h⟩ := h
    refine g_al 81 ck rfl rfl rfl ?_
    refine r_gfr 84 195 ck rfl rfl rfl (by decide) ?_
    refine g_il 85 ck rfl rfl rfl ?_
    refine g_ic 86 ck rfl rfl ?_
    refine g_ias (m := 32768) 87 ck rfl rfl rfl hs2 hs3 ?_
    replace h := h _ rfl
    refine r_ii 90 ck rfl rfl rfl rfl ?_
    refine g_goto 74 ck rfl rfl ?_
    exact h
def w231_17 (B : va_E) (σ : l2_m) (x1 : Int) (x2 : Int)  (K : Int → l2_m → Prop) : Prop := lz2 (fun X17 x2 σ => (rg x2 ∧ (if x2 < 4096 then ((0 ≤ x2 ∧ x2 < 4096) ∧ ∀ σ' : l2_m, σ' = l2_u σ 193 x2 (σ 192 x2) → rg (σ' 193 x2) ∧ (if (σ' 193 x2) = 0 then (∀ σ'' : l2_m, σ'' = l2_u σ' 186 36 ((σ' 186 36) + 0) → ∀ σ''' : l2_m, σ''' = l2_u σ'' 194 x2 0 → X17 (x2 + 1) σ''') else (∀ σ'''' : l2_m, σ'''' = l2_u σ' 186 36 ((σ' 186 36) + 1) → ∀ σ''''' : l2_m, σ''''' = l2_u σ'''' 194 x2 0 → X17 (x2 + 1) σ'''''))) else w231_74 B σ x1 0 K))) x2 σ
theorem o231_17 {B : va_E} {σ : l2_m} {x1 : Int} {x2 : Int}   {K : Int → l2_m → Prop}    (h : w231_17 B σ x1 x2  K) : wW B 231 17 [vr 186, vi x1, vi x2] [] σ K := by
  have ck : pm_code 231 = pc_231 := rfl
  unfold w231_17 at h
  refine h (fun x2 σ => wW B 231 17 [vr 186, vi x1, vi x2] [] σ K) ?_
  clear h
  intro x2 σ h
  obtain ⟨hs1, h⟩ := h
  refine g_il 18 ck rfl rfl rfl ?_
  refine g_ic 21 ck rfl rfl ?_
  refine g_icge 24 72 ck rfl rfl rfl hs1 (by decide) (fun hc => ?_) (fun hc => ?_)
  · replace h := ite_hf h (Int.not_lt.mpr hc)
    refine g_ic 73 ck rfl rfl ?_
    refine r_is 74 ck rfl rfl rfl rfl ?_
    exact o231_74  h
  · replace h := ite_ht h (Int.not_le.mp hc)
    obtain ⟨⟨hs2, hs3⟩, h⟩ := h
    refine g_al 25 ck rfl rfl rfl ?_
    refine r_gfr 28 193 ck rfl rfl rfl (by decide) ?_
    refine g_il 29 ck rfl rfl rfl ?_
    refine g_al 30 ck rfl rfl rfl ?_
    refine r_gfr 33 192 ck rfl rfl rfl (by decide) ?_
    refine g_il 34 ck rfl rfl rfl ?_
    refine g_ial (m := 4096) 35 ck rfl rfl rfl hs2 hs3 ?_
    refine g_ias (m := 4096) 36 ck rfl rfl rfl hs2 hs3 ?_
    replace h := h _ rfl
    obtain ⟨hs4, h⟩ := h
    refine g_al 37 ck rfl rfl rfl ?_
    refine g_dup 38 ck rfl rfl rfl ?_
    refine r_gfi 41 36 ck rfl rfl rfl rfl ?_
    refine g_al 42 ck rfl rfl rfl ?_
    refine r_gfr 45 193 ck rfl rfl rfl (by decide) ?_
    refine g_il 46 ck rfl rfl rfl ?_
    refine g_ial (m := 4096) 47 ck rfl rfl rfl hs2 hs3 ?_
    refine g_ifeq 50 54 ck rfl rfl rfl hs4 (fun hc => ?_) (fun hc => ?_)
    · replace h := ite_ht h hc
      refine g_ic 55 ck rfl rfl ?_
      refine g_add 56 ck rfl rfl ?_
      refine g_pfi 59 ck rfl rfl rfl 36 rfl rfl ?_
      replace h := h _ rfl
      refine g_al 60 ck rfl rfl rfl ?_
      refine r_gfr 63 194 ck rfl rfl rfl (by decide) ?_
      refine g_il 64 ck rfl rfl rfl ?_
      refine g_ic 65 ck rfl rfl ?_
      refine g_ias (m := 4096) 66 ck rfl rfl rfl hs2 hs3 ?_
      replace h := h _ rfl
      refine r_ii 69 ck rfl rfl rfl rfl ?_
      refine g_goto 17 ck rfl rfl ?_
      exact h
    · replace h := ite_hf h hc
      refine g_ic 51 ck rfl rfl ?_
      refine g_goto 55 ck rfl rfl ?_
      refine g_add 56 ck rfl rfl ?_
      refine g_pfi 59 ck rfl rfl rfl 36 rfl rfl ?_
      replace h := h _ rfl
      refine g_al 60 ck rfl rfl rfl ?_
      refine r_gfr 63 194 ck rfl rfl rfl (by decide) ?_
      refine g_il 64 ck rfl rfl rfl ?_
      refine g_ic 65 ck rfl rfl ?_
      refine g_ias (m := 4096) 66 ck rfl rfl rfl hs2 hs3 ?_
      replace h := h _ rfl
      refine r_ii 69 ck rfl rfl rfl rfl ?_
      refine g_goto 17 ck rfl rfl ?_
      exact h
def w231 (B : va_E) (σ : l2_m) (x1 : Int) (K : Int → l2_m → Prop) : Prop := (∀ σ' : l2_m, σ' = l2_u σ 186 36 0 → ∀ σ'' : l2_m, σ'' = l2_u σ' 186 37 0 → ∀ σ''' : l2_m, σ''' = l2_u σ'' 186 38 0 → w231_17 B σ''' x1 0 K)
theorem o231 {B : va_E} {σ : l2_m} {x1 : Int} {K : Int → l2_m → Prop}   (h : w231 B σ x1  K) : wC B 231 [vr 186, vi x1] σ K := by
  have ck : pm_code 231 = pc_231 := rfl
  unfold w231 at h
  show wW B 231 0 [vr 186, vi x1, pm_un] [] σ K
  refine g_al 1 ck rfl rfl rfl ?_
  refine g_ic 2 ck rfl rfl ?_
  refine g_pfi 5 ck rfl rfl rfl 36 rfl rfl ?_
  replace h := h _ rfl
  refine g_al 6 ck rfl rfl rfl ?_
  refine g_ic 7 ck rfl rfl ?_
  refine g_pfi 10 ck rfl rfl rfl 37 rfl rfl ?_
  replace h := h _ rfl
  refine g_al 11 ck rfl rfl rfl ?_
  refine g_ic 12 ck rfl rfl ?_
  refine g_pfi 15 ck rfl rfl rfl 38 rfl rfl ?_
  replace h := h _ rfl
  refine g_ic 16 ck rfl rfl ?_
  refine r_is 17 ck rfl rfl rfl rfl ?_
  exact o231_17  h
/-! 232 TermDeskModel.goesOn(II)Z -/
def w232_270 (B : va_E) (σ : l2_m) (x2 : Int)  (K : Int → l2_m → Prop) : Prop := (rg (σ 186 36) ∧ ((¬ 60 < (σ 186 36) → 0 ≤ x2 ∧ x2 < 8 ∧ rg (σ 196 x2)) ∧ (if 60 < (σ 186 36) ∨ 60 < (σ 196 x2) then K 0 σ else K 1 σ)))
theorem o232_270 {B : va_E} {σ : l2_m} {x2 : Int} {u1 : Value} {u3 : Value} {u4 : Value} {u5 : Value} {u6 : Value}  {K : Int → l2_m → Prop}  (hu1 : (u1.category == 1) = true) (hu3 : (u3.category == 1) = true) (hu4 : (u4.category == 1) = true) (hu5 : (u5.category == 1) = true) (hu6 : (u6.category == 1) = true)  (h : w232_270 B σ x2  K) : wW B 232 270 [vr 186, u1, vi x2, u3, u4, u5, u6] [] σ K := by
  have ck : pm_code 232 = pc_232 := rfl
  unfold w232_270 at h
  replace h := (And.imp_right mg_1s) h
  obtain ⟨hs1, h⟩ := h
  refine g_al 271 ck rfl rfl rfl ?_
  refine r_gfi 274 36 ck rfl rfl rfl rfl ?_
  refine g_ic 276 ck rfl rfl ?_
  refine g_icgt 279 294 ck rfl rfl rfl hs1 (by decide) (fun hc => ?_) (fun hc => ?_)
  · replace h := ite_ht h hc
    refine g_ic 295 ck rfl rfl ?_
    exact g_retb ck rfl rfl (Or.inl rfl) h
  · replace h := ite_hf h hc
    obtain ⟨⟨hs2, hs3, hs4⟩, h⟩ := h
    refine g_al 280 ck rfl rfl rfl ?_
    refine r_gfr 283 196 ck rfl rfl rfl (by decide) ?_
    refine g_il 284 ck rfl rfl rfl ?_
    refine g_ial (m := 8) 285 ck rfl rfl rfl hs2 hs3 ?_
    refine g_ic 287 ck rfl rfl ?_
    refine g_icgt 290 294 ck rfl rfl rfl hs4 (by decide) (fun hc => ?_) (fun hc => ?_)
    · replace h := ite_ht h hc
      refine g_ic 295 ck rfl rfl ?_
      exact g_retb ck rfl rfl (Or.inl rfl) h
    · replace h := ite_hf h hc
      refine g_ic 291 ck rfl rfl ?_
      refine g_goto 295 ck rfl rfl ?_
      exact g_retb ck rfl rfl (Or.inr rfl) h
def w232_183 (B : va_E) (σ : l2_m) (x2 : Int) (x3 : Int) (x4 : Int) (x5 : Int) (x6 : Int) (z1 : Int) (z2 : Int) (X125 : Int → l2_m → Prop) (K : Int → l2_m → Prop) : Prop := (∀ σ' : l2_m, σ' = l2_u σ 186 36 (z1 - z2) → (0 ≤ x6 ∧ x6 < 4096 ∧ 0 ≤ x2 ∧ x2 < 8 ∧ 0 ≤ x5 ∧ x5 < 4096 ∧ rg ((σ' 193 x6) + (((σ' 186 5) - x3) * (σ' 187 (4096 * x2 + x5)))) ∧ rg (σ' 186 5) ∧ 0 < (σ' 186 5) ∧ 0 ≤ ((σ' 193 x6) + (((σ' 186 5) - x3) * (σ' 187 (4096 * x2 + x5))))) ∧ ∀ σ'' : l2_m, σ'' = l2_u σ' 193 x6 (((σ' 193 x6) + (((σ' 186 5) - x3) * (σ' 187 (4096 * x2 + x5)))) % (σ' 186 5)) → rg (σ'' 193 x6) ∧ (if (σ'' 193 x6) = 0 then (∀ σ''' : l2_m, σ''' = l2_u σ'' 186 36 ((σ'' 186 36) + 0) → X125 (x5 + 1) σ''') else (∀ σ'''' : l2_m, σ'''' = l2_u σ'' 186 36 ((σ'' 186 36) + 1) → X125 (x5 + 1) σ'''')))
theorem o232_183 {B : va_E} {σ : l2_m} {x2 : Int} {x3 : Int} {x4 : Int} {x5 : Int} {x6 : Int} {z1 : Int} {z2 : Int} {u1 : Value} {X125 : Int → l2_m → Prop} {K : Int → l2_m → Prop}  (hu1 : (u1.category == 1) = true) (hX125 : ∀ (x5 : Int) (σ : l2_m) (u1 : Value) (u6 : Value), (u1.category == 1) = true → (u6.category == 1) = true → X125 x5 σ → wW B 232 125 [vr 186, u1, vi x2, vi x3, vi x4, vi x5, u6] [] σ K) (h : w232_183 B σ x2 x3 x4 x5 x6 z1 z2 X125 K) : wW B 232 183 [vr 186, u1, vi x2, vi x3, vi x4, vi x5, vi x6] [vi z2, vi z1, vr 186] σ K := by
  have ck : pm_code 232 = pc_232 := rfl
  unfold w232_183 at h
  refine g_sub 184 ck rfl rfl ?_
  refine g_pfi 187 ck rfl rfl rfl 36 rfl rfl ?_
  replace h := h _ rfl
  obtain ⟨⟨hs1, hs2, hs3, hs4, hs5, hs6, hs7, hs8, hs9, hs10⟩, h⟩ := h
  refine g_al 188 ck rfl rfl rfl ?_
  refine r_gfr 191 193 ck rfl rfl rfl (by decide) ?_
  refine g_il 193 ck rfl rfl rfl ?_
  refine g_al 194 ck rfl rfl rfl ?_
  refine r_gfr 197 193 ck rfl rfl rfl (by decide) ?_
  refine g_il 199 ck rfl rfl rfl ?_
  refine g_ial (m := 4096) 200 ck rfl rfl rfl hs1 hs2 ?_
  refine g_al 201 ck rfl rfl rfl ?_
  refine r_gfi 204 5 ck rfl rfl rfl rfl ?_
  refine g_il 205 ck rfl rfl rfl ?_
  refine g_sub 206 ck rfl rfl ?_
  refine g_al 207 ck rfl rfl rfl ?_
  refine g_il 208 ck rfl rfl rfl ?_
  refine g_il 210 ck rfl rfl rfl ?_
  refine g_cvi (as := [_, _]) (rest := [_, _, _, _]) 213 ck rfl rfl rfl rfl rfl rfl (by decide) rfl rfl rfl rfl (Nat.le_of_ble_eq_true rfl) (s201 hs3 hs4 hs5 hs6 ?_)
  refine g_mul 214 ck rfl rfl ?_
  refine g_add 215 ck rfl rfl ?_
  refine g_al 216 ck rfl rfl rfl ?_
  refine r_gfi 219 5 ck rfl rfl rfl rfl ?_
  refine g_rem 220 ck rfl rfl hs7 hs8 hs10 hs9 ?_
  refine g_ias (m := 4096) 221 ck rfl rfl rfl hs1 hs2 ?_
  replace h := h _ rfl
  obtain ⟨hs11, h⟩ := h
  refine g_al 222 ck rfl rfl rfl ?_
  refine g_dup 223 ck rfl rfl rfl ?_
  refine r_gfi 226 36 ck rfl rfl rfl rfl ?_
  refine g_al 227 ck rfl rfl rfl ?_
  refine r_gfr 230 193 ck rfl rfl rfl (by decide) ?_
  refine g_il 232 ck rfl rfl rfl ?_
  refine g_ial (m := 4096) 233 ck rfl rfl rfl hs1 hs2 ?_
  refine g_ifeq 236 240 ck rfl rfl rfl hs11 (fun hc => ?_) (fun hc => ?_)
  · replace h := ite_ht h hc
    refine g_ic 241 ck rfl rfl ?_
    refine g_add 242 ck rfl rfl ?_
    refine g_pfi 245 ck rfl rfl rfl 36 rfl rfl ?_
    replace h := h _ rfl
    refine r_ii 248 ck rfl rfl rfl rfl ?_
    refine g_goto 125 ck rfl rfl ?_
    exact hX125 _ _ _ _ hu1 rfl h
  · replace h := ite_hf h hc
    refine g_ic 237 ck rfl rfl ?_
    refine g_goto 241 ck rfl rfl ?_
    refine g_add 242 ck rfl rfl ?_
    refine g_pfi 245 ck rfl rfl rfl 36 rfl rfl ?_
    replace h := h _ rfl
    refine r_ii 248 ck rfl rfl rfl rfl ?_
    refine g_goto 125 ck rfl rfl ?_
    exact hX125 _ _ _ _ hu1 rfl h
def w232_125 (B : va_E) (σ : l2_m) (x2 : Int) (x3 : Int) (x4 : Int) (x5 : Int)  (K : Int → l2_m → Prop) : Prop := lz2 (fun X125 x5 σ => (rg x5 ∧ (if x5 < 4096 then ((0 ≤ x2 ∧ x2 < 8 ∧ 0 ≤ x5 ∧ x5 < 4096 ∧ rg (σ 187 (4096 * x2 + x5))) ∧ (if (σ 187 (4096 * x2 + x5)) = 0 then X125 (x5 + 1) σ else (rg x4 ∧ ∀ x6 : Int, x6 = (ksum x5 x4) → rg x6 ∧ (if x6 = (-1) then K 0 σ else ((0 ≤ x6 ∧ x6 < 4096 ∧ rg (σ 193 x6)) ∧ (if (σ 193 x6) = 0 then w232_183 B σ x2 x3 x4 x5 x6 (σ 186 36) 0 X125 K else w232_183 B σ x2 x3 x4 x5 x6 (σ 186 36) 1 X125 K)))))) else ((rg (σ 186 36) ∧ rg (σ 186 39)) ∧ (if (σ 186 39) < (σ 186 36) then (∀ σ' : l2_m, σ' = l2_u σ 186 39 (σ 186 36) → w232_270 B σ' x2 K) else w232_270 B σ x2 K))))) x5 σ
theorem o232_125 {B : va_E} {σ : l2_m} {x2 : Int} {x3 : Int} {x4 : Int} {x5 : Int} {u1 : Value} {u6 : Value}  {K : Int → l2_m → Prop}  (hu1 : (u1.category == 1) = true) (hu6 : (u6.category == 1) = true)  (h : w232_125 B σ x2 x3 x4 x5  K) : wW B 232 125 [vr 186, u1, vi x2, vi x3, vi x4, vi x5, u6] [] σ K := by
  have ck : pm_code 232 = pc_232 := rfl
  unfold w232_125 at h
  refine h (fun x5 σ => ∀ u1 : Value, (u1.category == 1) = true → ∀ u6 : Value, (u6.category == 1) = true → wW B 232 125 [vr 186, u1, vi x2, vi x3, vi x4, vi x5, u6] [] σ K) ?_ u1 hu1 u6 hu6
  clear h
  intro x5 σ h u1 hu1 u6 hu6
  obtain ⟨hs1, h⟩ := h
  refine g_il 127 ck rfl rfl rfl ?_
  refine g_ic 130 ck rfl rfl ?_
  refine g_icge 133 251 ck rfl rfl rfl hs1 (by decide) (fun hc => ?_) (fun hc => ?_)
  · replace h := ite_hf h (Int.not_lt.mpr hc)
    obtain ⟨⟨hs2, hs3⟩, h⟩ := h
    refine g_al 252 ck rfl rfl rfl ?_
    refine r_gfi 255 36 ck rfl rfl rfl rfl ?_
    refine g_al 256 ck rfl rfl rfl ?_
    refine r_gfi 259 39 ck rfl rfl rfl rfl ?_
    refine g_icle 262 270 ck rfl rfl rfl hs2 hs3 (fun hc => ?_) (fun hc => ?_)
    · replace h := ite_hf h (Int.not_lt.mpr hc)
      exact o232_270 hu1 rfl rfl rfl hu6 h
    · replace h := ite_ht h (Int.not_le.mp hc)
      refine g_al 263 ck rfl rfl rfl ?_
      refine g_al 264 ck rfl rfl rfl ?_
      refine r_gfi 267 36 ck rfl rfl rfl rfl ?_
      refine g_pfi 270 ck rfl rfl rfl 39 rfl rfl ?_
      replace h := h _ rfl
      exact o232_270 hu1 rfl rfl rfl hu6 h
  · replace h := ite_ht h (Int.not_le.mp hc)
    obtain ⟨⟨hs4, hs5, hs6, hs7, hs8⟩, h⟩ := h
    refine g_al 134 ck rfl rfl rfl ?_
    refine g_il 135 ck rfl rfl rfl ?_
    refine g_il 137 ck rfl rfl rfl ?_
    refine g_cvi (as := [_, _]) (rest := []) 140 ck rfl rfl rfl rfl rfl rfl (by decide) rfl rfl rfl rfl (Nat.le_of_ble_eq_true rfl) (s201 hs4 hs5 hs6 hs7 ?_)
    refine g_ifne 143 146 ck rfl rfl rfl hs8 (fun hc => ?_) (fun hc => ?_)
    · replace h := ite_hf h hc
      obtain ⟨hs9, h⟩ := h
      refine g_il 148 ck rfl rfl rfl ?_
      refine g_il 150 ck rfl rfl rfl ?_
      refine g_csi (as := [_, _]) (rest := []) 153 ck rfl rfl rfl rfl rfl (by decide) rfl rfl rfl (Nat.le_of_ble_eq_true rfl) (s225 hs1 hs9 ?_)
      refine r_is 155 ck rfl rfl rfl rfl ?_
      replace h := h _ rfl
      obtain ⟨hs10, h⟩ := h
      refine g_il 157 ck rfl rfl rfl ?_
      refine g_ic 158 ck rfl rfl ?_
      refine g_icne 161 163 ck rfl rfl rfl hs10 (by decide) (fun hc => ?_) (fun hc => ?_)
      · replace h := ite_hf h hc
        obtain ⟨⟨hs11, hs12, hs13⟩, h⟩ := h
        refine g_al 164 ck rfl rfl rfl ?_
        refine g_dup 165 ck rfl rfl rfl ?_
        refine r_gfi 168 36 ck rfl rfl rfl rfl ?_
        refine g_al 169 ck rfl rfl rfl ?_
        refine r_gfr 172 193 ck rfl rfl rfl (by decide) ?_
        refine g_il 174 ck rfl rfl rfl ?_
        refine g_ial (m := 4096) 175 ck rfl rfl rfl hs11 hs12 ?_
        refine g_ifeq 178 182 ck rfl rfl rfl hs13 (fun hc => ?_) (fun hc => ?_)
        · replace h := ite_ht h hc
          refine g_ic 183 ck rfl rfl ?_
          exact o232_183 hu1 (fun _ _ u1 u6 hu1 hu6 hx => hx u1 hu1 u6 hu6) h
        · replace h := ite_hf h hc
          refine g_ic 179 ck rfl rfl ?_
          refine g_goto 183 ck rfl rfl ?_
          exact o232_183 hu1 (fun _ _ u1 u6 hu1 hu6 hx => hx u1 hu1 u6 hu6) h
      · replace h := ite_ht h (Classical.not_not.mp hc)
        refine g_ic 162 ck rfl rfl ?_
        exact g_retb ck rfl rfl (Or.inl rfl) h
    · replace h := ite_ht h (Classical.not_not.mp hc)
      refine g_goto 245 ck rfl rfl ?_
      refine r_ii 248 ck rfl rfl rfl rfl ?_
      refine g_goto 125 ck rfl rfl ?_
      exact h _ hu1 _ hu6
def w232 (B : va_E) (σ : l2_m) (x1 : Int) (x2 : Int) (K : Int → l2_m → Prop) : Prop := (∀ σ' : l2_m, σ' = l2_u σ 186 38 ((σ 186 38) + 1) → rg x2 ∧ (if x2 = (-1) then ((0 ≤ x1 ∧ x1 < 4096) ∧ ∀ σ'''' : l2_m, σ'''' = l2_u σ' 194 x1 (σ' 193 x1) → ∀ σ''''' : l2_m, σ''''' = l2_u σ'''' 193 x1 0 → ∀ σ'''''' : l2_m, σ'''''' = l2_u σ''''' 186 36 ((σ''''' 186 36) - 1) → ∀ σ''''''' : l2_m, σ''''''' = l2_u σ'''''' 186 37 ((σ'''''' 186 37) + 1) → rg (σ''''''' 186 37) ∧ (if 60 < (σ''''''' 186 37) then K 0 σ''''''' else K 1 σ''''''')) else ((0 ≤ x1 ∧ x1 < 4096 ∧ 0 ≤ x2 ∧ x2 < 8 ∧ rg ((σ' 193 x1) * (σ' 198 x2)) ∧ rg (σ' 186 5) ∧ 0 < (σ' 186 5) ∧ 0 ≤ ((σ' 193 x1) * (σ' 198 x2))) ∧ ∀ x3 : Int, x3 = (((σ' 193 x1) * (σ' 198 x2)) % (σ' 186 5)) → ∀ x4 : Int, x4 = (x1 - (σ' 197 x2)) → (0 ≤ ((4096 * x2) + x4) ∧ ((4096 * x2) + x4) < 32768) ∧ ∀ σ'' : l2_m, σ'' = l2_u σ' 195 ((4096 * x2) + x4) x3 → ∀ σ''' : l2_m, σ''' = l2_u σ'' 196 x2 ((σ'' 196 x2) + 1) → w232_125 B σ''' x2 x3 x4 0 K)))
theorem o232 {B : va_E} {σ : l2_m} {x1 : Int} {x2 : Int} {K : Int → l2_m → Prop}   (h : w232 B σ x1 x2  K) : wC B 232 [vr 186, vi x1, vi x2] σ K := by
  have ck : pm_code 232 = pc_232 := rfl
  unfold w232 at h
  show wW B 232 0 [vr 186, vi x1, vi x2, pm_un, pm_un, pm_un, pm_un] [] σ K
  refine g_al 1 ck rfl rfl rfl ?_
  refine g_dup 2 ck rfl rfl rfl ?_
  refine r_gfi 5 38 ck rfl rfl rfl rfl ?_
  refine g_ic 6 ck rfl rfl ?_
  refine g_add 7 ck rfl rfl ?_
  refine g_pfi 10 ck rfl rfl rfl 38 rfl rfl ?_
  replace h := h _ rfl
  obtain ⟨hs1, h⟩ := h
  refine g_il 11 ck rfl rfl rfl ?_
  refine g_ic 12 ck rfl rfl ?_
  refine g_icne 15 69 ck rfl rfl rfl hs1 (by decide) (fun hc => ?_) (fun hc => ?_)
  · replace h := ite_hf h hc
    obtain ⟨⟨hs2, hs3, hs4, hs5, hs6, hs7, hs8, hs9⟩, h⟩ := h
    refine g_al 70 ck rfl rfl rfl ?_
    refine r_gfr 73 193 ck rfl rfl rfl (by decide) ?_
    refine g_il 74 ck rfl rfl rfl ?_
    refine g_ial (m := 4096) 75 ck rfl rfl rfl hs2 hs3 ?_
    refine g_al 76 ck rfl rfl rfl ?_
    refine r_gfr 79 198 ck rfl rfl rfl (by decide) ?_
    refine g_il 80 ck rfl rfl rfl ?_
    refine g_ial (m := 8) 81 ck rfl rfl rfl hs4 hs5 ?_
    refine g_mul 82 ck rfl rfl ?_
    refine g_al 83 ck rfl rfl rfl ?_
    refine r_gfi 86 5 ck rfl rfl rfl rfl ?_
    refine g_rem 87 ck rfl rfl hs6 hs7 hs9 hs8 ?_
    refine r_is 88 ck rfl rfl rfl rfl ?_
    replace h := h _ rfl
    refine g_il 89 ck rfl rfl rfl ?_
    refine g_al 90 ck rfl rfl rfl ?_
    refine r_gfr 93 197 ck rfl rfl rfl (by decide) ?_
    refine g_il 94 ck rfl rfl rfl ?_
    refine g_ial (m := 8) 95 ck rfl rfl rfl hs4 hs5 ?_
    refine g_sub 96 ck rfl rfl ?_
    refine r_is 98 ck rfl rfl rfl rfl ?_
    replace h := h _ rfl
    obtain ⟨⟨hs10, hs11⟩, h⟩ := h
    refine g_al 99 ck rfl rfl rfl ?_
    refine r_gfr 102 195 ck rfl rfl rfl (by decide) ?_
    refine g_ic 105 ck rfl rfl ?_
    refine g_il 106 ck rfl rfl rfl ?_
    refine g_mul 107 ck rfl rfl ?_
    refine g_il 109 ck rfl rfl rfl ?_
    refine g_add 110 ck rfl rfl ?_
    refine g_il 111 ck rfl rfl rfl ?_
    refine g_ias (m := 32768) 112 ck rfl rfl rfl hs10 hs11 ?_
    replace h := h _ rfl
    refine g_al 113 ck rfl rfl rfl ?_
    refine r_gfr 116 196 ck rfl rfl rfl (by decide) ?_
    refine g_il 117 ck rfl rfl rfl ?_
    refine g_dup2 118 ck rfl rfl rfl rfl ?_
    refine g_ial (m := 8) 119 ck rfl rfl rfl hs4 hs5 ?_
    refine g_ic 120 ck rfl rfl ?_
    refine g_add 121 ck rfl rfl ?_
    refine g_ias (m := 8) 122 ck rfl rfl rfl hs4 hs5 ?_
    replace h := h _ rfl
    refine g_ic 123 ck rfl rfl ?_
    refine r_is 125 ck rfl rfl rfl rfl ?_
    exact o232_125 rfl rfl h
  · replace h := ite_ht h (Classical.not_not.mp hc)
    obtain ⟨⟨hs12, hs13⟩, h⟩ := h
    refine g_al 16 ck rfl rfl rfl ?_
    refine r_gfr 19 194 ck rfl rfl rfl (by decide) ?_
    refine g_il 20 ck rfl rfl rfl ?_
    refine g_al 21 ck rfl rfl rfl ?_
    refine r_gfr 24 193 ck rfl rfl rfl (by decide) ?_
    refine g_il 25 ck rfl rfl rfl ?_
    refine g_ial (m := 4096) 26 ck rfl rfl rfl hs12 hs13 ?_
    refine g_ias (m := 4096) 27 ck rfl rfl rfl hs12 hs13 ?_
    replace h := h _ rfl
    refine g_al 28 ck rfl rfl rfl ?_
    refine r_gfr 31 193 ck rfl rfl rfl (by decide) ?_
    refine g_il 32 ck rfl rfl rfl ?_
    refine g_ic 33 ck rfl rfl ?_
    refine g_ias (m := 4096) 34 ck rfl rfl rfl hs12 hs13 ?_
    replace h := h _ rfl
    refine g_al 35 ck rfl rfl rfl ?_
    refine g_dup 36 ck rfl rfl rfl ?_
    refine r_gfi 39 36 ck rfl rfl rfl rfl ?_
    refine g_ic 40 ck rfl rfl ?_
    refine g_sub 41 ck rfl rfl ?_
    refine g_pfi 44 ck rfl rfl rfl 36 rfl rfl ?_
    replace h := h _ rfl
    refine g_al 45 ck rfl rfl rfl ?_
    refine g_dup 46 ck rfl rfl rfl ?_
    refine r_gfi 49 37 ck rfl rfl rfl rfl ?_
    refine g_ic 50 ck rfl rfl ?_
    refine g_add 51 ck rfl rfl ?_
    refine g_pfi 54 ck rfl rfl rfl 37 rfl rfl ?_
    replace h := h _ rfl
    obtain ⟨hs14, h⟩ := h
    refine g_al 55 ck rfl rfl rfl ?_
    refine r_gfi 58 37 ck rfl rfl rfl rfl ?_
    refine g_ic 60 ck rfl rfl ?_
    refine g_icgt 63 67 ck rfl rfl rfl hs14 (by decide) (fun hc => ?_) (fun hc => ?_)
    · replace h := ite_ht h hc
      refine g_ic 68 ck rfl rfl ?_
      exact g_retb ck rfl rfl (Or.inl rfl) h
    · replace h := ite_hf h hc
      refine g_ic 64 ck rfl rfl ?_
      refine g_goto 68 ck rfl rfl ?_
      exact g_retb ck rfl rfl (Or.inr rfl) h
/-! 233 TermDeskModel.refusesDivision(II)I -/
def w233 (B : va_E) (σ : l2_m) (x1 : Int) (x2 : Int) (K : Int → l2_m → Prop) : Prop := ((rg x1 ∧ ((σ 186 14) = 0 ∨ (σ 186 14) = 1)) ∧ (if (σ 186 14) = 1 ∧ 0 ≤ x1 ∧ x1 < 8 then (wC B 229 [vr 186, vi x2] σ (fun y σ' => K y σ')) else K 1 σ))
theorem o233 {B : va_E} {σ : l2_m} {x1 : Int} {x2 : Int} {K : Int → l2_m → Prop}   (h : w233 B σ x1 x2  K) : wC B 233 [vr 186, vi x1, vi x2] σ K := by
  have ck : pm_code 233 = pc_233 := rfl
  unfold w233 at h
  show wW B 233 0 [vr 186, vi x1, vi x2] [] σ K
  obtain ⟨⟨hs1, hs2⟩, h⟩ := h
  refine g_al 1 ck rfl rfl rfl ?_
  refine g_il 2 ck rfl rfl rfl ?_
  refine g_cvi (as := [_]) (rest := []) 5 ck rfl rfl rfl rfl rfl rfl (by decide) rfl rfl rfl rfl (Nat.le_of_ble_eq_true rfl) (s197 hs1 hs2 ?_)
  refine g_ifne 8 12 ck rfl rfl rfl rg_b2i (fun hc => ?_) (fun hc => ?_)
  · replace h := ite_ht h (b2i_t hc)
    refine g_al 13 ck rfl rfl rfl ?_
    refine g_il 14 ck rfl rfl rfl ?_
    refine g_cvi (as := [_]) (rest := []) 17 ck rfl rfl rfl rfl rfl rfl (by decide) rfl rfl rfl rfl (Nat.le_of_ble_eq_true rfl) (wC.mono h (fun y σ' h => ?_))
    exact g_ret ck rfl rfl (Or.inl (by decide)) h
  · replace h := ite_hf h (b2i_f (Classical.not_not.mp hc))
    refine g_ic 9 ck rfl rfl ?_
    refine g_goto 17 ck rfl rfl ?_
    exact g_ret ck rfl rfl (Or.inl (by decide)) h
/-! 234 TermDeskModel.divided(III)I -/
def w234_63 (B : va_E) (σ : l2_m) (x3 : Int) (x5 : Int) (x6 : Int)  (K : Int → l2_m → Prop) : Prop := lz2 (fun X63 x5 x6 => (rg x6 ∧ (if x6 < 8 then ((0 ≤ x6 ∧ x6 < 8) ∧ ∀ x5' : Int, x5' = (x5 + (σ 196 x6)) → X63 x5' (x6 + 1)) else (rg x3 ∧ (if x3 = 0 then (∀ σ'''' : l2_m, σ'''' = trr σ 0 → K (σ 186 38) σ'''') else (if x3 = 1 then (∀ σ''' : l2_m, σ''' = trr σ 0 → K (σ 186 37) σ''') else (if x3 = 2 then (∀ σ'' : l2_m, σ'' = trr σ 0 → K x5 σ'') else (∀ σ' : l2_m, σ' = trr σ 0 → K (σ 186 39) σ')))))))) x5 x6
theorem o234_63 {B : va_E} {σ : l2_m} {x3 : Int} {x5 : Int} {x6 : Int} {u1 : Value} {u2 : Value} {u4 : Value}  {K : Int → l2_m → Prop}  (hu1 : (u1.category == 1) = true) (hu2 : (u2.category == 1) = true) (hu4 : (u4.category == 1) = true)  (h : w234_63 B σ x3 x5 x6  K) : wW B 234 63 [vr 186, u1, u2, vi x3, u4, vi x5, vi x6] [] σ K := by
  have ck : pm_code 234 = pc_234 := rfl
  unfold w234_63 at h
  refine h (fun x5 x6 => ∀ u1 : Value, (u1.category == 1) = true → ∀ u2 : Value, (u2.category == 1) = true → ∀ u4 : Value, (u4.category == 1) = true → wW B 234 63 [vr 186, u1, u2, vi x3, u4, vi x5, vi x6] [] σ K) ?_ u1 hu1 u2 hu2 u4 hu4
  clear h
  intro x5 x6 h u1 hu1 u2 hu2 u4 hu4
  obtain ⟨hs1, h⟩ := h
  refine g_il 65 ck rfl rfl rfl ?_
  refine g_ic 67 ck rfl rfl ?_
  refine g_icge 70 88 ck rfl rfl rfl hs1 (by decide) (fun hc => ?_) (fun hc => ?_)
  · replace h := ite_hf h (Int.not_lt.mpr hc)
    obtain ⟨hs2, h⟩ := h
    refine g_al 89 ck rfl rfl rfl ?_
    refine g_il 90 ck rfl rfl rfl ?_
    refine g_ifne 93 100 ck rfl rfl rfl hs2 (fun hc => ?_) (fun hc => ?_)
    · replace h := ite_hf h hc
      refine g_il 101 ck rfl rfl rfl ?_
      refine g_ic 102 ck rfl rfl ?_
      refine g_icne 105 112 ck rfl rfl rfl hs2 (by decide) (fun hc => ?_) (fun hc => ?_)
      · replace h := ite_hf h hc
        refine g_il 113 ck rfl rfl rfl ?_
        refine g_ic 114 ck rfl rfl ?_
        refine g_icne 117 122 ck rfl rfl rfl hs2 (by decide) (fun hc => ?_) (fun hc => ?_)
        · replace h := ite_hf h hc
          refine g_al 123 ck rfl rfl rfl ?_
          refine r_gfi 126 39 ck rfl rfl rfl rfl ?_
          refine g_cvi (as := [_]) (rest := []) 129 ck rfl rfl rfl rfl rfl rfl (by decide) rfl rfl rfl rfl (Nat.le_of_ble_eq_true rfl) (s169  ?_)
          replace h := h _ rfl
          exact g_ret ck rfl rfl (Or.inl (by decide)) h
        · replace h := ite_ht h (Classical.not_not.mp hc)
          refine g_il 119 ck rfl rfl rfl ?_
          refine g_goto 126 ck rfl rfl ?_
          refine g_cvi (as := [_]) (rest := []) 129 ck rfl rfl rfl rfl rfl rfl (by decide) rfl rfl rfl rfl (Nat.le_of_ble_eq_true rfl) (s169  ?_)
          replace h := h _ rfl
          exact g_ret ck rfl rfl (Or.inl (by decide)) h
      · replace h := ite_ht h (Classical.not_not.mp hc)
        refine g_al 106 ck rfl rfl rfl ?_
        refine r_gfi 109 37 ck rfl rfl rfl rfl ?_
        refine g_goto 126 ck rfl rfl ?_
        refine g_cvi (as := [_]) (rest := []) 129 ck rfl rfl rfl rfl rfl rfl (by decide) rfl rfl rfl rfl (Nat.le_of_ble_eq_true rfl) (s169  ?_)
        replace h := h _ rfl
        exact g_ret ck rfl rfl (Or.inl (by decide)) h
    · replace h := ite_ht h (Classical.not_not.mp hc)
      refine g_al 94 ck rfl rfl rfl ?_
      refine r_gfi 97 38 ck rfl rfl rfl rfl ?_
      refine g_goto 126 ck rfl rfl ?_
      refine g_cvi (as := [_]) (rest := []) 129 ck rfl rfl rfl rfl rfl rfl (by decide) rfl rfl rfl rfl (Nat.le_of_ble_eq_true rfl) (s169  ?_)
      replace h := h _ rfl
      exact g_ret ck rfl rfl (Or.inl (by decide)) h
  · replace h := ite_ht h (Int.not_le.mp hc)
    obtain ⟨⟨hs3, hs4⟩, h⟩ := h
    refine g_il 72 ck rfl rfl rfl ?_
    refine g_al 73 ck rfl rfl rfl ?_
    refine r_gfr 76 196 ck rfl rfl rfl (by decide) ?_
    refine g_il 78 ck rfl rfl rfl ?_
    refine g_ial (m := 8) 79 ck rfl rfl rfl hs3 hs4 ?_
    refine g_add 80 ck rfl rfl ?_
    refine r_is 82 ck rfl rfl hu4 rfl ?_
    replace h := h _ rfl
    refine r_ii 85 ck rfl rfl rfl rfl ?_
    refine g_goto 63 ck rfl rfl ?_
    exact h _ hu1 _ hu2 _ hu4
def w234_24 (B : va_E) (σ : l2_m) (x1 : Int) (x2 : Int) (x3 : Int) (z0 : Int)  (K : Int → l2_m → Prop) : Prop := (rg z0 ∧ (if 0 < z0 then (∀ σ'''' : l2_m, σ'''' = trr σ z0 → K (-1) σ'''') else (wC B 227 [vr 186, vi x1] σ (fun _ σ' => (wC B 231 [vr 186, vi x2] σ' (fun y σ'' => (rg y ∧ (if y = 0 then (∀ σ''' : l2_m, σ''' = trr σ'' 3 → K (-1) σ''') else w234_63 B σ'' x3 0 0 K))))))))
theorem o234_24 {B : va_E} {σ : l2_m} {x1 : Int} {x2 : Int} {x3 : Int} {z0 : Int} {u4 : Value} {u5 : Value} {u6 : Value}  {K : Int → l2_m → Prop}  (hu4 : (u4.category == 1) = true) (hu5 : (u5.category == 1) = true) (hu6 : (u6.category == 1) = true)  (h : w234_24 B σ x1 x2 x3 z0  K) : wW B 234 24 [vr 186, vi x1, vi x2, vi x3, u4, u5, u6] [vi z0] σ K := by
  have ck : pm_code 234 = pc_234 := rfl
  unfold w234_24 at h
  obtain ⟨hs1, h⟩ := h
  refine r_is 26 ck rfl rfl rfl rfl ?_
  refine g_il 28 ck rfl rfl rfl ?_
  refine g_ifle 31 38 ck rfl rfl rfl hs1 (fun hc => ?_) (fun hc => ?_)
  · replace h := ite_hf h (Int.not_lt.mpr hc)
    refine g_al 39 ck rfl rfl rfl ?_
    refine g_il 40 ck rfl rfl rfl ?_
    refine g_cvv (as := [_]) (rest := []) 43 ck rfl rfl rfl rfl rfl rfl rfl rfl rfl rfl (Nat.le_of_ble_eq_true rfl) (wC.mono h (fun _ σ' h => ?_))
    refine g_al 44 ck rfl rfl rfl ?_
    refine g_il 45 ck rfl rfl rfl ?_
    refine g_cvi (as := [_]) (rest := []) 48 ck rfl rfl rfl rfl rfl rfl (by decide) rfl rfl rfl rfl (Nat.le_of_ble_eq_true rfl) (wC.mono h (fun y σ'' h => ?_))
    obtain ⟨hs2, h⟩ := h
    refine g_ifne 51 57 ck rfl rfl rfl hs2 (fun hc => ?_) (fun hc => ?_)
    · replace h := ite_hf h hc
      refine g_ic 58 ck rfl rfl ?_
      refine r_is 60 ck rfl rfl rfl rfl ?_
      refine g_ic 61 ck rfl rfl ?_
      refine r_is 63 ck rfl rfl rfl rfl ?_
      exact o234_63 rfl rfl rfl h
    · replace h := ite_ht h (Classical.not_not.mp hc)
      refine g_al 52 ck rfl rfl rfl ?_
      refine g_ic 53 ck rfl rfl ?_
      refine g_cvi (as := [_]) (rest := []) 56 ck rfl rfl rfl rfl rfl rfl (by decide) rfl rfl rfl rfl (Nat.le_of_ble_eq_true rfl) (s168  ?_)
      replace h := h _ rfl
      exact g_ret ck rfl rfl (Or.inl (by decide)) h
  · replace h := ite_ht h (Int.not_le.mp hc)
    refine g_al 32 ck rfl rfl rfl ?_
    refine g_il 34 ck rfl rfl rfl ?_
    refine g_cvi (as := [_]) (rest := []) 37 ck rfl rfl rfl rfl rfl rfl (by decide) rfl rfl rfl rfl (Nat.le_of_ble_eq_true rfl) (s168  ?_)
    replace h := h _ rfl
    exact g_ret ck rfl rfl (Or.inl (by decide)) h
def w234 (B : va_E) (σ : l2_m) (x1 : Int) (x2 : Int) (x3 : Int) (K : Int → l2_m → Prop) : Prop := (∀ σ' : l2_m, σ' = l2_u σ 186 0 0 → rg x3 ∧ (if 0 ≤ x3 ∧ x3 ≤ 3 then (wC B 233 [vr 186, vi x1, vi x2] σ' (fun y σ'' => w234_24 B σ'' x1 x2 x3 y K)) else w234_24 B σ' x1 x2 x3 1 K))
theorem o234 {B : va_E} {σ : l2_m} {x1 : Int} {x2 : Int} {x3 : Int} {K : Int → l2_m → Prop}   (h : w234 B σ x1 x2 x3  K) : wC B 234 [vr 186, vi x1, vi x2, vi x3] σ K := by
  have ck : pm_code 234 = pc_234 := rfl
  unfold w234 at h
  show wW B 234 0 [vr 186, vi x1, vi x2, vi x3, pm_un, pm_un, pm_un] [] σ K
  refine g_al 1 ck rfl rfl rfl ?_
  refine g_ic 2 ck rfl rfl ?_
  refine g_pfi 5 ck rfl rfl rfl 0 rfl rfl ?_
  replace h := h _ rfl
  obtain ⟨hs1, h⟩ := h
  refine g_il 6 ck rfl rfl rfl ?_
  refine g_ic 7 ck rfl rfl ?_
  refine g_ic 8 ck rfl rfl ?_
  refine g_csi (as := [_, _, _]) (rest := []) 11 ck rfl rfl rfl rfl rfl (by decide) rfl rfl rfl (Nat.le_of_ble_eq_true rfl) (s170 hs1 (by decide) (by decide) ?_)
  refine g_ifne 14 18 ck rfl rfl rfl rg_b2i (fun hc => ?_) (fun hc => ?_)
  · replace h := ite_ht h (b2i_t hc)
    refine g_al 19 ck rfl rfl rfl ?_
    refine g_il 20 ck rfl rfl rfl ?_
    refine g_il 21 ck rfl rfl rfl ?_
    refine g_cvi (as := [_, _]) (rest := []) 24 ck rfl rfl rfl rfl rfl rfl (by decide) rfl rfl rfl rfl (Nat.le_of_ble_eq_true rfl) (wC.mono h (fun y σ'' h => ?_))
    exact o234_24 rfl rfl rfl h
  · replace h := ite_hf h (b2i_f (Classical.not_not.mp hc))
    refine g_ic 15 ck rfl rfl ?_
    refine g_goto 24 ck rfl rfl ?_
    exact o234_24 rfl rfl rfl h
/-! 235 TermDeskModel.divides(II)I -/
def w235 (B : va_E) (σ : l2_m) (x1 : Int) (x2 : Int) (K : Int → l2_m → Prop) : Prop := (∀ σ' : l2_m, σ' = l2_u σ 186 0 0 → (rg x1 ∧ ((σ' 186 14) = 0 ∨ (σ' 186 14) = 1)) ∧ (if (σ' 186 14) = 1 ∧ 0 ≤ x1 ∧ x1 < 8 then (rg x2 ∧ (if (σ' 186 14) = 1 ∧ 0 ≤ x2 ∧ x2 < 8 then ((0 ≤ x1 ∧ x1 < 8 ∧ (∀ j : Int, 0 ≤ j → j < 4096 → rg (σ' 187 (4096 * x1 + j)))) ∧ (if (cnt (fun k => σ' 187 (4096 * x1 + k)) 4096) = 0 then (∀ σ'''''''' : l2_m, σ'''''''' = trr σ' 5 → K (-1) σ'''''''') else (wC B 227 [vr 186, vi x2] σ' (fun _ σ''' => ((0 ≤ x1 ∧ x1 < 32) ∧ (wC B 231 [vr 186, vi ((1 : Int) * 2 ^ (Int.toNat x1))] σ''' (fun y σ'''' => (rg y ∧ (if y = 0 then (∀ σ''''' : l2_m, σ''''' = trr σ'''' 3 → K (-1) σ''''') else (rg (σ'''' 186 37) ∧ (if (σ'''' 186 37) = 0 then (∀ σ''''''' : l2_m, σ''''''' = trr σ'''' 0 → K 1 σ''''''') else (∀ σ'''''' : l2_m, σ'''''' = trr σ'''' 0 → K 0 σ'''''')))))))))))) else (∀ σ''''''''' : l2_m, σ''''''''' = trr σ' 1 → K (-1) σ'''''''''))) else (∀ σ'' : l2_m, σ'' = trr σ' 1 → K (-1) σ'')))
theorem o235 {B : va_E} {σ : l2_m} {x1 : Int} {x2 : Int} {K : Int → l2_m → Prop}   (h : w235 B σ x1 x2  K) : wC B 235 [vr 186, vi x1, vi x2] σ K := by
  have ck : pm_code 235 = pc_235 := rfl
  unfold w235 at h
  show wW B 235 0 [vr 186, vi x1, vi x2] [] σ K
  refine g_al 1 ck rfl rfl rfl ?_
  refine g_ic 2 ck rfl rfl ?_
  refine g_pfi 5 ck rfl rfl rfl 0 rfl rfl ?_
  replace h := h _ rfl
  obtain ⟨⟨hs1, hs2⟩, h⟩ := h
  refine g_al 6 ck rfl rfl rfl ?_
  refine g_il 7 ck rfl rfl rfl ?_
  refine g_cvi (as := [_]) (rest := []) 10 ck rfl rfl rfl rfl rfl rfl (by decide) rfl rfl rfl rfl (Nat.le_of_ble_eq_true rfl) (s197 hs1 hs2 ?_)
  refine g_ifeq 13 21 ck rfl rfl rfl rg_b2i (fun hc => ?_) (fun hc => ?_)
  · replace h := ite_hf h (b2i_f hc)
    refine g_al 22 ck rfl rfl rfl ?_
    refine g_ic 23 ck rfl rfl ?_
    refine g_cvi (as := [_]) (rest := []) 26 ck rfl rfl rfl rfl rfl rfl (by decide) rfl rfl rfl rfl (Nat.le_of_ble_eq_true rfl) (s168  ?_)
    replace h := h _ rfl
    exact g_ret ck rfl rfl (Or.inl (by decide)) h
  · replace h := ite_ht h (b2i_t hc)
    obtain ⟨hs3, h⟩ := h
    refine g_al 14 ck rfl rfl rfl ?_
    refine g_il 15 ck rfl rfl rfl ?_
    refine g_cvi (as := [_]) (rest := []) 18 ck rfl rfl rfl rfl rfl rfl (by decide) rfl rfl rfl rfl (Nat.le_of_ble_eq_true rfl) (s197 hs3 hs2 ?_)
    refine g_ifne 21 27 ck rfl rfl rfl rg_b2i (fun hc => ?_) (fun hc => ?_)
    · replace h := ite_ht h (b2i_t hc)
      obtain ⟨⟨hs4, hs5, hs6⟩, h⟩ := h
      refine g_al 28 ck rfl rfl rfl ?_
      refine g_il 29 ck rfl rfl rfl ?_
      refine g_cvi (as := [_]) (rest := []) 32 ck rfl rfl rfl rfl rfl rfl (by decide) rfl rfl rfl rfl (Nat.le_of_ble_eq_true rfl) (s203 hs4 hs5 hs6 ?_)
      refine g_ifeq 35 41 ck rfl rfl rfl rg_b2i (fun hc => ?_) (fun hc => ?_)
      · replace h := ite_hf h (b2i_f hc)
        refine g_al 42 ck rfl rfl rfl ?_
        refine g_il 43 ck rfl rfl rfl ?_
        refine g_cvv (as := [_]) (rest := []) 46 ck rfl rfl rfl rfl rfl rfl rfl rfl rfl rfl (Nat.le_of_ble_eq_true rfl) (wC.mono h (fun _ σ''' h => ?_))
        obtain ⟨⟨hs7, hs8⟩, h⟩ := h
        refine g_al 47 ck rfl rfl rfl ?_
        refine g_ic 48 ck rfl rfl ?_
        refine g_il 49 ck rfl rfl rfl ?_
        refine g_shl 50 ck rfl rfl hs7 hs8 ?_
        refine g_cvi (as := [_]) (rest := []) 53 ck rfl rfl rfl rfl rfl rfl (by decide) rfl rfl rfl rfl (Nat.le_of_ble_eq_true rfl) (wC.mono h (fun y σ'''' h => ?_))
        obtain ⟨hs9, h⟩ := h
        refine g_ifeq 56 75 ck rfl rfl rfl hs9 (fun hc => ?_) (fun hc => ?_)
        · replace h := ite_ht h hc
          refine g_al 76 ck rfl rfl rfl ?_
          refine g_ic 77 ck rfl rfl ?_
          refine g_cvi (as := [_]) (rest := []) 80 ck rfl rfl rfl rfl rfl rfl (by decide) rfl rfl rfl rfl (Nat.le_of_ble_eq_true rfl) (s168  ?_)
          replace h := h _ rfl
          exact g_ret ck rfl rfl (Or.inl (by decide)) h
        · replace h := ite_hf h hc
          obtain ⟨hs10, h⟩ := h
          refine g_al 57 ck rfl rfl rfl ?_
          refine g_al 58 ck rfl rfl rfl ?_
          refine r_gfi 61 37 ck rfl rfl rfl rfl ?_
          refine g_ifne 64 68 ck rfl rfl rfl hs10 (fun hc => ?_) (fun hc => ?_)
          · replace h := ite_hf h hc
            refine g_ic 69 ck rfl rfl ?_
            refine g_cvi (as := [_]) (rest := []) 72 ck rfl rfl rfl rfl rfl rfl (by decide) rfl rfl rfl rfl (Nat.le_of_ble_eq_true rfl) (s169  ?_)
            replace h := h _ rfl
            refine g_goto 80 ck rfl rfl ?_
            exact g_ret ck rfl rfl (Or.inl (by decide)) h
          · replace h := ite_ht h (Classical.not_not.mp hc)
            refine g_ic 65 ck rfl rfl ?_
            refine g_goto 69 ck rfl rfl ?_
            refine g_cvi (as := [_]) (rest := []) 72 ck rfl rfl rfl rfl rfl rfl (by decide) rfl rfl rfl rfl (Nat.le_of_ble_eq_true rfl) (s169  ?_)
            replace h := h _ rfl
            refine g_goto 80 ck rfl rfl ?_
            exact g_ret ck rfl rfl (Or.inl (by decide)) h
      · replace h := ite_ht h (b2i_t hc)
        refine g_al 36 ck rfl rfl rfl ?_
        refine g_ic 37 ck rfl rfl ?_
        refine g_cvi (as := [_]) (rest := []) 40 ck rfl rfl rfl rfl rfl rfl (by decide) rfl rfl rfl rfl (Nat.le_of_ble_eq_true rfl) (s168  ?_)
        replace h := h _ rfl
        exact g_ret ck rfl rfl (Or.inl (by decide)) h
    · replace h := ite_hf h (b2i_f (Classical.not_not.mp hc))
      refine g_al 22 ck rfl rfl rfl ?_
      refine g_ic 23 ck rfl rfl ?_
      refine g_cvi (as := [_]) (rest := []) 26 ck rfl rfl rfl rfl rfl rfl (by decide) rfl rfl rfl rfl (Nat.le_of_ble_eq_true rfl) (s168  ?_)
      replace h := h _ rfl
      exact g_ret ck rfl rfl (Or.inl (by decide)) h
/-! 236 TermDeskModel.laysPair(II)Z -/
def w236_57 (B : va_E) (σ : l2_m) (x1 : Int) (x2 : Int) (x3 : Int) (x4 : Int) (x5 : Int) (x6 : Int) (z0 : Int) (X19 : Int → Int → Prop) (K : Int → l2_m → Prop) : Prop := ((0 ≤ (4 * x6) ∧ (4 * x6) < 32 ∧ 0 ≤ x5 ∧ 0 ≤ (z0 * 2 ^ (Int.toNat (4 * x6))) ∧ x5 < 2147483648 ∧ (z0 * 2 ^ (Int.toNat (4 * x6))) < 2147483648) ∧ ∀ x5' : Int, x5' = (ior x5 (z0 * 2 ^ (Int.toNat (4 * x6)))) → X19 x5' (x6 + 1))
theorem o236_57 {B : va_E} {σ : l2_m} {x1 : Int} {x2 : Int} {x3 : Int} {x4 : Int} {x5 : Int} {x6 : Int} {z0 : Int} {u7 : Value} {X19 : Int → Int → Prop} {K : Int → l2_m → Prop}  (hu7 : (u7.category == 1) = true) (hX19 : ∀ (x5 : Int) (x6 : Int) (u7 : Value), (u7.category == 1) = true → X19 x5 x6 → wW B 236 19 [vr 186, vi x1, vi x2, vi x3, vi x4, vi x5, vi x6, u7] [] σ K) (h : w236_57 B σ x1 x2 x3 x4 x5 x6 z0 X19 K) : wW B 236 57 [vr 186, vi x1, vi x2, vi x3, vi x4, vi x5, vi x6, u7] [vi z0] σ K := by
  have ck : pm_code 236 = pc_236 := rfl
  unfold w236_57 at h
  obtain ⟨⟨hs1, hs2, hs3, hs4, hs5, hs6⟩, h⟩ := h
  refine r_is 59 ck rfl rfl rfl rfl ?_
  refine g_il 61 ck rfl rfl rfl ?_
  refine g_il 63 ck rfl rfl rfl ?_
  refine g_ic 64 ck rfl rfl ?_
  refine g_il 66 ck rfl rfl rfl ?_
  refine g_mul 67 ck rfl rfl ?_
  refine g_shl 68 ck rfl rfl hs1 hs2 ?_
  refine g_or 69 ck rfl rfl hs3 hs4 hs5 hs6 ?_
  refine r_is 71 ck rfl rfl rfl rfl ?_
  replace h := h _ rfl
  refine r_ii 74 ck rfl rfl rfl rfl ?_
  refine g_goto 19 ck rfl rfl ?_
  exact hX19 _ _ _ rfl h
def w236_19 (B : va_E) (σ : l2_m) (x1 : Int) (x2 : Int) (x3 : Int) (x4 : Int) (x5 : Int) (x6 : Int)  (K : Int → l2_m → Prop) : Prop := lz2 (fun X19 x5 x6 => (rg x6 ∧ (if x6 < 3 then ((rg x3 ∧ 0 ≤ x6 ∧ x6 < 3 ∧ rg x4) ∧ (if (e4 x4 x6) < (e4 x3 x6) then w236_57 B σ x1 x2 x3 x4 x5 x6 (e4 x3 x6) X19 K else w236_57 B σ x1 x2 x3 x4 x5 x6 (e4 x4 x6) X19 K)) else (∀ σ' : l2_m, σ' = l2_u (fil σ 192 0 4096) 186 29 1 → (0 ≤ x1 ∧ x1 < 8 ∧ 0 ≤ x3 ∧ x3 < 4096) ∧ (wC B 226 [vr 186, vi (σ' 187 (4096 * x1 + x3))] σ' (fun y σ'' => (wC B 224 [vr 186, vi x1, vi y, vi (x5 - x3)] σ'' (fun _ σ''' => ((0 ≤ x2 ∧ x2 < 8 ∧ 0 ≤ x4 ∧ x4 < 4096) ∧ (wC B 226 [vr 186, vi (σ''' 187 (4096 * x2 + x4))] σ''' (fun y' σ'''' => (wC B 224 [vr 186, vi x2, vi ((σ''' 186 5) - y'), vi (x5 - x4)] σ'''' (fun _ σ''''' => (rg (σ''''' 186 29) ∧ ((¬ ((σ''''' 186 29) = 0) → (∀ j : Int, 0 ≤ j → j < 4096 → rg (σ''''' 192 j)) ∧ rg (cnt (σ''''' 192) 4096)) ∧ (if ((σ''''' 186 29) = 0) ∨ 60 < (cnt (σ''''' 192) 4096) then K 0 σ''''' else K 1 σ''''')))))))))))))))) x5 x6
theorem o236_19 {B : va_E} {σ : l2_m} {x1 : Int} {x2 : Int} {x3 : Int} {x4 : Int} {x5 : Int} {x6 : Int} {u7 : Value}  {K : Int → l2_m → Prop}  (hu7 : (u7.category == 1) = true)  (h : w236_19 B σ x1 x2 x3 x4 x5 x6  K) : wW B 236 19 [vr 186, vi x1, vi x2, vi x3, vi x4, vi x5, vi x6, u7] [] σ K := by
  have ck : pm_code 236 = pc_236 := rfl
  unfold w236_19 at h
  refine h (fun x5 x6 => ∀ u7 : Value, (u7.category == 1) = true → wW B 236 19 [vr 186, vi x1, vi x2, vi x3, vi x4, vi x5, vi x6, u7] [] σ K) ?_ u7 hu7
  clear h
  intro x5 x6 h u7 hu7
  replace h := (And.imp_right (ite_mp id (fun h x e => (And.imp_right (fun h => wC.mono h (fun _ _ => (fun h => wC.mono h (fun _ _ => (And.imp_right (fun h => wC.mono h (fun _ _ => (fun h => wC.mono h (fun _ _ => (And.imp_right mg_1s))))))))))) (h x e)))) h
  obtain ⟨hs1, h⟩ := h
  refine g_il 21 ck rfl rfl rfl ?_
  refine g_ic 22 ck rfl rfl ?_
  refine g_icge 25 77 ck rfl rfl rfl hs1 (by decide) (fun hc => ?_) (fun hc => ?_)
  · replace h := ite_hf h (Int.not_lt.mpr hc)
    refine g_al 78 ck rfl rfl rfl ?_
    refine g_cvv (as := []) (rest := []) 81 ck rfl rfl rfl rfl rfl rfl rfl rfl rfl rfl (Nat.le_of_ble_eq_true rfl) (s222  ?_)
    replace h := h _ rfl
    obtain ⟨⟨hs2, hs3, hs4, hs5⟩, h⟩ := h
    refine g_al 82 ck rfl rfl rfl ?_
    refine g_il 83 ck rfl rfl rfl ?_
    refine g_al 84 ck rfl rfl rfl ?_
    refine g_al 85 ck rfl rfl rfl ?_
    refine g_il 86 ck rfl rfl rfl ?_
    refine g_il 87 ck rfl rfl rfl ?_
    refine g_cvi (as := [_, _]) (rest := [_, _, _]) 90 ck rfl rfl rfl rfl rfl rfl (by decide) rfl rfl rfl rfl (Nat.le_of_ble_eq_true rfl) (s201 hs2 hs3 hs4 hs5 ?_)
    refine g_cvi (as := [_]) (rest := [_, _]) 93 ck rfl rfl rfl rfl rfl rfl (by decide) rfl rfl rfl rfl (Nat.le_of_ble_eq_true rfl) (wC.mono h (fun y σ'' h => ?_))
    refine g_il 95 ck rfl rfl rfl ?_
    refine g_il 96 ck rfl rfl rfl ?_
    refine g_sub 97 ck rfl rfl ?_
    refine g_cvv (as := [_, _, _]) (rest := []) 100 ck rfl rfl rfl rfl rfl rfl rfl rfl rfl rfl (Nat.le_of_ble_eq_true rfl) (wC.mono h (fun _ σ''' h => ?_))
    obtain ⟨⟨hs6, hs7, hs8, hs9⟩, h⟩ := h
    refine g_al 101 ck rfl rfl rfl ?_
    refine g_il 102 ck rfl rfl rfl ?_
    refine g_al 103 ck rfl rfl rfl ?_
    refine r_gfi 106 5 ck rfl rfl rfl rfl ?_
    refine g_al 107 ck rfl rfl rfl ?_
    refine g_al 108 ck rfl rfl rfl ?_
    refine g_il 109 ck rfl rfl rfl ?_
    refine g_il 111 ck rfl rfl rfl ?_
    refine g_cvi (as := [_, _]) (rest := [_, _, _, _]) 114 ck rfl rfl rfl rfl rfl rfl (by decide) rfl rfl rfl rfl (Nat.le_of_ble_eq_true rfl) (s201 hs6 hs7 hs8 hs9 ?_)
    refine g_cvi (as := [_]) (rest := [_, _, _]) 117 ck rfl rfl rfl rfl rfl rfl (by decide) rfl rfl rfl rfl (Nat.le_of_ble_eq_true rfl) (wC.mono h (fun y' σ'''' h => ?_))
    refine g_sub 118 ck rfl rfl ?_
    refine g_il 120 ck rfl rfl rfl ?_
    refine g_il 122 ck rfl rfl rfl ?_
    refine g_sub 123 ck rfl rfl ?_
    refine g_cvv (as := [_, _, _]) (rest := []) 126 ck rfl rfl rfl rfl rfl rfl rfl rfl rfl rfl (Nat.le_of_ble_eq_true rfl) (wC.mono h (fun _ σ''''' h => ?_))
    obtain ⟨hs10, h⟩ := h
    refine g_al 127 ck rfl rfl rfl ?_
    refine r_gfi 130 29 ck rfl rfl rfl rfl ?_
    refine g_ifeq 133 146 ck rfl rfl rfl hs10 (fun hc => ?_) (fun hc => ?_)
    · replace h := ite_ht h hc
      refine g_ic 147 ck rfl rfl ?_
      exact g_retb ck rfl rfl (Or.inl rfl) h
    · replace h := ite_hf h hc
      obtain ⟨⟨hs11, hs12⟩, h⟩ := h
      refine g_al 134 ck rfl rfl rfl ?_
      refine g_cvi (as := []) (rest := []) 137 ck rfl rfl rfl rfl rfl rfl (by decide) rfl rfl rfl rfl (Nat.le_of_ble_eq_true rfl) (s223 hs11 ?_)
      refine g_ic 139 ck rfl rfl ?_
      refine g_icgt 142 146 ck rfl rfl rfl hs12 (by decide) (fun hc => ?_) (fun hc => ?_)
      · replace h := ite_ht h hc
        refine g_ic 147 ck rfl rfl ?_
        exact g_retb ck rfl rfl (Or.inl rfl) h
      · replace h := ite_hf h hc
        refine g_ic 143 ck rfl rfl ?_
        refine g_goto 147 ck rfl rfl ?_
        exact g_retb ck rfl rfl (Or.inr rfl) h
  · replace h := ite_ht h (Int.not_le.mp hc)
    obtain ⟨⟨hs13, hs14, hs15, hs16⟩, h⟩ := h
    refine g_il 26 ck rfl rfl rfl ?_
    refine g_il 28 ck rfl rfl rfl ?_
    refine g_csi (as := [_, _]) (rest := []) 31 ck rfl rfl rfl rfl rfl (by decide) rfl rfl rfl (Nat.le_of_ble_eq_true rfl) (s171 hs13 hs14 hs15 ?_)
    refine g_il 33 ck rfl rfl rfl ?_
    refine g_il 35 ck rfl rfl rfl ?_
    refine g_csi (as := [_, _]) (rest := [_]) 38 ck rfl rfl rfl rfl rfl (by decide) rfl rfl rfl (Nat.le_of_ble_eq_true rfl) (s171 hs16 hs14 hs15 ?_)
    refine g_icle 41 50 ck rfl rfl rfl (rg_e4 _ _) (rg_e4 _ _) (fun hc => ?_) (fun hc => ?_)
    · replace h := ite_hf h (Int.not_lt.mpr hc)
      refine g_il 52 ck rfl rfl rfl ?_
      refine g_il 54 ck rfl rfl rfl ?_
      refine g_csi (as := [_, _]) (rest := []) 57 ck rfl rfl rfl rfl rfl (by decide) rfl rfl rfl (Nat.le_of_ble_eq_true rfl) (s171 hs16 hs14 hs15 ?_)
      exact o236_57 hu7 (fun _ _ u7 hu7 hx => hx u7 hu7) h
    · replace h := ite_ht h (Int.not_le.mp hc)
      refine g_il 42 ck rfl rfl rfl ?_
      refine g_il 44 ck rfl rfl rfl ?_
      refine g_csi (as := [_, _]) (rest := []) 47 ck rfl rfl rfl rfl rfl (by decide) rfl rfl rfl (Nat.le_of_ble_eq_true rfl) (s171 hs13 hs14 hs15 ?_)
      refine g_goto 57 ck rfl rfl ?_
      exact o236_57 hu7 (fun _ _ u7 hu7 hx => hx u7 hu7) h
def w236 (B : va_E) (σ : l2_m) (x1 : Int) (x2 : Int) (K : Int → l2_m → Prop) : Prop := (wC B 204 [vr 186, vi x1] σ (fun y σ' => (wC B 204 [vr 186, vi x2] σ' (fun y' σ'' => w236_19 B σ'' x1 x2 y y' 0 0 K))))
theorem o236 {B : va_E} {σ : l2_m} {x1 : Int} {x2 : Int} {K : Int → l2_m → Prop}   (h : w236 B σ x1 x2  K) : wC B 236 [vr 186, vi x1, vi x2] σ K := by
  have ck : pm_code 236 = pc_236 := rfl
  unfold w236 at h
  show wW B 236 0 [vr 186, vi x1, vi x2, pm_un, pm_un, pm_un, pm_un, pm_un] [] σ K
  refine g_al 1 ck rfl rfl rfl ?_
  refine g_il 2 ck rfl rfl rfl ?_
  refine g_cvi (as := [_]) (rest := []) 5 ck rfl rfl rfl rfl rfl rfl (by decide) rfl rfl rfl rfl (Nat.le_of_ble_eq_true rfl) (wC.mono h (fun y σ' h => ?_))
  refine r_is 6 ck rfl rfl rfl rfl ?_
  refine g_al 7 ck rfl rfl rfl ?_
  refine g_il 8 ck rfl rfl rfl ?_
  refine g_cvi (as := [_]) (rest := []) 11 ck rfl rfl rfl rfl rfl rfl (by decide) rfl rfl rfl rfl (Nat.le_of_ble_eq_true rfl) (wC.mono h (fun y' σ'' h => ?_))
  refine r_is 13 ck rfl rfl rfl rfl ?_
  refine g_ic 14 ck rfl rfl ?_
  refine r_is 16 ck rfl rfl rfl rfl ?_
  refine g_ic 17 ck rfl rfl ?_
  refine r_is 19 ck rfl rfl rfl rfl ?_
  exact o236_19 rfl h
/-! 237 TermDeskModel.firstMissing(II)I -/
def w237_2 (B : va_E) (σ : l2_m) (x1 : Int) (x3 : Int)  (K : Int → l2_m → Prop) : Prop := lz2 (fun X2 x3 σ => (rg x3 ∧ (if x3 < 64 then (0 ≤ x3 ∧ ∀ x4 : Int, x4 = (x3 / 8) → ∀ x5 : Int, x5 = (x3 % 8) → rg x4 ∧ (if x4 < x5 then ((rg x1 ∧ 0 ≤ x4 ∧ x4 < 32) ∧ ((¬ (((x1 / 2 ^ (Int.toNat x4)) % 2) = 0) → 0 ≤ x5 ∧ x5 < 32) ∧ (if (((x1 / 2 ^ (Int.toNat x4)) % 2) = 0) ∨ (((x1 / 2 ^ (Int.toNat x5)) % 2) = 0) then X2 (x3 + 1) σ else (wC B 236 [vr 186, vi x4, vi x5] σ (fun y σ' => (rg y ∧ (if y = 0 then K (-3) σ' else (wC B 231 [vr 186, vi x1] σ' (fun y' σ'' => (rg y' ∧ (if y' = 0 then K (-3) σ'' else (rg (σ'' 186 37) ∧ (if 0 < (σ'' 186 37) then K x3 σ'' else X2 (x3 + 1) σ''))))))))))))) else X2 (x3 + 1) σ)) else K (-1) σ))) x3 σ
theorem o237_2 {B : va_E} {σ : l2_m} {x1 : Int} {x3 : Int} {u2 : Value} {u4 : Value} {u5 : Value}  {K : Int → l2_m → Prop}  (hu2 : (u2.category == 1) = true) (hu4 : (u4.category == 1) = true) (hu5 : (u5.category == 1) = true)  (h : w237_2 B σ x1 x3  K) : wW B 237 2 [vr 186, vi x1, u2, vi x3, u4, u5] [] σ K := by
  have ck : pm_code 237 = pc_237 := rfl
  unfold w237_2 at h
  refine h (fun x3 σ => ∀ u2 : Value, (u2.category == 1) = true → ∀ u4 : Value, (u4.category == 1) = true → ∀ u5 : Value, (u5.category == 1) = true → wW B 237 2 [vr 186, vi x1, u2, vi x3, u4, u5] [] σ K) ?_ u2 hu2 u4 hu4 u5 hu5
  clear h
  intro x3 σ h u2 hu2 u4 hu4 u5 hu5
  replace h := (And.imp_right (ite_mp (And.imp_right (fun h x e => (fun h x e => (And.imp_right (ite_mp (And.imp_right mg_1s) id)) (h x e)) (h x e))) id)) h
  obtain ⟨hs1, h⟩ := h
  refine g_il 3 ck rfl rfl rfl ?_
  refine g_ic 5 ck rfl rfl ?_
  refine g_icge 8 85 ck rfl rfl rfl hs1 (by decide) (fun hc => ?_) (fun hc => ?_)
  · replace h := ite_hf h (Int.not_lt.mpr hc)
    refine g_ic 86 ck rfl rfl ?_
    exact g_ret ck rfl rfl (Or.inl (by decide)) h
  · replace h := ite_ht h (Int.not_le.mp hc)
    obtain ⟨hs2, h⟩ := h
    refine g_il 9 ck rfl rfl rfl ?_
    refine g_ic 11 ck rfl rfl ?_
    refine g_div 12 ck rfl rfl hs1 (by decide) hs2 (by decide) ?_
    refine r_is 14 ck rfl rfl rfl rfl ?_
    replace h := h _ rfl
    refine g_il 15 ck rfl rfl rfl ?_
    refine g_ic 17 ck rfl rfl ?_
    refine g_rem 18 ck rfl rfl hs1 (by decide) hs2 (by decide) ?_
    refine r_is 20 ck rfl rfl rfl rfl ?_
    replace h := h _ rfl
    obtain ⟨hs3, h⟩ := h
    refine g_il 22 ck rfl rfl rfl ?_
    refine g_il 24 ck rfl rfl rfl ?_
    refine g_icge 27 79 ck rfl rfl rfl hs3 (rg_mod _ (by decide) (by decide)) (fun hc => ?_) (fun hc => ?_)
    · replace h := ite_hf h (Int.not_lt.mpr hc)
      refine r_ii 82 ck rfl rfl hu2 rfl ?_
      refine g_goto 2 ck rfl rfl ?_
      exact h _ hu2 _ rfl _ rfl
    · replace h := ite_ht h (Int.not_le.mp hc)
      obtain ⟨⟨hs4, hs5, hs6⟩, h⟩ := h
      refine g_il 28 ck rfl rfl rfl ?_
      refine g_il 30 ck rfl rfl rfl ?_
      refine g_shr 31 ck rfl rfl hs4 hs5 hs6 ?_
      refine g_ic 32 ck rfl rfl ?_
      refine r_andk 2 1 33 ck rfl rfl (by decide) (by decide) (by decide) ?_
      refine g_ifeq 36 79 ck rfl rfl rfl (rg_mod _ (by decide) (by decide)) (fun hc => ?_) (fun hc => ?_)
      · replace h := ite_ht h hc
        refine r_ii 82 ck rfl rfl hu2 rfl ?_
        refine g_goto 2 ck rfl rfl ?_
        exact h _ hu2 _ rfl _ rfl
      · replace h := ite_hf h hc
        obtain ⟨⟨hs7, hs8⟩, h⟩ := h
        refine g_il 37 ck rfl rfl rfl ?_
        refine g_il 39 ck rfl rfl rfl ?_
        refine g_shr 40 ck rfl rfl hs4 hs7 hs8 ?_
        refine g_ic 41 ck rfl rfl ?_
        refine r_andk 2 1 42 ck rfl rfl (by decide) (by decide) (by decide) ?_
        refine g_ifne 45 48 ck rfl rfl rfl (rg_mod _ (by decide) (by decide)) (fun hc => ?_) (fun hc => ?_)
        · replace h := ite_hf h hc
          refine g_al 49 ck rfl rfl rfl ?_
          refine g_il 51 ck rfl rfl rfl ?_
          refine g_il 53 ck rfl rfl rfl ?_
          refine g_cvi (as := [_, _]) (rest := []) 56 ck rfl rfl rfl rfl rfl rfl (by decide) rfl rfl rfl rfl (Nat.le_of_ble_eq_true rfl) (wC.mono h (fun y σ' h => ?_))
          obtain ⟨hs9, h⟩ := h
          refine g_ifeq 59 67 ck rfl rfl rfl hs9 (fun hc => ?_) (fun hc => ?_)
          · replace h := ite_ht h hc
            refine g_ic 69 ck rfl rfl ?_
            exact g_ret ck rfl rfl (Or.inl (by decide)) h
          · replace h := ite_hf h hc
            refine g_al 60 ck rfl rfl rfl ?_
            refine g_il 61 ck rfl rfl rfl ?_
            refine g_cvi (as := [_]) (rest := []) 64 ck rfl rfl rfl rfl rfl rfl (by decide) rfl rfl rfl rfl (Nat.le_of_ble_eq_true rfl) (wC.mono h (fun y' σ'' h => ?_))
            obtain ⟨hs10, h⟩ := h
            refine g_ifne 67 70 ck rfl rfl rfl hs10 (fun hc => ?_) (fun hc => ?_)
            · replace h := ite_hf h hc
              obtain ⟨hs11, h⟩ := h
              refine g_al 71 ck rfl rfl rfl ?_
              refine r_gfi 74 37 ck rfl rfl rfl rfl ?_
              refine g_ifle 77 79 ck rfl rfl rfl hs11 (fun hc => ?_) (fun hc => ?_)
              · replace h := ite_hf h (Int.not_lt.mpr hc)
                refine r_ii 82 ck rfl rfl hu2 rfl ?_
                refine g_goto 2 ck rfl rfl ?_
                exact h _ hu2 _ rfl _ rfl
              · replace h := ite_ht h (Int.not_le.mp hc)
                refine g_il 78 ck rfl rfl rfl ?_
                exact g_ret ck rfl rfl (Or.inl (by decide)) h
            · replace h := ite_ht h (Classical.not_not.mp hc)
              refine g_ic 69 ck rfl rfl ?_
              exact g_ret ck rfl rfl (Or.inl (by decide)) h
        · replace h := ite_ht h (Classical.not_not.mp hc)
          refine g_goto 79 ck rfl rfl ?_
          refine r_ii 82 ck rfl rfl hu2 rfl ?_
          refine g_goto 2 ck rfl rfl ?_
          exact h _ hu2 _ rfl _ rfl
def w237 (B : va_E) (σ : l2_m) (x1 : Int) (x2 : Int) (K : Int → l2_m → Prop) : Prop := w237_2 B σ x1 x2 K
theorem o237 {B : va_E} {σ : l2_m} {x1 : Int} {x2 : Int} {K : Int → l2_m → Prop}   (h : w237 B σ x1 x2  K) : wC B 237 [vr 186, vi x1, vi x2] σ K := by
  have ck : pm_code 237 = pc_237 := rfl
  unfold w237 at h
  show wW B 237 0 [vr 186, vi x1, vi x2, pm_un, pm_un, pm_un] [] σ K
  refine g_il 1 ck rfl rfl rfl ?_
  refine r_is 2 ck rfl rfl rfl rfl ?_
  exact o237_2 rfl rfl rfl h
/-! 238 TermDeskModel.missing(I)I -/
def w238_44 (B : va_E) (σ : l2_m) (x1 : Int) (x3 : Int) (x4 : Int)  (K : Int → l2_m → Prop) : Prop := lz3 (fun X44 x3 x4 σ => (rg x4 ∧ (if x4 < 0 then (if x4 = (-3) then (∀ σ'' : l2_m, σ'' = trr σ 3 → K (-1) σ'') else (∀ σ' : l2_m, σ' = trr σ 0 → K x3 σ')) else (wC B 237 [vr 186, vi x1, vi (x4 + 1)] σ (fun y σ''' => X44 (x3 + 1) y σ'''))))) x3 x4 σ
theorem o238_44 {B : va_E} {σ : l2_m} {x1 : Int} {x3 : Int} {x4 : Int} {u2 : Value}  {K : Int → l2_m → Prop}  (hu2 : (u2.category == 1) = true)  (h : w238_44 B σ x1 x3 x4  K) : wW B 238 44 [vr 186, vi x1, u2, vi x3, vi x4] [] σ K := by
  have ck : pm_code 238 = pc_238 := rfl
  unfold w238_44 at h
  refine h (fun x3 x4 σ => ∀ u2 : Value, (u2.category == 1) = true → wW B 238 44 [vr 186, vi x1, u2, vi x3, vi x4] [] σ K) ?_ u2 hu2
  clear h
  intro x3 x4 σ h u2 hu2
  obtain ⟨hs1, h⟩ := h
  refine g_il 46 ck rfl rfl rfl ?_
  refine g_iflt 49 66 ck rfl rfl rfl hs1 (fun hc => ?_) (fun hc => ?_)
  · replace h := ite_ht h hc
    refine g_il 68 ck rfl rfl rfl ?_
    refine g_ic 70 ck rfl rfl ?_
    refine g_icne 73 81 ck rfl rfl rfl hs1 (by decide) (fun hc => ?_) (fun hc => ?_)
    · replace h := ite_hf h hc
      refine g_al 82 ck rfl rfl rfl ?_
      refine g_il 83 ck rfl rfl rfl ?_
      refine g_cvi (as := [_]) (rest := []) 86 ck rfl rfl rfl rfl rfl rfl (by decide) rfl rfl rfl rfl (Nat.le_of_ble_eq_true rfl) (s169  ?_)
      replace h := h _ rfl
      exact g_ret ck rfl rfl (Or.inl (by decide)) h
    · replace h := ite_ht h (Classical.not_not.mp hc)
      refine g_al 74 ck rfl rfl rfl ?_
      refine g_ic 75 ck rfl rfl ?_
      refine g_cvi (as := [_]) (rest := []) 78 ck rfl rfl rfl rfl rfl rfl (by decide) rfl rfl rfl rfl (Nat.le_of_ble_eq_true rfl) (s168  ?_)
      replace h := h _ rfl
      refine g_goto 86 ck rfl rfl ?_
      exact g_ret ck rfl rfl (Or.inl (by decide)) h
  · replace h := ite_hf h hc
    refine r_ii 52 ck rfl rfl hu2 rfl ?_
    refine g_al 53 ck rfl rfl rfl ?_
    refine g_il 54 ck rfl rfl rfl ?_
    refine g_il 56 ck rfl rfl rfl ?_
    refine g_ic 57 ck rfl rfl ?_
    refine g_add 58 ck rfl rfl ?_
    refine g_cvi (as := [_, _]) (rest := []) 61 ck rfl rfl rfl rfl rfl rfl (by decide) rfl rfl rfl rfl (Nat.le_of_ble_eq_true rfl) (wC.mono h (fun y σ''' h => ?_))
    refine r_is 63 ck rfl rfl rfl rfl ?_
    refine g_goto 44 ck rfl rfl ?_
    exact h _ hu2
def w238 (B : va_E) (σ : l2_m) (x1 : Int) (K : Int → l2_m → Prop) : Prop := (∀ σ' : l2_m, σ' = l2_u σ 186 0 0 → rg (σ' 186 14) ∧ (if (σ' 186 14) = 0 then (∀ σ''''' : l2_m, σ''''' = trr σ' 1 → K (-1) σ''''') else (wC B 229 [vr 186, vi x1] σ' (fun y σ'' => (rg y ∧ (if 0 < y then (∀ σ'''' : l2_m, σ'''' = trr σ'' y → K (-1) σ'''') else (wC B 237 [vr 186, vi x1, vi 0] σ'' (fun y' σ''' => w238_44 B σ''' x1 0 y' K))))))))
theorem o238 {B : va_E} {σ : l2_m} {x1 : Int} {K : Int → l2_m → Prop}   (h : w238 B σ x1  K) : wC B 238 [vr 186, vi x1] σ K := by
  have ck : pm_code 238 = pc_238 := rfl
  unfold w238 at h
  show wW B 238 0 [vr 186, vi x1, pm_un, pm_un, pm_un] [] σ K
  refine g_al 1 ck rfl rfl rfl ?_
  refine g_ic 2 ck rfl rfl ?_
  refine g_pfi 5 ck rfl rfl rfl 0 rfl rfl ?_
  replace h := h _ rfl
  obtain ⟨hs1, h⟩ := h
  refine g_al 6 ck rfl rfl rfl ?_
  refine r_gfi 9 14 ck rfl rfl rfl rfl ?_
  refine g_ifne 12 18 ck rfl rfl rfl hs1 (fun hc => ?_) (fun hc => ?_)
  · replace h := ite_hf h hc
    refine g_al 19 ck rfl rfl rfl ?_
    refine g_il 20 ck rfl rfl rfl ?_
    refine g_cvi (as := [_]) (rest := []) 23 ck rfl rfl rfl rfl rfl rfl (by decide) rfl rfl rfl rfl (Nat.le_of_ble_eq_true rfl) (wC.mono h (fun y σ'' h => ?_))
    obtain ⟨hs2, h⟩ := h
    refine r_is 24 ck rfl rfl rfl rfl ?_
    refine g_il 25 ck rfl rfl rfl ?_
    refine g_ifle 28 34 ck rfl rfl rfl hs2 (fun hc => ?_) (fun hc => ?_)
    · replace h := ite_hf h (Int.not_lt.mpr hc)
      refine g_ic 35 ck rfl rfl ?_
      refine r_is 36 ck rfl rfl rfl rfl ?_
      refine g_al 37 ck rfl rfl rfl ?_
      refine g_il 38 ck rfl rfl rfl ?_
      refine g_ic 39 ck rfl rfl ?_
      refine g_cvi (as := [_, _]) (rest := []) 42 ck rfl rfl rfl rfl rfl rfl (by decide) rfl rfl rfl rfl (Nat.le_of_ble_eq_true rfl) (wC.mono h (fun y' σ''' h => ?_))
      refine r_is 44 ck rfl rfl rfl rfl ?_
      exact o238_44 rfl h
    · replace h := ite_ht h (Int.not_le.mp hc)
      refine g_al 29 ck rfl rfl rfl ?_
      refine g_il 30 ck rfl rfl rfl ?_
      refine g_cvi (as := [_]) (rest := []) 33 ck rfl rfl rfl rfl rfl rfl (by decide) rfl rfl rfl rfl (Nat.le_of_ble_eq_true rfl) (s168  ?_)
      replace h := h _ rfl
      exact g_ret ck rfl rfl (Or.inl (by decide)) h
  · replace h := ite_ht h (Classical.not_not.mp hc)
    refine g_al 13 ck rfl rfl rfl ?_
    refine g_ic 14 ck rfl rfl ?_
    refine g_cvi (as := [_]) (rest := []) 17 ck rfl rfl rfl rfl rfl rfl (by decide) rfl rfl rfl rfl (Nat.le_of_ble_eq_true rfl) (s168  ?_)
    replace h := h _ rfl
    exact g_ret ck rfl rfl (Or.inl (by decide)) h
