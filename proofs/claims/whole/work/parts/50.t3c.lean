/-! 93 TermDesk$Reader.read([II)Z -/
def w93_58 (B : va_E) (σ : l2_m) (x3 : Int)  (K : Int → l2_m → Prop) : Prop := lz2 (fun X58 x3 σ => (rg x3 ∧ (if 700 < x3 then (∀ σ' : l2_m, σ' = l2_u (l2_u σ 49 4 1) 49 5 (σ 49 11) → K 0 σ') else (wC B 103 [vr 49] σ (fun _ σ'' => (wC B 95 [vr 49] σ'' (fun y σ''' => (rg y ∧ (if y = 0 then K 0 σ''' else (rg (σ''' 49 10) ∧ (if (σ''' 49 10) = 0 then (rg (σ''' 49 9) ∧ (if (σ''' 49 9) = 0 then (∀ σ''''' : l2_m, σ''''' = l2_u (l2_u σ''' 49 4 6) 49 5 (σ''' 49 11) → (if (0 : Int) = 0 then K 0 σ''''' else K 1 σ''''')) else K 1 σ''')) else (rg (σ''' 49 12) ∧ (if (σ''' 49 10) = 3 ∧ (σ''' 49 12) = 59 then X58 (x3 + 1) σ''' else (∀ σ'''' : l2_m, σ'''' = l2_u (l2_u σ''' 49 4 1) 49 5 (σ''' 49 11) → K 0 σ'''')))))))))))))) x3 σ
theorem o93_58 {B : va_E} {σ : l2_m} {x3 : Int} {u1 : Value} {u2 : Value}  {K : Int → l2_m → Prop}  (hu1 : (u1.category == 1) = true) (hu2 : (u2.category == 1) = true)  (h : w93_58 B σ x3  K) : wW B 93 58 [vr 49, u1, u2, vi x3] [] σ K := by
  have ck : pm_code 93 = pc_93 := rfl
  unfold w93_58 at h
  refine h (fun x3 σ => ∀ u1 : Value, (u1.category == 1) = true → ∀ u2 : Value, (u2.category == 1) = true → wW B 93 58 [vr 49, u1, u2, vi x3] [] σ K) ?_ u1 hu1 u2 hu2
  clear h
  intro x3 σ h u1 hu1 u2 hu2
  obtain ⟨hs1, h⟩ := h
  refine g_il 59 ck rfl rfl rfl ?_
  refine g_ic 62 ck rfl rfl ?_
  refine g_icgt 65 128 ck rfl rfl rfl hs1 (by decide) (fun hc => ?_) (fun hc => ?_)
  · replace h := ite_ht h hc
    refine g_al 129 ck rfl rfl rfl ?_
    refine g_ic 130 ck rfl rfl ?_
    refine g_cvi (as := [_]) (rest := []) 133 ck rfl rfl rfl rfl rfl rfl (by decide) rfl rfl rfl rfl (Nat.le_of_ble_eq_true rfl) (s94  ?_)
    replace h := h _ rfl
    exact g_retb ck rfl rfl (Or.inl rfl) h
  · replace h := ite_hf h hc
    refine g_al 66 ck rfl rfl rfl ?_
    refine g_cvv (as := []) (rest := []) 69 ck rfl rfl rfl rfl rfl rfl rfl rfl rfl rfl (Nat.le_of_ble_eq_true rfl) (wC.mono h (fun _ σ'' h => ?_))
    refine g_al 70 ck rfl rfl rfl ?_
    refine g_cvi (as := []) (rest := []) 73 ck rfl rfl rfl rfl rfl rfl (by decide) rfl rfl rfl rfl (Nat.le_of_ble_eq_true rfl) (wC.mono h (fun y σ''' h => ?_))
    obtain ⟨hs2, h⟩ := h
    refine g_ifne 76 78 ck rfl rfl rfl hs2 (fun hc => ?_) (fun hc => ?_)
    · replace h := ite_hf h hc
      obtain ⟨hs3, h⟩ := h
      refine g_al 79 ck rfl rfl rfl ?_
      refine r_gfi 82 10 ck rfl rfl rfl rfl ?_
      refine g_ifne 85 107 ck rfl rfl rfl hs3 (fun hc => ?_) (fun hc => ?_)
      · replace h := ite_hf h hc
        obtain ⟨hs4, h⟩ := h
        refine g_al 108 ck rfl rfl rfl ?_
        refine g_ic 110 ck rfl rfl ?_
        refine g_cvi (as := [_]) (rest := []) 113 ck rfl rfl rfl rfl rfl rfl (by decide) rfl rfl rfl rfl (Nat.le_of_ble_eq_true rfl) (s100 hs3 hs4 (by decide) ?_)
        refine g_ifne 116 122 ck rfl rfl rfl rg_b2i (fun hc => ?_) (fun hc => ?_)
        · replace h := ite_ht h (b2i_t hc)
          refine r_ii 125 ck rfl rfl hu2 rfl ?_
          refine g_goto 58 ck rfl rfl ?_
          exact h _ hu1 _ hu2
        · replace h := ite_hf h (b2i_f (Classical.not_not.mp hc))
          refine g_al 117 ck rfl rfl rfl ?_
          refine g_ic 118 ck rfl rfl ?_
          refine g_cvi (as := [_]) (rest := []) 121 ck rfl rfl rfl rfl rfl rfl (by decide) rfl rfl rfl rfl (Nat.le_of_ble_eq_true rfl) (s94  ?_)
          replace h := h _ rfl
          exact g_retb ck rfl rfl (Or.inl rfl) h
      · replace h := ite_ht h (Classical.not_not.mp hc)
        obtain ⟨hs5, h⟩ := h
        refine g_al 86 ck rfl rfl rfl ?_
        refine r_gfi 89 9 ck rfl rfl rfl rfl ?_
        refine g_ifne 92 101 ck rfl rfl rfl hs5 (fun hc => ?_) (fun hc => ?_)
        · replace h := ite_hf h hc
          refine g_ic 102 ck rfl rfl ?_
          refine g_goto 106 ck rfl rfl ?_
          exact g_retb ck rfl rfl (Or.inr rfl) h
        · replace h := ite_ht h (Classical.not_not.mp hc)
          refine g_al 93 ck rfl rfl rfl ?_
          refine g_ic 95 ck rfl rfl ?_
          refine g_cvi (as := [_]) (rest := []) 98 ck rfl rfl rfl rfl rfl rfl (by decide) rfl rfl rfl rfl (Nat.le_of_ble_eq_true rfl) (s94  ?_)
          replace h := h _ rfl
          refine g_ifeq 101 105 ck rfl rfl rfl (by decide) (fun hc => ?_) (fun hc => ?_)
          · replace h := ite_ht h hc
            refine g_ic 106 ck rfl rfl ?_
            exact g_retb ck rfl rfl (Or.inl rfl) h
          · replace h := ite_hf h hc
            refine g_ic 102 ck rfl rfl ?_
            refine g_goto 106 ck rfl rfl ?_
            exact g_retb ck rfl rfl (Or.inr rfl) h
    · replace h := ite_ht h (Classical.not_not.mp hc)
      refine g_ic 77 ck rfl rfl ?_
      exact g_retb ck rfl rfl (Or.inl rfl) h
def w93_18 (B : va_E) (σ : l2_m) (x3 : Int)  (K : Int → l2_m → Prop) : Prop := lz2 (fun X18 x3 σ => ((rg x3 ∧ rg (σ 49 7)) ∧ (if x3 < (σ 49 7) then ((0 ≤ x3 ∧ x3 < 700) ∧ ∀ σ'''' : l2_m, σ'''' = l2_u σ 55 x3 (σ 33 x3) → X18 (x3 + 1) σ'''') else (∀ σ' : l2_m, σ' = l2_u σ 49 8 0 → ∀ σ'' : l2_m, σ'' = l2_u σ' 49 3 0 → ∀ σ''' : l2_m, σ''' = l2_u σ'' 49 9 0 → w93_58 B σ''' 0 K)))) x3 σ
theorem o93_18 {B : va_E} {σ : l2_m} {x3 : Int} {u2 : Value}  {K : Int → l2_m → Prop}  (hu2 : (u2.category == 1) = true)  (h : w93_18 B σ x3  K) : wW B 93 18 [vr 49, vr 33, u2, vi x3] [] σ K := by
  have ck : pm_code 93 = pc_93 := rfl
  unfold w93_18 at h
  refine h (fun x3 σ => ∀ u2 : Value, (u2.category == 1) = true → wW B 93 18 [vr 49, vr 33, u2, vi x3] [] σ K) ?_ u2 hu2
  clear h
  intro x3 σ h u2 hu2
  obtain ⟨⟨hs1, hs2⟩, h⟩ := h
  refine g_il 19 ck rfl rfl rfl ?_
  refine g_al 20 ck rfl rfl rfl ?_
  refine r_gfi 23 7 ck rfl rfl rfl rfl ?_
  refine g_icge 26 41 ck rfl rfl rfl hs1 hs2 (fun hc => ?_) (fun hc => ?_)
  · replace h := ite_hf h (Int.not_lt.mpr hc)
    refine g_al 42 ck rfl rfl rfl ?_
    refine g_ic 43 ck rfl rfl ?_
    refine g_pfi 46 ck rfl rfl rfl 8 rfl rfl ?_
    replace h := h _ rfl
    refine g_al 47 ck rfl rfl rfl ?_
    refine g_ic 48 ck rfl rfl ?_
    refine g_pfi 51 ck rfl rfl rfl 3 rfl rfl ?_
    replace h := h _ rfl
    refine g_al 52 ck rfl rfl rfl ?_
    refine g_ic 53 ck rfl rfl ?_
    refine g_pfb 56 ck rfl rfl rfl 9 rfl (Or.inl rfl) ?_
    replace h := h _ rfl
    refine g_ic 57 ck rfl rfl ?_
    refine r_is 58 ck rfl rfl hu2 rfl ?_
    exact o93_58 rfl hu2 h
  · replace h := ite_ht h (Int.not_le.mp hc)
    obtain ⟨⟨hs3, hs4⟩, h⟩ := h
    refine g_al 27 ck rfl rfl rfl ?_
    refine r_gfr 30 55 ck rfl rfl rfl (by decide) ?_
    refine g_il 31 ck rfl rfl rfl ?_
    refine g_al 32 ck rfl rfl rfl ?_
    refine g_il 33 ck rfl rfl rfl ?_
    refine g_ial (m := 700) 34 ck rfl rfl rfl hs3 hs4 ?_
    refine g_ias (m := 700) 35 ck rfl rfl rfl hs3 hs4 ?_
    replace h := h _ rfl
    refine r_ii 38 ck rfl rfl hu2 rfl ?_
    refine g_goto 18 ck rfl rfl ?_
    exact h _ hu2
def w93 (B : va_E) (σ : l2_m) (x2 : Int) (K : Int → l2_m → Prop) : Prop := (rg x2 ∧ ∀ σ' : l2_m, σ' = l2_u σ 49 7 (min x2 (min ((700 : Nat) : Int) 700)) → w93_18 B σ' 0 K)
theorem o93 {B : va_E} {σ : l2_m} {x2 : Int} {K : Int → l2_m → Prop}   (h : w93 B σ x2  K) : wC B 93 [vr 49, vr 33, vi x2] σ K := by
  have ck : pm_code 93 = pc_93 := rfl
  unfold w93 at h
  show wW B 93 0 [vr 49, vr 33, vi x2, pm_un] [] σ K
  obtain ⟨hs1, h⟩ := h
  refine g_al 1 ck rfl rfl rfl ?_
  refine g_il 2 ck rfl rfl rfl ?_
  refine g_al 3 ck rfl rfl rfl ?_
  refine g_len 4 ck rfl rfl (show l2_al 33 = some 700 from rfl) ?_
  refine g_ic 7 ck rfl rfl ?_
  refine g_min 10 ck rfl rfl (by decide) (by decide) (Nat.le_of_ble_eq_true rfl) ?_
  refine g_min 13 ck rfl rfl hs1 (rg_min (by decide) (by decide)) (Nat.le_of_ble_eq_true rfl) ?_
  refine g_pfi 16 ck rfl rfl rfl 7 rfl rfl ?_
  replace h := h _ rfl
  refine g_ic 17 ck rfl rfl ?_
  refine r_is 18 ck rfl rfl rfl rfl ?_
  exact o93_18 rfl h
/-! 95 TermDesk$Reader.readLine()Z -/
def w95 (B : va_E) (σ : l2_m)  (K : Int → l2_m → Prop) : Prop := ((rg (σ 49 10) ∧ 0 ≤ (σ 49 11) ∧ (σ 49 11) ≤ (σ 49 8) ∧ (σ 49 8) ≤ 700 ∧ (∀ j : Int, 0 ≤ j → j < 700 → rg (σ 55 j))) ∧ (if (σ 49 10) = 1 ∧ (σ 49 8) - (σ 49 11) = ((l2_tx 3).length : Int) ∧ txm (fun i => σ 55 (σ 49 11 + i)) (l2_tx 3) = true then (rg (σ 49 9) ∧ (if (σ 49 9) = 0 then (wC B 96 [vr 49] σ (fun y' σ''''' => ((y' = 0 ∨ y' = 1) ∧ K y' σ'''''))) else (∀ σ'''''' : l2_m, σ'''''' = l2_u (l2_u σ 49 4 3) 49 5 (σ 49 11) → K 0 σ''''''))) else (if (σ 49 10) = 1 ∧ (σ 49 8) - (σ 49 11) = ((l2_tx 4).length : Int) ∧ txm (fun i => σ 55 (σ 49 11 + i)) (l2_tx 4) = true then (rg (σ 49 9) ∧ (if (σ 49 9) = 0 then (∀ σ''' : l2_m, σ''' = l2_u (l2_u σ 49 4 6) 49 5 (σ 49 11) → K 0 σ''') else (rg (σ 49 3) ∧ (if (σ 49 3) < 6 then ((0 ≤ (σ 49 3) ∧ (σ 49 3) < 6) ∧ (wC B 98 [vr 49, vr (56 + 3 * Int.toNat (σ 49 3))] σ (fun y σ' => ((y = 0 ∨ y = 1) ∧ K y σ')))) else (∀ σ'' : l2_m, σ'' = l2_u (l2_u σ 49 4 5) 49 5 (σ 49 11) → K 0 σ''))))) else (∀ σ'''' : l2_m, σ'''' = l2_u (l2_u σ 49 4 1) 49 5 (σ 49 11) → K 0 σ''''))))
theorem o95 {B : va_E} {σ : l2_m}  {K : Int → l2_m → Prop}   (h : w95 B σ   K) : wC B 95 [vr 49] σ K := by
  have ck : pm_code 95 = pc_95 := rfl
  unfold w95 at h
  show wW B 95 0 [vr 49] [] σ K
  obtain ⟨⟨hs1, hs2, hs3, hs4, hs5⟩, h⟩ := h
  refine g_al 1 ck rfl rfl rfl ?_
  refine g_ldc 3 ck rfl rfl ?_
  refine g_cvi (as := [_]) (rest := []) 6 ck rfl rfl rfl rfl rfl rfl (by decide) rfl rfl rfl rfl (Nat.le_of_ble_eq_true rfl) (s101 (by decide) hs1 hs2 hs3 hs4 hs5 ?_)
  refine g_ifeq 9 29 ck rfl rfl rfl rg_b2i (fun hc => ?_) (fun hc => ?_)
  · replace h := ite_hf h (b2i_f hc)
    refine g_al 30 ck rfl rfl rfl ?_
    refine g_ldc 32 ck rfl rfl ?_
    refine g_cvi (as := [_]) (rest := []) 35 ck rfl rfl rfl rfl rfl rfl (by decide) rfl rfl rfl rfl (Nat.le_of_ble_eq_true rfl) (s101 (by decide) hs1 hs2 hs3 hs4 hs5 ?_)
    refine g_ifne 38 44 ck rfl rfl rfl rg_b2i (fun hc => ?_) (fun hc => ?_)
    · replace h := ite_ht h (b2i_t hc)
      obtain ⟨hs6, h⟩ := h
      refine g_al 45 ck rfl rfl rfl ?_
      refine r_gfi 48 9 ck rfl rfl rfl rfl ?_
      refine g_ifne 51 58 ck rfl rfl rfl hs6 (fun hc => ?_) (fun hc => ?_)
      · replace h := ite_hf h hc
        obtain ⟨hs7, h⟩ := h
        refine g_al 59 ck rfl rfl rfl ?_
        refine r_gfi 62 3 ck rfl rfl rfl rfl ?_
        refine g_ic 64 ck rfl rfl ?_
        refine g_iclt 67 75 ck rfl rfl rfl hs7 (by decide) (fun hc => ?_) (fun hc => ?_)
        · replace h := ite_ht h hc
          obtain ⟨⟨hs8, hs9⟩, h⟩ := h
          refine g_al 76 ck rfl rfl rfl ?_
          refine g_al 77 ck rfl rfl rfl ?_
          refine r_gfr 80 54 ck rfl rfl rfl (by decide) ?_
          refine g_al 81 ck rfl rfl rfl ?_
          refine r_gfi 84 3 ck rfl rfl rfl rfl ?_
          refine g_aal (b := 56) (m := 6) 85 ck rfl rfl rfl hs8 hs9 ?_
          refine g_cvi (as := [_]) (rest := []) 88 ck rfl rfl rfl rfl rfl rfl (by decide) rfl rfl rfl rfl (Nat.le_of_ble_eq_true rfl) (wC.mono h (fun y σ' h => ?_))
          obtain ⟨hs10, h⟩ := h
          exact g_retb ck rfl rfl hs10 h
        · replace h := ite_hf h hc
          refine g_al 68 ck rfl rfl rfl ?_
          refine g_ic 69 ck rfl rfl ?_
          refine g_cvi (as := [_]) (rest := []) 72 ck rfl rfl rfl rfl rfl rfl (by decide) rfl rfl rfl rfl (Nat.le_of_ble_eq_true rfl) (s94  ?_)
          replace h := h _ rfl
          refine g_goto 88 ck rfl rfl ?_
          exact g_retb ck rfl rfl (Or.inl rfl) h
      · replace h := ite_ht h (Classical.not_not.mp hc)
        refine g_al 52 ck rfl rfl rfl ?_
        refine g_ic 54 ck rfl rfl ?_
        refine g_cvi (as := [_]) (rest := []) 57 ck rfl rfl rfl rfl rfl rfl (by decide) rfl rfl rfl rfl (Nat.le_of_ble_eq_true rfl) (s94  ?_)
        replace h := h _ rfl
        exact g_retb ck rfl rfl (Or.inl rfl) h
    · replace h := ite_hf h (b2i_f (Classical.not_not.mp hc))
      refine g_al 39 ck rfl rfl rfl ?_
      refine g_ic 40 ck rfl rfl ?_
      refine g_cvi (as := [_]) (rest := []) 43 ck rfl rfl rfl rfl rfl rfl (by decide) rfl rfl rfl rfl (Nat.le_of_ble_eq_true rfl) (s94  ?_)
      replace h := h _ rfl
      exact g_retb ck rfl rfl (Or.inl rfl) h
  · replace h := ite_ht h (b2i_t hc)
    obtain ⟨hs11, h⟩ := h
    refine g_al 10 ck rfl rfl rfl ?_
    refine r_gfi 13 9 ck rfl rfl rfl rfl ?_
    refine g_ifeq 16 24 ck rfl rfl rfl hs11 (fun hc => ?_) (fun hc => ?_)
    · replace h := ite_ht h hc
      refine g_al 25 ck rfl rfl rfl ?_
      refine g_cvi (as := []) (rest := []) 28 ck rfl rfl rfl rfl rfl rfl (by decide) rfl rfl rfl rfl (Nat.le_of_ble_eq_true rfl) (wC.mono h (fun y' σ''''' h => ?_))
      obtain ⟨hs12, h⟩ := h
      exact g_retb ck rfl rfl hs12 h
    · replace h := ite_hf h hc
      refine g_al 17 ck rfl rfl rfl ?_
      refine g_ic 18 ck rfl rfl ?_
      refine g_cvi (as := [_]) (rest := []) 21 ck rfl rfl rfl rfl rfl rfl (by decide) rfl rfl rfl rfl (Nat.le_of_ble_eq_true rfl) (s94  ?_)
      replace h := h _ rfl
      refine g_goto 28 ck rfl rfl ?_
      exact g_retb ck rfl rfl (Or.inl rfl) h
/-! 96 TermDesk$Reader.readRing()Z -/
def w96_127 (B : va_E) (σ : l2_m) (z0 : Int)  (K : Int → l2_m → Prop) : Prop := (rg z0 ∧ (if z0 = (-1) then (∀ σ''' : l2_m, σ''' = l2_u (l2_u σ 49 4 1) 49 5 (σ 49 11) → K 0 σ''') else (∀ σ' : l2_m, σ' = l2_u σ 49 9 1 → (wC B 97 [vr 49, vi z0] σ' (fun y σ'' => ((y = 0 ∨ y = 1) ∧ K y σ''))))))
theorem o96_127 {B : va_E} {σ : l2_m} {z0 : Int} {u1 : Value}  {K : Int → l2_m → Prop}  (hu1 : (u1.category == 1) = true)  (h : w96_127 B σ z0  K) : wW B 96 127 [vr 49, u1] [vi z0] σ K := by
  have ck : pm_code 96 = pc_96 := rfl
  unfold w96_127 at h
  obtain ⟨hs1, h⟩ := h
  refine r_is 128 ck rfl rfl rfl rfl ?_
  refine g_il 129 ck rfl rfl rfl ?_
  refine g_ic 130 ck rfl rfl ?_
  refine g_icne 133 139 ck rfl rfl rfl hs1 (by decide) (fun hc => ?_) (fun hc => ?_)
  · replace h := ite_hf h hc
    refine g_al 140 ck rfl rfl rfl ?_
    refine g_ic 141 ck rfl rfl ?_
    refine g_pfb 144 ck rfl rfl rfl 9 rfl (Or.inr rfl) ?_
    replace h := h _ rfl
    refine g_al 145 ck rfl rfl rfl ?_
    refine g_il 146 ck rfl rfl rfl ?_
    refine g_cvi (as := [_]) (rest := []) 149 ck rfl rfl rfl rfl rfl rfl (by decide) rfl rfl rfl rfl (Nat.le_of_ble_eq_true rfl) (wC.mono h (fun y σ'' h => ?_))
    obtain ⟨hs2, h⟩ := h
    exact g_retb ck rfl rfl hs2 h
  · replace h := ite_ht h (Classical.not_not.mp hc)
    refine g_al 134 ck rfl rfl rfl ?_
    refine g_ic 135 ck rfl rfl ?_
    refine g_cvi (as := [_]) (rest := []) 138 ck rfl rfl rfl rfl rfl rfl (by decide) rfl rfl rfl rfl (Nat.le_of_ble_eq_true rfl) (s94  ?_)
    replace h := h _ rfl
    exact g_retb ck rfl rfl (Or.inl rfl) h
def w96 (B : va_E) (σ : l2_m)  (K : Int → l2_m → Prop) : Prop := (wC B 103 [vr 49] σ (fun _ σ' => ((rg (σ' 49 10) ∧ 0 ≤ (σ' 49 11) ∧ (σ' 49 11) ≤ (σ' 49 8) ∧ (σ' 49 8) ≤ 700 ∧ (∀ j : Int, 0 ≤ j → j < 700 → rg (σ' 55 j))) ∧ (if (σ' 49 10) = 1 ∧ (σ' 49 8) - (σ' 49 11) = ((l2_tx 5).length : Int) ∧ txm (fun i => σ' 55 (σ' 49 11 + i)) (l2_tx 5) = true then (wC B 103 [vr 49] σ' (fun _ σ'' => (rg (σ'' 49 10) ∧ (if (σ'' 49 10) = 2 then (rg (σ'' 49 12) ∧ (if isPr (σ'' 49 12) then (wC B 70 [vr 50, vi (σ'' 49 12)] σ'' (fun _ σ''' => (wC B 103 [vr 49] σ''' (fun _ σ'''' => ((rg (σ'''' 49 10) ∧ 0 ≤ (σ'''' 49 11) ∧ (σ'''' 49 11) ≤ (σ'''' 49 8) ∧ (σ'''' 49 8) ≤ 700 ∧ (∀ j : Int, 0 ≤ j → j < 700 → rg (σ'''' 55 j))) ∧ (if (σ'''' 49 10) = 1 ∧ (σ'''' 49 8) - (σ'''' 49 11) = ((l2_tx 6).length : Int) ∧ txm (fun i => σ'''' 55 (σ'''' 49 11 + i)) (l2_tx 6) = true then (wC B 103 [vr 49] σ'''' (fun _ σ''''' => ((rg (σ''''' 49 10) ∧ 0 ≤ (σ''''' 49 11) ∧ (σ''''' 49 11) ≤ (σ''''' 49 8) ∧ (σ''''' 49 8) ≤ 700 ∧ (∀ j : Int, 0 ≤ j → j < 700 → rg (σ''''' 55 j))) ∧ (if (σ''''' 49 10) = 1 ∧ (σ''''' 49 8) - (σ''''' 49 11) = ((l2_tx 7).length : Int) ∧ txm (fun i => σ''''' 55 (σ''''' 49 11 + i)) (l2_tx 7) = true then w96_127 B σ''''' 0 K else (if (σ''''' 49 10) = 1 ∧ (σ''''' 49 8) - (σ''''' 49 11) = ((l2_tx 8).length : Int) ∧ txm (fun i => σ''''' 55 (σ''''' 49 11 + i)) (l2_tx 8) = true then w96_127 B σ''''' 1 K else (if (σ''''' 49 10) = 1 ∧ (σ''''' 49 8) - (σ''''' 49 11) = ((l2_tx 9).length : Int) ∧ txm (fun i => σ''''' 55 (σ''''' 49 11 + i)) (l2_tx 9) = true then w96_127 B σ''''' 2 K else w96_127 B σ''''' (-1) K)))))) else (∀ σ'''''' : l2_m, σ'''''' = l2_u (l2_u σ'''' 49 4 1) 49 5 (σ'''' 49 11) → K 0 σ''''''))))))) else (∀ σ''''''' : l2_m, σ''''''' = l2_u (l2_u σ'' 49 4 2) 49 5 (σ'' 49 11) → K 0 σ'''''''))) else (∀ σ'''''''' : l2_m, σ'''''''' = l2_u (l2_u σ'' 49 4 1) 49 5 (σ'' 49 11) → K 0 σ''''''''))))) else (∀ σ''''''''' : l2_m, σ''''''''' = l2_u (l2_u σ' 49 4 1) 49 5 (σ' 49 11) → K 0 σ''''''''')))))
theorem o96 {B : va_E} {σ : l2_m}  {K : Int → l2_m → Prop}   (h : w96 B σ   K) : wC B 96 [vr 49] σ K := by
  have ck : pm_code 96 = pc_96 := rfl
  unfold w96 at h
  show wW B 96 0 [vr 49, pm_un] [] σ K
  refine g_al 1 ck rfl rfl rfl ?_
  refine g_cvv (as := []) (rest := []) 4 ck rfl rfl rfl rfl rfl rfl rfl rfl rfl rfl (Nat.le_of_ble_eq_true rfl) (wC.mono h (fun _ σ' h => ?_))
  obtain ⟨⟨hs1, hs2, hs3, hs4, hs5⟩, h⟩ := h
  refine g_al 5 ck rfl rfl rfl ?_
  refine g_ldc 7 ck rfl rfl ?_
  refine g_cvi (as := [_]) (rest := []) 10 ck rfl rfl rfl rfl rfl rfl (by decide) rfl rfl rfl rfl (Nat.le_of_ble_eq_true rfl) (s101 (by decide) hs1 hs2 hs3 hs4 hs5 ?_)
  refine g_ifne 13 19 ck rfl rfl rfl rg_b2i (fun hc => ?_) (fun hc => ?_)
  · replace h := ite_ht h (b2i_t hc)
    refine g_al 20 ck rfl rfl rfl ?_
    refine g_cvv (as := []) (rest := []) 23 ck rfl rfl rfl rfl rfl rfl rfl rfl rfl rfl (Nat.le_of_ble_eq_true rfl) (wC.mono h (fun _ σ'' h => ?_))
    obtain ⟨hs6, h⟩ := h
    refine g_al 24 ck rfl rfl rfl ?_
    refine r_gfi 27 10 ck rfl rfl rfl rfl ?_
    refine g_ic 28 ck rfl rfl ?_
    refine g_iceq 31 37 ck rfl rfl rfl hs6 (by decide) (fun hc => ?_) (fun hc => ?_)
    · replace h := ite_ht h hc
      obtain ⟨hs7, h⟩ := h
      refine g_al 38 ck rfl rfl rfl ?_
      refine r_gfi 41 12 ck rfl rfl rfl rfl ?_
      refine g_csi (as := [_]) (rest := []) 44 ck rfl rfl rfl rfl rfl (by decide) rfl rfl rfl (Nat.le_of_ble_eq_true rfl) (s69 hs7 ?_)
      refine g_ifne 47 53 ck rfl rfl rfl rg_b2i (fun hc => ?_) (fun hc => ?_)
      · replace h := ite_ht h (b2i_t hc)
        refine g_al 54 ck rfl rfl rfl ?_
        refine r_gfr 57 50 ck rfl rfl rfl (by decide) ?_
        refine g_al 58 ck rfl rfl rfl ?_
        refine r_gfi 61 12 ck rfl rfl rfl rfl ?_
        refine g_cvv (as := [_]) (rest := []) 64 ck rfl rfl rfl rfl rfl rfl rfl rfl rfl rfl (Nat.le_of_ble_eq_true rfl) (wC.mono h (fun _ σ''' h => ?_))
        refine g_al 65 ck rfl rfl rfl ?_
        refine g_cvv (as := []) (rest := []) 68 ck rfl rfl rfl rfl rfl rfl rfl rfl rfl rfl (Nat.le_of_ble_eq_true rfl) (wC.mono h (fun _ σ'''' h => ?_))
        obtain ⟨⟨hs8, hs9, hs10, hs11, hs12⟩, h⟩ := h
        refine g_al 69 ck rfl rfl rfl ?_
        refine g_ldc 71 ck rfl rfl ?_
        refine g_cvi (as := [_]) (rest := []) 74 ck rfl rfl rfl rfl rfl rfl (by decide) rfl rfl rfl rfl (Nat.le_of_ble_eq_true rfl) (s101 (by decide) hs8 hs9 hs10 hs11 hs12 ?_)
        refine g_ifne 77 83 ck rfl rfl rfl rg_b2i (fun hc => ?_) (fun hc => ?_)
        · replace h := ite_ht h (b2i_t hc)
          refine g_al 84 ck rfl rfl rfl ?_
          refine g_cvv (as := []) (rest := []) 87 ck rfl rfl rfl rfl rfl rfl rfl rfl rfl rfl (Nat.le_of_ble_eq_true rfl) (wC.mono h (fun _ σ''''' h => ?_))
          obtain ⟨⟨hs13, hs14, hs15, hs16, hs17⟩, h⟩ := h
          refine g_al 88 ck rfl rfl rfl ?_
          refine g_ldc 90 ck rfl rfl ?_
          refine g_cvi (as := [_]) (rest := []) 93 ck rfl rfl rfl rfl rfl rfl (by decide) rfl rfl rfl rfl (Nat.le_of_ble_eq_true rfl) (s101 (by decide) hs13 hs14 hs15 hs16 hs17 ?_)
          refine g_ifeq 96 100 ck rfl rfl rfl rg_b2i (fun hc => ?_) (fun hc => ?_)
          · replace h := ite_hf h (b2i_f hc)
            refine g_al 101 ck rfl rfl rfl ?_
            refine g_ldc 103 ck rfl rfl ?_
            refine g_cvi (as := [_]) (rest := []) 106 ck rfl rfl rfl rfl rfl rfl (by decide) rfl rfl rfl rfl (Nat.le_of_ble_eq_true rfl) (s101 (by decide) hs13 hs14 hs15 hs16 hs17 ?_)
            refine g_ifeq 109 113 ck rfl rfl rfl rg_b2i (fun hc => ?_) (fun hc => ?_)
            · replace h := ite_hf h (b2i_f hc)
              refine g_al 114 ck rfl rfl rfl ?_
              refine g_ldc 116 ck rfl rfl ?_
              refine g_cvi (as := [_]) (rest := []) 119 ck rfl rfl rfl rfl rfl rfl (by decide) rfl rfl rfl rfl (Nat.le_of_ble_eq_true rfl) (s101 (by decide) hs13 hs14 hs15 hs16 hs17 ?_)
              refine g_ifeq 122 126 ck rfl rfl rfl rg_b2i (fun hc => ?_) (fun hc => ?_)
              · replace h := ite_hf h (b2i_f hc)
                refine g_ic 127 ck rfl rfl ?_
                exact o96_127 rfl h
              · replace h := ite_ht h (b2i_t hc)
                refine g_ic 123 ck rfl rfl ?_
                refine g_goto 127 ck rfl rfl ?_
                exact o96_127 rfl h
            · replace h := ite_ht h (b2i_t hc)
              refine g_ic 110 ck rfl rfl ?_
              refine g_goto 127 ck rfl rfl ?_
              exact o96_127 rfl h
          · replace h := ite_ht h (b2i_t hc)
            refine g_ic 97 ck rfl rfl ?_
            refine g_goto 127 ck rfl rfl ?_
            exact o96_127 rfl h
        · replace h := ite_hf h (b2i_f (Classical.not_not.mp hc))
          refine g_al 78 ck rfl rfl rfl ?_
          refine g_ic 79 ck rfl rfl ?_
          refine g_cvi (as := [_]) (rest := []) 82 ck rfl rfl rfl rfl rfl rfl (by decide) rfl rfl rfl rfl (Nat.le_of_ble_eq_true rfl) (s94  ?_)
          replace h := h _ rfl
          exact g_retb ck rfl rfl (Or.inl rfl) h
      · replace h := ite_hf h (b2i_f (Classical.not_not.mp hc))
        refine g_al 48 ck rfl rfl rfl ?_
        refine g_ic 49 ck rfl rfl ?_
        refine g_cvi (as := [_]) (rest := []) 52 ck rfl rfl rfl rfl rfl rfl (by decide) rfl rfl rfl rfl (Nat.le_of_ble_eq_true rfl) (s94  ?_)
        replace h := h _ rfl
        exact g_retb ck rfl rfl (Or.inl rfl) h
    · replace h := ite_hf h hc
      refine g_al 32 ck rfl rfl rfl ?_
      refine g_ic 33 ck rfl rfl ?_
      refine g_cvi (as := [_]) (rest := []) 36 ck rfl rfl rfl rfl rfl rfl (by decide) rfl rfl rfl rfl (Nat.le_of_ble_eq_true rfl) (s94  ?_)
      replace h := h _ rfl
      exact g_retb ck rfl rfl (Or.inl rfl) h
  · replace h := ite_hf h (b2i_f (Classical.not_not.mp hc))
    refine g_al 14 ck rfl rfl rfl ?_
    refine g_ic 15 ck rfl rfl ?_
    refine g_cvi (as := [_]) (rest := []) 18 ck rfl rfl rfl rfl rfl rfl (by decide) rfl rfl rfl rfl (Nat.le_of_ble_eq_true rfl) (s94  ?_)
    replace h := h _ rfl
    exact g_retb ck rfl rfl (Or.inl rfl) h
/-! 97 TermDesk$Reader.readUnknowns(I)Z -/
def w97_71 (B : va_E) (σ : l2_m) (x1 : Int) (x2 : Int) (x4 : Int) (x5 : Int) (x6 : Int) (z0 : Int) (X10 : Int → Int → Int → Int → l2_m → Prop) (K : Int → l2_m → Prop) : Prop := (rg x5 ∧ (if x5 = 1 then X10 x2 z0 x6 (x5 + 1) σ else X10 x2 z0 x4 (x5 + 1) σ))
theorem o97_71 {B : va_E} {σ : l2_m} {x1 : Int} {x2 : Int} {x4 : Int} {x5 : Int} {x6 : Int} {z0 : Int} {u3 : Value} {X10 : Int → Int → Int → Int → l2_m → Prop} {K : Int → l2_m → Prop}  (hu3 : (u3.category == 1) = true) (hX10 : ∀ (x2 : Int) (x3 : Int) (x4 : Int) (x5 : Int) (σ : l2_m) (u6 : Value), (u6.category == 1) = true → X10 x2 x3 x4 x5 σ → wW B 97 10 [vr 49, vi x1, vi x2, vi x3, vi x4, vi x5, u6] [] σ K) (h : w97_71 B σ x1 x2 x4 x5 x6 z0 X10 K) : wW B 97 71 [vr 49, vi x1, vi x2, u3, vi x4, vi x5, vi x6] [vi z0] σ K := by
  have ck : pm_code 97 = pc_97 := rfl
  unfold w97_71 at h
  obtain ⟨hs1, h⟩ := h
  refine r_is 72 ck rfl rfl rfl rfl ?_
  refine g_il 74 ck rfl rfl rfl ?_
  refine g_ic 75 ck rfl rfl ?_
  refine g_icne 78 83 ck rfl rfl rfl hs1 (by decide) (fun hc => ?_) (fun hc => ?_)
  · replace h := ite_hf h hc
    refine g_il 85 ck rfl rfl rfl ?_
    refine r_is 87 ck rfl rfl rfl rfl ?_
    refine r_ii 90 ck rfl rfl rfl rfl ?_
    refine g_goto 10 ck rfl rfl ?_
    exact hX10 _ _ _ _ _ _ rfl h
  · replace h := ite_ht h (Classical.not_not.mp hc)
    refine g_il 80 ck rfl rfl rfl ?_
    refine g_goto 85 ck rfl rfl ?_
    refine r_is 87 ck rfl rfl rfl rfl ?_
    refine r_ii 90 ck rfl rfl rfl rfl ?_
    refine g_goto 10 ck rfl rfl ?_
    exact hX10 _ _ _ _ _ _ rfl h
def w97_10 (B : va_E) (σ : l2_m) (x1 : Int) (x2 : Int) (x3 : Int) (x4 : Int) (x5 : Int)  (K : Int → l2_m → Prop) : Prop := lz5 (fun X10 x2 x3 x4 x5 σ => (rg x5 ∧ (if x5 < 3 then (wC B 103 [vr 49] σ (fun _ σ''' => ((rg (σ''' 49 10) ∧ 0 ≤ (σ''' 49 11) ∧ (σ''' 49 11) ≤ (σ''' 49 8) ∧ (σ''' 49 8) ≤ 700 ∧ rg (σ''' 55 (σ''' 49 11))) ∧ ∀ x6 : Int, x6 = (unk σ''') → rg x6 ∧ (if x6 = (-1) then (∀ σ''''' : l2_m, σ''''' = l2_u (l2_u σ''' 49 4 1) 49 5 (σ''' 49 11) → K 0 σ''''') else ((rg x2 ∧ 0 ≤ x6 ∧ x6 < 32) ∧ (if (bit x2 x6) = 1 then (∀ σ'''' : l2_m, σ'''' = l2_u (l2_u σ''' 49 4 3) 49 5 (σ''' 49 11) → K 0 σ'''') else ((0 ≤ x2 ∧ 0 ≤ ((1 : Int) * 2 ^ (Int.toNat x6)) ∧ x2 < 2147483648 ∧ ((1 : Int) * 2 ^ (Int.toNat x6)) < 2147483648) ∧ ∀ x2' : Int, x2' = (ior x2 ((1 : Int) * 2 ^ (Int.toNat x6))) → rg x5 ∧ (if x5 = 0 then w97_71 B σ''' x1 x2' x4 x5 x6 x6 X10 K else w97_71 B σ''' x1 x2' x4 x5 x6 x3 X10 K)))))))) else (wC B 75 [vr 52, vi x1, vi x3, vi x4] σ (fun _ σ' => (wC B 103 [vr 49] σ' (fun _ σ'' => K 1 σ''))))))) x2 x3 x4 x5 σ
theorem o97_10 {B : va_E} {σ : l2_m} {x1 : Int} {x2 : Int} {x3 : Int} {x4 : Int} {x5 : Int} {u6 : Value}  {K : Int → l2_m → Prop}  (hu6 : (u6.category == 1) = true)  (h : w97_10 B σ x1 x2 x3 x4 x5  K) : wW B 97 10 [vr 49, vi x1, vi x2, vi x3, vi x4, vi x5, u6] [] σ K := by
  have ck : pm_code 97 = pc_97 := rfl
  unfold w97_10 at h
  refine h (fun x2 x3 x4 x5 σ => ∀ u6 : Value, (u6.category == 1) = true → wW B 97 10 [vr 49, vi x1, vi x2, vi x3, vi x4, vi x5, u6] [] σ K) ?_ u6 hu6
  clear h
  intro x2 x3 x4 x5 σ h u6 hu6
  obtain ⟨hs1, h⟩ := h
  refine g_il 12 ck rfl rfl rfl ?_
  refine g_ic 13 ck rfl rfl ?_
  refine g_icge 16 93 ck rfl rfl rfl hs1 (by decide) (fun hc => ?_) (fun hc => ?_)
  · replace h := ite_hf h (Int.not_lt.mpr hc)
    refine g_al 94 ck rfl rfl rfl ?_
    refine r_gfr 97 52 ck rfl rfl rfl (by decide) ?_
    refine g_il 98 ck rfl rfl rfl ?_
    refine g_il 99 ck rfl rfl rfl ?_
    refine g_il 101 ck rfl rfl rfl ?_
    refine g_cvv (as := [_, _, _]) (rest := []) 104 ck rfl rfl rfl rfl rfl rfl rfl rfl rfl rfl (Nat.le_of_ble_eq_true rfl) (wC.mono h (fun _ σ' h => ?_))
    refine g_al 105 ck rfl rfl rfl ?_
    refine g_cvv (as := []) (rest := []) 108 ck rfl rfl rfl rfl rfl rfl rfl rfl rfl rfl (Nat.le_of_ble_eq_true rfl) (wC.mono h (fun _ σ'' h => ?_))
    refine g_ic 109 ck rfl rfl ?_
    exact g_retb ck rfl rfl (Or.inr rfl) h
  · replace h := ite_ht h (Int.not_le.mp hc)
    refine g_al 17 ck rfl rfl rfl ?_
    refine g_cvv (as := []) (rest := []) 20 ck rfl rfl rfl rfl rfl rfl rfl rfl rfl rfl (Nat.le_of_ble_eq_true rfl) (wC.mono h (fun _ σ''' h => ?_))
    obtain ⟨⟨hs2, hs3, hs4, hs5, hs6⟩, h⟩ := h
    refine g_al 21 ck rfl rfl rfl ?_
    refine g_cvi (as := []) (rest := []) 24 ck rfl rfl rfl rfl rfl rfl (by decide) rfl rfl rfl rfl (Nat.le_of_ble_eq_true rfl) (s102 hs2 hs3 hs4 hs5 hs6 ?_)
    refine r_is 26 ck rfl rfl rfl rfl ?_
    replace h := h _ rfl
    obtain ⟨hs7, h⟩ := h
    refine g_il 28 ck rfl rfl rfl ?_
    refine g_ic 29 ck rfl rfl ?_
    refine g_icne 32 38 ck rfl rfl rfl hs7 (by decide) (fun hc => ?_) (fun hc => ?_)
    · replace h := ite_hf h hc
      obtain ⟨⟨hs8, hs9, hs10⟩, h⟩ := h
      refine g_il 39 ck rfl rfl rfl ?_
      refine g_il 41 ck rfl rfl rfl ?_
      refine g_csi (as := [_, _]) (rest := []) 44 ck rfl rfl rfl rfl rfl (by decide) rfl rfl rfl (Nat.le_of_ble_eq_true rfl) (s152 hs8 hs9 hs10 ?_)
      refine g_ifeq 47 53 ck rfl rfl rfl rg_b2i (fun hc => ?_) (fun hc => ?_)
      · replace h := ite_hf h (b2i_f hc)
        obtain ⟨⟨hs11, hs12, hs13, hs14⟩, h⟩ := h
        refine g_il 54 ck rfl rfl rfl ?_
        refine g_ic 55 ck rfl rfl ?_
        refine g_il 57 ck rfl rfl rfl ?_
        refine g_shl 58 ck rfl rfl hs9 hs10 ?_
        refine g_or 59 ck rfl rfl hs11 hs12 hs13 hs14 ?_
        refine r_is 60 ck rfl rfl rfl rfl ?_
        replace h := h _ rfl
        obtain ⟨hs15, h⟩ := h
        refine g_il 62 ck rfl rfl rfl ?_
        refine g_ifne 65 70 ck rfl rfl rfl hs15 (fun hc => ?_) (fun hc => ?_)
        · replace h := ite_hf h hc
          refine g_il 71 ck rfl rfl rfl ?_
          exact o97_71 rfl (fun _ _ _ _ _ u6 hu6 hx => hx u6 hu6) h
        · replace h := ite_ht h (Classical.not_not.mp hc)
          refine g_il 67 ck rfl rfl rfl ?_
          refine g_goto 71 ck rfl rfl ?_
          exact o97_71 rfl (fun _ _ _ _ _ u6 hu6 hx => hx u6 hu6) h
      · replace h := ite_ht h (b2i_t hc)
        refine g_al 48 ck rfl rfl rfl ?_
        refine g_ic 49 ck rfl rfl ?_
        refine g_cvi (as := [_]) (rest := []) 52 ck rfl rfl rfl rfl rfl rfl (by decide) rfl rfl rfl rfl (Nat.le_of_ble_eq_true rfl) (s94  ?_)
        replace h := h _ rfl
        exact g_retb ck rfl rfl (Or.inl rfl) h
    · replace h := ite_ht h (Classical.not_not.mp hc)
      refine g_al 33 ck rfl rfl rfl ?_
      refine g_ic 34 ck rfl rfl ?_
      refine g_cvi (as := [_]) (rest := []) 37 ck rfl rfl rfl rfl rfl rfl (by decide) rfl rfl rfl rfl (Nat.le_of_ble_eq_true rfl) (s94  ?_)
      replace h := h _ rfl
      exact g_retb ck rfl rfl (Or.inl rfl) h
def w97 (B : va_E) (σ : l2_m) (x1 : Int) (K : Int → l2_m → Prop) : Prop := w97_10 B σ x1 0 (-1) (-1) 0 K
theorem o97 {B : va_E} {σ : l2_m} {x1 : Int} {K : Int → l2_m → Prop}   (h : w97 B σ x1  K) : wC B 97 [vr 49, vi x1] σ K := by
  have ck : pm_code 97 = pc_97 := rfl
  unfold w97 at h
  show wW B 97 0 [vr 49, vi x1, pm_un, pm_un, pm_un, pm_un, pm_un] [] σ K
  refine g_ic 1 ck rfl rfl ?_
  refine r_is 2 ck rfl rfl rfl rfl ?_
  refine g_ic 3 ck rfl rfl ?_
  refine r_is 4 ck rfl rfl rfl rfl ?_
  refine g_ic 5 ck rfl rfl ?_
  refine r_is 7 ck rfl rfl rfl rfl ?_
  refine g_ic 8 ck rfl rfl ?_
  refine r_is 10 ck rfl rfl rfl rfl ?_
  exact o97_10 rfl h
/-! 98 TermDesk$Reader.readPoly(LTermDesk$Poly;)Z -/
def w98_81 (B : va_E) (σ : l2_m) (o1 : Nat) (x2 : Int) (x3 : Int) (X26 : Int → Int → l2_m → Prop) (K : Int → l2_m → Prop) : Prop := (rg x3 ∧ (if x3 < 12 then ((rg (σ 49 10) ∧ rg (σ 49 12)) ∧ ∀ x2' : Int, x2' = (b2i ((σ 49 10) = 3 ∧ (σ 49 12) = 45)) → (wC B 103 [vr 49] σ (fun _ σ' => X26 x2' (x3 + 1) σ'))) else X26 x2 (x3 + 1) σ))
theorem o98_81 {B : va_E} {σ : l2_m} {o1 : Nat} {x2 : Int} {x3 : Int}  {X26 : Int → Int → l2_m → Prop} {K : Int → l2_m → Prop} (ho1 : isP o1)  (hX26 : ∀ (x2 : Int) (x3 : Int) (σ : l2_m), X26 x2 x3 σ → wW B 98 26 [vr 49, vr o1, vi x2, vi x3] [] σ K) (h : w98_81 B σ o1 x2 x3 X26 K) : wW B 98 81 [vr 49, vr o1, vi x2, vi x3] [] σ K := by
  have ck : pm_code 98 = pc_98 := rfl
  unfold w98_81 at h
  obtain ⟨hs1, h⟩ := h
  refine g_il 82 ck rfl rfl rfl ?_
  refine g_ic 84 ck rfl rfl ?_
  refine g_icge 87 98 ck rfl rfl rfl hs1 (by decide) (fun hc => ?_) (fun hc => ?_)
  · replace h := ite_hf h (Int.not_lt.mpr hc)
    refine r_ii 101 ck rfl rfl rfl rfl ?_
    refine g_goto 26 ck rfl rfl ?_
    exact hX26 _ _ _   h
  · replace h := ite_ht h (Int.not_le.mp hc)
    obtain ⟨⟨hs2, hs3⟩, h⟩ := h
    refine g_al 88 ck rfl rfl rfl ?_
    refine g_ic 90 ck rfl rfl ?_
    refine g_cvi (as := [_]) (rest := []) 93 ck rfl rfl rfl rfl rfl rfl (by decide) rfl rfl rfl rfl (Nat.le_of_ble_eq_true rfl) (s100 hs2 hs3 (by decide) ?_)
    refine r_is 94 ck rfl rfl rfl rfl ?_
    replace h := h _ rfl
    refine g_al 95 ck rfl rfl rfl ?_
    refine g_cvv (as := []) (rest := []) 98 ck rfl rfl rfl rfl rfl rfl rfl rfl rfl rfl (Nat.le_of_ble_eq_true rfl) (wC.mono h (fun _ σ' h => ?_))
    refine r_ii 101 ck rfl rfl rfl rfl ?_
    refine g_goto 26 ck rfl rfl ?_
    exact hX26 _ _ _   h
def w98_26 (B : va_E) (σ : l2_m) (o1 : Nat) (x2 : Int) (x3 : Int)  (K : Int → l2_m → Prop) : Prop := lz3 (fun X26 x2 x3 σ => (rg x3 ∧ (if 12 < x3 then (∀ σ' : l2_m, σ' = l2_u (l2_u σ 49 4 5) 49 5 (σ 49 11) → K 0 σ') else (wC B 99 [vr 49, vr o1, vi x2] σ (fun y σ'' => (rg y ∧ (if y = 0 then K 0 σ'' else ((rg (σ'' 49 10) ∧ rg (σ'' 49 12)) ∧ (if ((σ'' 49 10) = 3 ∧ (σ'' 49 12) = 43) ∨ ((σ'' 49 10) = 3 ∧ (σ'' 49 12) = 45) then w98_81 B σ'' o1 x2 x3 X26 K else (wC B 91 [vr o1, vr 50] σ'' (fun _ σ''' => (∀ σ'''' : l2_m, σ'''' = l2_u σ''' 49 3 ((σ''' 49 3) + 1) → K 1 σ'''')))))))))))) x2 x3 σ
theorem o98_26 {B : va_E} {σ : l2_m} {o1 : Nat} {x2 : Int} {x3 : Int}   {K : Int → l2_m → Prop} (ho1 : isP o1)   (h : w98_26 B σ o1 x2 x3  K) : wW B 98 26 [vr 49, vr o1, vi x2, vi x3] [] σ K := by
  have ck : pm_code 98 = pc_98 := rfl
  unfold w98_26 at h
  refine h (fun x2 x3 σ => wW B 98 26 [vr 49, vr o1, vi x2, vi x3] [] σ K) ?_
  clear h
  intro x2 x3 σ h
  replace h := (And.imp_right (ite_mp id (fun h => wC.mono h (fun _ _ => (And.imp_right (ite_mp id (And.imp_right mg_1))))))) h
  obtain ⟨hs1, h⟩ := h
  refine g_il 27 ck rfl rfl rfl ?_
  refine g_ic 29 ck rfl rfl ?_
  refine g_icgt 32 104 ck rfl rfl rfl hs1 (by decide) (fun hc => ?_) (fun hc => ?_)
  · replace h := ite_ht h hc
    refine g_al 105 ck rfl rfl rfl ?_
    refine g_ic 106 ck rfl rfl ?_
    refine g_cvi (as := [_]) (rest := []) 109 ck rfl rfl rfl rfl rfl rfl (by decide) rfl rfl rfl rfl (Nat.le_of_ble_eq_true rfl) (s94  ?_)
    replace h := h _ rfl
    exact g_retb ck rfl rfl (Or.inl rfl) h
  · replace h := ite_hf h hc
    refine g_al 33 ck rfl rfl rfl ?_
    refine g_al 34 ck rfl rfl rfl ?_
    refine g_il 35 ck rfl rfl rfl ?_
    refine g_cvi (as := [_, _]) (rest := []) 38 ck rfl rfl rfl rfl rfl rfl (by decide) rfl rfl rfl rfl (Nat.le_of_ble_eq_true rfl) (wC.mono h (fun y σ'' h => ?_))
    obtain ⟨hs2, h⟩ := h
    refine g_ifne 41 43 ck rfl rfl rfl hs2 (fun hc => ?_) (fun hc => ?_)
    · replace h := ite_hf h hc
      obtain ⟨⟨hs3, hs4⟩, h⟩ := h
      refine g_al 44 ck rfl rfl rfl ?_
      refine g_ic 46 ck rfl rfl ?_
      refine g_cvi (as := [_]) (rest := []) 49 ck rfl rfl rfl rfl rfl rfl (by decide) rfl rfl rfl rfl (Nat.le_of_ble_eq_true rfl) (s100 hs3 hs4 (by decide) ?_)
      refine g_ifne 52 81 ck rfl rfl rfl rg_b2i (fun hc => ?_) (fun hc => ?_)
      · replace h := ite_ht h (b2i_t hc)
        exact o98_81 ho1 (fun _ _ _ hx => hx) h
      · replace h := ite_hf h (b2i_f (Classical.not_not.mp hc))
        refine g_al 53 ck rfl rfl rfl ?_
        refine g_ic 55 ck rfl rfl ?_
        refine g_cvi (as := [_]) (rest := []) 58 ck rfl rfl rfl rfl rfl rfl (by decide) rfl rfl rfl rfl (Nat.le_of_ble_eq_true rfl) (s100 hs3 hs4 (by decide) ?_)
        refine g_ifne 61 81 ck rfl rfl rfl rg_b2i (fun hc => ?_) (fun hc => ?_)
        · replace h := ite_ht h (b2i_t hc)
          exact o98_81 ho1 (fun _ _ _ hx => hx) h
        · replace h := ite_hf h (b2i_f (Classical.not_not.mp hc))
          refine g_al 62 ck rfl rfl rfl ?_
          refine g_al 63 ck rfl rfl rfl ?_
          refine r_gfr 66 50 ck rfl rfl rfl (by decide) ?_
          refine g_cvv (as := [_]) (rest := []) 69 ck rfl rfl rfl rfl rfl rfl (isP_c ho1) rfl rfl rfl (Nat.le_of_ble_eq_true rfl) (wC.mono h (fun _ σ''' h => ?_))
          refine g_al 70 ck rfl rfl rfl ?_
          refine g_dup 71 ck rfl rfl rfl ?_
          refine r_gfi 74 3 ck rfl rfl rfl rfl ?_
          refine g_ic 75 ck rfl rfl ?_
          refine g_add 76 ck rfl rfl ?_
          refine g_pfi 79 ck rfl rfl rfl 3 rfl rfl ?_
          replace h := h _ rfl
          refine g_ic 80 ck rfl rfl ?_
          exact g_retb ck rfl rfl (Or.inr rfl) h
    · replace h := ite_ht h (Classical.not_not.mp hc)
      refine g_ic 42 ck rfl rfl ?_
      exact g_retb ck rfl rfl (Or.inl rfl) h
def w98 (B : va_E) (σ : l2_m) (o1 : Nat) (K : Int → l2_m → Prop) : Prop := (∀ σ' : l2_m, σ' = l2_u σ o1 2 0 → (wC B 103 [vr 49] σ' (fun _ σ'' => ((rg (σ'' 49 10) ∧ rg (σ'' 49 12)) ∧ ∀ x2 : Int, x2 = (b2i ((σ'' 49 10) = 3 ∧ (σ'' 49 12) = 45)) → (if (σ'' 49 10) = 3 ∧ (σ'' 49 12) = 45 then (wC B 103 [vr 49] σ'' (fun _ σ''' => w98_26 B σ''' o1 x2 1 K)) else w98_26 B σ'' o1 x2 1 K)))))
theorem o98 {B : va_E} {σ : l2_m} {o1 : Nat} {K : Int → l2_m → Prop} (ho1 : isP o1)  (h : w98 B σ o1  K) : wC B 98 [vr 49, vr o1] σ K := by
  have ck : pm_code 98 = pc_98 := rfl
  unfold w98 at h
  show wW B 98 0 [vr 49, vr o1, pm_un, pm_un] [] σ K
  refine g_al 1 ck rfl rfl rfl ?_
  refine g_ic 2 ck rfl rfl ?_
  refine g_pfi 5 ck rfl rfl (isP_2 ho1) 2 rfl rfl ?_
  replace h := h _ rfl
  refine g_al 6 ck rfl rfl rfl ?_
  refine g_cvv (as := []) (rest := []) 9 ck rfl rfl rfl rfl rfl rfl rfl rfl rfl rfl (Nat.le_of_ble_eq_true rfl) (wC.mono h (fun _ σ'' h => ?_))
  obtain ⟨⟨hs1, hs2⟩, h⟩ := h
  refine g_al 10 ck rfl rfl rfl ?_
  refine g_ic 12 ck rfl rfl ?_
  refine g_cvi (as := [_]) (rest := []) 15 ck rfl rfl rfl rfl rfl rfl (by decide) rfl rfl rfl rfl (Nat.le_of_ble_eq_true rfl) (s100 hs1 hs2 (by decide) ?_)
  refine r_is 16 ck rfl rfl rfl rfl ?_
  replace h := h _ rfl
  refine g_il 17 ck rfl rfl rfl ?_
  refine g_ifeq 20 24 ck rfl rfl rfl rg_b2i (fun hc => ?_) (fun hc => ?_)
  · replace h := ite_hf h (b2i_f hc)
    refine g_ic 25 ck rfl rfl ?_
    refine r_is 26 ck rfl rfl rfl rfl ?_
    exact o98_26 ho1 h
  · replace h := ite_ht h (b2i_t hc)
    refine g_al 21 ck rfl rfl rfl ?_
    refine g_cvv (as := []) (rest := []) 24 ck rfl rfl rfl rfl rfl rfl rfl rfl rfl rfl (Nat.le_of_ble_eq_true rfl) (wC.mono h (fun _ σ''' h => ?_))
    refine g_ic 25 ck rfl rfl ?_
    refine r_is 26 ck rfl rfl rfl rfl ?_
    exact o98_26 ho1 h
/-! 99 TermDesk$Reader.readTerm(LTermDesk$Poly;Z)Z -/
def w99_162 (B : va_E) (σ : l2_m) (o1 : Nat) (x2 : Int) (x3 : Int) (x5 : Int)  (K : Int → l2_m → Prop) : Prop := (rg x2 ∧ (if x2 = 0 then ((2 ≤ (σ 50 0) ∧ (σ 50 0) ≤ 97 ∧ rg x3 ∧ 0 ≤ (σ o1 2) ∧ rg (σ o1 2)) ∧ ∀ σ' : l2_m, σ' = app σ o1 x5 (x3 % (σ 50 0)) → K 1 σ') else ((2 ≤ (σ 50 0) ∧ (σ 50 0) ≤ 97 ∧ rg (-x3) ∧ 0 ≤ (σ o1 2) ∧ rg (σ o1 2)) ∧ ∀ σ'' : l2_m, σ'' = app σ o1 x5 ((-x3) % (σ 50 0)) → K 1 σ'')))
theorem o99_162 {B : va_E} {σ : l2_m} {o1 : Nat} {x2 : Int} {x3 : Int} {x5 : Int} {u4 : Value} {u6 : Value} {u7 : Value} {u8 : Value}  {K : Int → l2_m → Prop} (ho1 : isP o1) (hu4 : (u4.category == 1) = true) (hu6 : (u6.category == 1) = true) (hu7 : (u7.category == 1) = true) (hu8 : (u8.category == 1) = true)  (h : w99_162 B σ o1 x2 x3 x5  K) : wW B 99 162 [vr 49, vr o1, vi x2, vi x3, u4, vi x5, u6, u7, u8] [] σ K := by
  have ck : pm_code 99 = pc_99 := rfl
  unfold w99_162 at h
  obtain ⟨hs1, h⟩ := h
  refine g_al 163 ck rfl rfl rfl ?_
  refine g_il 165 ck rfl rfl rfl ?_
  refine g_al 166 ck rfl rfl rfl ?_
  refine r_gfr 169 50 ck rfl rfl rfl (by decide) ?_
  refine g_il 170 ck rfl rfl rfl ?_
  refine g_ifeq 173 178 ck rfl rfl rfl hs1 (fun hc => ?_) (fun hc => ?_)
  · replace h := ite_ht h hc
    obtain ⟨⟨hs2, hs3, hs4, hs5, hs6⟩, h⟩ := h
    refine g_il 179 ck rfl rfl rfl ?_
    refine g_cvi (as := [_]) (rest := [_, _]) 182 ck rfl rfl rfl rfl rfl rfl (by decide) rfl rfl rfl rfl (Nat.le_of_ble_eq_true rfl) (s72 rfl hs2 hs3 hs4 ?_)
    refine g_cvi (as := [_, _]) (rest := []) 185 ck rfl rfl rfl rfl rfl rfl (by decide) (isP_c ho1) rfl rfl rfl (Nat.le_of_ble_eq_true rfl) (s82 ho1 hs5 hs6 ?_)
    replace h := h _ rfl
    refine g_pop 186 ck rfl rfl rfl ?_
    refine g_ic 187 ck rfl rfl ?_
    exact g_retb ck rfl rfl (Or.inr rfl) h
  · replace h := ite_hf h hc
    obtain ⟨⟨hs7, hs8, hs9, hs10, hs11⟩, h⟩ := h
    refine g_il 174 ck rfl rfl rfl ?_
    refine g_neg 175 ck rfl rfl ?_
    refine g_goto 179 ck rfl rfl ?_
    refine g_cvi (as := [_]) (rest := [_, _]) 182 ck rfl rfl rfl rfl rfl rfl (by decide) rfl rfl rfl rfl (Nat.le_of_ble_eq_true rfl) (s72 rfl hs7 hs8 hs9 ?_)
    refine g_cvi (as := [_, _]) (rest := []) 185 ck rfl rfl rfl rfl rfl rfl (by decide) (isP_c ho1) rfl rfl rfl (Nat.le_of_ble_eq_true rfl) (s82 ho1 hs10 hs11 ?_)
    replace h := h _ rfl
    refine g_pop 186 ck rfl rfl rfl ?_
    refine g_ic 187 ck rfl rfl ?_
    exact g_retb ck rfl rfl (Or.inr rfl) h
def w99_138 (B : va_E) (σ : l2_m) (o1 : Nat) (x2 : Int) (x3 : Int) (x4 : Int) (x5 : Int) (x6 : Int) (x7 : Int) (x8 : Int) (X45 : Int → Int → Int → l2_m → Prop) (K : Int → l2_m → Prop) : Prop := ((0 ≤ x7 ∧ x7 < 3) ∧ ∀ x5' : Int, x5' = (x5 + (x8 * (σ 53 x7))) → X45 x4 x5' (x6 + 1) σ)
theorem o99_138 {B : va_E} {σ : l2_m} {o1 : Nat} {x2 : Int} {x3 : Int} {x4 : Int} {x5 : Int} {x6 : Int} {x7 : Int} {x8 : Int}  {X45 : Int → Int → Int → l2_m → Prop} {K : Int → l2_m → Prop} (ho1 : isP o1)  (hX45 : ∀ (x4 : Int) (x5 : Int) (x6 : Int) (σ : l2_m) (u7 : Value) (u8 : Value), (u7.category == 1) = true → (u8.category == 1) = true → X45 x4 x5 x6 σ → wW B 99 45 [vr 49, vr o1, vi x2, vi x3, vi x4, vi x5, vi x6, u7, u8] [] σ K) (h : w99_138 B σ o1 x2 x3 x4 x5 x6 x7 x8 X45 K) : wW B 99 138 [vr 49, vr o1, vi x2, vi x3, vi x4, vi x5, vi x6, vi x7, vi x8] [] σ K := by
  have ck : pm_code 99 = pc_99 := rfl
  unfold w99_138 at h
  obtain ⟨⟨hs1, hs2⟩, h⟩ := h
  refine g_il 140 ck rfl rfl rfl ?_
  refine g_il 142 ck rfl rfl rfl ?_
  refine g_al 143 ck rfl rfl rfl ?_
  refine r_gfr 146 52 ck rfl rfl rfl (by decide) ?_
  refine r_gfr 149 53 ck rfl rfl rfl (by decide) ?_
  refine g_il 151 ck rfl rfl rfl ?_
  refine g_ial (m := 3) 152 ck rfl rfl rfl hs1 hs2 ?_
  refine g_mul 153 ck rfl rfl ?_
  refine g_add 154 ck rfl rfl ?_
  refine r_is 156 ck rfl rfl rfl rfl ?_
  replace h := h _ rfl
  refine r_ii 159 ck rfl rfl rfl rfl ?_
  refine g_goto 45 ck rfl rfl ?_
  exact hX45 _ _ _ _ _ _ rfl rfl h
def w99_45 (B : va_E) (σ : l2_m) (o1 : Nat) (x2 : Int) (x3 : Int) (x4 : Int) (x5 : Int) (x6 : Int)  (K : Int → l2_m → Prop) : Prop := lz4 (fun X45 x4 x5 x6 σ => (rg x6 ∧ ((¬ (3 < x6) → rg (σ 49 10) ∧ 0 ≤ (σ 49 11) ∧ (σ 49 11) ≤ (σ 49 8) ∧ (σ 49 8) ≤ 700 ∧ rg (σ 55 (σ 49 11)) ∧ rg (unk σ)) ∧ (if (3 < x6) ∨ ((unk σ) = (-1)) then w99_162 B σ o1 x2 x3 x5 K else (∀ x7 : Int, x7 = (unk σ) → (rg x4 ∧ 0 ≤ x7 ∧ x7 < 32) ∧ (if (bit x4 x7) = 1 then (∀ σ''''' : l2_m, σ''''' = l2_u (l2_u σ 49 4 3) 49 5 (σ 49 11) → K 0 σ''''') else ((0 ≤ x4 ∧ 0 ≤ ((1 : Int) * 2 ^ (Int.toNat x7)) ∧ x4 < 2147483648 ∧ ((1 : Int) * 2 ^ (Int.toNat x7)) < 2147483648) ∧ ∀ x4' : Int, x4' = (ior x4 ((1 : Int) * 2 ^ (Int.toNat x7))) → (wC B 103 [vr 49] σ (fun _ σ' => (rg (σ' 49 10) ∧ (if (σ' 49 10) = 2 then (rg (σ' 49 12) ∧ (if (σ' 49 12) < 1 then (∀ σ'' : l2_m, σ'' = l2_u (l2_u σ' 49 4 4) 49 5 (σ' 49 11) → K 0 σ'') else (if 15 < (σ' 49 12) then (∀ σ'''' : l2_m, σ'''' = l2_u (l2_u σ' 49 4 4) 49 5 (σ' 49 11) → K 0 σ'''') else (∀ x8 : Int, x8 = (σ' 49 12) → (wC B 103 [vr 49] σ' (fun _ σ''' => w99_138 B σ''' o1 x2 x3 x4' x5 x6 x7 x8 X45 K)))))) else w99_138 B σ' o1 x2 x3 x4' x5 x6 x7 1 X45 K))))))))))) x4 x5 x6 σ
theorem o99_45 {B : va_E} {σ : l2_m} {o1 : Nat} {x2 : Int} {x3 : Int} {x4 : Int} {x5 : Int} {x6 : Int} {u7 : Value} {u8 : Value}  {K : Int → l2_m → Prop} (ho1 : isP o1) (hu7 : (u7.category == 1) = true) (hu8 : (u8.category == 1) = true)  (h : w99_45 B σ o1 x2 x3 x4 x5 x6  K) : wW B 99 45 [vr 49, vr o1, vi x2, vi x3, vi x4, vi x5, vi x6, u7, u8] [] σ K := by
  have ck : pm_code 99 = pc_99 := rfl
  unfold w99_45 at h
  refine h (fun x4 x5 x6 σ => ∀ u7 : Value, (u7.category == 1) = true → ∀ u8 : Value, (u8.category == 1) = true → wW B 99 45 [vr 49, vr o1, vi x2, vi x3, vi x4, vi x5, vi x6, u7, u8] [] σ K) ?_ u7 hu7 u8 hu8
  clear h
  intro x4 x5 x6 σ h u7 hu7 u8 hu8
  replace h := (And.imp_right mg_1s) h
  obtain ⟨hs1, h⟩ := h
  refine g_il 47 ck rfl rfl rfl ?_
  refine g_ic 48 ck rfl rfl ?_
  refine g_icgt 51 162 ck rfl rfl rfl hs1 (by decide) (fun hc => ?_) (fun hc => ?_)
  · replace h := ite_ht h hc
    exact o99_162 ho1 rfl rfl hu7 hu8 h
  · replace h := ite_hf h hc
    obtain ⟨⟨hs2, hs3, hs4, hs5, hs6, hs7⟩, h⟩ := h
    refine g_al 52 ck rfl rfl rfl ?_
    refine g_cvi (as := []) (rest := []) 55 ck rfl rfl rfl rfl rfl rfl (by decide) rfl rfl rfl rfl (Nat.le_of_ble_eq_true rfl) (s102 hs2 hs3 hs4 hs5 hs6 ?_)
    refine g_ic 56 ck rfl rfl ?_
    refine g_iceq 59 162 ck rfl rfl rfl hs7 (by decide) (fun hc => ?_) (fun hc => ?_)
    · replace h := ite_ht h hc
      exact o99_162 ho1 rfl rfl hu7 hu8 h
    · replace h := ite_hf h hc
      refine g_al 60 ck rfl rfl rfl ?_
      refine g_cvi (as := []) (rest := []) 63 ck rfl rfl rfl rfl rfl rfl (by decide) rfl rfl rfl rfl (Nat.le_of_ble_eq_true rfl) (s102 hs2 hs3 hs4 hs5 hs6 ?_)
      refine r_is 65 ck rfl rfl rfl rfl ?_
      replace h := h _ rfl
      obtain ⟨⟨hs8, hs9, hs10⟩, h⟩ := h
      refine g_il 67 ck rfl rfl rfl ?_
      refine g_il 69 ck rfl rfl rfl ?_
      refine g_csi (as := [_, _]) (rest := []) 72 ck rfl rfl rfl rfl rfl (by decide) rfl rfl rfl (Nat.le_of_ble_eq_true rfl) (s152 hs8 hs9 hs10 ?_)
      refine g_ifeq 75 81 ck rfl rfl rfl rg_b2i (fun hc => ?_) (fun hc => ?_)
      · replace h := ite_hf h (b2i_f hc)
        obtain ⟨⟨hs11, hs12, hs13, hs14⟩, h⟩ := h
        refine g_il 83 ck rfl rfl rfl ?_
        refine g_ic 84 ck rfl rfl ?_
        refine g_il 86 ck rfl rfl rfl ?_
        refine g_shl 87 ck rfl rfl hs9 hs10 ?_
        refine g_or 88 ck rfl rfl hs11 hs12 hs13 hs14 ?_
        refine r_is 90 ck rfl rfl rfl rfl ?_
        replace h := h _ rfl
        refine g_al 91 ck rfl rfl rfl ?_
        refine g_cvv (as := []) (rest := []) 94 ck rfl rfl rfl rfl rfl rfl rfl rfl rfl rfl (Nat.le_of_ble_eq_true rfl) (wC.mono h (fun _ σ' h => ?_))
        obtain ⟨hs15, h⟩ := h
        refine g_ic 95 ck rfl rfl ?_
        refine r_is 97 ck rfl rfl rfl rfl ?_
        refine g_al 98 ck rfl rfl rfl ?_
        refine r_gfi 101 10 ck rfl rfl rfl rfl ?_
        refine g_ic 102 ck rfl rfl ?_
        refine g_icne 105 138 ck rfl rfl rfl hs15 (by decide) (fun hc => ?_) (fun hc => ?_)
        · replace h := ite_hf h hc
          exact o99_138 ho1 (fun _ _ _ _ u7 u8 hu7 hu8 hx => hx u7 hu7 u8 hu8) h
        · replace h := ite_ht h (Classical.not_not.mp hc)
          obtain ⟨hs16, h⟩ := h
          refine g_al 106 ck rfl rfl rfl ?_
          refine r_gfi 109 12 ck rfl rfl rfl rfl ?_
          refine g_ic 110 ck rfl rfl ?_
          refine g_iclt 113 122 ck rfl rfl rfl hs16 (by decide) (fun hc => ?_) (fun hc => ?_)
          · replace h := ite_ht h hc
            refine g_al 123 ck rfl rfl rfl ?_
            refine g_ic 124 ck rfl rfl ?_
            refine g_cvi (as := [_]) (rest := []) 127 ck rfl rfl rfl rfl rfl rfl (by decide) rfl rfl rfl rfl (Nat.le_of_ble_eq_true rfl) (s94  ?_)
            replace h := h _ rfl
            exact g_retb ck rfl rfl (Or.inl rfl) h
          · replace h := ite_hf h hc
            refine g_al 114 ck rfl rfl rfl ?_
            refine r_gfi 117 12 ck rfl rfl rfl rfl ?_
            refine g_ic 119 ck rfl rfl ?_
            refine g_icle 122 128 ck rfl rfl rfl hs16 (by decide) (fun hc => ?_) (fun hc => ?_)
            · replace h := ite_hf h (Int.not_lt.mpr hc)
              refine g_al 129 ck rfl rfl rfl ?_
              refine r_gfi 132 12 ck rfl rfl rfl rfl ?_
              refine r_is 134 ck rfl rfl rfl rfl ?_
              replace h := h _ rfl
              refine g_al 135 ck rfl rfl rfl ?_
              refine g_cvv (as := []) (rest := []) 138 ck rfl rfl rfl rfl rfl rfl rfl rfl rfl rfl (Nat.le_of_ble_eq_true rfl) (wC.mono h (fun _ σ''' h => ?_))
              exact o99_138 ho1 (fun _ _ _ _ u7 u8 hu7 hu8 hx => hx u7 hu7 u8 hu8) h
            · replace h := ite_ht h (Int.not_le.mp hc)
              refine g_al 123 ck rfl rfl rfl ?_
              refine g_ic 124 ck rfl rfl ?_
              refine g_cvi (as := [_]) (rest := []) 127 ck rfl rfl rfl rfl rfl rfl (by decide) rfl rfl rfl rfl (Nat.le_of_ble_eq_true rfl) (s94  ?_)
              replace h := h _ rfl
              exact g_retb ck rfl rfl (Or.inl rfl) h
      · replace h := ite_ht h (b2i_t hc)
        refine g_al 76 ck rfl rfl rfl ?_
        refine g_ic 77 ck rfl rfl ?_
        refine g_cvi (as := [_]) (rest := []) 80 ck rfl rfl rfl rfl rfl rfl (by decide) rfl rfl rfl rfl (Nat.le_of_ble_eq_true rfl) (s94  ?_)
        replace h := h _ rfl
        exact g_retb ck rfl rfl (Or.inl rfl) h
def w99 (B : va_E) (σ : l2_m) (o1 : Nat) (x2 : Int) (K : Int → l2_m → Prop) : Prop := (rg (σ 49 10) ∧ (if (σ 49 10) = 2 then (∀ x3 : Int, x3 = (σ 49 12) → (wC B 103 [vr 49] σ (fun _ σ'' => w99_45 B σ'' o1 x2 x3 0 0 0 K))) else ((0 ≤ (σ 49 11) ∧ (σ 49 11) ≤ (σ 49 8) ∧ (σ 49 8) ≤ 700 ∧ rg (σ 55 (σ 49 11)) ∧ rg (unk σ)) ∧ (if (unk σ) = (-1) then (∀ σ' : l2_m, σ' = l2_u (l2_u σ 49 4 1) 49 5 (σ 49 11) → K 0 σ') else w99_45 B σ o1 x2 1 0 0 0 K))))
theorem o99 {B : va_E} {σ : l2_m} {o1 : Nat} {x2 : Int} {K : Int → l2_m → Prop} (ho1 : isP o1)  (h : w99 B σ o1 x2  K) : wC B 99 [vr 49, vr o1, vi x2] σ K := by
  have ck : pm_code 99 = pc_99 := rfl
  unfold w99 at h
  show wW B 99 0 [vr 49, vr o1, vi x2, pm_un, pm_un, pm_un, pm_un, pm_un, pm_un] [] σ K
  obtain ⟨hs1, h⟩ := h
  refine g_ic 1 ck rfl rfl ?_
  refine r_is 2 ck rfl rfl rfl rfl ?_
  refine g_al 3 ck rfl rfl rfl ?_
  refine r_gfi 6 10 ck rfl rfl rfl rfl ?_
  refine g_ic 7 ck rfl rfl ?_
  refine g_icne 10 22 ck rfl rfl rfl hs1 (by decide) (fun hc => ?_) (fun hc => ?_)
  · replace h := ite_hf h hc
    obtain ⟨⟨hs2, hs3, hs4, hs5, hs6⟩, h⟩ := h
    refine g_al 23 ck rfl rfl rfl ?_
    refine g_cvi (as := []) (rest := []) 26 ck rfl rfl rfl rfl rfl rfl (by decide) rfl rfl rfl rfl (Nat.le_of_ble_eq_true rfl) (s102 hs1 hs2 hs3 hs4 hs5 ?_)
    refine g_ic 27 ck rfl rfl ?_
    refine g_icne 30 36 ck rfl rfl rfl hs6 (by decide) (fun hc => ?_) (fun hc => ?_)
    · replace h := ite_hf h hc
      refine g_ic 37 ck rfl rfl ?_
      refine r_is 39 ck rfl rfl rfl rfl ?_
      refine g_ic 40 ck rfl rfl ?_
      refine r_is 42 ck rfl rfl rfl rfl ?_
      refine g_ic 43 ck rfl rfl ?_
      refine r_is 45 ck rfl rfl rfl rfl ?_
      exact o99_45 ho1 rfl rfl h
    · replace h := ite_ht h (Classical.not_not.mp hc)
      refine g_al 31 ck rfl rfl rfl ?_
      refine g_ic 32 ck rfl rfl ?_
      refine g_cvi (as := [_]) (rest := []) 35 ck rfl rfl rfl rfl rfl rfl (by decide) rfl rfl rfl rfl (Nat.le_of_ble_eq_true rfl) (s94  ?_)
      replace h := h _ rfl
      exact g_retb ck rfl rfl (Or.inl rfl) h
  · replace h := ite_ht h (Classical.not_not.mp hc)
    refine g_al 11 ck rfl rfl rfl ?_
    refine r_gfi 14 12 ck rfl rfl rfl rfl ?_
    refine r_is 15 ck rfl rfl rfl rfl ?_
    replace h := h _ rfl
    refine g_al 16 ck rfl rfl rfl ?_
    refine g_cvv (as := []) (rest := []) 19 ck rfl rfl rfl rfl rfl rfl rfl rfl rfl rfl (Nat.le_of_ble_eq_true rfl) (wC.mono h (fun _ σ'' h => ?_))
    refine g_goto 36 ck rfl rfl ?_
    refine g_ic 37 ck rfl rfl ?_
    refine r_is 39 ck rfl rfl rfl rfl ?_
    refine g_ic 40 ck rfl rfl ?_
    refine r_is 42 ck rfl rfl rfl rfl ?_
    refine g_ic 43 ck rfl rfl ?_
    refine r_is 45 ck rfl rfl rfl rfl ?_
    exact o99_45 ho1 rfl rfl h
/-! 103 TermDesk$Reader.advance()V -/
def w103_293 (B : va_E) (σ : l2_m)   (K : Int → l2_m → Prop) : Prop := (∀ σ' : l2_m, σ' = l2_u σ 49 10 3 → ∀ σ'' : l2_m, σ'' = l2_u σ' 49 8 ((σ' 49 8) + 1) → K 0 σ'')
theorem o103_293 {B : va_E} {σ : l2_m}    {K : Int → l2_m → Prop}    (h : w103_293 B σ   K) : wW B 103 293 [vr 49] [vr 49] σ K := by
  have ck : pm_code 103 = pc_103 := rfl
  unfold w103_293 at h
  refine g_ic 294 ck rfl rfl ?_
  refine g_goto 298 ck rfl rfl ?_
  refine g_pfi 301 ck rfl rfl rfl 10 rfl rfl ?_
  replace h := h _ rfl
  refine g_al 302 ck rfl rfl rfl ?_
  refine g_dup 303 ck rfl rfl rfl ?_
  refine r_gfi 306 8 ck rfl rfl rfl rfl ?_
  refine g_ic 307 ck rfl rfl ?_
  refine g_add 308 ck rfl rfl ?_
  refine g_pfi 311 ck rfl rfl rfl 8 rfl rfl ?_
  replace h := h _ rfl
  exact g_retv ck rfl rfl h
def w103_227 (B : va_E) (σ : l2_m)   (K : Int → l2_m → Prop) : Prop := (rg ((σ 49 8) - (σ 49 11)) ∧ (if 4 < ((σ 49 8) - (σ 49 11)) then (∀ σ' : l2_m, σ' = l2_u σ 49 10 4 → K 0 σ') else (∀ σ'' : l2_m, σ'' = l2_u σ 49 10 2 → K 0 σ'')))
theorem o103_227 {B : va_E} {σ : l2_m}    {K : Int → l2_m → Prop}    (h : w103_227 B σ   K) : wW B 103 227 [vr 49] [] σ K := by
  have ck : pm_code 103 = pc_103 := rfl
  unfold w103_227 at h
  obtain ⟨hs1, h⟩ := h
  refine g_al 228 ck rfl rfl rfl ?_
  refine g_al 229 ck rfl rfl rfl ?_
  refine r_gfi 232 8 ck rfl rfl rfl rfl ?_
  refine g_al 233 ck rfl rfl rfl ?_
  refine r_gfi 236 11 ck rfl rfl rfl rfl ?_
  refine g_sub 237 ck rfl rfl ?_
  refine g_ic 238 ck rfl rfl ?_
  refine g_icgt 241 245 ck rfl rfl rfl hs1 (by decide) (fun hc => ?_) (fun hc => ?_)
  · replace h := ite_ht h hc
    refine g_ic 246 ck rfl rfl ?_
    refine g_pfi 249 ck rfl rfl rfl 10 rfl rfl ?_
    replace h := h _ rfl
    refine g_goto 311 ck rfl rfl ?_
    exact g_retv ck rfl rfl h
  · replace h := ite_hf h hc
    refine g_ic 242 ck rfl rfl ?_
    refine g_goto 246 ck rfl rfl ?_
    refine g_pfi 249 ck rfl rfl rfl 10 rfl rfl ?_
    replace h := h _ rfl
    refine g_goto 311 ck rfl rfl ?_
    exact g_retv ck rfl rfl h
def w103_164 (B : va_E) (σ : l2_m)   (K : Int → l2_m → Prop) : Prop := lz1 (fun X164 σ => ((rg (σ 49 8) ∧ rg (σ 49 7)) ∧ ((((σ 49 8) < (σ 49 7)) → 0 ≤ (σ 49 8) ∧ (σ 49 8) < 700 ∧ rg (σ 55 (σ 49 8))) ∧ (if ((σ 49 8) < (σ 49 7)) ∧ (48 ≤ (σ 55 (σ 49 8)) ∧ (σ 55 (σ 49 8)) ≤ 57) then (∀ σ' : l2_m, σ' = l2_u σ 49 12 (((10 * (σ 49 12)) + (σ 55 (σ 49 8))) - 48) → ∀ σ'' : l2_m, σ'' = l2_u σ' 49 8 ((σ' 49 8) + 1) → X164 σ'') else w103_227 B σ K)))) σ
theorem o103_164 {B : va_E} {σ : l2_m}    {K : Int → l2_m → Prop}    (h : w103_164 B σ   K) : wW B 103 164 [vr 49] [] σ K := by
  have ck : pm_code 103 = pc_103 := rfl
  unfold w103_164 at h
  refine h (fun σ => wW B 103 164 [vr 49] [] σ K) ?_
  clear h
  intro σ h
  replace h := (And.imp_right mg_3s) h
  obtain ⟨⟨hs1, hs2⟩, h⟩ := h
  refine g_al 165 ck rfl rfl rfl ?_
  refine r_gfi 168 8 ck rfl rfl rfl rfl ?_
  refine g_al 169 ck rfl rfl rfl ?_
  refine r_gfi 172 7 ck rfl rfl rfl rfl ?_
  refine g_icge 175 227 ck rfl rfl rfl hs1 hs2 (fun hc => ?_) (fun hc => ?_)
  · replace h := ite_hf h (Int.not_lt.mpr hc)
    exact o103_227  h
  · replace h := ite_ht h (Int.not_le.mp hc)
    obtain ⟨⟨hs3, hs4, hs5⟩, h⟩ := h
    refine g_al 176 ck rfl rfl rfl ?_
    refine r_gfr 179 55 ck rfl rfl rfl (by decide) ?_
    refine g_al 180 ck rfl rfl rfl ?_
    refine r_gfi 183 8 ck rfl rfl rfl rfl ?_
    refine g_ial (m := 700) 184 ck rfl rfl rfl hs3 hs4 ?_
    refine g_csi (as := [_]) (rest := []) 187 ck rfl rfl rfl rfl rfl (by decide) rfl rfl rfl (Nat.le_of_ble_eq_true rfl) (s105 hs5 ?_)
    refine g_ifeq 190 227 ck rfl rfl rfl rg_b2i (fun hc => ?_) (fun hc => ?_)
    · replace h := ite_hf h (b2i_f hc)
      exact o103_227  h
    · replace h := ite_ht h (b2i_t hc)
      refine g_al 191 ck rfl rfl rfl ?_
      refine g_ic 193 ck rfl rfl ?_
      refine g_al 194 ck rfl rfl rfl ?_
      refine r_gfi 197 12 ck rfl rfl rfl rfl ?_
      refine g_mul 198 ck rfl rfl ?_
      refine g_al 199 ck rfl rfl rfl ?_
      refine r_gfr 202 55 ck rfl rfl rfl (by decide) ?_
      refine g_al 203 ck rfl rfl rfl ?_
      refine r_gfi 206 8 ck rfl rfl rfl rfl ?_
      refine g_ial (m := 700) 207 ck rfl rfl rfl hs3 hs4 ?_
      refine g_add 208 ck rfl rfl ?_
      refine g_ic 210 ck rfl rfl ?_
      refine g_sub 211 ck rfl rfl ?_
      refine g_pfi 214 ck rfl rfl rfl 12 rfl rfl ?_
      replace h := h _ rfl
      refine g_al 215 ck rfl rfl rfl ?_
      refine g_dup 216 ck rfl rfl rfl ?_
      refine r_gfi 219 8 ck rfl rfl rfl rfl ?_
      refine g_ic 220 ck rfl rfl ?_
      refine g_add 221 ck rfl rfl ?_
      refine g_pfi 224 ck rfl rfl rfl 8 rfl rfl ?_
      replace h := h _ rfl
      refine g_goto 164 ck rfl rfl ?_
      exact h
def w103_124 (B : va_E) (σ : l2_m)   (K : Int → l2_m → Prop) : Prop := (rg ((σ 49 8) - (σ 49 11)) ∧ (if 5 < ((σ 49 8) - (σ 49 11)) then (∀ σ' : l2_m, σ' = l2_u σ 49 10 4 → K 0 σ') else (∀ σ'' : l2_m, σ'' = l2_u σ 49 10 1 → K 0 σ'')))
theorem o103_124 {B : va_E} {σ : l2_m}    {K : Int → l2_m → Prop}    (h : w103_124 B σ   K) : wW B 103 124 [vr 49] [] σ K := by
  have ck : pm_code 103 = pc_103 := rfl
  unfold w103_124 at h
  obtain ⟨hs1, h⟩ := h
  refine g_al 125 ck rfl rfl rfl ?_
  refine g_al 126 ck rfl rfl rfl ?_
  refine r_gfi 129 8 ck rfl rfl rfl rfl ?_
  refine g_al 130 ck rfl rfl rfl ?_
  refine r_gfi 133 11 ck rfl rfl rfl rfl ?_
  refine g_sub 134 ck rfl rfl ?_
  refine g_ic 135 ck rfl rfl ?_
  refine g_icgt 138 142 ck rfl rfl rfl hs1 (by decide) (fun hc => ?_) (fun hc => ?_)
  · replace h := ite_ht h hc
    refine g_ic 143 ck rfl rfl ?_
    refine g_pfi 146 ck rfl rfl rfl 10 rfl rfl ?_
    replace h := h _ rfl
    refine g_goto 311 ck rfl rfl ?_
    exact g_retv ck rfl rfl h
  · replace h := ite_hf h hc
    refine g_ic 139 ck rfl rfl ?_
    refine g_goto 143 ck rfl rfl ?_
    refine g_pfi 146 ck rfl rfl rfl 10 rfl rfl ?_
    replace h := h _ rfl
    refine g_goto 311 ck rfl rfl ?_
    exact g_retv ck rfl rfl h
def w103_85 (B : va_E) (σ : l2_m)   (K : Int → l2_m → Prop) : Prop := lz1 (fun X85 σ => ((rg (σ 49 8) ∧ rg (σ 49 7)) ∧ ((((σ 49 8) < (σ 49 7)) → 0 ≤ (σ 49 8) ∧ (σ 49 8) < 700 ∧ rg (σ 55 (σ 49 8))) ∧ (if ((σ 49 8) < (σ 49 7)) ∧ (97 ≤ (σ 55 (σ 49 8)) ∧ (σ 55 (σ 49 8)) ≤ 122) then (∀ σ' : l2_m, σ' = l2_u σ 49 8 ((σ 49 8) + 1) → X85 σ') else w103_124 B σ K)))) σ
theorem o103_85 {B : va_E} {σ : l2_m}    {K : Int → l2_m → Prop}    (h : w103_85 B σ   K) : wW B 103 85 [vr 49] [] σ K := by
  have ck : pm_code 103 = pc_103 := rfl
  unfold w103_85 at h
  refine h (fun σ => wW B 103 85 [vr 49] [] σ K) ?_
  clear h
  intro σ h
  replace h := (And.imp_right mg_3s) h
  obtain ⟨⟨hs1, hs2⟩, h⟩ := h
  refine g_al 86 ck rfl rfl rfl ?_
  refine r_gfi 89 8 ck rfl rfl rfl rfl ?_
  refine g_al 90 ck rfl rfl rfl ?_
  refine r_gfi 93 7 ck rfl rfl rfl rfl ?_
  refine g_icge 96 124 ck rfl rfl rfl hs1 hs2 (fun hc => ?_) (fun hc => ?_)
  · replace h := ite_hf h (Int.not_lt.mpr hc)
    exact o103_124  h
  · replace h := ite_ht h (Int.not_le.mp hc)
    obtain ⟨⟨hs3, hs4, hs5⟩, h⟩ := h
    refine g_al 97 ck rfl rfl rfl ?_
    refine r_gfr 100 55 ck rfl rfl rfl (by decide) ?_
    refine g_al 101 ck rfl rfl rfl ?_
    refine r_gfi 104 8 ck rfl rfl rfl rfl ?_
    refine g_ial (m := 700) 105 ck rfl rfl rfl hs3 hs4 ?_
    refine g_csi (as := [_]) (rest := []) 108 ck rfl rfl rfl rfl rfl (by decide) rfl rfl rfl (Nat.le_of_ble_eq_true rfl) (s104 hs5 ?_)
    refine g_ifeq 111 124 ck rfl rfl rfl rg_b2i (fun hc => ?_) (fun hc => ?_)
    · replace h := ite_hf h (b2i_f hc)
      exact o103_124  h
    · replace h := ite_ht h (b2i_t hc)
      refine g_al 112 ck rfl rfl rfl ?_
      refine g_dup 113 ck rfl rfl rfl ?_
      refine r_gfi 116 8 ck rfl rfl rfl rfl ?_
      refine g_ic 117 ck rfl rfl ?_
      refine g_add 118 ck rfl rfl ?_
      refine g_pfi 121 ck rfl rfl rfl 8 rfl rfl ?_
      replace h := h _ rfl
      refine g_goto 85 ck rfl rfl ?_
      exact h
def w103_38 (B : va_E) (σ : l2_m)   (K : Int → l2_m → Prop) : Prop := (∀ σ' : l2_m, σ' = l2_u σ 49 11 (σ 49 8) → ∀ σ'' : l2_m, σ'' = l2_u σ' 49 12 0 → (rg (σ'' 49 8) ∧ rg (σ'' 49 7)) ∧ (if (σ'' 49 8) < (σ'' 49 7) then ((0 ≤ (σ'' 49 8) ∧ (σ'' 49 8) < 700 ∧ rg (σ'' 55 (σ'' 49 8))) ∧ (if 97 ≤ (σ'' 55 (σ'' 49 8)) ∧ (σ'' 55 (σ'' 49 8)) ≤ 122 then w103_85 B σ'' K else (if 48 ≤ (σ'' 55 (σ'' 49 8)) ∧ (σ'' 55 (σ'' 49 8)) ≤ 57 then w103_164 B σ'' K else (∀ σ''' : l2_m, σ''' = l2_u σ'' 49 12 (σ'' 55 (σ'' 49 8)) → rg (σ''' 49 12) ∧ (if ((σ''' 49 12) = 59) ∨ (((σ''' 49 12) = 43) ∨ ((σ''' 49 12) = 45)) then w103_293 B σ''' K else (∀ σ'''' : l2_m, σ'''' = l2_u σ''' 49 10 4 → ∀ σ''''' : l2_m, σ''''' = l2_u σ'''' 49 8 ((σ'''' 49 8) + 1) → K 0 σ''''')))))) else (∀ σ'''''' : l2_m, σ'''''' = l2_u σ'' 49 10 0 → K 0 σ'''''')))
theorem o103_38 {B : va_E} {σ : l2_m}    {K : Int → l2_m → Prop}    (h : w103_38 B σ   K) : wW B 103 38 [vr 49] [] σ K := by
  have ck : pm_code 103 = pc_103 := rfl
  unfold w103_38 at h
  replace h := (fun h x e => (fun h x e => (And.imp_right (ite_mp (And.imp_right (ite_mp id (ite_mp id (fun h x e => (And.imp_right (fun h => ite_mp id mg_1 (mg_1 h))) (h x e))))) id)) (h x e)) (h x e)) h
  refine g_al 39 ck rfl rfl rfl ?_
  refine g_al 40 ck rfl rfl rfl ?_
  refine r_gfi 43 8 ck rfl rfl rfl rfl ?_
  refine g_pfi 46 ck rfl rfl rfl 11 rfl rfl ?_
  replace h := h _ rfl
  refine g_al 47 ck rfl rfl rfl ?_
  refine g_ic 48 ck rfl rfl ?_
  refine g_pfi 51 ck rfl rfl rfl 12 rfl rfl ?_
  replace h := h _ rfl
  obtain ⟨⟨hs1, hs2⟩, h⟩ := h
  refine g_al 52 ck rfl rfl rfl ?_
  refine r_gfi 55 8 ck rfl rfl rfl rfl ?_
  refine g_al 56 ck rfl rfl rfl ?_
  refine r_gfi 59 7 ck rfl rfl rfl rfl ?_
  refine g_iclt 62 70 ck rfl rfl rfl hs1 hs2 (fun hc => ?_) (fun hc => ?_)
  · replace h := ite_ht h hc
    obtain ⟨⟨hs3, hs4, hs5⟩, h⟩ := h
    refine g_al 71 ck rfl rfl rfl ?_
    refine r_gfr 74 55 ck rfl rfl rfl (by decide) ?_
    refine g_al 75 ck rfl rfl rfl ?_
    refine r_gfi 78 8 ck rfl rfl rfl rfl ?_
    refine g_ial (m := 700) 79 ck rfl rfl rfl hs3 hs4 ?_
    refine g_csi (as := [_]) (rest := []) 82 ck rfl rfl rfl rfl rfl (by decide) rfl rfl rfl (Nat.le_of_ble_eq_true rfl) (s104 hs5 ?_)
    refine g_ifeq 85 149 ck rfl rfl rfl rg_b2i (fun hc => ?_) (fun hc => ?_)
    · replace h := ite_hf h (b2i_f hc)
      refine g_al 150 ck rfl rfl rfl ?_
      refine r_gfr 153 55 ck rfl rfl rfl (by decide) ?_
      refine g_al 154 ck rfl rfl rfl ?_
      refine r_gfi 157 8 ck rfl rfl rfl rfl ?_
      refine g_ial (m := 700) 158 ck rfl rfl rfl hs3 hs4 ?_
      refine g_csi (as := [_]) (rest := []) 161 ck rfl rfl rfl rfl rfl (by decide) rfl rfl rfl (Nat.le_of_ble_eq_true rfl) (s105 hs5 ?_)
      refine g_ifeq 164 252 ck rfl rfl rfl rg_b2i (fun hc => ?_) (fun hc => ?_)
      · replace h := ite_hf h (b2i_f hc)
        refine g_al 253 ck rfl rfl rfl ?_
        refine g_al 254 ck rfl rfl rfl ?_
        refine r_gfr 257 55 ck rfl rfl rfl (by decide) ?_
        refine g_al 258 ck rfl rfl rfl ?_
        refine r_gfi 261 8 ck rfl rfl rfl rfl ?_
        refine g_ial (m := 700) 262 ck rfl rfl rfl hs3 hs4 ?_
        refine g_pfi 265 ck rfl rfl rfl 12 rfl rfl ?_
        replace h := h _ rfl
        obtain ⟨hs6, h⟩ := h
        refine g_al 266 ck rfl rfl rfl ?_
        refine g_al 267 ck rfl rfl rfl ?_
        refine r_gfi 270 12 ck rfl rfl rfl rfl ?_
        refine g_ic 272 ck rfl rfl ?_
        refine g_iceq 275 293 ck rfl rfl rfl hs6 (by decide) (fun hc => ?_) (fun hc => ?_)
        · replace h := ite_ht h hc
          exact o103_293  h
        · replace h := ite_hf h hc
          refine g_al 276 ck rfl rfl rfl ?_
          refine r_gfi 279 12 ck rfl rfl rfl rfl ?_
          refine g_ic 281 ck rfl rfl ?_
          refine g_iceq 284 293 ck rfl rfl rfl hs6 (by decide) (fun hc => ?_) (fun hc => ?_)
          · replace h := ite_ht h hc
            exact o103_293  h
          · replace h := ite_hf h hc
            refine g_al 285 ck rfl rfl rfl ?_
            refine r_gfi 288 12 ck rfl rfl rfl rfl ?_
            refine g_ic 290 ck rfl rfl ?_
            refine g_icne 293 297 ck rfl rfl rfl hs6 (by decide) (fun hc => ?_) (fun hc => ?_)
            · replace h := ite_hf h hc
              refine g_ic 298 ck rfl rfl ?_
              refine g_pfi 301 ck rfl rfl rfl 10 rfl rfl ?_
              replace h := h _ rfl
              refine g_al 302 ck rfl rfl rfl ?_
              refine g_dup 303 ck rfl rfl rfl ?_
              refine r_gfi 306 8 ck rfl rfl rfl rfl ?_
              refine g_ic 307 ck rfl rfl ?_
              refine g_add 308 ck rfl rfl ?_
              refine g_pfi 311 ck rfl rfl rfl 8 rfl rfl ?_
              replace h := h _ rfl
              exact g_retv ck rfl rfl h
            · replace h := ite_ht h (Classical.not_not.mp hc)
              exact o103_293  h
      · replace h := ite_ht h (b2i_t hc)
        exact o103_164  h
    · replace h := ite_ht h (b2i_t hc)
      exact o103_85  h
  · replace h := ite_hf h hc
    refine g_al 63 ck rfl rfl rfl ?_
    refine g_ic 64 ck rfl rfl ?_
    refine g_pfi 67 ck rfl rfl rfl 10 rfl rfl ?_
    replace h := h _ rfl
    refine g_goto 311 ck rfl rfl ?_
    exact g_retv ck rfl rfl h
def w103 (B : va_E) (σ : l2_m)  (K : Int → l2_m → Prop) : Prop := lz1 (fun X0 σ => ((rg (σ 49 8) ∧ rg (σ 49 7)) ∧ ((((σ 49 8) < (σ 49 7)) → 0 ≤ (σ 49 8) ∧ (σ 49 8) < 700 ∧ rg (σ 55 (σ 49 8))) ∧ (if ((σ 49 8) < (σ 49 7)) ∧ ((σ 55 (σ 49 8)) = 32) then (∀ σ' : l2_m, σ' = l2_u σ 49 8 ((σ 49 8) + 1) → X0 σ') else w103_38 B σ K)))) σ
theorem o103 {B : va_E} {σ : l2_m}  {K : Int → l2_m → Prop}   (h : w103 B σ   K) : wC B 103 [vr 49] σ K := by
  have ck : pm_code 103 = pc_103 := rfl
  unfold w103 at h
  show wW B 103 0 [vr 49] [] σ K
  refine h (fun σ => wW B 103 0 [vr 49] [] σ K) ?_
  clear h
  intro σ h
  replace h := (And.imp_right mg_3s) h
  obtain ⟨⟨hs1, hs2⟩, h⟩ := h
  refine g_al 1 ck rfl rfl rfl ?_
  refine r_gfi 4 8 ck rfl rfl rfl rfl ?_
  refine g_al 5 ck rfl rfl rfl ?_
  refine r_gfi 8 7 ck rfl rfl rfl rfl ?_
  refine g_icge 11 38 ck rfl rfl rfl hs1 hs2 (fun hc => ?_) (fun hc => ?_)
  · replace h := ite_hf h (Int.not_lt.mpr hc)
    exact o103_38  h
  · replace h := ite_ht h (Int.not_le.mp hc)
    obtain ⟨⟨hs3, hs4, hs5⟩, h⟩ := h
    refine g_al 12 ck rfl rfl rfl ?_
    refine r_gfr 15 55 ck rfl rfl rfl (by decide) ?_
    refine g_al 16 ck rfl rfl rfl ?_
    refine r_gfi 19 8 ck rfl rfl rfl rfl ?_
    refine g_ial (m := 700) 20 ck rfl rfl rfl hs3 hs4 ?_
    refine g_ic 22 ck rfl rfl ?_
    refine g_icne 25 38 ck rfl rfl rfl hs5 (by decide) (fun hc => ?_) (fun hc => ?_)
    · replace h := ite_hf h hc
      exact o103_38  h
    · replace h := ite_ht h (Classical.not_not.mp hc)
      refine g_al 26 ck rfl rfl rfl ?_
      refine g_dup 27 ck rfl rfl rfl ?_
      refine r_gfi 30 8 ck rfl rfl rfl rfl ?_
      refine g_ic 31 ck rfl rfl ?_
      refine g_add 32 ck rfl rfl ?_
      refine g_pfi 35 ck rfl rfl rfl 8 rfl rfl ?_
      replace h := h _ rfl
      refine g_goto 0 ck rfl rfl ?_
      exact h
/-! 107 TermDesk.feed(IIIII)I -/
def w107 (B : va_E) (σ : l2_m) (x1 : Int) (x2 : Int) (x3 : Int) (x4 : Int) (x5 : Int) (K : Int → l2_m → Prop) : Prop := (rg ((σ 32 1) + 20) ∧ (if 700 < ((σ 32 1) + 20) then K (-1) σ else (wC B 156 [vr 32, vi x1] σ (fun _ σ' => (wC B 156 [vr 32, vi x2] σ' (fun _ σ'' => (wC B 156 [vr 32, vi x3] σ'' (fun _ σ''' => (wC B 156 [vr 32, vi x4] σ''' (fun _ σ'''' => (wC B 156 [vr 32, vi x5] σ'''' (fun _ σ''''' => K (σ''''' 32 1) σ'''''))))))))))))
theorem o107 {B : va_E} {σ : l2_m} {x1 : Int} {x2 : Int} {x3 : Int} {x4 : Int} {x5 : Int} {K : Int → l2_m → Prop}   (h : w107 B σ x1 x2 x3 x4 x5  K) : wC B 107 [vr 32, vi x1, vi x2, vi x3, vi x4, vi x5] σ K := by
  have ck : pm_code 107 = pc_107 := rfl
  unfold w107 at h
  show wW B 107 0 [vr 32, vi x1, vi x2, vi x3, vi x4, vi x5] [] σ K
  obtain ⟨hs1, h⟩ := h
  refine g_al 1 ck rfl rfl rfl ?_
  refine r_gfi 4 1 ck rfl rfl rfl rfl ?_
  refine g_ic 6 ck rfl rfl ?_
  refine g_add 7 ck rfl rfl ?_
  refine g_ic 10 ck rfl rfl ?_
  refine g_icle 13 15 ck rfl rfl rfl hs1 (by decide) (fun hc => ?_) (fun hc => ?_)
  · replace h := ite_hf h (Int.not_lt.mpr hc)
    refine g_al 16 ck rfl rfl rfl ?_
    refine g_il 17 ck rfl rfl rfl ?_
    refine g_cvv (as := [_]) (rest := []) 20 ck rfl rfl rfl rfl rfl rfl rfl rfl rfl rfl (Nat.le_of_ble_eq_true rfl) (wC.mono h (fun _ σ' h => ?_))
    refine g_al 21 ck rfl rfl rfl ?_
    refine g_il 22 ck rfl rfl rfl ?_
    refine g_cvv (as := [_]) (rest := []) 25 ck rfl rfl rfl rfl rfl rfl rfl rfl rfl rfl (Nat.le_of_ble_eq_true rfl) (wC.mono h (fun _ σ'' h => ?_))
    refine g_al 26 ck rfl rfl rfl ?_
    refine g_il 27 ck rfl rfl rfl ?_
    refine g_cvv (as := [_]) (rest := []) 30 ck rfl rfl rfl rfl rfl rfl rfl rfl rfl rfl (Nat.le_of_ble_eq_true rfl) (wC.mono h (fun _ σ''' h => ?_))
    refine g_al 31 ck rfl rfl rfl ?_
    refine g_il 33 ck rfl rfl rfl ?_
    refine g_cvv (as := [_]) (rest := []) 36 ck rfl rfl rfl rfl rfl rfl rfl rfl rfl rfl (Nat.le_of_ble_eq_true rfl) (wC.mono h (fun _ σ'''' h => ?_))
    refine g_al 37 ck rfl rfl rfl ?_
    refine g_il 39 ck rfl rfl rfl ?_
    refine g_cvv (as := [_]) (rest := []) 42 ck rfl rfl rfl rfl rfl rfl rfl rfl rfl rfl (Nat.le_of_ble_eq_true rfl) (wC.mono h (fun _ σ''''' h => ?_))
    refine g_al 43 ck rfl rfl rfl ?_
    refine r_gfi 46 1 ck rfl rfl rfl rfl ?_
    exact g_ret ck rfl rfl (Or.inl (by decide)) h
  · replace h := ite_ht h (Int.not_le.mp hc)
    refine g_ic 14 ck rfl rfl ?_
    exact g_ret ck rfl rfl (Or.inl (by decide)) h
/-! 108 TermDesk.desk(I)I -/
def w108 (B : va_E) (σ : l2_m) (x1 : Int) (K : Int → l2_m → Prop) : Prop := (rg x1 ∧ (if x1 < 0 then (∀ σ' : l2_m, σ' = trb σ 2 → K (-1) σ') else (rg (σ 32 1) ∧ (if (σ 32 1) < x1 then (∀ σ'''''''''' : l2_m, σ'''''''''' = trb σ 2 → K (-1) σ'''''''''') else (∀ σ'' : l2_m, σ'' = l2_u σ 32 1 0 → (wC B 93 [vr 49, vr 33, vi x1] σ'' (fun y σ''' => (rg y ∧ (if y = 0 then (∀ σ''''''' : l2_m, σ''''''' = l2_u σ''' 32 3 (σ''' 49 4) → ∀ σ'''''''' : l2_m, σ'''''''' = trb σ''''''' 4 → ∀ σ''''''''' : l2_m, σ''''''''' = l2_u σ'''''''' 32 4 (σ'''''''' 49 5) → K (-1) σ''''''''') else (∀ σ'''' : l2_m, σ'''' = l2_u σ''' 32 3 0 → (wC B 157 [vr 32] σ'''' (fun _ σ''''' => (∀ σ'''''' : l2_m, σ'''''' = trb σ''''' 0 → K (σ''''' 49 3) σ'''''')))))))))))))
theorem o108 {B : va_E} {σ : l2_m} {x1 : Int} {K : Int → l2_m → Prop}   (h : w108 B σ x1  K) : wC B 108 [vr 32, vi x1] σ K := by
  have ck : pm_code 108 = pc_108 := rfl
  unfold w108 at h
  show wW B 108 0 [vr 32, vi x1] [] σ K
  obtain ⟨hs1, h⟩ := h
  refine g_il 1 ck rfl rfl rfl ?_
  refine g_iflt 4 12 ck rfl rfl rfl hs1 (fun hc => ?_) (fun hc => ?_)
  · replace h := ite_ht h hc
    refine g_al 13 ck rfl rfl rfl ?_
    refine g_ic 14 ck rfl rfl ?_
    refine g_cvi (as := [_]) (rest := []) 17 ck rfl rfl rfl rfl rfl rfl (by decide) rfl rfl rfl rfl (Nat.le_of_ble_eq_true rfl) (s145  ?_)
    replace h := h _ rfl
    exact g_ret ck rfl rfl (Or.inl (by decide)) h
  · replace h := ite_hf h hc
    obtain ⟨hs2, h⟩ := h
    refine g_il 5 ck rfl rfl rfl ?_
    refine g_al 6 ck rfl rfl rfl ?_
    refine r_gfi 9 1 ck rfl rfl rfl rfl ?_
    refine g_icle 12 18 ck rfl rfl rfl hs1 hs2 (fun hc => ?_) (fun hc => ?_)
    · replace h := ite_hf h (Int.not_lt.mpr hc)
      refine g_al 19 ck rfl rfl rfl ?_
      refine g_ic 20 ck rfl rfl ?_
      refine g_pfi 23 ck rfl rfl rfl 1 rfl rfl ?_
      replace h := h _ rfl
      refine g_al 24 ck rfl rfl rfl ?_
      refine r_gfr 27 49 ck rfl rfl rfl (by decide) ?_
      refine g_al 28 ck rfl rfl rfl ?_
      refine r_gfr 31 33 ck rfl rfl rfl (by decide) ?_
      refine g_il 32 ck rfl rfl rfl ?_
      refine g_cvi (as := [_, _]) (rest := []) 35 ck rfl rfl rfl rfl rfl rfl (by decide) rfl rfl rfl rfl (Nat.le_of_ble_eq_true rfl) (wC.mono h (fun y σ''' h => ?_))
      obtain ⟨hs3, h⟩ := h
      refine g_ifne 38 68 ck rfl rfl rfl hs3 (fun hc => ?_) (fun hc => ?_)
      · replace h := ite_hf h hc
        refine g_al 69 ck rfl rfl rfl ?_
        refine g_ic 70 ck rfl rfl ?_
        refine g_pfi 73 ck rfl rfl rfl 3 rfl rfl ?_
        replace h := h _ rfl
        refine g_al 74 ck rfl rfl rfl ?_
        refine g_cvv (as := []) (rest := []) 77 ck rfl rfl rfl rfl rfl rfl rfl rfl rfl rfl (Nat.le_of_ble_eq_true rfl) (wC.mono h (fun _ σ''''' h => ?_))
        refine g_al 78 ck rfl rfl rfl ?_
        refine g_al 79 ck rfl rfl rfl ?_
        refine r_gfr 82 49 ck rfl rfl rfl (by decide) ?_
        refine r_gfi 85 3 ck rfl rfl rfl rfl ?_
        refine g_cvi (as := [_]) (rest := []) 88 ck rfl rfl rfl rfl rfl rfl (by decide) rfl rfl rfl rfl (Nat.le_of_ble_eq_true rfl) (s146  ?_)
        replace h := h _ rfl
        exact g_ret ck rfl rfl (Or.inl (by decide)) h
      · replace h := ite_ht h (Classical.not_not.mp hc)
        refine g_al 39 ck rfl rfl rfl ?_
        refine g_al 40 ck rfl rfl rfl ?_
        refine r_gfr 43 49 ck rfl rfl rfl (by decide) ?_
        refine r_gfi 46 4 ck rfl rfl rfl rfl ?_
        refine g_pfi 49 ck rfl rfl rfl 3 rfl rfl ?_
        replace h := h _ rfl
        refine g_al 50 ck rfl rfl rfl ?_
        refine g_ic 51 ck rfl rfl ?_
        refine g_cvi (as := [_]) (rest := []) 54 ck rfl rfl rfl rfl rfl rfl (by decide) rfl rfl rfl rfl (Nat.le_of_ble_eq_true rfl) (s145  ?_)
        replace h := h _ rfl
        refine g_pop 55 ck rfl rfl rfl ?_
        refine g_al 56 ck rfl rfl rfl ?_
        refine g_al 57 ck rfl rfl rfl ?_
        refine r_gfr 60 49 ck rfl rfl rfl (by decide) ?_
        refine r_gfi 63 5 ck rfl rfl rfl rfl ?_
        refine g_pfi 66 ck rfl rfl rfl 4 rfl rfl ?_
        replace h := h _ rfl
        refine g_ic 67 ck rfl rfl ?_
        exact g_ret ck rfl rfl (Or.inl (by decide)) h
    · replace h := ite_ht h (Int.not_le.mp hc)
      refine g_al 13 ck rfl rfl rfl ?_
      refine g_ic 14 ck rfl rfl ?_
      refine g_cvi (as := [_]) (rest := []) 17 ck rfl rfl rfl rfl rfl rfl (by decide) rfl rfl rfl rfl (Nat.le_of_ble_eq_true rfl) (s145  ?_)
      replace h := h _ rfl
      exact g_ret ck rfl rfl (Or.inl (by decide)) h
/-! 111 TermDesk.about(I)I -/
def w111 (B : va_E) (σ : l2_m) (x1 : Int) (K : Int → l2_m → Prop) : Prop := (rg (σ 32 5) ∧ (if (σ 32 5) = 0 then (∀ σ'''''''' : l2_m, σ'''''''' = trb σ 1 → K (-1) σ'''''''') else (rg x1 ∧ (if x1 = 0 then (∀ σ' : l2_m, σ' = trb σ 0 → K (σ 34 0) σ') else (if x1 = 1 then (∀ σ'' : l2_m, σ'' = trb σ 0 → K (σ 36 0) σ'') else (if x1 = 2 then (∀ σ''' : l2_m, σ''' = trb σ 0 → K (σ 36 1) σ''') else (if x1 = 3 then (∀ σ'''' : l2_m, σ'''' = trb σ 0 → K (σ 36 2) σ'''') else (if x1 = 4 then (∀ σ''''' : l2_m, σ''''' = trb σ 0 → K (σ 36 3) σ''''') else (if x1 = 5 then ((∀ j : Int, 0 ≤ j → j < 8 → rg (σ (162 + 3 * Int.toNat j) 2)) ∧ ∀ σ'''''' : l2_m, σ'''''' = trb σ 0 → K (sumN (fun j => if 0 < σ (162 + 3 * Int.toNat j) 2 then 1 else 0) 8) σ'''''') else (∀ σ''''''' : l2_m, σ''''''' = trb σ 1 → K (-1) σ'''''''))))))))))
theorem o111 {B : va_E} {σ : l2_m} {x1 : Int} {K : Int → l2_m → Prop}   (h : w111 B σ x1  K) : wC B 111 [vr 32, vi x1] σ K := by
  have ck : pm_code 111 = pc_111 := rfl
  unfold w111 at h
  show wW B 111 0 [vr 32, vi x1] [] σ K
  obtain ⟨hs1, h⟩ := h
  refine g_al 1 ck rfl rfl rfl ?_
  refine r_gfi 4 5 ck rfl rfl rfl rfl ?_
  refine g_ifne 7 13 ck rfl rfl rfl hs1 (fun hc => ?_) (fun hc => ?_)
  · replace h := ite_hf h hc
    obtain ⟨hs2, h⟩ := h
    refine g_il 14 ck rfl rfl rfl ?_
    by_cases hc0 : x1 = 0
    · replace h := ite_ht h hc0
      refine g_sw 52 ck rfl hs2 (by rw [hc0]; rfl) ?_
      refine g_al 53 ck rfl rfl rfl ?_
      refine g_al 54 ck rfl rfl rfl ?_
      refine r_gfr 57 34 ck rfl rfl rfl (by decide) ?_
      refine r_gfi 60 0 ck rfl rfl rfl rfl ?_
      refine g_cvi (as := [_]) (rest := []) 63 ck rfl rfl rfl rfl rfl rfl (by decide) rfl rfl rfl rfl (Nat.le_of_ble_eq_true rfl) (s146  ?_)
      replace h := h _ rfl
      exact g_ret ck rfl rfl (Or.inl (by decide)) h
    replace h := ite_hf h hc0
    by_cases hc1 : x1 = 1
    · replace h := ite_ht h hc1
      refine g_sw 64 ck rfl hs2 (by rw [hc1]; rfl) ?_
      refine g_al 65 ck rfl rfl rfl ?_
      refine g_al 66 ck rfl rfl rfl ?_
      refine r_gfr 69 36 ck rfl rfl rfl (by decide) ?_
      refine r_gfi 72 0 ck rfl rfl rfl rfl ?_
      refine g_cvi (as := [_]) (rest := []) 75 ck rfl rfl rfl rfl rfl rfl (by decide) rfl rfl rfl rfl (Nat.le_of_ble_eq_true rfl) (s146  ?_)
      replace h := h _ rfl
      exact g_ret ck rfl rfl (Or.inl (by decide)) h
    replace h := ite_hf h hc1
    by_cases hc2 : x1 = 2
    · replace h := ite_ht h hc2
      refine g_sw 76 ck rfl hs2 (by rw [hc2]; rfl) ?_
      refine g_al 77 ck rfl rfl rfl ?_
      refine g_al 78 ck rfl rfl rfl ?_
      refine r_gfr 81 36 ck rfl rfl rfl (by decide) ?_
      refine r_gfi 84 1 ck rfl rfl rfl rfl ?_
      refine g_cvi (as := [_]) (rest := []) 87 ck rfl rfl rfl rfl rfl rfl (by decide) rfl rfl rfl rfl (Nat.le_of_ble_eq_true rfl) (s146  ?_)
      replace h := h _ rfl
      exact g_ret ck rfl rfl (Or.inl (by decide)) h
    replace h := ite_hf h hc2
    by_cases hc3 : x1 = 3
    · replace h := ite_ht h hc3
      refine g_sw 88 ck rfl hs2 (by rw [hc3]; rfl) ?_
      refine g_al 89 ck rfl rfl rfl ?_
      refine g_al 90 ck rfl rfl rfl ?_
      refine r_gfr 93 36 ck rfl rfl rfl (by decide) ?_
      refine r_gfi 96 2 ck rfl rfl rfl rfl ?_
      refine g_cvi (as := [_]) (rest := []) 99 ck rfl rfl rfl rfl rfl rfl (by decide) rfl rfl rfl rfl (Nat.le_of_ble_eq_true rfl) (s146  ?_)
      replace h := h _ rfl
      exact g_ret ck rfl rfl (Or.inl (by decide)) h
    replace h := ite_hf h hc3
    by_cases hc4 : x1 = 4
    · replace h := ite_ht h hc4
      refine g_sw 100 ck rfl hs2 (by rw [hc4]; rfl) ?_
      refine g_al 101 ck rfl rfl rfl ?_
      refine g_al 102 ck rfl rfl rfl ?_
      refine r_gfr 105 36 ck rfl rfl rfl (by decide) ?_
      refine r_gfi 108 3 ck rfl rfl rfl rfl ?_
      refine g_cvi (as := [_]) (rest := []) 111 ck rfl rfl rfl rfl rfl rfl (by decide) rfl rfl rfl rfl (Nat.le_of_ble_eq_true rfl) (s146  ?_)
      replace h := h _ rfl
      exact g_ret ck rfl rfl (Or.inl (by decide)) h
    replace h := ite_hf h hc4
    by_cases hc5 : x1 = 5
    · replace h := ite_ht h hc5
      refine g_sw 112 ck rfl hs2 (by rw [hc5]; rfl) ?_
      obtain ⟨hs3, h⟩ := h
      refine g_al 113 ck rfl rfl rfl ?_
      refine g_al 114 ck rfl rfl rfl ?_
      refine g_cvi (as := []) (rest := [_]) 117 ck rfl rfl rfl rfl rfl rfl (by decide) rfl rfl rfl rfl (Nat.le_of_ble_eq_true rfl) (s158 hs3 ?_)
      refine g_cvi (as := [_]) (rest := []) 120 ck rfl rfl rfl rfl rfl rfl (by decide) rfl rfl rfl rfl (Nat.le_of_ble_eq_true rfl) (s146  ?_)
      replace h := h _ rfl
      exact g_ret ck rfl rfl (Or.inl (by decide)) h
    replace h := ite_hf h hc5
    refine g_sw 121 ck rfl hs2 (by unfold l2_sw; rw [if_pos (by omega)]; rfl) ?_
    refine g_al 122 ck rfl rfl rfl ?_
    refine g_ic 123 ck rfl rfl ?_
    refine g_cvi (as := [_]) (rest := []) 126 ck rfl rfl rfl rfl rfl rfl (by decide) rfl rfl rfl rfl (Nat.le_of_ble_eq_true rfl) (s145  ?_)
    replace h := h _ rfl
    exact g_ret ck rfl rfl (Or.inl (by decide)) h
  · replace h := ite_ht h (Classical.not_not.mp hc)
    refine g_al 8 ck rfl rfl rfl ?_
    refine g_ic 9 ck rfl rfl ?_
    refine g_cvi (as := [_]) (rest := []) 12 ck rfl rfl rfl rfl rfl rfl (by decide) rfl rfl rfl rfl (Nat.le_of_ble_eq_true rfl) (s145  ?_)
    replace h := h _ rfl
    exact g_ret ck rfl rfl (Or.inl (by decide)) h
/-! 112 TermDesk.terms(I)I -/
def w112 (B : va_E) (σ : l2_m) (x1 : Int) (K : Int → l2_m → Prop) : Prop := ((rg x1 ∧ ((σ 32 5) = 0 ∨ (σ 32 5) = 1)) ∧ (if (σ 32 5) = 1 ∧ 0 ≤ x1 ∧ x1 < 8 then ((0 ≤ x1 ∧ x1 < 8) ∧ ∀ σ' : l2_m, σ' = trb σ 0 → K (σ (162 + 3 * Int.toNat x1) 2) σ') else (∀ σ'' : l2_m, σ'' = trb σ 1 → K (-1) σ'')))
theorem o112 {B : va_E} {σ : l2_m} {x1 : Int} {K : Int → l2_m → Prop}   (h : w112 B σ x1  K) : wC B 112 [vr 32, vi x1] σ K := by
  have ck : pm_code 112 = pc_112 := rfl
  unfold w112 at h
  show wW B 112 0 [vr 32, vi x1] [] σ K
  obtain ⟨⟨hs1, hs2⟩, h⟩ := h
  refine g_al 1 ck rfl rfl rfl ?_
  refine g_il 2 ck rfl rfl rfl ?_
  refine g_cvi (as := [_]) (rest := []) 5 ck rfl rfl rfl rfl rfl rfl (by decide) rfl rfl rfl rfl (Nat.le_of_ble_eq_true rfl) (s147 hs1 hs2 ?_)
  refine g_ifne 8 14 ck rfl rfl rfl rg_b2i (fun hc => ?_) (fun hc => ?_)
  · replace h := ite_ht h (b2i_t hc)
    obtain ⟨⟨hs3, hs4⟩, h⟩ := h
    refine g_al 15 ck rfl rfl rfl ?_
    refine g_al 16 ck rfl rfl rfl ?_
    refine r_gfr 19 158 ck rfl rfl rfl (by decide) ?_
    refine g_il 20 ck rfl rfl rfl ?_
    refine g_aal (b := 162) (m := 8) 21 ck rfl rfl rfl hs3 hs4 ?_
    refine r_gfi 24 2 ck rfl rfl (isP_2 (isP_row (a := 158) (b := 162) (m := 8) rfl hs3 hs4)) rfl ?_
    refine g_cvi (as := [_]) (rest := []) 27 ck rfl rfl rfl rfl rfl rfl (by decide) rfl rfl rfl rfl (Nat.le_of_ble_eq_true rfl) (s146  ?_)
    replace h := h _ rfl
    exact g_ret ck rfl rfl (Or.inl (by decide)) h
  · replace h := ite_hf h (b2i_f (Classical.not_not.mp hc))
    refine g_al 9 ck rfl rfl rfl ?_
    refine g_ic 10 ck rfl rfl ?_
    refine g_cvi (as := [_]) (rest := []) 13 ck rfl rfl rfl rfl rfl rfl (by decide) rfl rfl rfl rfl (Nat.le_of_ble_eq_true rfl) (s145  ?_)
    replace h := h _ rfl
    exact g_ret ck rfl rfl (Or.inl (by decide)) h
/-! 113 TermDesk.term(III)I -/
def w113 (B : va_E) (σ : l2_m) (x1 : Int) (x2 : Int) (x3 : Int) (K : Int → l2_m → Prop) : Prop := ((rg x1 ∧ ((σ 32 5) = 0 ∨ (σ 32 5) = 1)) ∧ (if (σ 32 5) = 1 ∧ 0 ≤ x1 ∧ x1 < 8 then (rg x2 ∧ (if x2 < 0 then (∀ σ'' : l2_m, σ'' = trb σ 1 → K (-1) σ'') else ((0 ≤ x1 ∧ x1 < 8 ∧ rg (σ (162 + 3 * Int.toNat x1) 2)) ∧ (if x2 < (σ (162 + 3 * Int.toNat x1) 2) then (rg x3 ∧ (if x3 < 0 then (∀ σ'''' : l2_m, σ'''' = trb σ 1 → K (-1) σ'''') else (if 4 < x3 then (∀ σ'''''''' : l2_m, σ'''''''' = trb σ 1 → K (-1) σ'''''''') else ((0 ≤ x2 ∧ x2 < 60) ∧ ∀ x4 : Int, x4 = (σ ((162 + 3 * Int.toNat x1) + 1) x2) → (if x3 = 0 then (∀ σ''''''' : l2_m, σ''''''' = trb σ 0 → K (σ ((162 + 3 * Int.toNat x1) + 2) x2) σ''''''') else (if x3 = 4 then (rg x4 ∧ ∀ σ'''''' : l2_m, σ'''''' = trb σ 0 → K (((e5 x4 0) + (e5 x4 1)) + (e5 x4 2)) σ'''''') else ((rg x4 ∧ 0 ≤ (x3 - 1) ∧ (x3 - 1) < 3) ∧ ∀ σ''''' : l2_m, σ''''' = trb σ 0 → K (e5 x4 (x3 - 1)) σ'''''))))))) else (∀ σ''' : l2_m, σ''' = trb σ 1 → K (-1) σ'''))))) else (∀ σ' : l2_m, σ' = trb σ 1 → K (-1) σ')))
theorem o113 {B : va_E} {σ : l2_m} {x1 : Int} {x2 : Int} {x3 : Int} {K : Int → l2_m → Prop}   (h : w113 B σ x1 x2 x3  K) : wC B 113 [vr 32, vi x1, vi x2, vi x3] σ K := by
  have ck : pm_code 113 = pc_113 := rfl
  unfold w113 at h
  show wW B 113 0 [vr 32, vi x1, vi x2, vi x3, pm_un] [] σ K
  obtain ⟨⟨hs1, hs2⟩, h⟩ := h
  refine g_al 1 ck rfl rfl rfl ?_
  refine g_il 2 ck rfl rfl rfl ?_
  refine g_cvi (as := [_]) (rest := []) 5 ck rfl rfl rfl rfl rfl rfl (by decide) rfl rfl rfl rfl (Nat.le_of_ble_eq_true rfl) (s147 hs1 hs2 ?_)
  refine g_ifeq 8 34 ck rfl rfl rfl rg_b2i (fun hc => ?_) (fun hc => ?_)
  · replace h := ite_hf h (b2i_f hc)
    refine g_al 35 ck rfl rfl rfl ?_
    refine g_ic 36 ck rfl rfl ?_
    refine g_cvi (as := [_]) (rest := []) 39 ck rfl rfl rfl rfl rfl rfl (by decide) rfl rfl rfl rfl (Nat.le_of_ble_eq_true rfl) (s145  ?_)
    replace h := h _ rfl
    exact g_ret ck rfl rfl (Or.inl (by decide)) h
  · replace h := ite_ht h (b2i_t hc)
    obtain ⟨hs3, h⟩ := h
    refine g_il 9 ck rfl rfl rfl ?_
    refine g_iflt 12 34 ck rfl rfl rfl hs3 (fun hc => ?_) (fun hc => ?_)
    · replace h := ite_ht h hc
      refine g_al 35 ck rfl rfl rfl ?_
      refine g_ic 36 ck rfl rfl ?_
      refine g_cvi (as := [_]) (rest := []) 39 ck rfl rfl rfl rfl rfl rfl (by decide) rfl rfl rfl rfl (Nat.le_of_ble_eq_true rfl) (s145  ?_)
      replace h := h _ rfl
      exact g_ret ck rfl rfl (Or.inl (by decide)) h
    · replace h := ite_hf h hc
      obtain ⟨⟨hs4, hs5, hs6⟩, h⟩ := h
      refine g_il 13 ck rfl rfl rfl ?_
      refine g_al 14 ck rfl rfl rfl ?_
      refine r_gfr 17 158 ck rfl rfl rfl (by decide) ?_
      refine g_il 18 ck rfl rfl rfl ?_
      refine g_aal (b := 162) (m := 8) 19 ck rfl rfl rfl hs4 hs5 ?_
      refine r_gfi 22 2 ck rfl rfl (isP_2 (isP_row (a := 158) (b := 162) (m := 8) rfl hs4 hs5)) rfl ?_
      refine g_icge 25 34 ck rfl rfl rfl hs3 hs6 (fun hc => ?_) (fun hc => ?_)
      · replace h := ite_hf h (Int.not_lt.mpr hc)
        refine g_al 35 ck rfl rfl rfl ?_
        refine g_ic 36 ck rfl rfl ?_
        refine g_cvi (as := [_]) (rest := []) 39 ck rfl rfl rfl rfl rfl rfl (by decide) rfl rfl rfl rfl (Nat.le_of_ble_eq_true rfl) (s145  ?_)
        replace h := h _ rfl
        exact g_ret ck rfl rfl (Or.inl (by decide)) h
      · replace h := ite_ht h (Int.not_le.mp hc)
        obtain ⟨hs7, h⟩ := h
        refine g_il 26 ck rfl rfl rfl ?_
        refine g_iflt 29 34 ck rfl rfl rfl hs7 (fun hc => ?_) (fun hc => ?_)
        · replace h := ite_ht h hc
          refine g_al 35 ck rfl rfl rfl ?_
          refine g_ic 36 ck rfl rfl ?_
          refine g_cvi (as := [_]) (rest := []) 39 ck rfl rfl rfl rfl rfl rfl (by decide) rfl rfl rfl rfl (Nat.le_of_ble_eq_true rfl) (s145  ?_)
          replace h := h _ rfl
          exact g_ret ck rfl rfl (Or.inl (by decide)) h
        · replace h := ite_hf h hc
          refine g_il 30 ck rfl rfl rfl ?_
          refine g_ic 31 ck rfl rfl ?_
          refine g_icle 34 40 ck rfl rfl rfl hs7 (by decide) (fun hc => ?_) (fun hc => ?_)
          · replace h := ite_hf h (Int.not_lt.mpr hc)
            obtain ⟨⟨hs8, hs9⟩, h⟩ := h
            refine g_al 41 ck rfl rfl rfl ?_
            refine r_gfr 44 158 ck rfl rfl rfl (by decide) ?_
            refine g_il 45 ck rfl rfl rfl ?_
            refine g_aal (b := 162) (m := 8) 46 ck rfl rfl rfl hs4 hs5 ?_
            refine r_gfr 49 _ ck rfl rfl (isP_0 (isP_row (a := 158) (b := 162) (m := 8) rfl hs4 hs5)) (isX_g (isP_c (isP_row (a := 158) (b := 162) (m := 8) rfl hs4 hs5))) ?_
            refine g_il 50 ck rfl rfl rfl ?_
            refine g_ial (m := 60) 51 ck rfl rfl (isP_m (isP_row (a := 158) (b := 162) (m := 8) rfl hs4 hs5)) hs8 hs9 ?_
            refine r_is 53 ck rfl rfl rfl rfl ?_
            replace h := h _ rfl
            refine g_il 54 ck rfl rfl rfl ?_
            refine g_ifne 57 73 ck rfl rfl rfl hs7 (fun hc => ?_) (fun hc => ?_)
            · replace h := ite_hf h hc
              refine g_il 74 ck rfl rfl rfl ?_
              refine g_ic 75 ck rfl rfl ?_
              refine g_icne 78 88 ck rfl rfl rfl hs7 (by decide) (fun hc => ?_) (fun hc => ?_)
              · replace h := ite_hf h hc
                obtain ⟨⟨hs10, hs11, hs12⟩, h⟩ := h
                refine g_al 89 ck rfl rfl rfl ?_
                refine g_il 91 ck rfl rfl rfl ?_
                refine g_il 92 ck rfl rfl rfl ?_
                refine g_ic 93 ck rfl rfl ?_
                refine g_sub 94 ck rfl rfl ?_
                refine g_csi (as := [_, _]) (rest := [_]) 97 ck rfl rfl rfl rfl rfl (by decide) rfl rfl rfl (Nat.le_of_ble_eq_true rfl) (s154 hs10 hs11 hs12 ?_)
                refine g_cvi (as := [_]) (rest := []) 100 ck rfl rfl rfl rfl rfl rfl (by decide) rfl rfl rfl rfl (Nat.le_of_ble_eq_true rfl) (s146  ?_)
                replace h := h _ rfl
                exact g_ret ck rfl rfl (Or.inl (by decide)) h
              · replace h := ite_ht h (Classical.not_not.mp hc)
                obtain ⟨hs13, h⟩ := h
                refine g_al 79 ck rfl rfl rfl ?_
                refine g_il 81 ck rfl rfl rfl ?_
                refine g_csi (as := [_]) (rest := [_]) 84 ck rfl rfl rfl rfl rfl (by decide) rfl rfl rfl (Nat.le_of_ble_eq_true rfl) (s155 hs13 ?_)
                refine g_cvi (as := [_]) (rest := []) 87 ck rfl rfl rfl rfl rfl rfl (by decide) rfl rfl rfl rfl (Nat.le_of_ble_eq_true rfl) (s146  ?_)
                replace h := h _ rfl
                exact g_ret ck rfl rfl (Or.inl (by decide)) h
            · replace h := ite_ht h (Classical.not_not.mp hc)
              refine g_al 58 ck rfl rfl rfl ?_
              refine g_al 59 ck rfl rfl rfl ?_
              refine r_gfr 62 158 ck rfl rfl rfl (by decide) ?_
              refine g_il 63 ck rfl rfl rfl ?_
              refine g_aal (b := 162) (m := 8) 64 ck rfl rfl rfl hs4 hs5 ?_
              refine r_gfr 67 _ ck rfl rfl (isP_1 (isP_row (a := 158) (b := 162) (m := 8) rfl hs4 hs5)) (isX_g (isP_c (isP_row (a := 158) (b := 162) (m := 8) rfl hs4 hs5))) ?_
              refine g_il 68 ck rfl rfl rfl ?_
              refine g_ial (m := 60) 69 ck rfl rfl (isP_k (isP_row (a := 158) (b := 162) (m := 8) rfl hs4 hs5)) hs8 hs9 ?_
              refine g_cvi (as := [_]) (rest := []) 72 ck rfl rfl rfl rfl rfl rfl (by decide) rfl rfl rfl rfl (Nat.le_of_ble_eq_true rfl) (s146  ?_)
              replace h := h _ rfl
              exact g_ret ck rfl rfl (Or.inl (by decide)) h
          · replace h := ite_ht h (Int.not_le.mp hc)
            refine g_al 35 ck rfl rfl rfl ?_
            refine g_ic 36 ck rfl rfl ?_
            refine g_cvi (as := [_]) (rest := []) 39 ck rfl rfl rfl rfl rfl rfl (by decide) rfl rfl rfl rfl (Nat.le_of_ble_eq_true rfl) (s145  ?_)
            replace h := h _ rfl
            exact g_ret ck rfl rfl (Or.inl (by decide)) h
/-! 114 TermDesk.degree(I)I -/
def w114_27 (B : va_E) (σ : l2_m) (o2 : Nat) (x3 : Int) (x4 : Int)  (K : Int → l2_m → Prop) : Prop := lz2 (fun X27 x3 x4 => ((rg x4 ∧ rg (σ o2 2)) ∧ (if x4 < (σ o2 2) then ((0 ≤ x4 ∧ x4 < 60 ∧ rg (σ (o2 + 1) x4) ∧ rg x3) ∧ ∀ x3' : Int, x3' = (max x3 (((e5 (σ (o2 + 1) x4) 0) + (e5 (σ (o2 + 1) x4) 1)) + (e5 (σ (o2 + 1) x4) 2))) → X27 x3' (x4 + 1)) else (∀ σ' : l2_m, σ' = trb σ 0 → K x3 σ')))) x3 x4
theorem o114_27 {B : va_E} {σ : l2_m} {o2 : Nat} {x3 : Int} {x4 : Int} {u1 : Value}  {K : Int → l2_m → Prop} (ho2 : isP o2) (hu1 : (u1.category == 1) = true)  (h : w114_27 B σ o2 x3 x4  K) : wW B 114 27 [vr 32, u1, vr o2, vi x3, vi x4] [] σ K := by
  have ck : pm_code 114 = pc_114 := rfl
  unfold w114_27 at h
  refine h (fun x3 x4 => ∀ u1 : Value, (u1.category == 1) = true → wW B 114 27 [vr 32, u1, vr o2, vi x3, vi x4] [] σ K) ?_ u1 hu1
  clear h
  intro x3 x4 h u1 hu1
  obtain ⟨⟨hs1, hs2⟩, h⟩ := h
  refine g_il 29 ck rfl rfl rfl ?_
  refine g_al 30 ck rfl rfl rfl ?_
  refine r_gfi 33 2 ck rfl rfl (isP_2 ho2) rfl ?_
  refine g_icge 36 57 ck rfl rfl rfl hs1 hs2 (fun hc => ?_) (fun hc => ?_)
  · replace h := ite_hf h (Int.not_lt.mpr hc)
    refine g_al 58 ck rfl rfl rfl ?_
    refine g_il 59 ck rfl rfl rfl ?_
    refine g_cvi (as := [_]) (rest := []) 62 ck rfl rfl rfl rfl rfl rfl (by decide) rfl rfl rfl rfl (Nat.le_of_ble_eq_true rfl) (s146  ?_)
    replace h := h _ rfl
    exact g_ret ck rfl rfl (Or.inl (by decide)) h
  · replace h := ite_ht h (Int.not_le.mp hc)
    obtain ⟨⟨hs3, hs4, hs5, hs6⟩, h⟩ := h
    refine g_il 37 ck rfl rfl rfl ?_
    refine g_al 38 ck rfl rfl rfl ?_
    refine r_gfr 41 _ ck rfl rfl (isP_0 ho2) (isX_g (isP_c ho2)) ?_
    refine g_il 43 ck rfl rfl rfl ?_
    refine g_ial (m := 60) 44 ck rfl rfl (isP_m ho2) hs3 hs4 ?_
    refine g_csi (as := [_]) (rest := [_]) 47 ck rfl rfl rfl rfl rfl (by decide) rfl rfl rfl (Nat.le_of_ble_eq_true rfl) (s155 hs5 ?_)
    refine g_max 50 ck rfl rfl hs6 (rg_tot _) (Nat.le_of_ble_eq_true rfl) ?_
    refine r_is 51 ck rfl rfl rfl rfl ?_
    replace h := h _ rfl
    refine r_ii 54 ck rfl rfl rfl rfl ?_
    refine g_goto 27 ck rfl rfl ?_
    exact h _ hu1
def w114 (B : va_E) (σ : l2_m) (x1 : Int) (K : Int → l2_m → Prop) : Prop := ((rg x1 ∧ ((σ 32 5) = 0 ∨ (σ 32 5) = 1)) ∧ (if (σ 32 5) = 1 ∧ 0 ≤ x1 ∧ x1 < 8 then ((0 ≤ x1 ∧ x1 < 8) ∧ w114_27 B σ (162 + 3 * Int.toNat x1) (-2) 0 K) else (∀ σ' : l2_m, σ' = trb σ 1 → K (-1) σ')))
theorem o114 {B : va_E} {σ : l2_m} {x1 : Int} {K : Int → l2_m → Prop}   (h : w114 B σ x1  K) : wC B 114 [vr 32, vi x1] σ K := by
  have ck : pm_code 114 = pc_114 := rfl
  unfold w114 at h
  show wW B 114 0 [vr 32, vi x1, pm_un, pm_un, pm_un] [] σ K
  obtain ⟨⟨hs1, hs2⟩, h⟩ := h
  refine g_al 1 ck rfl rfl rfl ?_
  refine g_il 2 ck rfl rfl rfl ?_
  refine g_cvi (as := [_]) (rest := []) 5 ck rfl rfl rfl rfl rfl rfl (by decide) rfl rfl rfl rfl (Nat.le_of_ble_eq_true rfl) (s147 hs1 hs2 ?_)
  refine g_ifne 8 14 ck rfl rfl rfl rg_b2i (fun hc => ?_) (fun hc => ?_)
  · replace h := ite_ht h (b2i_t hc)
    obtain ⟨⟨hs3, hs4⟩, h⟩ := h
    refine g_al 15 ck rfl rfl rfl ?_
    refine r_gfr 18 158 ck rfl rfl rfl (by decide) ?_
    refine g_il 19 ck rfl rfl rfl ?_
    refine g_aal (b := 162) (m := 8) 20 ck rfl rfl rfl hs3 hs4 ?_
    refine r_as 21 ck rfl rfl rfl rfl ?_
    refine g_ic 23 ck rfl rfl ?_
    refine r_is 24 ck rfl rfl rfl rfl ?_
    refine g_ic 25 ck rfl rfl ?_
    refine r_is 27 ck rfl rfl rfl rfl ?_
    exact o114_27 (isP_row (a := 158) (b := 162) (m := 8) rfl hs3 hs4) rfl h
  · replace h := ite_hf h (b2i_f (Classical.not_not.mp hc))
    refine g_al 9 ck rfl rfl rfl ?_
    refine g_ic 10 ck rfl rfl ?_
    refine g_cvi (as := [_]) (rest := []) 13 ck rfl rfl rfl rfl rfl rfl (by decide) rfl rfl rfl rfl (Nat.le_of_ble_eq_true rfl) (s145  ?_)
    replace h := h _ rfl
    exact g_ret ck rfl rfl (Or.inl (by decide)) h
/-! 115 TermDesk.degreeIn(II)I -/
def w115_35 (B : va_E) (σ : l2_m) (x2 : Int) (o3 : Nat) (x4 : Int) (x5 : Int)  (K : Int → l2_m → Prop) : Prop := lz2 (fun X35 x4 x5 => ((rg x5 ∧ rg (σ o3 2)) ∧ (if x5 < (σ o3 2) then ((0 ≤ x5 ∧ x5 < 60 ∧ rg (σ (o3 + 1) x5) ∧ 0 ≤ x2 ∧ x2 < 3 ∧ rg x4) ∧ ∀ x4' : Int, x4' = (max x4 (e5 (σ (o3 + 1) x5) x2)) → X35 x4' (x5 + 1)) else (∀ σ' : l2_m, σ' = trb σ 0 → K x4 σ')))) x4 x5
theorem o115_35 {B : va_E} {σ : l2_m} {x2 : Int} {o3 : Nat} {x4 : Int} {x5 : Int} {u1 : Value}  {K : Int → l2_m → Prop} (ho3 : isP o3) (hu1 : (u1.category == 1) = true)  (h : w115_35 B σ x2 o3 x4 x5  K) : wW B 115 35 [vr 32, u1, vi x2, vr o3, vi x4, vi x5] [] σ K := by
  have ck : pm_code 115 = pc_115 := rfl
  unfold w115_35 at h
  refine h (fun x4 x5 => ∀ u1 : Value, (u1.category == 1) = true → wW B 115 35 [vr 32, u1, vi x2, vr o3, vi x4, vi x5] [] σ K) ?_ u1 hu1
  clear h
  intro x4 x5 h u1 hu1
  obtain ⟨⟨hs1, hs2⟩, h⟩ := h
  refine g_il 37 ck rfl rfl rfl ?_
  refine g_al 38 ck rfl rfl rfl ?_
  refine r_gfi 41 2 ck rfl rfl (isP_2 ho3) rfl ?_
  refine g_icge 44 68 ck rfl rfl rfl hs1 hs2 (fun hc => ?_) (fun hc => ?_)
  · replace h := ite_hf h (Int.not_lt.mpr hc)
    refine g_al 69 ck rfl rfl rfl ?_
    refine g_il 71 ck rfl rfl rfl ?_
    refine g_cvi (as := [_]) (rest := []) 74 ck rfl rfl rfl rfl rfl rfl (by decide) rfl rfl rfl rfl (Nat.le_of_ble_eq_true rfl) (s146  ?_)
    replace h := h _ rfl
    exact g_ret ck rfl rfl (Or.inl (by decide)) h
  · replace h := ite_ht h (Int.not_le.mp hc)
    obtain ⟨⟨hs3, hs4, hs5, hs6, hs7, hs8⟩, h⟩ := h
    refine g_il 46 ck rfl rfl rfl ?_
    refine g_al 47 ck rfl rfl rfl ?_
    refine r_gfr 50 _ ck rfl rfl (isP_0 ho3) (isX_g (isP_c ho3)) ?_
    refine g_il 52 ck rfl rfl rfl ?_
    refine g_ial (m := 60) 53 ck rfl rfl (isP_m ho3) hs3 hs4 ?_
    refine g_il 54 ck rfl rfl rfl ?_
    refine g_csi (as := [_, _]) (rest := [_]) 57 ck rfl rfl rfl rfl rfl (by decide) rfl rfl rfl (Nat.le_of_ble_eq_true rfl) (s154 hs5 hs6 hs7 ?_)
    refine g_max 60 ck rfl rfl hs8 (rg_e5 _ _) (Nat.le_of_ble_eq_true rfl) ?_
    refine r_is 62 ck rfl rfl rfl rfl ?_
    replace h := h _ rfl
    refine r_ii 65 ck rfl rfl rfl rfl ?_
    refine g_goto 35 ck rfl rfl ?_
    exact h _ hu1
def w115 (B : va_E) (σ : l2_m) (x1 : Int) (x2 : Int) (K : Int → l2_m → Prop) : Prop := ((rg x1 ∧ ((σ 32 5) = 0 ∨ (σ 32 5) = 1)) ∧ (if (σ 32 5) = 1 ∧ 0 ≤ x1 ∧ x1 < 8 then (rg x2 ∧ (if 0 ≤ x2 ∧ x2 < 3 then ((0 ≤ x1 ∧ x1 < 8) ∧ w115_35 B σ x2 (162 + 3 * Int.toNat x1) (-2) 0 K) else (∀ σ'' : l2_m, σ'' = trb σ 1 → K (-1) σ''))) else (∀ σ' : l2_m, σ' = trb σ 1 → K (-1) σ')))
theorem o115 {B : va_E} {σ : l2_m} {x1 : Int} {x2 : Int} {K : Int → l2_m → Prop}   (h : w115 B σ x1 x2  K) : wC B 115 [vr 32, vi x1, vi x2] σ K := by
  have ck : pm_code 115 = pc_115 := rfl
  unfold w115 at h
  show wW B 115 0 [vr 32, vi x1, vi x2, pm_un, pm_un, pm_un] [] σ K
  obtain ⟨⟨hs1, hs2⟩, h⟩ := h
  refine g_al 1 ck rfl rfl rfl ?_
  refine g_il 2 ck rfl rfl rfl ?_
  refine g_cvi (as := [_]) (rest := []) 5 ck rfl rfl rfl rfl rfl rfl (by decide) rfl rfl rfl rfl (Nat.le_of_ble_eq_true rfl) (s147 hs1 hs2 ?_)
  refine g_ifeq 8 15 ck rfl rfl rfl rg_b2i (fun hc => ?_) (fun hc => ?_)
  · replace h := ite_hf h (b2i_f hc)
    refine g_al 16 ck rfl rfl rfl ?_
    refine g_ic 17 ck rfl rfl ?_
    refine g_cvi (as := [_]) (rest := []) 20 ck rfl rfl rfl rfl rfl rfl (by decide) rfl rfl rfl rfl (Nat.le_of_ble_eq_true rfl) (s145  ?_)
    replace h := h _ rfl
    exact g_ret ck rfl rfl (Or.inl (by decide)) h
  · replace h := ite_ht h (b2i_t hc)
    obtain ⟨hs3, h⟩ := h
    refine g_il 9 ck rfl rfl rfl ?_
    refine g_csi (as := [_]) (rest := []) 12 ck rfl rfl rfl rfl rfl (by decide) rfl rfl rfl (Nat.le_of_ble_eq_true rfl) (s148 hs3 ?_)
    refine g_ifne 15 21 ck rfl rfl rfl rg_b2i (fun hc => ?_) (fun hc => ?_)
    · replace h := ite_ht h (b2i_t hc)
      obtain ⟨⟨hs4, hs5⟩, h⟩ := h
      refine g_al 22 ck rfl rfl rfl ?_
      refine r_gfr 25 158 ck rfl rfl rfl (by decide) ?_
      refine g_il 26 ck rfl rfl rfl ?_
      refine g_aal (b := 162) (m := 8) 27 ck rfl rfl rfl hs4 hs5 ?_
      refine r_as 28 ck rfl rfl rfl rfl ?_
      refine g_ic 30 ck rfl rfl ?_
      refine r_is 32 ck rfl rfl rfl rfl ?_
      refine g_ic 33 ck rfl rfl ?_
      refine r_is 35 ck rfl rfl rfl rfl ?_
      exact o115_35 (isP_row (a := 158) (b := 162) (m := 8) rfl hs4 hs5) rfl h
    · replace h := ite_hf h (b2i_f (Classical.not_not.mp hc))
      refine g_al 16 ck rfl rfl rfl ?_
      refine g_ic 17 ck rfl rfl ?_
      refine g_cvi (as := [_]) (rest := []) 20 ck rfl rfl rfl rfl rfl rfl (by decide) rfl rfl rfl rfl (Nat.le_of_ble_eq_true rfl) (s145  ?_)
      replace h := h _ rfl
      exact g_ret ck rfl rfl (Or.inl (by decide)) h
/-! 116 TermDesk.coefficient(IIII)I -/
def w116 (B : va_E) (σ : l2_m) (x1 : Int) (x2 : Int) (x3 : Int) (x4 : Int) (K : Int → l2_m → Prop) : Prop := ((rg x1 ∧ ((σ 32 5) = 0 ∨ (σ 32 5) = 1)) ∧ (if (σ 32 5) = 1 ∧ 0 ≤ x1 ∧ x1 < 8 then ((rg x2 ∧ rg x3 ∧ rg x4) ∧ (if isE3 x2 x3 x4 then ((0 ≤ x1 ∧ x1 < 8) ∧ (wC B 86 [vr (162 + 3 * Int.toNat x1), vi (((x2 * (σ (36 + 1) 0)) + (x3 * (σ (36 + 1) 1))) + (x4 * (σ (36 + 1) 2)))] σ (fun y σ' => (∀ σ'' : l2_m, σ'' = trb σ' 0 → K y σ'')))) else (∀ σ''' : l2_m, σ''' = trb σ 2 → K (-1) σ'''))) else (∀ σ'''' : l2_m, σ'''' = trb σ 1 → K (-1) σ'''')))
theorem o116 {B : va_E} {σ : l2_m} {x1 : Int} {x2 : Int} {x3 : Int} {x4 : Int} {K : Int → l2_m → Prop}   (h : w116 B σ x1 x2 x3 x4  K) : wC B 116 [vr 32, vi x1, vi x2, vi x3, vi x4] σ K := by
  have ck : pm_code 116 = pc_116 := rfl
  unfold w116 at h
  show wW B 116 0 [vr 32, vi x1, vi x2, vi x3, vi x4] [] σ K
  obtain ⟨⟨hs1, hs2⟩, h⟩ := h
  refine g_al 1 ck rfl rfl rfl ?_
  refine g_il 2 ck rfl rfl rfl ?_
  refine g_cvi (as := [_]) (rest := []) 5 ck rfl rfl rfl rfl rfl rfl (by decide) rfl rfl rfl rfl (Nat.le_of_ble_eq_true rfl) (s147 hs1 hs2 ?_)
  refine g_ifne 8 14 ck rfl rfl rfl rg_b2i (fun hc => ?_) (fun hc => ?_)
  · replace h := ite_ht h (b2i_t hc)
    obtain ⟨⟨hs3, hs4, hs5⟩, h⟩ := h
    refine g_il 15 ck rfl rfl rfl ?_
    refine g_il 16 ck rfl rfl rfl ?_
    refine g_il 18 ck rfl rfl rfl ?_
    refine g_csi (as := [_, _, _]) (rest := []) 21 ck rfl rfl rfl rfl rfl (by decide) rfl rfl rfl (Nat.le_of_ble_eq_true rfl) (s151 hs3 hs4 hs5 ?_)
    refine g_ifne 24 30 ck rfl rfl rfl rg_b2i (fun hc => ?_) (fun hc => ?_)
    · replace h := ite_ht h (b2i_t hc)
      obtain ⟨⟨hs6, hs7⟩, h⟩ := h
      refine g_al 31 ck rfl rfl rfl ?_
      refine g_al 32 ck rfl rfl rfl ?_
      refine r_gfr 35 158 ck rfl rfl rfl (by decide) ?_
      refine g_il 36 ck rfl rfl rfl ?_
      refine g_aal (b := 162) (m := 8) 37 ck rfl rfl rfl hs6 hs7 ?_
      refine g_al 38 ck rfl rfl rfl ?_
      refine r_gfr 41 36 ck rfl rfl rfl (by decide) ?_
      refine g_il 42 ck rfl rfl rfl ?_
      refine g_il 43 ck rfl rfl rfl ?_
      refine g_il 45 ck rfl rfl rfl ?_
      refine g_cvi (as := [_, _, _]) (rest := [_, _]) 48 ck rfl rfl rfl rfl rfl rfl (by decide) rfl rfl rfl rfl (Nat.le_of_ble_eq_true rfl) (s78 rfl ?_)
      refine g_cvi (as := [_]) (rest := [_]) 51 ck rfl rfl rfl rfl rfl rfl (by decide) (isP_c (isP_row (a := 158) (b := 162) (m := 8) rfl hs6 hs7)) rfl rfl rfl (Nat.le_of_ble_eq_true rfl) (wC.mono h (fun y σ' h => ?_))
      refine g_cvi (as := [_]) (rest := []) 54 ck rfl rfl rfl rfl rfl rfl (by decide) rfl rfl rfl rfl (Nat.le_of_ble_eq_true rfl) (s146  ?_)
      replace h := h _ rfl
      exact g_ret ck rfl rfl (Or.inl (by decide)) h
    · replace h := ite_hf h (b2i_f (Classical.not_not.mp hc))
      refine g_al 25 ck rfl rfl rfl ?_
      refine g_ic 26 ck rfl rfl ?_
      refine g_cvi (as := [_]) (rest := []) 29 ck rfl rfl rfl rfl rfl rfl (by decide) rfl rfl rfl rfl (Nat.le_of_ble_eq_true rfl) (s145  ?_)
      replace h := h _ rfl
      exact g_ret ck rfl rfl (Or.inl (by decide)) h
  · replace h := ite_hf h (b2i_f (Classical.not_not.mp hc))
    refine g_al 9 ck rfl rfl rfl ?_
    refine g_ic 10 ck rfl rfl ?_
    refine g_cvi (as := [_]) (rest := []) 13 ck rfl rfl rfl rfl rfl rfl (by decide) rfl rfl rfl rfl (Nat.le_of_ble_eq_true rfl) (s145  ?_)
    replace h := h _ rfl
    exact g_ret ck rfl rfl (Or.inl (by decide)) h
/-! 117 TermDesk.value(IIII)I -/
def w117 (B : va_E) (σ : l2_m) (x1 : Int) (x2 : Int) (x3 : Int) (x4 : Int) (K : Int → l2_m → Prop) : Prop := ((rg x1 ∧ ((σ 32 5) = 0 ∨ (σ 32 5) = 1)) ∧ (if (σ 32 5) = 1 ∧ 0 ≤ x1 ∧ x1 < 8 then ((rg (σ 34 0) ∧ rg x2) ∧ (if 0 ≤ x2 ∧ x2 < (σ 34 0) then (rg x3 ∧ (if 0 ≤ x3 ∧ x3 < (σ 34 0) then (rg x4 ∧ (if 0 ≤ x4 ∧ x4 < (σ 34 0) then ((0 ≤ x1 ∧ x1 < 8) ∧ (wC B 13 [vr 38, vr (162 + 3 * Int.toNat x1), vi x2, vi x3, vi x4] σ (fun y σ''' => (∀ σ'''' : l2_m, σ'''' = trb σ''' 0 → K y σ'''')))) else (∀ σ''''' : l2_m, σ''''' = trb σ 2 → K (-1) σ'''''))) else (∀ σ'' : l2_m, σ'' = trb σ 2 → K (-1) σ''))) else (∀ σ' : l2_m, σ' = trb σ 2 → K (-1) σ'))) else (∀ σ'''''' : l2_m, σ'''''' = trb σ 1 → K (-1) σ'''''')))
theorem o117 {B : va_E} {σ : l2_m} {x1 : Int} {x2 : Int} {x3 : Int} {x4 : Int} {K : Int → l2_m → Prop}   (h : w117 B σ x1 x2 x3 x4  K) : wC B 117 [vr 32, vi x1, vi x2, vi x3, vi x4] σ K := by
  have ck : pm_code 117 = pc_117 := rfl
  unfold w117 at h
  show wW B 117 0 [vr 32, vi x1, vi x2, vi x3, vi x4] [] σ K
  obtain ⟨⟨hs1, hs2⟩, h⟩ := h
  refine g_al 1 ck rfl rfl rfl ?_
  refine g_il 2 ck rfl rfl rfl ?_
  refine g_cvi (as := [_]) (rest := []) 5 ck rfl rfl rfl rfl rfl rfl (by decide) rfl rfl rfl rfl (Nat.le_of_ble_eq_true rfl) (s147 hs1 hs2 ?_)
  refine g_ifne 8 14 ck rfl rfl rfl rg_b2i (fun hc => ?_) (fun hc => ?_)
  · replace h := ite_ht h (b2i_t hc)
    obtain ⟨⟨hs3, hs4⟩, h⟩ := h
    refine g_al 15 ck rfl rfl rfl ?_
    refine r_gfr 18 34 ck rfl rfl rfl (by decide) ?_
    refine g_il 19 ck rfl rfl rfl ?_
    refine g_cvi (as := [_]) (rest := []) 22 ck rfl rfl rfl rfl rfl rfl (by decide) rfl rfl rfl rfl (Nat.le_of_ble_eq_true rfl) (s71 rfl hs3 hs4 ?_)
    refine g_ifeq 25 48 ck rfl rfl rfl rg_b2i (fun hc => ?_) (fun hc => ?_)
    · replace h := ite_hf h (b2i_f hc)
      refine g_al 49 ck rfl rfl rfl ?_
      refine g_ic 50 ck rfl rfl ?_
      refine g_cvi (as := [_]) (rest := []) 53 ck rfl rfl rfl rfl rfl rfl (by decide) rfl rfl rfl rfl (Nat.le_of_ble_eq_true rfl) (s145  ?_)
      replace h := h _ rfl
      exact g_ret ck rfl rfl (Or.inl (by decide)) h
    · replace h := ite_ht h (b2i_t hc)
      obtain ⟨hs5, h⟩ := h
      refine g_al 26 ck rfl rfl rfl ?_
      refine r_gfr 29 34 ck rfl rfl rfl (by decide) ?_
      refine g_il 30 ck rfl rfl rfl ?_
      refine g_cvi (as := [_]) (rest := []) 33 ck rfl rfl rfl rfl rfl rfl (by decide) rfl rfl rfl rfl (Nat.le_of_ble_eq_true rfl) (s71 rfl hs3 hs5 ?_)
      refine g_ifeq 36 48 ck rfl rfl rfl rg_b2i (fun hc => ?_) (fun hc => ?_)
      · replace h := ite_hf h (b2i_f hc)
        refine g_al 49 ck rfl rfl rfl ?_
        refine g_ic 50 ck rfl rfl ?_
        refine g_cvi (as := [_]) (rest := []) 53 ck rfl rfl rfl rfl rfl rfl (by decide) rfl rfl rfl rfl (Nat.le_of_ble_eq_true rfl) (s145  ?_)
        replace h := h _ rfl
        exact g_ret ck rfl rfl (Or.inl (by decide)) h
      · replace h := ite_ht h (b2i_t hc)
        obtain ⟨hs6, h⟩ := h
        refine g_al 37 ck rfl rfl rfl ?_
        refine r_gfr 40 34 ck rfl rfl rfl (by decide) ?_
        refine g_il 42 ck rfl rfl rfl ?_
        refine g_cvi (as := [_]) (rest := []) 45 ck rfl rfl rfl rfl rfl rfl (by decide) rfl rfl rfl rfl (Nat.le_of_ble_eq_true rfl) (s71 rfl hs3 hs6 ?_)
        refine g_ifne 48 54 ck rfl rfl rfl rg_b2i (fun hc => ?_) (fun hc => ?_)
        · replace h := ite_ht h (b2i_t hc)
          obtain ⟨⟨hs7, hs8⟩, h⟩ := h
          refine g_al 55 ck rfl rfl rfl ?_
          refine g_al 56 ck rfl rfl rfl ?_
          refine r_gfr 59 38 ck rfl rfl rfl (by decide) ?_
          refine g_al 60 ck rfl rfl rfl ?_
          refine r_gfr 63 158 ck rfl rfl rfl (by decide) ?_
          refine g_il 64 ck rfl rfl rfl ?_
          refine g_aal (b := 162) (m := 8) 65 ck rfl rfl rfl hs7 hs8 ?_
          refine g_il 66 ck rfl rfl rfl ?_
          refine g_il 67 ck rfl rfl rfl ?_
          refine g_il 69 ck rfl rfl rfl ?_
          refine g_cvi (as := [_, _, _, _]) (rest := [_]) 72 ck rfl rfl rfl rfl rfl rfl (by decide) rfl rfl rfl rfl (Nat.le_of_ble_eq_true rfl) (wC.mono h (fun y σ''' h => ?_))
          refine g_cvi (as := [_]) (rest := []) 75 ck rfl rfl rfl rfl rfl rfl (by decide) rfl rfl rfl rfl (Nat.le_of_ble_eq_true rfl) (s146  ?_)
          replace h := h _ rfl
          exact g_ret ck rfl rfl (Or.inl (by decide)) h
        · replace h := ite_hf h (b2i_f (Classical.not_not.mp hc))
          refine g_al 49 ck rfl rfl rfl ?_
          refine g_ic 50 ck rfl rfl ?_
          refine g_cvi (as := [_]) (rest := []) 53 ck rfl rfl rfl rfl rfl rfl (by decide) rfl rfl rfl rfl (Nat.le_of_ble_eq_true rfl) (s145  ?_)
          replace h := h _ rfl
          exact g_ret ck rfl rfl (Or.inl (by decide)) h
  · replace h := ite_hf h (b2i_f (Classical.not_not.mp hc))
    refine g_al 9 ck rfl rfl rfl ?_
    refine g_ic 10 ck rfl rfl ?_
    refine g_cvi (as := [_]) (rest := []) 13 ck rfl rfl rfl rfl rfl rfl (by decide) rfl rfl rfl rfl (Nat.le_of_ble_eq_true rfl) (s145  ?_)
    replace h := h _ rfl
    exact g_ret ck rfl rfl (Or.inl (by decide)) h
/-! 118 TermDesk.roots(I)I -/
def w118 (B : va_E) (σ : l2_m) (x1 : Int) (K : Int → l2_m → Prop) : Prop := ((rg x1 ∧ ((σ 32 5) = 0 ∨ (σ 32 5) = 1)) ∧ (if (σ 32 5) = 1 ∧ 0 ≤ x1 ∧ x1 < 8 then ((0 ≤ x1 ∧ x1 < 8) ∧ (wC B 14 [vr 38, vr (162 + 3 * Int.toNat x1)] σ (fun y σ' => (rg y ∧ (if y < 0 then (∀ σ''' : l2_m, σ''' = trb σ' 5 → K (-1) σ''') else (∀ σ'' : l2_m, σ'' = trb σ' 0 → K y σ'')))))) else (∀ σ'''' : l2_m, σ'''' = trb σ 1 → K (-1) σ'''')))
theorem o118 {B : va_E} {σ : l2_m} {x1 : Int} {K : Int → l2_m → Prop}   (h : w118 B σ x1  K) : wC B 118 [vr 32, vi x1] σ K := by
  have ck : pm_code 118 = pc_118 := rfl
  unfold w118 at h
  show wW B 118 0 [vr 32, vi x1, pm_un] [] σ K
  obtain ⟨⟨hs1, hs2⟩, h⟩ := h
  refine g_al 1 ck rfl rfl rfl ?_
  refine g_il 2 ck rfl rfl rfl ?_
  refine g_cvi (as := [_]) (rest := []) 5 ck rfl rfl rfl rfl rfl rfl (by decide) rfl rfl rfl rfl (Nat.le_of_ble_eq_true rfl) (s147 hs1 hs2 ?_)
  refine g_ifne 8 14 ck rfl rfl rfl rg_b2i (fun hc => ?_) (fun hc => ?_)
  · replace h := ite_ht h (b2i_t hc)
    obtain ⟨⟨hs3, hs4⟩, h⟩ := h
    refine g_al 15 ck rfl rfl rfl ?_
    refine r_gfr 18 38 ck rfl rfl rfl (by decide) ?_
    refine g_al 19 ck rfl rfl rfl ?_
    refine r_gfr 22 158 ck rfl rfl rfl (by decide) ?_
    refine g_il 23 ck rfl rfl rfl ?_
    refine g_aal (b := 162) (m := 8) 24 ck rfl rfl rfl hs3 hs4 ?_
    refine g_cvi (as := [_]) (rest := []) 27 ck rfl rfl rfl rfl rfl rfl (by decide) rfl rfl rfl rfl (Nat.le_of_ble_eq_true rfl) (wC.mono h (fun y σ' h => ?_))
    obtain ⟨hs5, h⟩ := h
    refine r_is 28 ck rfl rfl rfl rfl ?_
    refine g_il 29 ck rfl rfl rfl ?_
    refine g_ifge 32 40 ck rfl rfl rfl hs5 (fun hc => ?_) (fun hc => ?_)
    · replace h := ite_hf h (Int.not_lt.mpr hc)
      refine g_al 41 ck rfl rfl rfl ?_
      refine g_il 42 ck rfl rfl rfl ?_
      refine g_cvi (as := [_]) (rest := []) 45 ck rfl rfl rfl rfl rfl rfl (by decide) rfl rfl rfl rfl (Nat.le_of_ble_eq_true rfl) (s146  ?_)
      replace h := h _ rfl
      exact g_ret ck rfl rfl (Or.inl (by decide)) h
    · replace h := ite_ht h (Int.not_le.mp hc)
      refine g_al 33 ck rfl rfl rfl ?_
      refine g_ic 34 ck rfl rfl ?_
      refine g_cvi (as := [_]) (rest := []) 37 ck rfl rfl rfl rfl rfl rfl (by decide) rfl rfl rfl rfl (Nat.le_of_ble_eq_true rfl) (s145  ?_)
      replace h := h _ rfl
      refine g_goto 45 ck rfl rfl ?_
      exact g_ret ck rfl rfl (Or.inl (by decide)) h
  · replace h := ite_hf h (b2i_f (Classical.not_not.mp hc))
    refine g_al 9 ck rfl rfl rfl ?_
    refine g_ic 10 ck rfl rfl ?_
    refine g_cvi (as := [_]) (rest := []) 13 ck rfl rfl rfl rfl rfl rfl (by decide) rfl rfl rfl rfl (Nat.le_of_ble_eq_true rfl) (s145  ?_)
    replace h := h _ rfl
    exact g_ret ck rfl rfl (Or.inl (by decide)) h
/-! 119 TermDesk.same(II)I -/
def w119 (B : va_E) (σ : l2_m) (x1 : Int) (x2 : Int) (K : Int → l2_m → Prop) : Prop := ((rg x1 ∧ ((σ 32 5) = 0 ∨ (σ 32 5) = 1)) ∧ (if (σ 32 5) = 1 ∧ 0 ≤ x1 ∧ x1 < 8 then (rg x2 ∧ (if (σ 32 5) = 1 ∧ 0 ≤ x2 ∧ x2 < 8 then ((0 ≤ x1 ∧ x1 < 8 ∧ 0 ≤ x2 ∧ x2 < 8) ∧ (wC B 87 [vr (162 + 3 * Int.toNat x1), vr (162 + 3 * Int.toNat x2)] σ (fun y σ'' => (rg y ∧ (if y = 0 then (∀ σ''' : l2_m, σ''' = trb σ'' 0 → K 0 σ''') else (∀ σ'''' : l2_m, σ'''' = trb σ'' 0 → K 1 σ'''')))))) else (∀ σ''''' : l2_m, σ''''' = trb σ 1 → K (-1) σ'''''))) else (∀ σ' : l2_m, σ' = trb σ 1 → K (-1) σ')))
theorem o119 {B : va_E} {σ : l2_m} {x1 : Int} {x2 : Int} {K : Int → l2_m → Prop}   (h : w119 B σ x1 x2  K) : wC B 119 [vr 32, vi x1, vi x2] σ K := by
  have ck : pm_code 119 = pc_119 := rfl
  unfold w119 at h
  show wW B 119 0 [vr 32, vi x1, vi x2] [] σ K
  obtain ⟨⟨hs1, hs2⟩, h⟩ := h
  refine g_al 1 ck rfl rfl rfl ?_
  refine g_il 2 ck rfl rfl rfl ?_
  refine g_cvi (as := [_]) (rest := []) 5 ck rfl rfl rfl rfl rfl rfl (by decide) rfl rfl rfl rfl (Nat.le_of_ble_eq_true rfl) (s147 hs1 hs2 ?_)
  refine g_ifeq 8 16 ck rfl rfl rfl rg_b2i (fun hc => ?_) (fun hc => ?_)
  · replace h := ite_hf h (b2i_f hc)
    refine g_al 17 ck rfl rfl rfl ?_
    refine g_ic 18 ck rfl rfl ?_
    refine g_cvi (as := [_]) (rest := []) 21 ck rfl rfl rfl rfl rfl rfl (by decide) rfl rfl rfl rfl (Nat.le_of_ble_eq_true rfl) (s145  ?_)
    replace h := h _ rfl
    exact g_ret ck rfl rfl (Or.inl (by decide)) h
  · replace h := ite_ht h (b2i_t hc)
    obtain ⟨hs3, h⟩ := h
    refine g_al 9 ck rfl rfl rfl ?_
    refine g_il 10 ck rfl rfl rfl ?_
    refine g_cvi (as := [_]) (rest := []) 13 ck rfl rfl rfl rfl rfl rfl (by decide) rfl rfl rfl rfl (Nat.le_of_ble_eq_true rfl) (s147 hs3 hs2 ?_)
    refine g_ifne 16 22 ck rfl rfl rfl rg_b2i (fun hc => ?_) (fun hc => ?_)
    · replace h := ite_ht h (b2i_t hc)
      obtain ⟨⟨hs4, hs5, hs6, hs7⟩, h⟩ := h
      refine g_al 23 ck rfl rfl rfl ?_
      refine g_al 24 ck rfl rfl rfl ?_
      refine r_gfr 27 158 ck rfl rfl rfl (by decide) ?_
      refine g_il 28 ck rfl rfl rfl ?_
      refine g_aal (b := 162) (m := 8) 29 ck rfl rfl rfl hs4 hs5 ?_
      refine g_al 30 ck rfl rfl rfl ?_
      refine r_gfr 33 158 ck rfl rfl rfl (by decide) ?_
      refine g_il 34 ck rfl rfl rfl ?_
      refine g_aal (b := 162) (m := 8) 35 ck rfl rfl rfl hs6 hs7 ?_
      refine g_cvi (as := [_]) (rest := [_]) 38 ck rfl rfl rfl rfl rfl rfl (by decide) (isP_c (isP_row (a := 158) (b := 162) (m := 8) rfl hs4 hs5)) rfl rfl rfl (Nat.le_of_ble_eq_true rfl) (wC.mono h (fun y σ'' h => ?_))
      obtain ⟨hs8, h⟩ := h
      refine g_ifeq 41 45 ck rfl rfl rfl hs8 (fun hc => ?_) (fun hc => ?_)
      · replace h := ite_ht h hc
        refine g_ic 46 ck rfl rfl ?_
        refine g_cvi (as := [_]) (rest := []) 49 ck rfl rfl rfl rfl rfl rfl (by decide) rfl rfl rfl rfl (Nat.le_of_ble_eq_true rfl) (s146  ?_)
        replace h := h _ rfl
        exact g_ret ck rfl rfl (Or.inl (by decide)) h
      · replace h := ite_hf h hc
        refine g_ic 42 ck rfl rfl ?_
        refine g_goto 46 ck rfl rfl ?_
        refine g_cvi (as := [_]) (rest := []) 49 ck rfl rfl rfl rfl rfl rfl (by decide) rfl rfl rfl rfl (Nat.le_of_ble_eq_true rfl) (s146  ?_)
        replace h := h _ rfl
        exact g_ret ck rfl rfl (Or.inl (by decide)) h
    · replace h := ite_hf h (b2i_f (Classical.not_not.mp hc))
      refine g_al 17 ck rfl rfl rfl ?_
      refine g_ic 18 ck rfl rfl ?_
      refine g_cvi (as := [_]) (rest := []) 21 ck rfl rfl rfl rfl rfl rfl (by decide) rfl rfl rfl rfl (Nat.le_of_ble_eq_true rfl) (s145  ?_)
      replace h := h _ rfl
      exact g_ret ck rfl rfl (Or.inl (by decide)) h
/-! 120 TermDesk.ahead(IIIIII)I -/
def w120 (B : va_E) (σ : l2_m) (x1 : Int) (x2 : Int) (x3 : Int) (x4 : Int) (x5 : Int) (x6 : Int) (K : Int → l2_m → Prop) : Prop := (rg (σ 32 5) ∧ (if (σ 32 5) = 0 then (∀ σ'''' : l2_m, σ'''' = trb σ 1 → K (-2) σ'''') else ((rg x1 ∧ rg x2 ∧ rg x3) ∧ (if isE3 x1 x2 x3 then ((rg x4 ∧ rg x5 ∧ rg x6) ∧ (if isE3 x4 x5 x6 then ((rg (((x1 * (σ (36 + 1) 0)) + (x2 * (σ (36 + 1) 1))) + (x3 * (σ (36 + 1) 2))) ∧ rg (((x4 * (σ (36 + 1) 0)) + (x5 * (σ (36 + 1) 1))) + (x6 * (σ (36 + 1) 2)))) ∧ ∀ σ'' : l2_m, σ'' = trb σ 0 → K (if (((x1 * (σ (36 + 1) 0)) + (x2 * (σ (36 + 1) 1))) + (x3 * (σ (36 + 1) 2))) < (((x4 * (σ (36 + 1) 0)) + (x5 * (σ (36 + 1) 1))) + (x6 * (σ (36 + 1) 2))) then -1 else if (((x1 * (σ (36 + 1) 0)) + (x2 * (σ (36 + 1) 1))) + (x3 * (σ (36 + 1) 2))) = (((x4 * (σ (36 + 1) 0)) + (x5 * (σ (36 + 1) 1))) + (x6 * (σ (36 + 1) 2))) then 0 else 1) σ'') else (∀ σ''' : l2_m, σ''' = trb σ 2 → K (-2) σ'''))) else (∀ σ' : l2_m, σ' = trb σ 2 → K (-2) σ')))))
theorem o120 {B : va_E} {σ : l2_m} {x1 : Int} {x2 : Int} {x3 : Int} {x4 : Int} {x5 : Int} {x6 : Int} {K : Int → l2_m → Prop}   (h : w120 B σ x1 x2 x3 x4 x5 x6  K) : wC B 120 [vr 32, vi x1, vi x2, vi x3, vi x4, vi x5, vi x6] σ K := by
  have ck : pm_code 120 = pc_120 := rfl
  unfold w120 at h
  show wW B 120 0 [vr 32, vi x1, vi x2, vi x3, vi x4, vi x5, vi x6] [] σ K
  obtain ⟨hs1, h⟩ := h
  refine g_al 1 ck rfl rfl rfl ?_
  refine r_gfi 4 5 ck rfl rfl rfl rfl ?_
  refine g_ifne 7 16 ck rfl rfl rfl hs1 (fun hc => ?_) (fun hc => ?_)
  · replace h := ite_hf h hc
    obtain ⟨⟨hs2, hs3, hs4⟩, h⟩ := h
    refine g_il 17 ck rfl rfl rfl ?_
    refine g_il 18 ck rfl rfl rfl ?_
    refine g_il 19 ck rfl rfl rfl ?_
    refine g_csi (as := [_, _, _]) (rest := []) 22 ck rfl rfl rfl rfl rfl (by decide) rfl rfl rfl (Nat.le_of_ble_eq_true rfl) (s151 hs2 hs3 hs4 ?_)
    refine g_ifeq 25 37 ck rfl rfl rfl rg_b2i (fun hc => ?_) (fun hc => ?_)
    · replace h := ite_hf h (b2i_f hc)
      refine g_al 38 ck rfl rfl rfl ?_
      refine g_ic 39 ck rfl rfl ?_
      refine g_cvi (as := [_]) (rest := []) 42 ck rfl rfl rfl rfl rfl rfl (by decide) rfl rfl rfl rfl (Nat.le_of_ble_eq_true rfl) (s145  ?_)
      replace h := h _ rfl
      refine g_pop 43 ck rfl rfl rfl ?_
      refine g_ic 45 ck rfl rfl ?_
      exact g_ret ck rfl rfl (Or.inl (by decide)) h
    · replace h := ite_ht h (b2i_t hc)
      obtain ⟨⟨hs5, hs6, hs7⟩, h⟩ := h
      refine g_il 27 ck rfl rfl rfl ?_
      refine g_il 29 ck rfl rfl rfl ?_
      refine g_il 31 ck rfl rfl rfl ?_
      refine g_csi (as := [_, _, _]) (rest := []) 34 ck rfl rfl rfl rfl rfl (by decide) rfl rfl rfl (Nat.le_of_ble_eq_true rfl) (s151 hs5 hs6 hs7 ?_)
      refine g_ifne 37 46 ck rfl rfl rfl rg_b2i (fun hc => ?_) (fun hc => ?_)
      · replace h := ite_ht h (b2i_t hc)
        obtain ⟨⟨hs8, hs9⟩, h⟩ := h
        refine g_al 47 ck rfl rfl rfl ?_
        refine g_al 48 ck rfl rfl rfl ?_
        refine r_gfr 51 36 ck rfl rfl rfl (by decide) ?_
        refine g_il 52 ck rfl rfl rfl ?_
        refine g_il 53 ck rfl rfl rfl ?_
        refine g_il 54 ck rfl rfl rfl ?_
        refine g_cvi (as := [_, _, _]) (rest := [_]) 57 ck rfl rfl rfl rfl rfl rfl (by decide) rfl rfl rfl rfl (Nat.le_of_ble_eq_true rfl) (s78 rfl ?_)
        refine g_al 58 ck rfl rfl rfl ?_
        refine r_gfr 61 36 ck rfl rfl rfl (by decide) ?_
        refine g_il 63 ck rfl rfl rfl ?_
        refine g_il 65 ck rfl rfl rfl ?_
        refine g_il 67 ck rfl rfl rfl ?_
        refine g_cvi (as := [_, _, _]) (rest := [_, _]) 70 ck rfl rfl rfl rfl rfl rfl (by decide) rfl rfl rfl rfl (Nat.le_of_ble_eq_true rfl) (s78 rfl ?_)
        refine g_csi (as := [_, _]) (rest := [_]) 73 ck rfl rfl rfl rfl rfl (by decide) rfl rfl rfl (Nat.le_of_ble_eq_true rfl) (s281 hs8 hs9 ?_)
        refine g_cvi (as := [_]) (rest := []) 76 ck rfl rfl rfl rfl rfl rfl (by decide) rfl rfl rfl rfl (Nat.le_of_ble_eq_true rfl) (s146  ?_)
        replace h := h _ rfl
        exact g_ret ck rfl rfl (Or.inl (by decide)) h
      · replace h := ite_hf h (b2i_f (Classical.not_not.mp hc))
        refine g_al 38 ck rfl rfl rfl ?_
        refine g_ic 39 ck rfl rfl ?_
        refine g_cvi (as := [_]) (rest := []) 42 ck rfl rfl rfl rfl rfl rfl (by decide) rfl rfl rfl rfl (Nat.le_of_ble_eq_true rfl) (s145  ?_)
        replace h := h _ rfl
        refine g_pop 43 ck rfl rfl rfl ?_
        refine g_ic 45 ck rfl rfl ?_
        exact g_ret ck rfl rfl (Or.inl (by decide)) h
  · replace h := ite_ht h (Classical.not_not.mp hc)
    refine g_al 8 ck rfl rfl rfl ?_
    refine g_ic 9 ck rfl rfl ?_
    refine g_cvi (as := [_]) (rest := []) 12 ck rfl rfl rfl rfl rfl rfl (by decide) rfl rfl rfl rfl (Nat.le_of_ble_eq_true rfl) (s145  ?_)
    replace h := h _ rfl
    refine g_pop 13 ck rfl rfl rfl ?_
    refine g_ic 15 ck rfl rfl ?_
    exact g_ret ck rfl rfl (Or.inl (by decide)) h
/-! 121 TermDesk.leadBy(IIII)I -/
def w121 (B : va_E) (σ : l2_m) (x1 : Int) (x2 : Int) (x3 : Int) (x4 : Int) (K : Int → l2_m → Prop) : Prop := ((rg x1 ∧ ((σ 32 5) = 0 ∨ (σ 32 5) = 1)) ∧ (if (σ 32 5) = 1 ∧ 0 ≤ x1 ∧ x1 < 8 then ((rg x2 ∧ rg x3 ∧ rg x4) ∧ (if isOr x2 x3 x4 then ((0 ≤ x1 ∧ x1 < 8 ∧ rg (σ (162 + 3 * Int.toNat x1) 2)) ∧ (if (σ (162 + 3 * Int.toNat x1) 2) = 0 then (∀ σ''' : l2_m, σ''' = trb σ 0 → K (-2) σ''') else (wC B 11 [vr 38, vr (162 + 3 * Int.toNat x1), vi x2, vi x3, vi x4] σ (fun y σ' => (rg y ∧ ∀ σ'' : l2_m, σ'' = trb σ' 0 → K (((e5 y 0) + (16 * (e5 y 1))) + (256 * (e5 y 2))) σ''))))) else (∀ σ'''' : l2_m, σ'''' = trb σ 2 → K (-1) σ''''))) else (∀ σ''''' : l2_m, σ''''' = trb σ 1 → K (-1) σ''''')))
theorem o121 {B : va_E} {σ : l2_m} {x1 : Int} {x2 : Int} {x3 : Int} {x4 : Int} {K : Int → l2_m → Prop}   (h : w121 B σ x1 x2 x3 x4  K) : wC B 121 [vr 32, vi x1, vi x2, vi x3, vi x4] σ K := by
  have ck : pm_code 121 = pc_121 := rfl
  unfold w121 at h
  show wW B 121 0 [vr 32, vi x1, vi x2, vi x3, vi x4, pm_un, pm_un] [] σ K
  obtain ⟨⟨hs1, hs2⟩, h⟩ := h
  refine g_al 1 ck rfl rfl rfl ?_
  refine g_il 2 ck rfl rfl rfl ?_
  refine g_cvi (as := [_]) (rest := []) 5 ck rfl rfl rfl rfl rfl rfl (by decide) rfl rfl rfl rfl (Nat.le_of_ble_eq_true rfl) (s147 hs1 hs2 ?_)
  refine g_ifne 8 14 ck rfl rfl rfl rg_b2i (fun hc => ?_) (fun hc => ?_)
  · replace h := ite_ht h (b2i_t hc)
    obtain ⟨⟨hs3, hs4, hs5⟩, h⟩ := h
    refine g_il 15 ck rfl rfl rfl ?_
    refine g_il 16 ck rfl rfl rfl ?_
    refine g_il 18 ck rfl rfl rfl ?_
    refine g_csi (as := [_, _, _]) (rest := []) 21 ck rfl rfl rfl rfl rfl (by decide) rfl rfl rfl (Nat.le_of_ble_eq_true rfl) (s149 hs3 hs4 hs5 ?_)
    refine g_ifne 24 30 ck rfl rfl rfl rg_b2i (fun hc => ?_) (fun hc => ?_)
    · replace h := ite_ht h (b2i_t hc)
      obtain ⟨⟨hs6, hs7, hs8⟩, h⟩ := h
      refine g_al 31 ck rfl rfl rfl ?_
      refine r_gfr 34 158 ck rfl rfl rfl (by decide) ?_
      refine g_il 35 ck rfl rfl rfl ?_
      refine g_aal (b := 162) (m := 8) 36 ck rfl rfl rfl hs6 hs7 ?_
      refine r_as 38 ck rfl rfl rfl rfl ?_
      refine g_al 40 ck rfl rfl rfl ?_
      refine r_gfi 43 2 ck rfl rfl (isP_2 (isP_row (a := 158) (b := 162) (m := 8) rfl hs6 hs7)) rfl ?_
      refine g_ifne 46 53 ck rfl rfl rfl hs8 (fun hc => ?_) (fun hc => ?_)
      · replace h := ite_hf h hc
        refine g_al 54 ck rfl rfl rfl ?_
        refine r_gfr 57 38 ck rfl rfl rfl (by decide) ?_
        refine g_al 59 ck rfl rfl rfl ?_
        refine g_il 60 ck rfl rfl rfl ?_
        refine g_il 61 ck rfl rfl rfl ?_
        refine g_il 63 ck rfl rfl rfl ?_
        refine g_cvi (as := [_, _, _, _]) (rest := []) 66 ck rfl rfl rfl rfl rfl rfl (by decide) rfl rfl rfl rfl (Nat.le_of_ble_eq_true rfl) (wC.mono h (fun y σ' h => ?_))
        obtain ⟨hs9, h⟩ := h
        refine r_is 68 ck rfl rfl rfl rfl ?_
        refine g_al 69 ck rfl rfl rfl ?_
        refine g_il 71 ck rfl rfl rfl ?_
        refine g_ic 72 ck rfl rfl ?_
        refine g_csi (as := [_, _]) (rest := [_]) 75 ck rfl rfl rfl rfl rfl (by decide) rfl rfl rfl (Nat.le_of_ble_eq_true rfl) (s154 hs9 (by decide) (by decide) ?_)
        refine g_ic 77 ck rfl rfl ?_
        refine g_il 79 ck rfl rfl rfl ?_
        refine g_ic 80 ck rfl rfl ?_
        refine g_csi (as := [_, _]) (rest := [_, _, _]) 83 ck rfl rfl rfl rfl rfl (by decide) rfl rfl rfl (Nat.le_of_ble_eq_true rfl) (s154 hs9 (by decide) (by decide) ?_)
        refine g_mul 84 ck rfl rfl ?_
        refine g_add 85 ck rfl rfl ?_
        refine g_ic 88 ck rfl rfl ?_
        refine g_il 90 ck rfl rfl rfl ?_
        refine g_ic 91 ck rfl rfl ?_
        refine g_csi (as := [_, _]) (rest := [_, _, _]) 94 ck rfl rfl rfl rfl rfl (by decide) rfl rfl rfl (Nat.le_of_ble_eq_true rfl) (s154 hs9 (by decide) (by decide) ?_)
        refine g_mul 95 ck rfl rfl ?_
        refine g_add 96 ck rfl rfl ?_
        refine g_cvi (as := [_]) (rest := []) 99 ck rfl rfl rfl rfl rfl rfl (by decide) rfl rfl rfl rfl (Nat.le_of_ble_eq_true rfl) (s146  ?_)
        replace h := h _ rfl
        exact g_ret ck rfl rfl (Or.inl (by decide)) h
      · replace h := ite_ht h (Classical.not_not.mp hc)
        refine g_al 47 ck rfl rfl rfl ?_
        refine g_ic 49 ck rfl rfl ?_
        refine g_cvi (as := [_]) (rest := []) 52 ck rfl rfl rfl rfl rfl rfl (by decide) rfl rfl rfl rfl (Nat.le_of_ble_eq_true rfl) (s146  ?_)
        replace h := h _ rfl
        exact g_ret ck rfl rfl (Or.inl (by decide)) h
    · replace h := ite_hf h (b2i_f (Classical.not_not.mp hc))
      refine g_al 25 ck rfl rfl rfl ?_
      refine g_ic 26 ck rfl rfl ?_
      refine g_cvi (as := [_]) (rest := []) 29 ck rfl rfl rfl rfl rfl rfl (by decide) rfl rfl rfl rfl (Nat.le_of_ble_eq_true rfl) (s145  ?_)
      replace h := h _ rfl
      exact g_ret ck rfl rfl (Or.inl (by decide)) h
  · replace h := ite_hf h (b2i_f (Classical.not_not.mp hc))
    refine g_al 9 ck rfl rfl rfl ?_
    refine g_ic 10 ck rfl rfl ?_
    refine g_cvi (as := [_]) (rest := []) 13 ck rfl rfl rfl rfl rfl rfl (by decide) rfl rfl rfl rfl (Nat.le_of_ble_eq_true rfl) (s145  ?_)
    replace h := h _ rfl
    exact g_ret ck rfl rfl (Or.inl (by decide)) h
/-! 122 TermDesk.divided(III)I -/
def w122 (B : va_E) (σ : l2_m) (x1 : Int) (x2 : Int) (x3 : Int) (K : Int → l2_m → Prop) : Prop := ((rg x1 ∧ ((σ 32 5) = 0 ∨ (σ 32 5) = 1)) ∧ (if (σ 32 5) = 1 ∧ 0 ≤ x1 ∧ x1 < 8 then (rg x3 ∧ (if x3 < 0 then (∀ σ'' : l2_m, σ'' = trb σ 1 → K (-1) σ'') else (if 3 < x3 then (∀ σ''''''''' : l2_m, σ''''''''' = trb σ 1 → K (-1) σ''''''''') else (wC B 161 [vr 32, vi x1, vi x2] σ (fun y σ''' => (rg y ∧ (if y = 0 then (rg x3 ∧ (if x3 = 0 then (∀ σ'''' : l2_m, σ'''' = trb σ''' 0 → K (σ''' 74 5) σ'''') else (if x3 = 1 then (∀ σ''''' : l2_m, σ''''' = trb σ''' 0 → K (σ''' 76 2) σ''''') else (if x3 = 2 then ((∀ j : Int, 0 ≤ j → j < 8 → rg (σ''' (85 + 3 * Int.toNat j) 2)) ∧ ∀ σ'''''' : l2_m, σ'''''' = trb σ''' 0 → K (sumN (fun j => σ''' (85 + 3 * Int.toNat j) 2) 8) σ'''''') else (∀ σ''''''' : l2_m, σ''''''' = trb σ''' 0 → K (σ''' 74 6) σ'''''''))))) else (∀ σ'''''''' : l2_m, σ'''''''' = trb σ''' y → K (-1) σ'''''''')))))))) else (∀ σ' : l2_m, σ' = trb σ 1 → K (-1) σ')))
theorem o122 {B : va_E} {σ : l2_m} {x1 : Int} {x2 : Int} {x3 : Int} {K : Int → l2_m → Prop}   (h : w122 B σ x1 x2 x3  K) : wC B 122 [vr 32, vi x1, vi x2, vi x3] σ K := by
  have ck : pm_code 122 = pc_122 := rfl
  unfold w122 at h
  show wW B 122 0 [vr 32, vi x1, vi x2, vi x3, pm_un] [] σ K
  obtain ⟨⟨hs1, hs2⟩, h⟩ := h
  refine g_al 1 ck rfl rfl rfl ?_
  refine g_il 2 ck rfl rfl rfl ?_
  refine g_cvi (as := [_]) (rest := []) 5 ck rfl rfl rfl rfl rfl rfl (by decide) rfl rfl rfl rfl (Nat.le_of_ble_eq_true rfl) (s147 hs1 hs2 ?_)
  refine g_ifeq 8 17 ck rfl rfl rfl rg_b2i (fun hc => ?_) (fun hc => ?_)
  · replace h := ite_hf h (b2i_f hc)
    refine g_al 18 ck rfl rfl rfl ?_
    refine g_ic 19 ck rfl rfl ?_
    refine g_cvi (as := [_]) (rest := []) 22 ck rfl rfl rfl rfl rfl rfl (by decide) rfl rfl rfl rfl (Nat.le_of_ble_eq_true rfl) (s145  ?_)
    replace h := h _ rfl
    exact g_ret ck rfl rfl (Or.inl (by decide)) h
  · replace h := ite_ht h (b2i_t hc)
    obtain ⟨hs3, h⟩ := h
    refine g_il 9 ck rfl rfl rfl ?_
    refine g_iflt 12 17 ck rfl rfl rfl hs3 (fun hc => ?_) (fun hc => ?_)
    · replace h := ite_ht h hc
      refine g_al 18 ck rfl rfl rfl ?_
      refine g_ic 19 ck rfl rfl ?_
      refine g_cvi (as := [_]) (rest := []) 22 ck rfl rfl rfl rfl rfl rfl (by decide) rfl rfl rfl rfl (Nat.le_of_ble_eq_true rfl) (s145  ?_)
      replace h := h _ rfl
      exact g_ret ck rfl rfl (Or.inl (by decide)) h
    · replace h := ite_hf h hc
      refine g_il 13 ck rfl rfl rfl ?_
      refine g_ic 14 ck rfl rfl ?_
      refine g_icle 17 23 ck rfl rfl rfl hs3 (by decide) (fun hc => ?_) (fun hc => ?_)
      · replace h := ite_hf h (Int.not_lt.mpr hc)
        refine g_al 24 ck rfl rfl rfl ?_
        refine g_il 25 ck rfl rfl rfl ?_
        refine g_il 26 ck rfl rfl rfl ?_
        refine g_cvi (as := [_, _]) (rest := []) 29 ck rfl rfl rfl rfl rfl rfl (by decide) rfl rfl rfl rfl (Nat.le_of_ble_eq_true rfl) (wC.mono h (fun y σ''' h => ?_))
        obtain ⟨hs4, h⟩ := h
        refine r_is 31 ck rfl rfl rfl rfl ?_
        refine g_il 33 ck rfl rfl rfl ?_
        refine g_ifeq 36 43 ck rfl rfl rfl hs4 (fun hc => ?_) (fun hc => ?_)
        · replace h := ite_ht h hc
          obtain ⟨hs5, h⟩ := h
          refine g_il 44 ck rfl rfl rfl ?_
          by_cases hc0 : x3 = 0
          · replace h := ite_ht h hc0
            refine g_sw 72 ck rfl hs5 (by rw [hc0]; rfl) ?_
            refine g_al 73 ck rfl rfl rfl ?_
            refine g_al 74 ck rfl rfl rfl ?_
            refine r_gfr 77 74 ck rfl rfl rfl (by decide) ?_
            refine r_gfi 80 5 ck rfl rfl rfl rfl ?_
            refine g_cvi (as := [_]) (rest := []) 83 ck rfl rfl rfl rfl rfl rfl (by decide) rfl rfl rfl rfl (Nat.le_of_ble_eq_true rfl) (s146  ?_)
            replace h := h _ rfl
            exact g_ret ck rfl rfl (Or.inl (by decide)) h
          replace h := ite_hf h hc0
          by_cases hc1 : x3 = 1
          · replace h := ite_ht h hc1
            refine g_sw 84 ck rfl hs5 (by rw [hc1]; rfl) ?_
            refine g_al 85 ck rfl rfl rfl ?_
            refine g_al 86 ck rfl rfl rfl ?_
            refine r_gfr 89 74 ck rfl rfl rfl (by decide) ?_
            refine r_gfr 92 76 ck rfl rfl rfl (by decide) ?_
            refine r_gfi 95 2 ck rfl rfl rfl rfl ?_
            refine g_cvi (as := [_]) (rest := []) 98 ck rfl rfl rfl rfl rfl rfl (by decide) rfl rfl rfl rfl (Nat.le_of_ble_eq_true rfl) (s146  ?_)
            replace h := h _ rfl
            exact g_ret ck rfl rfl (Or.inl (by decide)) h
          replace h := ite_hf h hc1
          by_cases hc2 : x3 = 2
          · replace h := ite_ht h hc2
            refine g_sw 99 ck rfl hs5 (by rw [hc2]; rfl) ?_
            obtain ⟨hs6, h⟩ := h
            refine g_al 100 ck rfl rfl rfl ?_
            refine g_al 101 ck rfl rfl rfl ?_
            refine r_gfr 104 74 ck rfl rfl rfl (by decide) ?_
            refine g_cvi (as := []) (rest := [_]) 107 ck rfl rfl rfl rfl rfl rfl (by decide) rfl rfl rfl rfl (Nat.le_of_ble_eq_true rfl) (s49 hs6 ?_)
            refine g_cvi (as := [_]) (rest := []) 110 ck rfl rfl rfl rfl rfl rfl (by decide) rfl rfl rfl rfl (Nat.le_of_ble_eq_true rfl) (s146  ?_)
            replace h := h _ rfl
            exact g_ret ck rfl rfl (Or.inl (by decide)) h
          replace h := ite_hf h hc2
          refine g_sw 111 ck rfl hs5 (by unfold l2_sw; rw [if_pos (by omega)]; rfl) ?_
          refine g_al 112 ck rfl rfl rfl ?_
          refine g_al 113 ck rfl rfl rfl ?_
          refine r_gfr 116 74 ck rfl rfl rfl (by decide) ?_
          refine r_gfi 119 6 ck rfl rfl rfl rfl ?_
          refine g_cvi (as := [_]) (rest := []) 122 ck rfl rfl rfl rfl rfl rfl (by decide) rfl rfl rfl rfl (Nat.le_of_ble_eq_true rfl) (s146  ?_)
          replace h := h _ rfl
          exact g_ret ck rfl rfl (Or.inl (by decide)) h
        · replace h := ite_hf h hc
          refine g_al 37 ck rfl rfl rfl ?_
          refine g_il 39 ck rfl rfl rfl ?_
          refine g_cvi (as := [_]) (rest := []) 42 ck rfl rfl rfl rfl rfl rfl (by decide) rfl rfl rfl rfl (Nat.le_of_ble_eq_true rfl) (s145  ?_)
          replace h := h _ rfl
          exact g_ret ck rfl rfl (Or.inl (by decide)) h
      · replace h := ite_ht h (Int.not_le.mp hc)
        refine g_al 18 ck rfl rfl rfl ?_
        refine g_ic 19 ck rfl rfl ?_
        refine g_cvi (as := [_]) (rest := []) 22 ck rfl rfl rfl rfl rfl rfl (by decide) rfl rfl rfl rfl (Nat.le_of_ble_eq_true rfl) (s145  ?_)
        replace h := h _ rfl
        exact g_ret ck rfl rfl (Or.inl (by decide)) h
/-! 123 TermDesk.divides(II)I -/
def w123 (B : va_E) (σ : l2_m) (x1 : Int) (x2 : Int) (K : Int → l2_m → Prop) : Prop := ((rg x1 ∧ ((σ 32 5) = 0 ∨ (σ 32 5) = 1)) ∧ (if (σ 32 5) = 1 ∧ 0 ≤ x1 ∧ x1 < 8 then (rg x2 ∧ (if (σ 32 5) = 1 ∧ 0 ≤ x2 ∧ x2 < 8 then ((0 ≤ x1 ∧ x1 < 32) ∧ (wC B 161 [vr 32, vi x2, vi ((1 : Int) * 2 ^ (Int.toNat x1))] σ (fun y σ'' => (rg y ∧ (if y = 0 then (rg (σ'' 76 2) ∧ (if (σ'' 76 2) = 0 then (∀ σ'''' : l2_m, σ'''' = trb σ'' 0 → K 1 σ'''') else (∀ σ''' : l2_m, σ''' = trb σ'' 0 → K 0 σ'''))) else (∀ σ''''' : l2_m, σ''''' = trb σ'' y → K (-1) σ''''')))))) else (∀ σ'''''' : l2_m, σ'''''' = trb σ 1 → K (-1) σ''''''))) else (∀ σ' : l2_m, σ' = trb σ 1 → K (-1) σ')))
theorem o123 {B : va_E} {σ : l2_m} {x1 : Int} {x2 : Int} {K : Int → l2_m → Prop}   (h : w123 B σ x1 x2  K) : wC B 123 [vr 32, vi x1, vi x2] σ K := by
  have ck : pm_code 123 = pc_123 := rfl
  unfold w123 at h
  show wW B 123 0 [vr 32, vi x1, vi x2, pm_un] [] σ K
  obtain ⟨⟨hs1, hs2⟩, h⟩ := h
  refine g_al 1 ck rfl rfl rfl ?_
  refine g_il 2 ck rfl rfl rfl ?_
  refine g_cvi (as := [_]) (rest := []) 5 ck rfl rfl rfl rfl rfl rfl (by decide) rfl rfl rfl rfl (Nat.le_of_ble_eq_true rfl) (s147 hs1 hs2 ?_)
  refine g_ifeq 8 16 ck rfl rfl rfl rg_b2i (fun hc => ?_) (fun hc => ?_)
  · replace h := ite_hf h (b2i_f hc)
    refine g_al 17 ck rfl rfl rfl ?_
    refine g_ic 18 ck rfl rfl ?_
    refine g_cvi (as := [_]) (rest := []) 21 ck rfl rfl rfl rfl rfl rfl (by decide) rfl rfl rfl rfl (Nat.le_of_ble_eq_true rfl) (s145  ?_)
    replace h := h _ rfl
    exact g_ret ck rfl rfl (Or.inl (by decide)) h
  · replace h := ite_ht h (b2i_t hc)
    obtain ⟨hs3, h⟩ := h
    refine g_al 9 ck rfl rfl rfl ?_
    refine g_il 10 ck rfl rfl rfl ?_
    refine g_cvi (as := [_]) (rest := []) 13 ck rfl rfl rfl rfl rfl rfl (by decide) rfl rfl rfl rfl (Nat.le_of_ble_eq_true rfl) (s147 hs3 hs2 ?_)
    refine g_ifne 16 22 ck rfl rfl rfl rg_b2i (fun hc => ?_) (fun hc => ?_)
    · replace h := ite_ht h (b2i_t hc)
      obtain ⟨⟨hs4, hs5⟩, h⟩ := h
      refine g_al 23 ck rfl rfl rfl ?_
      refine g_il 24 ck rfl rfl rfl ?_
      refine g_ic 25 ck rfl rfl ?_
      refine g_il 26 ck rfl rfl rfl ?_
      refine g_shl 27 ck rfl rfl hs4 hs5 ?_
      refine g_cvi (as := [_, _]) (rest := []) 30 ck rfl rfl rfl rfl rfl rfl (by decide) rfl rfl rfl rfl (Nat.le_of_ble_eq_true rfl) (wC.mono h (fun y σ'' h => ?_))
      obtain ⟨hs6, h⟩ := h
      refine r_is 31 ck rfl rfl rfl rfl ?_
      refine g_il 32 ck rfl rfl rfl ?_
      refine g_ifeq 35 41 ck rfl rfl rfl hs6 (fun hc => ?_) (fun hc => ?_)
      · replace h := ite_ht h hc
        obtain ⟨hs7, h⟩ := h
        refine g_al 42 ck rfl rfl rfl ?_
        refine g_al 43 ck rfl rfl rfl ?_
        refine r_gfr 46 74 ck rfl rfl rfl (by decide) ?_
        refine r_gfr 49 76 ck rfl rfl rfl (by decide) ?_
        refine r_gfi 52 2 ck rfl rfl rfl rfl ?_
        refine g_ifne 55 59 ck rfl rfl rfl hs7 (fun hc => ?_) (fun hc => ?_)
        · replace h := ite_hf h hc
          refine g_ic 60 ck rfl rfl ?_
          refine g_cvi (as := [_]) (rest := []) 63 ck rfl rfl rfl rfl rfl rfl (by decide) rfl rfl rfl rfl (Nat.le_of_ble_eq_true rfl) (s146  ?_)
          replace h := h _ rfl
          exact g_ret ck rfl rfl (Or.inl (by decide)) h
        · replace h := ite_ht h (Classical.not_not.mp hc)
          refine g_ic 56 ck rfl rfl ?_
          refine g_goto 60 ck rfl rfl ?_
          refine g_cvi (as := [_]) (rest := []) 63 ck rfl rfl rfl rfl rfl rfl (by decide) rfl rfl rfl rfl (Nat.le_of_ble_eq_true rfl) (s146  ?_)
          replace h := h _ rfl
          exact g_ret ck rfl rfl (Or.inl (by decide)) h
      · replace h := ite_hf h hc
        refine g_al 36 ck rfl rfl rfl ?_
        refine g_il 37 ck rfl rfl rfl ?_
        refine g_cvi (as := [_]) (rest := []) 40 ck rfl rfl rfl rfl rfl rfl (by decide) rfl rfl rfl rfl (Nat.le_of_ble_eq_true rfl) (s145  ?_)
        replace h := h _ rfl
        exact g_ret ck rfl rfl (Or.inl (by decide)) h
    · replace h := ite_hf h (b2i_f (Classical.not_not.mp hc))
      refine g_al 17 ck rfl rfl rfl ?_
      refine g_ic 18 ck rfl rfl ?_
      refine g_cvi (as := [_]) (rest := []) 21 ck rfl rfl rfl rfl rfl rfl (by decide) rfl rfl rfl rfl (Nat.le_of_ble_eq_true rfl) (s145  ?_)
      replace h := h _ rfl
      exact g_ret ck rfl rfl (Or.inl (by decide)) h
/-! 124 TermDesk.missing(I)I -/
def w124_34 (B : va_E) (σ : l2_m) (x1 : Int) (x3 : Int) (x4 : Int) (x5 : Int) (X21 : Int → Int → l2_m → Prop) (K : Int → l2_m → Prop) : Prop := lz3 (fun X34 x3 x5 σ => (rg x5 ∧ (if x5 < 8 then ((rg x1 ∧ 0 ≤ x4 ∧ x4 < 32) ∧ ((((bit x1 x4) = 1) → 0 ≤ x5 ∧ x5 < 32) ∧ (if ((bit x1 x4) = 1) ∧ ((bit x1 x5) = 1) then (wC B 162 [vr 32, vi x4, vi x5, vi x1] σ (fun y σ' => (rg y ∧ (if y = 0 then (∀ σ'' : l2_m, σ'' = trb σ' 3 → K (-1) σ'') else (rg (σ' 76 2) ∧ (if 0 < (σ' 76 2) then (∀ x3'' : Int, x3'' = (x3 + 1) → X34 x3'' (x5 + 1) σ') else (∀ x3' : Int, x3' = (x3 + 0) → X34 x3' (x5 + 1) σ'))))))) else X34 x3 (x5 + 1) σ))) else X21 x3 (x4 + 1) σ))) x3 x5 σ
theorem o124_34 {B : va_E} {σ : l2_m} {x1 : Int} {x3 : Int} {x4 : Int} {x5 : Int} {u2 : Value} {X21 : Int → Int → l2_m → Prop} {K : Int → l2_m → Prop}  (hu2 : (u2.category == 1) = true) (hX21 : ∀ (x3 : Int) (x4 : Int) (σ : l2_m) (u2 : Value) (u5 : Value), (u2.category == 1) = true → (u5.category == 1) = true → X21 x3 x4 σ → wW B 124 21 [vr 32, vi x1, u2, vi x3, vi x4, u5] [] σ K) (h : w124_34 B σ x1 x3 x4 x5 X21 K) : wW B 124 34 [vr 32, vi x1, u2, vi x3, vi x4, vi x5] [] σ K := by
  have ck : pm_code 124 = pc_124 := rfl
  unfold w124_34 at h
  refine h (fun x3 x5 σ => ∀ u2 : Value, (u2.category == 1) = true → wW B 124 34 [vr 32, vi x1, u2, vi x3, vi x4, vi x5] [] σ K) ?_ u2 hu2
  clear h
  intro x3 x5 σ h u2 hu2
  replace h := (And.imp_right (ite_mp (And.imp_right mg_3s) id)) h
  obtain ⟨hs1, h⟩ := h
  refine g_il 36 ck rfl rfl rfl ?_
  refine g_ic 38 ck rfl rfl ?_
  refine g_icge 41 104 ck rfl rfl rfl hs1 (by decide) (fun hc => ?_) (fun hc => ?_)
  · replace h := ite_hf h (Int.not_lt.mpr hc)
    refine r_ii 107 ck rfl rfl rfl rfl ?_
    refine g_goto 21 ck rfl rfl ?_
    exact hX21 _ _ _ _ _ hu2 rfl h
  · replace h := ite_ht h (Int.not_le.mp hc)
    obtain ⟨⟨hs2, hs3, hs4⟩, h⟩ := h
    refine g_il 42 ck rfl rfl rfl ?_
    refine g_il 44 ck rfl rfl rfl ?_
    refine g_csi (as := [_, _]) (rest := []) 47 ck rfl rfl rfl rfl rfl (by decide) rfl rfl rfl (Nat.le_of_ble_eq_true rfl) (s152 hs2 hs3 hs4 ?_)
    refine g_ifeq 50 98 ck rfl rfl rfl rg_b2i (fun hc => ?_) (fun hc => ?_)
    · replace h := ite_hf h (b2i_f hc)
      refine r_ii 101 ck rfl rfl rfl rfl ?_
      refine g_goto 34 ck rfl rfl ?_
      exact h _ hu2
    · replace h := ite_ht h (b2i_t hc)
      obtain ⟨⟨hs5, hs6⟩, h⟩ := h
      refine g_il 51 ck rfl rfl rfl ?_
      refine g_il 53 ck rfl rfl rfl ?_
      refine g_csi (as := [_, _]) (rest := []) 56 ck rfl rfl rfl rfl rfl (by decide) rfl rfl rfl (Nat.le_of_ble_eq_true rfl) (s152 hs2 hs5 hs6 ?_)
      refine g_ifeq 59 98 ck rfl rfl rfl rg_b2i (fun hc => ?_) (fun hc => ?_)
      · replace h := ite_hf h (b2i_f hc)
        refine r_ii 101 ck rfl rfl rfl rfl ?_
        refine g_goto 34 ck rfl rfl ?_
        exact h _ hu2
      · replace h := ite_ht h (b2i_t hc)
        refine g_al 60 ck rfl rfl rfl ?_
        refine g_il 62 ck rfl rfl rfl ?_
        refine g_il 64 ck rfl rfl rfl ?_
        refine g_il 65 ck rfl rfl rfl ?_
        refine g_cvi (as := [_, _, _]) (rest := []) 68 ck rfl rfl rfl rfl rfl rfl (by decide) rfl rfl rfl rfl (Nat.le_of_ble_eq_true rfl) (wC.mono h (fun y σ' h => ?_))
        obtain ⟨hs7, h⟩ := h
        refine g_ifne 71 77 ck rfl rfl rfl hs7 (fun hc => ?_) (fun hc => ?_)
        · replace h := ite_hf h hc
          obtain ⟨hs8, h⟩ := h
          refine g_il 78 ck rfl rfl rfl ?_
          refine g_al 79 ck rfl rfl rfl ?_
          refine r_gfr 82 74 ck rfl rfl rfl (by decide) ?_
          refine r_gfr 85 76 ck rfl rfl rfl (by decide) ?_
          refine r_gfi 88 2 ck rfl rfl rfl rfl ?_
          refine g_ifle 91 95 ck rfl rfl rfl hs8 (fun hc => ?_) (fun hc => ?_)
          · replace h := ite_hf h (Int.not_lt.mpr hc)
            refine g_ic 96 ck rfl rfl ?_
            refine g_add 97 ck rfl rfl ?_
            refine r_is 98 ck rfl rfl hu2 rfl ?_
            replace h := h _ rfl
            refine r_ii 101 ck rfl rfl rfl rfl ?_
            refine g_goto 34 ck rfl rfl ?_
            exact h _ hu2
          · replace h := ite_ht h (Int.not_le.mp hc)
            refine g_ic 92 ck rfl rfl ?_
            refine g_goto 96 ck rfl rfl ?_
            refine g_add 97 ck rfl rfl ?_
            refine r_is 98 ck rfl rfl hu2 rfl ?_
            replace h := h _ rfl
            refine r_ii 101 ck rfl rfl rfl rfl ?_
            refine g_goto 34 ck rfl rfl ?_
            exact h _ hu2
        · replace h := ite_ht h (Classical.not_not.mp hc)
          refine g_al 72 ck rfl rfl rfl ?_
          refine g_ic 73 ck rfl rfl ?_
          refine g_cvi (as := [_]) (rest := []) 76 ck rfl rfl rfl rfl rfl rfl (by decide) rfl rfl rfl rfl (Nat.le_of_ble_eq_true rfl) (s145  ?_)
          replace h := h _ rfl
          exact g_ret ck rfl rfl (Or.inl (by decide)) h
def w124_21 (B : va_E) (σ : l2_m) (x1 : Int) (x3 : Int) (x4 : Int)  (K : Int → l2_m → Prop) : Prop := lz3 (fun X21 x3 x4 σ => (rg x4 ∧ (if x4 < 8 then (∀ x5 : Int, x5 = (x4 + 1) → w124_34 B σ x1 x3 x4 x5 X21 K) else (∀ σ' : l2_m, σ' = trb σ 0 → K x3 σ')))) x3 x4 σ
theorem o124_21 {B : va_E} {σ : l2_m} {x1 : Int} {x3 : Int} {x4 : Int} {u2 : Value} {u5 : Value}  {K : Int → l2_m → Prop}  (hu2 : (u2.category == 1) = true) (hu5 : (u5.category == 1) = true)  (h : w124_21 B σ x1 x3 x4  K) : wW B 124 21 [vr 32, vi x1, u2, vi x3, vi x4, u5] [] σ K := by
  have ck : pm_code 124 = pc_124 := rfl
  unfold w124_21 at h
  refine h (fun x3 x4 σ => ∀ u2 : Value, (u2.category == 1) = true → ∀ u5 : Value, (u5.category == 1) = true → wW B 124 21 [vr 32, vi x1, u2, vi x3, vi x4, u5] [] σ K) ?_ u2 hu2 u5 hu5
  clear h
  intro x3 x4 σ h u2 hu2 u5 hu5
  obtain ⟨hs1, h⟩ := h
  refine g_il 23 ck rfl rfl rfl ?_
  refine g_ic 25 ck rfl rfl ?_
  refine g_icge 28 110 ck rfl rfl rfl hs1 (by decide) (fun hc => ?_) (fun hc => ?_)
  · replace h := ite_hf h (Int.not_lt.mpr hc)
    refine g_al 111 ck rfl rfl rfl ?_
    refine g_il 112 ck rfl rfl rfl ?_
    refine g_cvi (as := [_]) (rest := []) 115 ck rfl rfl rfl rfl rfl rfl (by decide) rfl rfl rfl rfl (Nat.le_of_ble_eq_true rfl) (s146  ?_)
    replace h := h _ rfl
    exact g_ret ck rfl rfl (Or.inl (by decide)) h
  · replace h := ite_ht h (Int.not_le.mp hc)
    refine g_il 30 ck rfl rfl rfl ?_
    refine g_ic 31 ck rfl rfl ?_
    refine g_add 32 ck rfl rfl ?_
    refine r_is 34 ck rfl rfl rfl rfl ?_
    replace h := h _ rfl
    exact o124_34 hu2 (fun _ _ _ u2 u5 hu2 hu5 hx => hx u2 hu2 u5 hu5) h
def w124 (B : va_E) (σ : l2_m) (x1 : Int) (K : Int → l2_m → Prop) : Prop := (wC B 153 [vr 32, vi x1] σ (fun y σ' => (rg y ∧ (if y = 0 then w124_21 B σ' x1 0 0 K else (∀ σ'' : l2_m, σ'' = trb σ' y → K (-1) σ'')))))
theorem o124 {B : va_E} {σ : l2_m} {x1 : Int} {K : Int → l2_m → Prop}   (h : w124 B σ x1  K) : wC B 124 [vr 32, vi x1] σ K := by
  have ck : pm_code 124 = pc_124 := rfl
  unfold w124 at h
  show wW B 124 0 [vr 32, vi x1, pm_un, pm_un, pm_un, pm_un] [] σ K
  refine g_al 1 ck rfl rfl rfl ?_
  refine g_il 2 ck rfl rfl rfl ?_
  refine g_cvi (as := [_]) (rest := []) 5 ck rfl rfl rfl rfl rfl rfl (by decide) rfl rfl rfl rfl (Nat.le_of_ble_eq_true rfl) (wC.mono h (fun y σ' h => ?_))
  obtain ⟨hs1, h⟩ := h
  refine r_is 6 ck rfl rfl rfl rfl ?_
  refine g_il 7 ck rfl rfl rfl ?_
  refine g_ifeq 10 16 ck rfl rfl rfl hs1 (fun hc => ?_) (fun hc => ?_)
  · replace h := ite_ht h hc
    refine g_ic 17 ck rfl rfl ?_
    refine r_is 18 ck rfl rfl rfl rfl ?_
    refine g_ic 19 ck rfl rfl ?_
    refine r_is 21 ck rfl rfl rfl rfl ?_
    exact o124_21 rfl rfl h
  · replace h := ite_hf h hc
    refine g_al 11 ck rfl rfl rfl ?_
    refine g_il 12 ck rfl rfl rfl ?_
    refine g_cvi (as := [_]) (rest := []) 15 ck rfl rfl rfl rfl rfl rfl (by decide) rfl rfl rfl rfl (Nat.le_of_ble_eq_true rfl) (s145  ?_)
    replace h := h _ rfl
    exact g_ret ck rfl rfl (Or.inl (by decide)) h
/-! 125 TermDesk.add(III)I -/
def w125 (B : va_E) (σ : l2_m) (x1 : Int) (x2 : Int) (x3 : Int) (K : Int → l2_m → Prop) : Prop := ((rg x1 ∧ ((σ 32 5) = 0 ∨ (σ 32 5) = 1)) ∧ (if (σ 32 5) = 1 ∧ 0 ≤ x1 ∧ x1 < 8 then (rg x2 ∧ (if (σ 32 5) = 1 ∧ 0 ≤ x2 ∧ x2 < 8 then (rg x3 ∧ (if (σ 32 5) = 1 ∧ 0 ≤ x3 ∧ x3 < 8 then ((0 ≤ x1 ∧ x1 < 8 ∧ 0 ≤ x2 ∧ x2 < 8) ∧ (wC B 1 [vr 38, vr (162 + 3 * Int.toNat x1), vi 1, vi 0, vr (162 + 3 * Int.toNat x2), vi 1, vi 0, vr 159] σ (fun y σ''' => (wC B 163 [vr 32, vi y, vi x3] σ''' (fun y' σ'''' => K y' σ''''))))) else (∀ σ''''' : l2_m, σ''''' = trb σ 1 → K (-1) σ'''''))) else (∀ σ'' : l2_m, σ'' = trb σ 1 → K (-1) σ''))) else (∀ σ' : l2_m, σ' = trb σ 1 → K (-1) σ')))
theorem o125 {B : va_E} {σ : l2_m} {x1 : Int} {x2 : Int} {x3 : Int} {K : Int → l2_m → Prop}   (h : w125 B σ x1 x2 x3  K) : wC B 125 [vr 32, vi x1, vi x2, vi x3] σ K := by
  have ck : pm_code 125 = pc_125 := rfl
  unfold w125 at h
  show wW B 125 0 [vr 32, vi x1, vi x2, vi x3] [] σ K
  obtain ⟨⟨hs1, hs2⟩, h⟩ := h
  refine g_al 1 ck rfl rfl rfl ?_
  refine g_il 2 ck rfl rfl rfl ?_
  refine g_cvi (as := [_]) (rest := []) 5 ck rfl rfl rfl rfl rfl rfl (by decide) rfl rfl rfl rfl (Nat.le_of_ble_eq_true rfl) (s147 hs1 hs2 ?_)
  refine g_ifeq 8 24 ck rfl rfl rfl rg_b2i (fun hc => ?_) (fun hc => ?_)
  · replace h := ite_hf h (b2i_f hc)
    refine g_al 25 ck rfl rfl rfl ?_
    refine g_ic 26 ck rfl rfl ?_
    refine g_cvi (as := [_]) (rest := []) 29 ck rfl rfl rfl rfl rfl rfl (by decide) rfl rfl rfl rfl (Nat.le_of_ble_eq_true rfl) (s145  ?_)
    replace h := h _ rfl
    exact g_ret ck rfl rfl (Or.inl (by decide)) h
  · replace h := ite_ht h (b2i_t hc)
    obtain ⟨hs3, h⟩ := h
    refine g_al 9 ck rfl rfl rfl ?_
    refine g_il 10 ck rfl rfl rfl ?_
    refine g_cvi (as := [_]) (rest := []) 13 ck rfl rfl rfl rfl rfl rfl (by decide) rfl rfl rfl rfl (Nat.le_of_ble_eq_true rfl) (s147 hs3 hs2 ?_)
    refine g_ifeq 16 24 ck rfl rfl rfl rg_b2i (fun hc => ?_) (fun hc => ?_)
    · replace h := ite_hf h (b2i_f hc)
      refine g_al 25 ck rfl rfl rfl ?_
      refine g_ic 26 ck rfl rfl ?_
      refine g_cvi (as := [_]) (rest := []) 29 ck rfl rfl rfl rfl rfl rfl (by decide) rfl rfl rfl rfl (Nat.le_of_ble_eq_true rfl) (s145  ?_)
      replace h := h _ rfl
      exact g_ret ck rfl rfl (Or.inl (by decide)) h
    · replace h := ite_ht h (b2i_t hc)
      obtain ⟨hs4, h⟩ := h
      refine g_al 17 ck rfl rfl rfl ?_
      refine g_il 18 ck rfl rfl rfl ?_
      refine g_cvi (as := [_]) (rest := []) 21 ck rfl rfl rfl rfl rfl rfl (by decide) rfl rfl rfl rfl (Nat.le_of_ble_eq_true rfl) (s147 hs4 hs2 ?_)
      refine g_ifne 24 30 ck rfl rfl rfl rg_b2i (fun hc => ?_) (fun hc => ?_)
      · replace h := ite_ht h (b2i_t hc)
        obtain ⟨⟨hs5, hs6, hs7, hs8⟩, h⟩ := h
        refine g_al 31 ck rfl rfl rfl ?_
        refine g_al 32 ck rfl rfl rfl ?_
        refine r_gfr 35 38 ck rfl rfl rfl (by decide) ?_
        refine g_al 36 ck rfl rfl rfl ?_
        refine r_gfr 39 158 ck rfl rfl rfl (by decide) ?_
        refine g_il 40 ck rfl rfl rfl ?_
        refine g_aal (b := 162) (m := 8) 41 ck rfl rfl rfl hs5 hs6 ?_
        refine g_ic 42 ck rfl rfl ?_
        refine g_ic 43 ck rfl rfl ?_
        refine g_al 44 ck rfl rfl rfl ?_
        refine r_gfr 47 158 ck rfl rfl rfl (by decide) ?_
        refine g_il 48 ck rfl rfl rfl ?_
        refine g_aal (b := 162) (m := 8) 49 ck rfl rfl rfl hs7 hs8 ?_
        refine g_ic 50 ck rfl rfl ?_
        refine g_ic 51 ck rfl rfl ?_
        refine g_al 52 ck rfl rfl rfl ?_
        refine r_gfr 55 159 ck rfl rfl rfl (by decide) ?_
        refine g_cvi (as := [_, _, _, _, _, _, _]) (rest := [_]) 58 ck rfl rfl rfl rfl rfl rfl (by decide) rfl rfl rfl rfl (Nat.le_of_ble_eq_true rfl) (wC.mono h (fun y σ''' h => ?_))
        refine g_il 59 ck rfl rfl rfl ?_
        refine g_cvi (as := [_, _]) (rest := []) 62 ck rfl rfl rfl rfl rfl rfl (by decide) rfl rfl rfl rfl (Nat.le_of_ble_eq_true rfl) (wC.mono h (fun y' σ'''' h => ?_))
        exact g_ret ck rfl rfl (Or.inl (by decide)) h
      · replace h := ite_hf h (b2i_f (Classical.not_not.mp hc))
        refine g_al 25 ck rfl rfl rfl ?_
        refine g_ic 26 ck rfl rfl ?_
        refine g_cvi (as := [_]) (rest := []) 29 ck rfl rfl rfl rfl rfl rfl (by decide) rfl rfl rfl rfl (Nat.le_of_ble_eq_true rfl) (s145  ?_)
        replace h := h _ rfl
        exact g_ret ck rfl rfl (Or.inl (by decide)) h
/-! 126 TermDesk.less(III)I -/
def w126 (B : va_E) (σ : l2_m) (x1 : Int) (x2 : Int) (x3 : Int) (K : Int → l2_m → Prop) : Prop := ((rg x1 ∧ ((σ 32 5) = 0 ∨ (σ 32 5) = 1)) ∧ (if (σ 32 5) = 1 ∧ 0 ≤ x1 ∧ x1 < 8 then (rg x2 ∧ (if (σ 32 5) = 1 ∧ 0 ≤ x2 ∧ x2 < 8 then (rg x3 ∧ (if (σ 32 5) = 1 ∧ 0 ≤ x3 ∧ x3 < 8 then (∀ x4 : Int, x4 = ((σ 34 0) - 1) → (0 ≤ x1 ∧ x1 < 8 ∧ 0 ≤ x2 ∧ x2 < 8) ∧ (wC B 1 [vr 38, vr (162 + 3 * Int.toNat x1), vi 1, vi 0, vr (162 + 3 * Int.toNat x2), vi x4, vi 0, vr 159] σ (fun y σ''' => (wC B 163 [vr 32, vi y, vi x3] σ''' (fun y' σ'''' => K y' σ''''))))) else (∀ σ''''' : l2_m, σ''''' = trb σ 1 → K (-1) σ'''''))) else (∀ σ'' : l2_m, σ'' = trb σ 1 → K (-1) σ''))) else (∀ σ' : l2_m, σ' = trb σ 1 → K (-1) σ')))
theorem o126 {B : va_E} {σ : l2_m} {x1 : Int} {x2 : Int} {x3 : Int} {K : Int → l2_m → Prop}   (h : w126 B σ x1 x2 x3  K) : wC B 126 [vr 32, vi x1, vi x2, vi x3] σ K := by
  have ck : pm_code 126 = pc_126 := rfl
  unfold w126 at h
  show wW B 126 0 [vr 32, vi x1, vi x2, vi x3, pm_un] [] σ K
  obtain ⟨⟨hs1, hs2⟩, h⟩ := h
  refine g_al 1 ck rfl rfl rfl ?_
  refine g_il 2 ck rfl rfl rfl ?_
  refine g_cvi (as := [_]) (rest := []) 5 ck rfl rfl rfl rfl rfl rfl (by decide) rfl rfl rfl rfl (Nat.le_of_ble_eq_true rfl) (s147 hs1 hs2 ?_)
  refine g_ifeq 8 24 ck rfl rfl rfl rg_b2i (fun hc => ?_) (fun hc => ?_)
  · replace h := ite_hf h (b2i_f hc)
    refine g_al 25 ck rfl rfl rfl ?_
    refine g_ic 26 ck rfl rfl ?_
    refine g_cvi (as := [_]) (rest := []) 29 ck rfl rfl rfl rfl rfl rfl (by decide) rfl rfl rfl rfl (Nat.le_of_ble_eq_true rfl) (s145  ?_)
    replace h := h _ rfl
    exact g_ret ck rfl rfl (Or.inl (by decide)) h
  · replace h := ite_ht h (b2i_t hc)
    obtain ⟨hs3, h⟩ := h
    refine g_al 9 ck rfl rfl rfl ?_
    refine g_il 10 ck rfl rfl rfl ?_
    refine g_cvi (as := [_]) (rest := []) 13 ck rfl rfl rfl rfl rfl rfl (by decide) rfl rfl rfl rfl (Nat.le_of_ble_eq_true rfl) (s147 hs3 hs2 ?_)
    refine g_ifeq 16 24 ck rfl rfl rfl rg_b2i (fun hc => ?_) (fun hc => ?_)
    · replace h := ite_hf h (b2i_f hc)
      refine g_al 25 ck rfl rfl rfl ?_
      refine g_ic 26 ck rfl rfl ?_
      refine g_cvi (as := [_]) (rest := []) 29 ck rfl rfl rfl rfl rfl rfl (by decide) rfl rfl rfl rfl (Nat.le_of_ble_eq_true rfl) (s145  ?_)
      replace h := h _ rfl
      exact g_ret ck rfl rfl (Or.inl (by decide)) h
    · replace h := ite_ht h (b2i_t hc)
      obtain ⟨hs4, h⟩ := h
      refine g_al 17 ck rfl rfl rfl ?_
      refine g_il 18 ck rfl rfl rfl ?_
      refine g_cvi (as := [_]) (rest := []) 21 ck rfl rfl rfl rfl rfl rfl (by decide) rfl rfl rfl rfl (Nat.le_of_ble_eq_true rfl) (s147 hs4 hs2 ?_)
      refine g_ifne 24 30 ck rfl rfl rfl rg_b2i (fun hc => ?_) (fun hc => ?_)
      · replace h := ite_ht h (b2i_t hc)
        refine g_al 31 ck rfl rfl rfl ?_
        refine r_gfr 34 34 ck rfl rfl rfl (by decide) ?_
        refine r_gfi 37 0 ck rfl rfl rfl rfl ?_
        refine g_ic 38 ck rfl rfl ?_
        refine g_sub 39 ck rfl rfl ?_
        refine r_is 41 ck rfl rfl rfl rfl ?_
        replace h := h _ rfl
        obtain ⟨⟨hs5, hs6, hs7, hs8⟩, h⟩ := h
        refine g_al 42 ck rfl rfl rfl ?_
        refine g_al 43 ck rfl rfl rfl ?_
        refine r_gfr 46 38 ck rfl rfl rfl (by decide) ?_
        refine g_al 47 ck rfl rfl rfl ?_
        refine r_gfr 50 158 ck rfl rfl rfl (by decide) ?_
        refine g_il 51 ck rfl rfl rfl ?_
        refine g_aal (b := 162) (m := 8) 52 ck rfl rfl rfl hs5 hs6 ?_
        refine g_ic 53 ck rfl rfl ?_
        refine g_ic 54 ck rfl rfl ?_
        refine g_al 55 ck rfl rfl rfl ?_
        refine r_gfr 58 158 ck rfl rfl rfl (by decide) ?_
        refine g_il 59 ck rfl rfl rfl ?_
        refine g_aal (b := 162) (m := 8) 60 ck rfl rfl rfl hs7 hs8 ?_
        refine g_il 62 ck rfl rfl rfl ?_
        refine g_ic 63 ck rfl rfl ?_
        refine g_al 64 ck rfl rfl rfl ?_
        refine r_gfr 67 159 ck rfl rfl rfl (by decide) ?_
        refine g_cvi (as := [_, _, _, _, _, _, _]) (rest := [_]) 70 ck rfl rfl rfl rfl rfl rfl (by decide) rfl rfl rfl rfl (Nat.le_of_ble_eq_true rfl) (wC.mono h (fun y σ''' h => ?_))
        refine g_il 71 ck rfl rfl rfl ?_
        refine g_cvi (as := [_, _]) (rest := []) 74 ck rfl rfl rfl rfl rfl rfl (by decide) rfl rfl rfl rfl (Nat.le_of_ble_eq_true rfl) (wC.mono h (fun y' σ'''' h => ?_))
        exact g_ret ck rfl rfl (Or.inl (by decide)) h
      · replace h := ite_hf h (b2i_f (Classical.not_not.mp hc))
        refine g_al 25 ck rfl rfl rfl ?_
        refine g_ic 26 ck rfl rfl ?_
        refine g_cvi (as := [_]) (rest := []) 29 ck rfl rfl rfl rfl rfl rfl (by decide) rfl rfl rfl rfl (Nat.le_of_ble_eq_true rfl) (s145  ?_)
        replace h := h _ rfl
        exact g_ret ck rfl rfl (Or.inl (by decide)) h
/-! 127 TermDesk.times(III)I -/
def w127 (B : va_E) (σ : l2_m) (x1 : Int) (x2 : Int) (x3 : Int) (K : Int → l2_m → Prop) : Prop := ((rg x1 ∧ ((σ 32 5) = 0 ∨ (σ 32 5) = 1)) ∧ (if (σ 32 5) = 1 ∧ 0 ≤ x1 ∧ x1 < 8 then (rg x2 ∧ (if (σ 32 5) = 1 ∧ 0 ≤ x2 ∧ x2 < 8 then (rg x3 ∧ (if (σ 32 5) = 1 ∧ 0 ≤ x3 ∧ x3 < 8 then ((0 ≤ x1 ∧ x1 < 8 ∧ 0 ≤ x2 ∧ x2 < 8) ∧ (wC B 3 [vr 38, vr (162 + 3 * Int.toNat x1), vr (162 + 3 * Int.toNat x2), vr 159] σ (fun y σ''' => (wC B 163 [vr 32, vi y, vi x3] σ''' (fun y' σ'''' => K y' σ''''))))) else (∀ σ''''' : l2_m, σ''''' = trb σ 1 → K (-1) σ'''''))) else (∀ σ'' : l2_m, σ'' = trb σ 1 → K (-1) σ''))) else (∀ σ' : l2_m, σ' = trb σ 1 → K (-1) σ')))
theorem o127 {B : va_E} {σ : l2_m} {x1 : Int} {x2 : Int} {x3 : Int} {K : Int → l2_m → Prop}   (h : w127 B σ x1 x2 x3  K) : wC B 127 [vr 32, vi x1, vi x2, vi x3] σ K := by
  have ck : pm_code 127 = pc_127 := rfl
  unfold w127 at h
  show wW B 127 0 [vr 32, vi x1, vi x2, vi x3] [] σ K
  obtain ⟨⟨hs1, hs2⟩, h⟩ := h
  refine g_al 1 ck rfl rfl rfl ?_
  refine g_il 2 ck rfl rfl rfl ?_
  refine g_cvi (as := [_]) (rest := []) 5 ck rfl rfl rfl rfl rfl rfl (by decide) rfl rfl rfl rfl (Nat.le_of_ble_eq_true rfl) (s147 hs1 hs2 ?_)
  refine g_ifeq 8 24 ck rfl rfl rfl rg_b2i (fun hc => ?_) (fun hc => ?_)
  · replace h := ite_hf h (b2i_f hc)
    refine g_al 25 ck rfl rfl rfl ?_
    refine g_ic 26 ck rfl rfl ?_
    refine g_cvi (as := [_]) (rest := []) 29 ck rfl rfl rfl rfl rfl rfl (by decide) rfl rfl rfl rfl (Nat.le_of_ble_eq_true rfl) (s145  ?_)
    replace h := h _ rfl
    exact g_ret ck rfl rfl (Or.inl (by decide)) h
  · replace h := ite_ht h (b2i_t hc)
    obtain ⟨hs3, h⟩ := h
    refine g_al 9 ck rfl rfl rfl ?_
    refine g_il 10 ck rfl rfl rfl ?_
    refine g_cvi (as := [_]) (rest := []) 13 ck rfl rfl rfl rfl rfl rfl (by decide) rfl rfl rfl rfl (Nat.le_of_ble_eq_true rfl) (s147 hs3 hs2 ?_)
    refine g_ifeq 16 24 ck rfl rfl rfl rg_b2i (fun hc => ?_) (fun hc => ?_)
    · replace h := ite_hf h (b2i_f hc)
      refine g_al 25 ck rfl rfl rfl ?_
      refine g_ic 26 ck rfl rfl ?_
      refine g_cvi (as := [_]) (rest := []) 29 ck rfl rfl rfl rfl rfl rfl (by decide) rfl rfl rfl rfl (Nat.le_of_ble_eq_true rfl) (s145  ?_)
      replace h := h _ rfl
      exact g_ret ck rfl rfl (Or.inl (by decide)) h
    · replace h := ite_ht h (b2i_t hc)
      obtain ⟨hs4, h⟩ := h
      refine g_al 17 ck rfl rfl rfl ?_
      refine g_il 18 ck rfl rfl rfl ?_
      refine g_cvi (as := [_]) (rest := []) 21 ck rfl rfl rfl rfl rfl rfl (by decide) rfl rfl rfl rfl (Nat.le_of_ble_eq_true rfl) (s147 hs4 hs2 ?_)
      refine g_ifne 24 30 ck rfl rfl rfl rg_b2i (fun hc => ?_) (fun hc => ?_)
      · replace h := ite_ht h (b2i_t hc)
        obtain ⟨⟨hs5, hs6, hs7, hs8⟩, h⟩ := h
        refine g_al 31 ck rfl rfl rfl ?_
        refine g_al 32 ck rfl rfl rfl ?_
        refine r_gfr 35 38 ck rfl rfl rfl (by decide) ?_
        refine g_al 36 ck rfl rfl rfl ?_
        refine r_gfr 39 158 ck rfl rfl rfl (by decide) ?_
        refine g_il 40 ck rfl rfl rfl ?_
        refine g_aal (b := 162) (m := 8) 41 ck rfl rfl rfl hs5 hs6 ?_
        refine g_al 42 ck rfl rfl rfl ?_
        refine r_gfr 45 158 ck rfl rfl rfl (by decide) ?_
        refine g_il 46 ck rfl rfl rfl ?_
        refine g_aal (b := 162) (m := 8) 47 ck rfl rfl rfl hs7 hs8 ?_
        refine g_al 48 ck rfl rfl rfl ?_
        refine r_gfr 51 159 ck rfl rfl rfl (by decide) ?_
        refine g_cvi (as := [_, _, _]) (rest := [_]) 54 ck rfl rfl rfl rfl rfl rfl (by decide) rfl rfl rfl rfl (Nat.le_of_ble_eq_true rfl) (wC.mono h (fun y σ''' h => ?_))
        refine g_il 55 ck rfl rfl rfl ?_
        refine g_cvi (as := [_, _]) (rest := []) 58 ck rfl rfl rfl rfl rfl rfl (by decide) rfl rfl rfl rfl (Nat.le_of_ble_eq_true rfl) (wC.mono h (fun y' σ'''' h => ?_))
        exact g_ret ck rfl rfl (Or.inl (by decide)) h
      · replace h := ite_hf h (b2i_f (Classical.not_not.mp hc))
        refine g_al 25 ck rfl rfl rfl ?_
        refine g_ic 26 ck rfl rfl ?_
        refine g_cvi (as := [_]) (rest := []) 29 ck rfl rfl rfl rfl rfl rfl (by decide) rfl rfl rfl rfl (Nat.le_of_ble_eq_true rfl) (s145  ?_)
        replace h := h _ rfl
        exact g_ret ck rfl rfl (Or.inl (by decide)) h
/-! 128 TermDesk.scale(IIIIII)I -/
def w128 (B : va_E) (σ : l2_m) (x1 : Int) (x2 : Int) (x3 : Int) (x4 : Int) (x5 : Int) (x6 : Int) (K : Int → l2_m → Prop) : Prop := ((rg x1 ∧ ((σ 32 5) = 0 ∨ (σ 32 5) = 1)) ∧ (if (σ 32 5) = 1 ∧ 0 ≤ x1 ∧ x1 < 8 then (rg x6 ∧ (if (σ 32 5) = 1 ∧ 0 ≤ x6 ∧ x6 < 8 then ((rg x3 ∧ rg x4 ∧ rg x5) ∧ (if isE3 x3 x4 x5 then ((rg (σ 34 0) ∧ rg x2) ∧ (if 0 ≤ x2 ∧ x2 < (σ 34 0) then ((0 ≤ x1 ∧ x1 < 8) ∧ (wC B 2 [vr 38, vr (162 + 3 * Int.toNat x1), vi x2, vi (((x3 * (σ (36 + 1) 0)) + (x4 * (σ (36 + 1) 1))) + (x5 * (σ (36 + 1) 2))), vr 159] σ (fun y σ''' => (wC B 163 [vr 32, vi y, vi x6] σ''' (fun y' σ'''' => K y' σ''''))))) else (∀ σ''''' : l2_m, σ''''' = trb σ 2 → K (-1) σ'''''))) else (∀ σ'' : l2_m, σ'' = trb σ 2 → K (-1) σ''))) else (∀ σ'''''' : l2_m, σ'''''' = trb σ 1 → K (-1) σ''''''))) else (∀ σ' : l2_m, σ' = trb σ 1 → K (-1) σ')))
theorem o128 {B : va_E} {σ : l2_m} {x1 : Int} {x2 : Int} {x3 : Int} {x4 : Int} {x5 : Int} {x6 : Int} {K : Int → l2_m → Prop}   (h : w128 B σ x1 x2 x3 x4 x5 x6  K) : wC B 128 [vr 32, vi x1, vi x2, vi x3, vi x4, vi x5, vi x6] σ K := by
  have ck : pm_code 128 = pc_128 := rfl
  unfold w128 at h
  show wW B 128 0 [vr 32, vi x1, vi x2, vi x3, vi x4, vi x5, vi x6] [] σ K
  obtain ⟨⟨hs1, hs2⟩, h⟩ := h
  refine g_al 1 ck rfl rfl rfl ?_
  refine g_il 2 ck rfl rfl rfl ?_
  refine g_cvi (as := [_]) (rest := []) 5 ck rfl rfl rfl rfl rfl rfl (by decide) rfl rfl rfl rfl (Nat.le_of_ble_eq_true rfl) (s147 hs1 hs2 ?_)
  refine g_ifeq 8 17 ck rfl rfl rfl rg_b2i (fun hc => ?_) (fun hc => ?_)
  · replace h := ite_hf h (b2i_f hc)
    refine g_al 18 ck rfl rfl rfl ?_
    refine g_ic 19 ck rfl rfl ?_
    refine g_cvi (as := [_]) (rest := []) 22 ck rfl rfl rfl rfl rfl rfl (by decide) rfl rfl rfl rfl (Nat.le_of_ble_eq_true rfl) (s145  ?_)
    replace h := h _ rfl
    exact g_ret ck rfl rfl (Or.inl (by decide)) h
  · replace h := ite_ht h (b2i_t hc)
    obtain ⟨hs3, h⟩ := h
    refine g_al 9 ck rfl rfl rfl ?_
    refine g_il 11 ck rfl rfl rfl ?_
    refine g_cvi (as := [_]) (rest := []) 14 ck rfl rfl rfl rfl rfl rfl (by decide) rfl rfl rfl rfl (Nat.le_of_ble_eq_true rfl) (s147 hs3 hs2 ?_)
    refine g_ifne 17 23 ck rfl rfl rfl rg_b2i (fun hc => ?_) (fun hc => ?_)
    · replace h := ite_ht h (b2i_t hc)
      obtain ⟨⟨hs4, hs5, hs6⟩, h⟩ := h
      refine g_il 24 ck rfl rfl rfl ?_
      refine g_il 26 ck rfl rfl rfl ?_
      refine g_il 28 ck rfl rfl rfl ?_
      refine g_csi (as := [_, _, _]) (rest := []) 31 ck rfl rfl rfl rfl rfl (by decide) rfl rfl rfl (Nat.le_of_ble_eq_true rfl) (s151 hs4 hs5 hs6 ?_)
      refine g_ifeq 34 45 ck rfl rfl rfl rg_b2i (fun hc => ?_) (fun hc => ?_)
      · replace h := ite_hf h (b2i_f hc)
        refine g_al 46 ck rfl rfl rfl ?_
        refine g_ic 47 ck rfl rfl ?_
        refine g_cvi (as := [_]) (rest := []) 50 ck rfl rfl rfl rfl rfl rfl (by decide) rfl rfl rfl rfl (Nat.le_of_ble_eq_true rfl) (s145  ?_)
        replace h := h _ rfl
        exact g_ret ck rfl rfl (Or.inl (by decide)) h
      · replace h := ite_ht h (b2i_t hc)
        obtain ⟨⟨hs7, hs8⟩, h⟩ := h
        refine g_al 35 ck rfl rfl rfl ?_
        refine r_gfr 38 34 ck rfl rfl rfl (by decide) ?_
        refine g_il 39 ck rfl rfl rfl ?_
        refine g_cvi (as := [_]) (rest := []) 42 ck rfl rfl rfl rfl rfl rfl (by decide) rfl rfl rfl rfl (Nat.le_of_ble_eq_true rfl) (s71 rfl hs7 hs8 ?_)
        refine g_ifne 45 51 ck rfl rfl rfl rg_b2i (fun hc => ?_) (fun hc => ?_)
        · replace h := ite_ht h (b2i_t hc)
          obtain ⟨⟨hs9, hs10⟩, h⟩ := h
          refine g_al 52 ck rfl rfl rfl ?_
          refine g_al 53 ck rfl rfl rfl ?_
          refine r_gfr 56 38 ck rfl rfl rfl (by decide) ?_
          refine g_al 57 ck rfl rfl rfl ?_
          refine r_gfr 60 158 ck rfl rfl rfl (by decide) ?_
          refine g_il 61 ck rfl rfl rfl ?_
          refine g_aal (b := 162) (m := 8) 62 ck rfl rfl rfl hs9 hs10 ?_
          refine g_il 63 ck rfl rfl rfl ?_
          refine g_al 64 ck rfl rfl rfl ?_
          refine r_gfr 67 36 ck rfl rfl rfl (by decide) ?_
          refine g_il 68 ck rfl rfl rfl ?_
          refine g_il 70 ck rfl rfl rfl ?_
          refine g_il 72 ck rfl rfl rfl ?_
          refine g_cvi (as := [_, _, _]) (rest := [_, _, _, _]) 75 ck rfl rfl rfl rfl rfl rfl (by decide) rfl rfl rfl rfl (Nat.le_of_ble_eq_true rfl) (s78 rfl ?_)
          refine g_al 76 ck rfl rfl rfl ?_
          refine r_gfr 79 159 ck rfl rfl rfl (by decide) ?_
          refine g_cvi (as := [_, _, _, _]) (rest := [_]) 82 ck rfl rfl rfl rfl rfl rfl (by decide) rfl rfl rfl rfl (Nat.le_of_ble_eq_true rfl) (wC.mono h (fun y σ''' h => ?_))
          refine g_il 84 ck rfl rfl rfl ?_
          refine g_cvi (as := [_, _]) (rest := []) 87 ck rfl rfl rfl rfl rfl rfl (by decide) rfl rfl rfl rfl (Nat.le_of_ble_eq_true rfl) (wC.mono h (fun y' σ'''' h => ?_))
          exact g_ret ck rfl rfl (Or.inl (by decide)) h
        · replace h := ite_hf h (b2i_f (Classical.not_not.mp hc))
          refine g_al 46 ck rfl rfl rfl ?_
          refine g_ic 47 ck rfl rfl ?_
          refine g_cvi (as := [_]) (rest := []) 50 ck rfl rfl rfl rfl rfl rfl (by decide) rfl rfl rfl rfl (Nat.le_of_ble_eq_true rfl) (s145  ?_)
          replace h := h _ rfl
          exact g_ret ck rfl rfl (Or.inl (by decide)) h
    · replace h := ite_hf h (b2i_f (Classical.not_not.mp hc))
      refine g_al 18 ck rfl rfl rfl ?_
      refine g_ic 19 ck rfl rfl ?_
      refine g_cvi (as := [_]) (rest := []) 22 ck rfl rfl rfl rfl rfl rfl (by decide) rfl rfl rfl rfl (Nat.le_of_ble_eq_true rfl) (s145  ?_)
      replace h := h _ rfl
      exact g_ret ck rfl rfl (Or.inl (by decide)) h
/-! 129 TermDesk.monic(II)I -/
def w129 (B : va_E) (σ : l2_m) (x1 : Int) (x2 : Int) (K : Int → l2_m → Prop) : Prop := ((rg x1 ∧ ((σ 32 5) = 0 ∨ (σ 32 5) = 1)) ∧ (if (σ 32 5) = 1 ∧ 0 ≤ x1 ∧ x1 < 8 then (rg x2 ∧ (if (σ 32 5) = 1 ∧ 0 ≤ x2 ∧ x2 < 8 then ((0 ≤ x1 ∧ x1 < 8 ∧ 159 ≠ (162 + 3 * Int.toNat x1) ∧ 0 ≤ (σ (162 + 3 * Int.toNat x1) 2) ∧ (σ (162 + 3 * Int.toNat x1) 2) ≤ 60) ∧ ∀ σ'' : l2_m, σ'' = cpP σ 159 (162 + 3 * Int.toNat x1) → (wC B 4 [vr 38, vr 159] σ'' (fun _ σ''' => (wC B 164 [vr 32, vr 159, vi x2] σ''' (fun y σ'''' => K y σ''''))))) else (∀ σ''''' : l2_m, σ''''' = trb σ 1 → K (-1) σ'''''))) else (∀ σ' : l2_m, σ' = trb σ 1 → K (-1) σ')))
theorem o129 {B : va_E} {σ : l2_m} {x1 : Int} {x2 : Int} {K : Int → l2_m → Prop}   (h : w129 B σ x1 x2  K) : wC B 129 [vr 32, vi x1, vi x2] σ K := by
  have ck : pm_code 129 = pc_129 := rfl
  unfold w129 at h
  show wW B 129 0 [vr 32, vi x1, vi x2] [] σ K
  obtain ⟨⟨hs1, hs2⟩, h⟩ := h
  refine g_al 1 ck rfl rfl rfl ?_
  refine g_il 2 ck rfl rfl rfl ?_
  refine g_cvi (as := [_]) (rest := []) 5 ck rfl rfl rfl rfl rfl rfl (by decide) rfl rfl rfl rfl (Nat.le_of_ble_eq_true rfl) (s147 hs1 hs2 ?_)
  refine g_ifeq 8 16 ck rfl rfl rfl rg_b2i (fun hc => ?_) (fun hc => ?_)
  · replace h := ite_hf h (b2i_f hc)
    refine g_al 17 ck rfl rfl rfl ?_
    refine g_ic 18 ck rfl rfl ?_
    refine g_cvi (as := [_]) (rest := []) 21 ck rfl rfl rfl rfl rfl rfl (by decide) rfl rfl rfl rfl (Nat.le_of_ble_eq_true rfl) (s145  ?_)
    replace h := h _ rfl
    exact g_ret ck rfl rfl (Or.inl (by decide)) h
  · replace h := ite_ht h (b2i_t hc)
    obtain ⟨hs3, h⟩ := h
    refine g_al 9 ck rfl rfl rfl ?_
    refine g_il 10 ck rfl rfl rfl ?_
    refine g_cvi (as := [_]) (rest := []) 13 ck rfl rfl rfl rfl rfl rfl (by decide) rfl rfl rfl rfl (Nat.le_of_ble_eq_true rfl) (s147 hs3 hs2 ?_)
    refine g_ifne 16 22 ck rfl rfl rfl rg_b2i (fun hc => ?_) (fun hc => ?_)
    · replace h := ite_ht h (b2i_t hc)
      obtain ⟨⟨hs4, hs5, hs6, hs7, hs8⟩, h⟩ := h
      refine g_al 23 ck rfl rfl rfl ?_
      refine r_gfr 26 159 ck rfl rfl rfl (by decide) ?_
      refine g_al 27 ck rfl rfl rfl ?_
      refine r_gfr 30 158 ck rfl rfl rfl (by decide) ?_
      refine g_il 31 ck rfl rfl rfl ?_
      refine g_aal (b := 162) (m := 8) 32 ck rfl rfl rfl hs4 hs5 ?_
      refine g_cvv (as := [_]) (rest := []) 35 ck rfl rfl rfl rfl rfl rfl rfl rfl rfl rfl (Nat.le_of_ble_eq_true rfl) (s83 rfl (isP_row (a := 158) (b := 162) (m := 8) rfl hs4 hs5) hs6 hs7 hs8 ?_)
      replace h := h _ rfl
      refine g_al 36 ck rfl rfl rfl ?_
      refine r_gfr 39 38 ck rfl rfl rfl (by decide) ?_
      refine g_al 40 ck rfl rfl rfl ?_
      refine r_gfr 43 159 ck rfl rfl rfl (by decide) ?_
      refine g_cvv (as := [_]) (rest := []) 46 ck rfl rfl rfl rfl rfl rfl rfl rfl rfl rfl (Nat.le_of_ble_eq_true rfl) (wC.mono h (fun _ σ''' h => ?_))
      refine g_al 47 ck rfl rfl rfl ?_
      refine g_al 48 ck rfl rfl rfl ?_
      refine r_gfr 51 159 ck rfl rfl rfl (by decide) ?_
      refine g_il 52 ck rfl rfl rfl ?_
      refine g_cvi (as := [_, _]) (rest := []) 55 ck rfl rfl rfl rfl rfl rfl (by decide) rfl rfl rfl rfl (Nat.le_of_ble_eq_true rfl) (wC.mono h (fun y σ'''' h => ?_))
      exact g_ret ck rfl rfl (Or.inl (by decide)) h
    · replace h := ite_hf h (b2i_f (Classical.not_not.mp hc))
      refine g_al 17 ck rfl rfl rfl ?_
      refine g_ic 18 ck rfl rfl ?_
      refine g_cvi (as := [_]) (rest := []) 21 ck rfl rfl rfl rfl rfl rfl (by decide) rfl rfl rfl rfl (Nat.le_of_ble_eq_true rfl) (s145  ?_)
      replace h := h _ rfl
      exact g_ret ck rfl rfl (Or.inl (by decide)) h
/-! 130 TermDesk.derive(III)I -/
def w130 (B : va_E) (σ : l2_m) (x1 : Int) (x2 : Int) (x3 : Int) (K : Int → l2_m → Prop) : Prop := ((rg x1 ∧ ((σ 32 5) = 0 ∨ (σ 32 5) = 1)) ∧ (if (σ 32 5) = 1 ∧ 0 ≤ x1 ∧ x1 < 8 then (rg x2 ∧ (if 0 ≤ x2 ∧ x2 < 3 then (rg x3 ∧ (if (σ 32 5) = 1 ∧ 0 ≤ x3 ∧ x3 < 8 then ((0 ≤ x1 ∧ x1 < 8) ∧ (wC B 5 [vr 38, vr (162 + 3 * Int.toNat x1), vi x2, vr 159] σ (fun _ σ''' => (wC B 164 [vr 32, vr 159, vi x3] σ''' (fun y σ'''' => K y σ''''))))) else (∀ σ''''' : l2_m, σ''''' = trb σ 1 → K (-1) σ'''''))) else (∀ σ'' : l2_m, σ'' = trb σ 1 → K (-1) σ''))) else (∀ σ' : l2_m, σ' = trb σ 1 → K (-1) σ')))
theorem o130 {B : va_E} {σ : l2_m} {x1 : Int} {x2 : Int} {x3 : Int} {K : Int → l2_m → Prop}   (h : w130 B σ x1 x2 x3  K) : wC B 130 [vr 32, vi x1, vi x2, vi x3] σ K := by
  have ck : pm_code 130 = pc_130 := rfl
  unfold w130 at h
  show wW B 130 0 [vr 32, vi x1, vi x2, vi x3] [] σ K
  obtain ⟨⟨hs1, hs2⟩, h⟩ := h
  refine g_al 1 ck rfl rfl rfl ?_
  refine g_il 2 ck rfl rfl rfl ?_
  refine g_cvi (as := [_]) (rest := []) 5 ck rfl rfl rfl rfl rfl rfl (by decide) rfl rfl rfl rfl (Nat.le_of_ble_eq_true rfl) (s147 hs1 hs2 ?_)
  refine g_ifeq 8 23 ck rfl rfl rfl rg_b2i (fun hc => ?_) (fun hc => ?_)
  · replace h := ite_hf h (b2i_f hc)
    refine g_al 24 ck rfl rfl rfl ?_
    refine g_ic 25 ck rfl rfl ?_
    refine g_cvi (as := [_]) (rest := []) 28 ck rfl rfl rfl rfl rfl rfl (by decide) rfl rfl rfl rfl (Nat.le_of_ble_eq_true rfl) (s145  ?_)
    replace h := h _ rfl
    exact g_ret ck rfl rfl (Or.inl (by decide)) h
  · replace h := ite_ht h (b2i_t hc)
    obtain ⟨hs3, h⟩ := h
    refine g_il 9 ck rfl rfl rfl ?_
    refine g_csi (as := [_]) (rest := []) 12 ck rfl rfl rfl rfl rfl (by decide) rfl rfl rfl (Nat.le_of_ble_eq_true rfl) (s148 hs3 ?_)
    refine g_ifeq 15 23 ck rfl rfl rfl rg_b2i (fun hc => ?_) (fun hc => ?_)
    · replace h := ite_hf h (b2i_f hc)
      refine g_al 24 ck rfl rfl rfl ?_
      refine g_ic 25 ck rfl rfl ?_
      refine g_cvi (as := [_]) (rest := []) 28 ck rfl rfl rfl rfl rfl rfl (by decide) rfl rfl rfl rfl (Nat.le_of_ble_eq_true rfl) (s145  ?_)
      replace h := h _ rfl
      exact g_ret ck rfl rfl (Or.inl (by decide)) h
    · replace h := ite_ht h (b2i_t hc)
      obtain ⟨hs4, h⟩ := h
      refine g_al 16 ck rfl rfl rfl ?_
      refine g_il 17 ck rfl rfl rfl ?_
      refine g_cvi (as := [_]) (rest := []) 20 ck rfl rfl rfl rfl rfl rfl (by decide) rfl rfl rfl rfl (Nat.le_of_ble_eq_true rfl) (s147 hs4 hs2 ?_)
      refine g_ifne 23 29 ck rfl rfl rfl rg_b2i (fun hc => ?_) (fun hc => ?_)
      · replace h := ite_ht h (b2i_t hc)
        obtain ⟨⟨hs5, hs6⟩, h⟩ := h
        refine g_al 30 ck rfl rfl rfl ?_
        refine r_gfr 33 38 ck rfl rfl rfl (by decide) ?_
        refine g_al 34 ck rfl rfl rfl ?_
        refine r_gfr 37 158 ck rfl rfl rfl (by decide) ?_
        refine g_il 38 ck rfl rfl rfl ?_
        refine g_aal (b := 162) (m := 8) 39 ck rfl rfl rfl hs5 hs6 ?_
        refine g_il 40 ck rfl rfl rfl ?_
        refine g_al 41 ck rfl rfl rfl ?_
        refine r_gfr 44 159 ck rfl rfl rfl (by decide) ?_
        refine g_cvv (as := [_, _, _]) (rest := []) 47 ck rfl rfl rfl rfl rfl rfl rfl rfl rfl rfl (Nat.le_of_ble_eq_true rfl) (wC.mono h (fun _ σ''' h => ?_))
        refine g_al 48 ck rfl rfl rfl ?_
        refine g_al 49 ck rfl rfl rfl ?_
        refine r_gfr 52 159 ck rfl rfl rfl (by decide) ?_
        refine g_il 53 ck rfl rfl rfl ?_
        refine g_cvi (as := [_, _]) (rest := []) 56 ck rfl rfl rfl rfl rfl rfl (by decide) rfl rfl rfl rfl (Nat.le_of_ble_eq_true rfl) (wC.mono h (fun y σ'''' h => ?_))
        exact g_ret ck rfl rfl (Or.inl (by decide)) h
      · replace h := ite_hf h (b2i_f (Classical.not_not.mp hc))
        refine g_al 24 ck rfl rfl rfl ?_
        refine g_ic 25 ck rfl rfl ?_
        refine g_cvi (as := [_]) (rest := []) 28 ck rfl rfl rfl rfl rfl rfl (by decide) rfl rfl rfl rfl (Nat.le_of_ble_eq_true rfl) (s145  ?_)
        replace h := h _ rfl
        exact g_ret ck rfl rfl (Or.inl (by decide)) h
/-! 131 TermDesk.put(IIII)I -/
def w131 (B : va_E) (σ : l2_m) (x1 : Int) (x2 : Int) (x3 : Int) (x4 : Int) (K : Int → l2_m → Prop) : Prop := ((rg x1 ∧ ((σ 32 5) = 0 ∨ (σ 32 5) = 1)) ∧ (if (σ 32 5) = 1 ∧ 0 ≤ x1 ∧ x1 < 8 then (rg x2 ∧ (if 0 ≤ x2 ∧ x2 < 3 then (rg x4 ∧ (if (σ 32 5) = 1 ∧ 0 ≤ x4 ∧ x4 < 8 then ((rg (σ 34 0) ∧ rg x3) ∧ (if 0 ≤ x3 ∧ x3 < (σ 34 0) then ((0 ≤ x1 ∧ x1 < 8) ∧ (wC B 6 [vr 38, vr (162 + 3 * Int.toNat x1), vi x2, vi x3, vr 159] σ (fun _ σ''' => (wC B 164 [vr 32, vr 159, vi x4] σ''' (fun y σ'''' => K y σ''''))))) else (∀ σ''''' : l2_m, σ''''' = trb σ 2 → K (-1) σ'''''))) else (∀ σ'''''' : l2_m, σ'''''' = trb σ 1 → K (-1) σ''''''))) else (∀ σ'' : l2_m, σ'' = trb σ 1 → K (-1) σ''))) else (∀ σ' : l2_m, σ' = trb σ 1 → K (-1) σ')))
theorem o131 {B : va_E} {σ : l2_m} {x1 : Int} {x2 : Int} {x3 : Int} {x4 : Int} {K : Int → l2_m → Prop}   (h : w131 B σ x1 x2 x3 x4  K) : wC B 131 [vr 32, vi x1, vi x2, vi x3, vi x4] σ K := by
  have ck : pm_code 131 = pc_131 := rfl
  unfold w131 at h
  show wW B 131 0 [vr 32, vi x1, vi x2, vi x3, vi x4] [] σ K
  obtain ⟨⟨hs1, hs2⟩, h⟩ := h
  refine g_al 1 ck rfl rfl rfl ?_
  refine g_il 2 ck rfl rfl rfl ?_
  refine g_cvi (as := [_]) (rest := []) 5 ck rfl rfl rfl rfl rfl rfl (by decide) rfl rfl rfl rfl (Nat.le_of_ble_eq_true rfl) (s147 hs1 hs2 ?_)
  refine g_ifeq 8 24 ck rfl rfl rfl rg_b2i (fun hc => ?_) (fun hc => ?_)
  · replace h := ite_hf h (b2i_f hc)
    refine g_al 25 ck rfl rfl rfl ?_
    refine g_ic 26 ck rfl rfl ?_
    refine g_cvi (as := [_]) (rest := []) 29 ck rfl rfl rfl rfl rfl rfl (by decide) rfl rfl rfl rfl (Nat.le_of_ble_eq_true rfl) (s145  ?_)
    replace h := h _ rfl
    exact g_ret ck rfl rfl (Or.inl (by decide)) h
  · replace h := ite_ht h (b2i_t hc)
    obtain ⟨hs3, h⟩ := h
    refine g_il 9 ck rfl rfl rfl ?_
    refine g_csi (as := [_]) (rest := []) 12 ck rfl rfl rfl rfl rfl (by decide) rfl rfl rfl (Nat.le_of_ble_eq_true rfl) (s148 hs3 ?_)
    refine g_ifeq 15 24 ck rfl rfl rfl rg_b2i (fun hc => ?_) (fun hc => ?_)
    · replace h := ite_hf h (b2i_f hc)
      refine g_al 25 ck rfl rfl rfl ?_
      refine g_ic 26 ck rfl rfl ?_
      refine g_cvi (as := [_]) (rest := []) 29 ck rfl rfl rfl rfl rfl rfl (by decide) rfl rfl rfl rfl (Nat.le_of_ble_eq_true rfl) (s145  ?_)
      replace h := h _ rfl
      exact g_ret ck rfl rfl (Or.inl (by decide)) h
    · replace h := ite_ht h (b2i_t hc)
      obtain ⟨hs4, h⟩ := h
      refine g_al 16 ck rfl rfl rfl ?_
      refine g_il 18 ck rfl rfl rfl ?_
      refine g_cvi (as := [_]) (rest := []) 21 ck rfl rfl rfl rfl rfl rfl (by decide) rfl rfl rfl rfl (Nat.le_of_ble_eq_true rfl) (s147 hs4 hs2 ?_)
      refine g_ifne 24 30 ck rfl rfl rfl rg_b2i (fun hc => ?_) (fun hc => ?_)
      · replace h := ite_ht h (b2i_t hc)
        obtain ⟨⟨hs5, hs6⟩, h⟩ := h
        refine g_al 31 ck rfl rfl rfl ?_
        refine r_gfr 34 34 ck rfl rfl rfl (by decide) ?_
        refine g_il 35 ck rfl rfl rfl ?_
        refine g_cvi (as := [_]) (rest := []) 38 ck rfl rfl rfl rfl rfl rfl (by decide) rfl rfl rfl rfl (Nat.le_of_ble_eq_true rfl) (s71 rfl hs5 hs6 ?_)
        refine g_ifne 41 47 ck rfl rfl rfl rg_b2i (fun hc => ?_) (fun hc => ?_)
        · replace h := ite_ht h (b2i_t hc)
          obtain ⟨⟨hs7, hs8⟩, h⟩ := h
          refine g_al 48 ck rfl rfl rfl ?_
          refine r_gfr 51 38 ck rfl rfl rfl (by decide) ?_
          refine g_al 52 ck rfl rfl rfl ?_
          refine r_gfr 55 158 ck rfl rfl rfl (by decide) ?_
          refine g_il 56 ck rfl rfl rfl ?_
          refine g_aal (b := 162) (m := 8) 57 ck rfl rfl rfl hs7 hs8 ?_
          refine g_il 58 ck rfl rfl rfl ?_
          refine g_il 59 ck rfl rfl rfl ?_
          refine g_al 60 ck rfl rfl rfl ?_
          refine r_gfr 63 159 ck rfl rfl rfl (by decide) ?_
          refine g_cvv (as := [_, _, _, _]) (rest := []) 66 ck rfl rfl rfl rfl rfl rfl rfl rfl rfl rfl (Nat.le_of_ble_eq_true rfl) (wC.mono h (fun _ σ''' h => ?_))
          refine g_al 67 ck rfl rfl rfl ?_
          refine g_al 68 ck rfl rfl rfl ?_
          refine r_gfr 71 159 ck rfl rfl rfl (by decide) ?_
          refine g_il 73 ck rfl rfl rfl ?_
          refine g_cvi (as := [_, _]) (rest := []) 76 ck rfl rfl rfl rfl rfl rfl (by decide) rfl rfl rfl rfl (Nat.le_of_ble_eq_true rfl) (wC.mono h (fun y σ'''' h => ?_))
          exact g_ret ck rfl rfl (Or.inl (by decide)) h
        · replace h := ite_hf h (b2i_f (Classical.not_not.mp hc))
          refine g_al 42 ck rfl rfl rfl ?_
          refine g_ic 43 ck rfl rfl ?_
          refine g_cvi (as := [_]) (rest := []) 46 ck rfl rfl rfl rfl rfl rfl (by decide) rfl rfl rfl rfl (Nat.le_of_ble_eq_true rfl) (s145  ?_)
          replace h := h _ rfl
          exact g_ret ck rfl rfl (Or.inl (by decide)) h
      · replace h := ite_hf h (b2i_f (Classical.not_not.mp hc))
        refine g_al 25 ck rfl rfl rfl ?_
        refine g_ic 26 ck rfl rfl ?_
        refine g_cvi (as := [_]) (rest := []) 29 ck rfl rfl rfl rfl rfl rfl (by decide) rfl rfl rfl rfl (Nat.le_of_ble_eq_true rfl) (s145  ?_)
        replace h := h _ rfl
        exact g_ret ck rfl rfl (Or.inl (by decide)) h
/-! 132 TermDesk.swap(IIII)I -/
def w132 (B : va_E) (σ : l2_m) (x1 : Int) (x2 : Int) (x3 : Int) (x4 : Int) (K : Int → l2_m → Prop) : Prop := ((rg x1 ∧ ((σ 32 5) = 0 ∨ (σ 32 5) = 1)) ∧ (if (σ 32 5) = 1 ∧ 0 ≤ x1 ∧ x1 < 8 then (rg x2 ∧ (if 0 ≤ x2 ∧ x2 < 3 then (rg x3 ∧ (if 0 ≤ x3 ∧ x3 < 3 then (rg x4 ∧ (if (σ 32 5) = 1 ∧ 0 ≤ x4 ∧ x4 < 8 then ((0 ≤ x1 ∧ x1 < 8) ∧ (wC B 7 [vr 38, vr (162 + 3 * Int.toNat x1), vi x2, vi x3, vr 159] σ (fun _ σ'''' => (wC B 164 [vr 32, vr 159, vi x4] σ'''' (fun y σ''''' => K y σ'''''))))) else (∀ σ'''''' : l2_m, σ'''''' = trb σ 1 → K (-1) σ''''''))) else (∀ σ''' : l2_m, σ''' = trb σ 1 → K (-1) σ'''))) else (∀ σ'' : l2_m, σ'' = trb σ 1 → K (-1) σ''))) else (∀ σ' : l2_m, σ' = trb σ 1 → K (-1) σ')))
theorem o132 {B : va_E} {σ : l2_m} {x1 : Int} {x2 : Int} {x3 : Int} {x4 : Int} {K : Int → l2_m → Prop}   (h : w132 B σ x1 x2 x3 x4  K) : wC B 132 [vr 32, vi x1, vi x2, vi x3, vi x4] σ K := by
  have ck : pm_code 132 = pc_132 := rfl
  unfold w132 at h
  show wW B 132 0 [vr 32, vi x1, vi x2, vi x3, vi x4] [] σ K
  obtain ⟨⟨hs1, hs2⟩, h⟩ := h
  refine g_al 1 ck rfl rfl rfl ?_
  refine g_il 2 ck rfl rfl rfl ?_
  refine g_cvi (as := [_]) (rest := []) 5 ck rfl rfl rfl rfl rfl rfl (by decide) rfl rfl rfl rfl (Nat.le_of_ble_eq_true rfl) (s147 hs1 hs2 ?_)
  refine g_ifeq 8 31 ck rfl rfl rfl rg_b2i (fun hc => ?_) (fun hc => ?_)
  · replace h := ite_hf h (b2i_f hc)
    refine g_al 32 ck rfl rfl rfl ?_
    refine g_ic 33 ck rfl rfl ?_
    refine g_cvi (as := [_]) (rest := []) 36 ck rfl rfl rfl rfl rfl rfl (by decide) rfl rfl rfl rfl (Nat.le_of_ble_eq_true rfl) (s145  ?_)
    replace h := h _ rfl
    exact g_ret ck rfl rfl (Or.inl (by decide)) h
  · replace h := ite_ht h (b2i_t hc)
    obtain ⟨hs3, h⟩ := h
    refine g_il 9 ck rfl rfl rfl ?_
    refine g_csi (as := [_]) (rest := []) 12 ck rfl rfl rfl rfl rfl (by decide) rfl rfl rfl (Nat.le_of_ble_eq_true rfl) (s148 hs3 ?_)
    refine g_ifeq 15 31 ck rfl rfl rfl rg_b2i (fun hc => ?_) (fun hc => ?_)
    · replace h := ite_hf h (b2i_f hc)
      refine g_al 32 ck rfl rfl rfl ?_
      refine g_ic 33 ck rfl rfl ?_
      refine g_cvi (as := [_]) (rest := []) 36 ck rfl rfl rfl rfl rfl rfl (by decide) rfl rfl rfl rfl (Nat.le_of_ble_eq_true rfl) (s145  ?_)
      replace h := h _ rfl
      exact g_ret ck rfl rfl (Or.inl (by decide)) h
    · replace h := ite_ht h (b2i_t hc)
      obtain ⟨hs4, h⟩ := h
      refine g_il 16 ck rfl rfl rfl ?_
      refine g_csi (as := [_]) (rest := []) 19 ck rfl rfl rfl rfl rfl (by decide) rfl rfl rfl (Nat.le_of_ble_eq_true rfl) (s148 hs4 ?_)
      refine g_ifeq 22 31 ck rfl rfl rfl rg_b2i (fun hc => ?_) (fun hc => ?_)
      · replace h := ite_hf h (b2i_f hc)
        refine g_al 32 ck rfl rfl rfl ?_
        refine g_ic 33 ck rfl rfl ?_
        refine g_cvi (as := [_]) (rest := []) 36 ck rfl rfl rfl rfl rfl rfl (by decide) rfl rfl rfl rfl (Nat.le_of_ble_eq_true rfl) (s145  ?_)
        replace h := h _ rfl
        exact g_ret ck rfl rfl (Or.inl (by decide)) h
      · replace h := ite_ht h (b2i_t hc)
        obtain ⟨hs5, h⟩ := h
        refine g_al 23 ck rfl rfl rfl ?_
        refine g_il 25 ck rfl rfl rfl ?_
        refine g_cvi (as := [_]) (rest := []) 28 ck rfl rfl rfl rfl rfl rfl (by decide) rfl rfl rfl rfl (Nat.le_of_ble_eq_true rfl) (s147 hs5 hs2 ?_)
        refine g_ifne 31 37 ck rfl rfl rfl rg_b2i (fun hc => ?_) (fun hc => ?_)
        · replace h := ite_ht h (b2i_t hc)
          obtain ⟨⟨hs6, hs7⟩, h⟩ := h
          refine g_al 38 ck rfl rfl rfl ?_
          refine r_gfr 41 38 ck rfl rfl rfl (by decide) ?_
          refine g_al 42 ck rfl rfl rfl ?_
          refine r_gfr 45 158 ck rfl rfl rfl (by decide) ?_
          refine g_il 46 ck rfl rfl rfl ?_
          refine g_aal (b := 162) (m := 8) 47 ck rfl rfl rfl hs6 hs7 ?_
          refine g_il 48 ck rfl rfl rfl ?_
          refine g_il 49 ck rfl rfl rfl ?_
          refine g_al 50 ck rfl rfl rfl ?_
          refine r_gfr 53 159 ck rfl rfl rfl (by decide) ?_
          refine g_cvv (as := [_, _, _, _]) (rest := []) 56 ck rfl rfl rfl rfl rfl rfl rfl rfl rfl rfl (Nat.le_of_ble_eq_true rfl) (wC.mono h (fun _ σ'''' h => ?_))
          refine g_al 57 ck rfl rfl rfl ?_
          refine g_al 58 ck rfl rfl rfl ?_
          refine r_gfr 61 159 ck rfl rfl rfl (by decide) ?_
          refine g_il 63 ck rfl rfl rfl ?_
          refine g_cvi (as := [_, _]) (rest := []) 66 ck rfl rfl rfl rfl rfl rfl (by decide) rfl rfl rfl rfl (Nat.le_of_ble_eq_true rfl) (wC.mono h (fun y σ''''' h => ?_))
          exact g_ret ck rfl rfl (Or.inl (by decide)) h
        · replace h := ite_hf h (b2i_f (Classical.not_not.mp hc))
          refine g_al 32 ck rfl rfl rfl ?_
          refine g_ic 33 ck rfl rfl ?_
          refine g_cvi (as := [_]) (rest := []) 36 ck rfl rfl rfl rfl rfl rfl (by decide) rfl rfl rfl rfl (Nat.le_of_ble_eq_true rfl) (s145  ?_)
          replace h := h _ rfl
          exact g_ret ck rfl rfl (Or.inl (by decide)) h
/-! 133 TermDesk.rest(III)I -/
def w133 (B : va_E) (σ : l2_m) (x1 : Int) (x2 : Int) (x3 : Int) (K : Int → l2_m → Prop) : Prop := ((rg x1 ∧ ((σ 32 5) = 0 ∨ (σ 32 5) = 1)) ∧ (if (σ 32 5) = 1 ∧ 0 ≤ x1 ∧ x1 < 8 then (rg x3 ∧ (if (σ 32 5) = 1 ∧ 0 ≤ x3 ∧ x3 < 8 then (wC B 161 [vr 32, vi x1, vi x2] σ (fun y σ'' => (rg y ∧ (if y = 0 then (wC B 164 [vr 32, vr 76, vi x3] σ'' (fun y' σ''' => K y' σ''')) else (∀ σ'''' : l2_m, σ'''' = trb σ'' y → K (-1) σ''''))))) else (∀ σ''''' : l2_m, σ''''' = trb σ 1 → K (-1) σ'''''))) else (∀ σ' : l2_m, σ' = trb σ 1 → K (-1) σ')))
theorem o133 {B : va_E} {σ : l2_m} {x1 : Int} {x2 : Int} {x3 : Int} {K : Int → l2_m → Prop}   (h : w133 B σ x1 x2 x3  K) : wC B 133 [vr 32, vi x1, vi x2, vi x3] σ K := by
  have ck : pm_code 133 = pc_133 := rfl
  unfold w133 at h
  show wW B 133 0 [vr 32, vi x1, vi x2, vi x3, pm_un] [] σ K
  obtain ⟨⟨hs1, hs2⟩, h⟩ := h
  refine g_al 1 ck rfl rfl rfl ?_
  refine g_il 2 ck rfl rfl rfl ?_
  refine g_cvi (as := [_]) (rest := []) 5 ck rfl rfl rfl rfl rfl rfl (by decide) rfl rfl rfl rfl (Nat.le_of_ble_eq_true rfl) (s147 hs1 hs2 ?_)
  refine g_ifeq 8 16 ck rfl rfl rfl rg_b2i (fun hc => ?_) (fun hc => ?_)
  · replace h := ite_hf h (b2i_f hc)
    refine g_al 17 ck rfl rfl rfl ?_
    refine g_ic 18 ck rfl rfl ?_
    refine g_cvi (as := [_]) (rest := []) 21 ck rfl rfl rfl rfl rfl rfl (by decide) rfl rfl rfl rfl (Nat.le_of_ble_eq_true rfl) (s145  ?_)
    replace h := h _ rfl
    exact g_ret ck rfl rfl (Or.inl (by decide)) h
  · replace h := ite_ht h (b2i_t hc)
    obtain ⟨hs3, h⟩ := h
    refine g_al 9 ck rfl rfl rfl ?_
    refine g_il 10 ck rfl rfl rfl ?_
    refine g_cvi (as := [_]) (rest := []) 13 ck rfl rfl rfl rfl rfl rfl (by decide) rfl rfl rfl rfl (Nat.le_of_ble_eq_true rfl) (s147 hs3 hs2 ?_)
    refine g_ifne 16 22 ck rfl rfl rfl rg_b2i (fun hc => ?_) (fun hc => ?_)
    · replace h := ite_ht h (b2i_t hc)
      refine g_al 23 ck rfl rfl rfl ?_
      refine g_il 24 ck rfl rfl rfl ?_
      refine g_il 25 ck rfl rfl rfl ?_
      refine g_cvi (as := [_, _]) (rest := []) 28 ck rfl rfl rfl rfl rfl rfl (by decide) rfl rfl rfl rfl (Nat.le_of_ble_eq_true rfl) (wC.mono h (fun y σ'' h => ?_))
      obtain ⟨hs4, h⟩ := h
      refine r_is 30 ck rfl rfl rfl rfl ?_
      refine g_il 32 ck rfl rfl rfl ?_
      refine g_ifeq 35 44 ck rfl rfl rfl hs4 (fun hc => ?_) (fun hc => ?_)
      · replace h := ite_ht h hc
        refine g_al 45 ck rfl rfl rfl ?_
        refine g_al 46 ck rfl rfl rfl ?_
        refine r_gfr 49 74 ck rfl rfl rfl (by decide) ?_
        refine r_gfr 52 76 ck rfl rfl rfl (by decide) ?_
        refine g_il 53 ck rfl rfl rfl ?_
        refine g_cvi (as := [_, _]) (rest := []) 56 ck rfl rfl rfl rfl rfl rfl (by decide) rfl rfl rfl rfl (Nat.le_of_ble_eq_true rfl) (wC.mono h (fun y' σ''' h => ?_))
        exact g_ret ck rfl rfl (Or.inl (by decide)) h
      · replace h := ite_hf h hc
        refine g_al 36 ck rfl rfl rfl ?_
        refine g_il 38 ck rfl rfl rfl ?_
        refine g_cvi (as := [_]) (rest := []) 41 ck rfl rfl rfl rfl rfl rfl (by decide) rfl rfl rfl rfl (Nat.le_of_ble_eq_true rfl) (s145  ?_)
        replace h := h _ rfl
        refine g_goto 56 ck rfl rfl ?_
        exact g_ret ck rfl rfl (Or.inl (by decide)) h
    · replace h := ite_hf h (b2i_f (Classical.not_not.mp hc))
      refine g_al 17 ck rfl rfl rfl ?_
      refine g_ic 18 ck rfl rfl ?_
      refine g_cvi (as := [_]) (rest := []) 21 ck rfl rfl rfl rfl rfl rfl (by decide) rfl rfl rfl rfl (Nat.le_of_ble_eq_true rfl) (s145  ?_)
      replace h := h _ rfl
      exact g_ret ck rfl rfl (Or.inl (by decide)) h
/-! 134 TermDesk.quotient(IIII)I -/
def w134 (B : va_E) (σ : l2_m) (x1 : Int) (x2 : Int) (x3 : Int) (x4 : Int) (K : Int → l2_m → Prop) : Prop := ((rg x1 ∧ ((σ 32 5) = 0 ∨ (σ 32 5) = 1)) ∧ (if (σ 32 5) = 1 ∧ 0 ≤ x1 ∧ x1 < 8 then (rg x3 ∧ (if (σ 32 5) = 1 ∧ 0 ≤ x3 ∧ x3 < 8 then (rg x4 ∧ (if (σ 32 5) = 1 ∧ 0 ≤ x4 ∧ x4 < 8 then ((rg x2 ∧ 0 ≤ x3 ∧ x3 < 32) ∧ (if (bit x2 x3) = 1 then (wC B 161 [vr 32, vi x1, vi x2] σ (fun y σ''' => (rg y ∧ (if y = 0 then ((0 ≤ x3 ∧ x3 < 8) ∧ (wC B 164 [vr 32, vr (85 + 3 * Int.toNat x3), vi x4] σ''' (fun y' σ'''' => K y' σ''''))) else (∀ σ''''' : l2_m, σ''''' = trb σ''' y → K (-1) σ'''''))))) else (∀ σ'''''' : l2_m, σ'''''' = trb σ 2 → K (-1) σ''''''))) else (∀ σ''''''' : l2_m, σ''''''' = trb σ 1 → K (-1) σ'''''''))) else (∀ σ'' : l2_m, σ'' = trb σ 1 → K (-1) σ''))) else (∀ σ' : l2_m, σ' = trb σ 1 → K (-1) σ')))
theorem o134 {B : va_E} {σ : l2_m} {x1 : Int} {x2 : Int} {x3 : Int} {x4 : Int} {K : Int → l2_m → Prop}   (h : w134 B σ x1 x2 x3 x4  K) : wC B 134 [vr 32, vi x1, vi x2, vi x3, vi x4] σ K := by
  have ck : pm_code 134 = pc_134 := rfl
  unfold w134 at h
  show wW B 134 0 [vr 32, vi x1, vi x2, vi x3, vi x4, pm_un] [] σ K
  obtain ⟨⟨hs1, hs2⟩, h⟩ := h
  refine g_al 1 ck rfl rfl rfl ?_
  refine g_il 2 ck rfl rfl rfl ?_
  refine g_cvi (as := [_]) (rest := []) 5 ck rfl rfl rfl rfl rfl rfl (by decide) rfl rfl rfl rfl (Nat.le_of_ble_eq_true rfl) (s147 hs1 hs2 ?_)
  refine g_ifeq 8 25 ck rfl rfl rfl rg_b2i (fun hc => ?_) (fun hc => ?_)
  · replace h := ite_hf h (b2i_f hc)
    refine g_al 26 ck rfl rfl rfl ?_
    refine g_ic 27 ck rfl rfl ?_
    refine g_cvi (as := [_]) (rest := []) 30 ck rfl rfl rfl rfl rfl rfl (by decide) rfl rfl rfl rfl (Nat.le_of_ble_eq_true rfl) (s145  ?_)
    replace h := h _ rfl
    exact g_ret ck rfl rfl (Or.inl (by decide)) h
  · replace h := ite_ht h (b2i_t hc)
    obtain ⟨hs3, h⟩ := h
    refine g_al 9 ck rfl rfl rfl ?_
    refine g_il 10 ck rfl rfl rfl ?_
    refine g_cvi (as := [_]) (rest := []) 13 ck rfl rfl rfl rfl rfl rfl (by decide) rfl rfl rfl rfl (Nat.le_of_ble_eq_true rfl) (s147 hs3 hs2 ?_)
    refine g_ifeq 16 25 ck rfl rfl rfl rg_b2i (fun hc => ?_) (fun hc => ?_)
    · replace h := ite_hf h (b2i_f hc)
      refine g_al 26 ck rfl rfl rfl ?_
      refine g_ic 27 ck rfl rfl ?_
      refine g_cvi (as := [_]) (rest := []) 30 ck rfl rfl rfl rfl rfl rfl (by decide) rfl rfl rfl rfl (Nat.le_of_ble_eq_true rfl) (s145  ?_)
      replace h := h _ rfl
      exact g_ret ck rfl rfl (Or.inl (by decide)) h
    · replace h := ite_ht h (b2i_t hc)
      obtain ⟨hs4, h⟩ := h
      refine g_al 17 ck rfl rfl rfl ?_
      refine g_il 19 ck rfl rfl rfl ?_
      refine g_cvi (as := [_]) (rest := []) 22 ck rfl rfl rfl rfl rfl rfl (by decide) rfl rfl rfl rfl (Nat.le_of_ble_eq_true rfl) (s147 hs4 hs2 ?_)
      refine g_ifne 25 31 ck rfl rfl rfl rg_b2i (fun hc => ?_) (fun hc => ?_)
      · replace h := ite_ht h (b2i_t hc)
        obtain ⟨⟨hs5, hs6, hs7⟩, h⟩ := h
        refine g_il 32 ck rfl rfl rfl ?_
        refine g_il 33 ck rfl rfl rfl ?_
        refine g_csi (as := [_, _]) (rest := []) 36 ck rfl rfl rfl rfl rfl (by decide) rfl rfl rfl (Nat.le_of_ble_eq_true rfl) (s152 hs5 hs6 hs7 ?_)
        refine g_ifne 39 45 ck rfl rfl rfl rg_b2i (fun hc => ?_) (fun hc => ?_)
        · replace h := ite_ht h (b2i_t hc)
          refine g_al 46 ck rfl rfl rfl ?_
          refine g_il 47 ck rfl rfl rfl ?_
          refine g_il 48 ck rfl rfl rfl ?_
          refine g_cvi (as := [_, _]) (rest := []) 51 ck rfl rfl rfl rfl rfl rfl (by decide) rfl rfl rfl rfl (Nat.le_of_ble_eq_true rfl) (wC.mono h (fun y σ''' h => ?_))
          obtain ⟨hs8, h⟩ := h
          refine r_is 53 ck rfl rfl rfl rfl ?_
          refine g_il 55 ck rfl rfl rfl ?_
          refine g_ifeq 58 67 ck rfl rfl rfl hs8 (fun hc => ?_) (fun hc => ?_)
          · replace h := ite_ht h hc
            obtain ⟨⟨hs9, hs10⟩, h⟩ := h
            refine g_al 68 ck rfl rfl rfl ?_
            refine g_al 69 ck rfl rfl rfl ?_
            refine r_gfr 72 74 ck rfl rfl rfl (by decide) ?_
            refine r_gfr 75 75 ck rfl rfl rfl (by decide) ?_
            refine g_il 76 ck rfl rfl rfl ?_
            refine g_aal (b := 85) (m := 8) 77 ck rfl rfl rfl hs9 hs10 ?_
            refine g_il 79 ck rfl rfl rfl ?_
            refine g_cvi (as := [_, _]) (rest := []) 82 ck rfl rfl rfl rfl rfl rfl (by decide) rfl rfl rfl rfl (Nat.le_of_ble_eq_true rfl) (wC.mono h (fun y' σ'''' h => ?_))
            exact g_ret ck rfl rfl (Or.inl (by decide)) h
          · replace h := ite_hf h hc
            refine g_al 59 ck rfl rfl rfl ?_
            refine g_il 61 ck rfl rfl rfl ?_
            refine g_cvi (as := [_]) (rest := []) 64 ck rfl rfl rfl rfl rfl rfl (by decide) rfl rfl rfl rfl (Nat.le_of_ble_eq_true rfl) (s145  ?_)
            replace h := h _ rfl
            refine g_goto 82 ck rfl rfl ?_
            exact g_ret ck rfl rfl (Or.inl (by decide)) h
        · replace h := ite_hf h (b2i_f (Classical.not_not.mp hc))
          refine g_al 40 ck rfl rfl rfl ?_
          refine g_ic 41 ck rfl rfl ?_
          refine g_cvi (as := [_]) (rest := []) 44 ck rfl rfl rfl rfl rfl rfl (by decide) rfl rfl rfl rfl (Nat.le_of_ble_eq_true rfl) (s145  ?_)
          replace h := h _ rfl
          exact g_ret ck rfl rfl (Or.inl (by decide)) h
      · replace h := ite_hf h (b2i_f (Classical.not_not.mp hc))
        refine g_al 26 ck rfl rfl rfl ?_
        refine g_ic 27 ck rfl rfl ?_
        refine g_cvi (as := [_]) (rest := []) 30 ck rfl rfl rfl rfl rfl rfl (by decide) rfl rfl rfl rfl (Nat.le_of_ble_eq_true rfl) (s145  ?_)
        replace h := h _ rfl
        exact g_ret ck rfl rfl (Or.inl (by decide)) h
/-! 135 TermDesk.pair(III)I -/
def w135 (B : va_E) (σ : l2_m) (x1 : Int) (x2 : Int) (x3 : Int) (K : Int → l2_m → Prop) : Prop := ((rg x1 ∧ ((σ 32 5) = 0 ∨ (σ 32 5) = 1)) ∧ (if (σ 32 5) = 1 ∧ 0 ≤ x1 ∧ x1 < 8 then (rg x2 ∧ (if (σ 32 5) = 1 ∧ 0 ≤ x2 ∧ x2 < 8 then (rg x3 ∧ (if (σ 32 5) = 1 ∧ 0 ≤ x3 ∧ x3 < 8 then (if x1 = x2 then (∀ σ'''''''' : l2_m, σ'''''''' = trb σ 1 → K (-1) σ'''''''') else ((0 ≤ x1 ∧ x1 < 8 ∧ rg (σ (162 + 3 * Int.toNat x1) 2)) ∧ (if (σ (162 + 3 * Int.toNat x1) 2) = 0 then (∀ σ'''' : l2_m, σ'''' = trb σ 5 → K (-1) σ'''') else ((0 ≤ x2 ∧ x2 < 8 ∧ rg (σ (162 + 3 * Int.toNat x2) 2)) ∧ (if (σ (162 + 3 * Int.toNat x2) 2) = 0 then (∀ σ''''''' : l2_m, σ''''''' = trb σ 5 → K (-1) σ''''''') else (wC B 8 [vr 38, vr (162 + 3 * Int.toNat x1), vr (162 + 3 * Int.toNat x2), vr 159] σ (fun y σ''''' => (wC B 163 [vr 32, vi y, vi x3] σ''''' (fun y' σ'''''' => K y' σ''''''))))))))) else (∀ σ''' : l2_m, σ''' = trb σ 1 → K (-1) σ'''))) else (∀ σ'' : l2_m, σ'' = trb σ 1 → K (-1) σ''))) else (∀ σ' : l2_m, σ' = trb σ 1 → K (-1) σ')))
theorem o135 {B : va_E} {σ : l2_m} {x1 : Int} {x2 : Int} {x3 : Int} {K : Int → l2_m → Prop}   (h : w135 B σ x1 x2 x3  K) : wC B 135 [vr 32, vi x1, vi x2, vi x3] σ K := by
  have ck : pm_code 135 = pc_135 := rfl
  unfold w135 at h
  show wW B 135 0 [vr 32, vi x1, vi x2, vi x3] [] σ K
  obtain ⟨⟨hs1, hs2⟩, h⟩ := h
  refine g_al 1 ck rfl rfl rfl ?_
  refine g_il 2 ck rfl rfl rfl ?_
  refine g_cvi (as := [_]) (rest := []) 5 ck rfl rfl rfl rfl rfl rfl (by decide) rfl rfl rfl rfl (Nat.le_of_ble_eq_true rfl) (s147 hs1 hs2 ?_)
  refine g_ifeq 8 29 ck rfl rfl rfl rg_b2i (fun hc => ?_) (fun hc => ?_)
  · replace h := ite_hf h (b2i_f hc)
    refine g_al 30 ck rfl rfl rfl ?_
    refine g_ic 31 ck rfl rfl ?_
    refine g_cvi (as := [_]) (rest := []) 34 ck rfl rfl rfl rfl rfl rfl (by decide) rfl rfl rfl rfl (Nat.le_of_ble_eq_true rfl) (s145  ?_)
    replace h := h _ rfl
    exact g_ret ck rfl rfl (Or.inl (by decide)) h
  · replace h := ite_ht h (b2i_t hc)
    obtain ⟨hs3, h⟩ := h
    refine g_al 9 ck rfl rfl rfl ?_
    refine g_il 10 ck rfl rfl rfl ?_
    refine g_cvi (as := [_]) (rest := []) 13 ck rfl rfl rfl rfl rfl rfl (by decide) rfl rfl rfl rfl (Nat.le_of_ble_eq_true rfl) (s147 hs3 hs2 ?_)
    refine g_ifeq 16 29 ck rfl rfl rfl rg_b2i (fun hc => ?_) (fun hc => ?_)
    · replace h := ite_hf h (b2i_f hc)
      refine g_al 30 ck rfl rfl rfl ?_
      refine g_ic 31 ck rfl rfl ?_
      refine g_cvi (as := [_]) (rest := []) 34 ck rfl rfl rfl rfl rfl rfl (by decide) rfl rfl rfl rfl (Nat.le_of_ble_eq_true rfl) (s145  ?_)
      replace h := h _ rfl
      exact g_ret ck rfl rfl (Or.inl (by decide)) h
    · replace h := ite_ht h (b2i_t hc)
      obtain ⟨hs4, h⟩ := h
      refine g_al 17 ck rfl rfl rfl ?_
      refine g_il 18 ck rfl rfl rfl ?_
      refine g_cvi (as := [_]) (rest := []) 21 ck rfl rfl rfl rfl rfl rfl (by decide) rfl rfl rfl rfl (Nat.le_of_ble_eq_true rfl) (s147 hs4 hs2 ?_)
      refine g_ifeq 24 29 ck rfl rfl rfl rg_b2i (fun hc => ?_) (fun hc => ?_)
      · replace h := ite_hf h (b2i_f hc)
        refine g_al 30 ck rfl rfl rfl ?_
        refine g_ic 31 ck rfl rfl ?_
        refine g_cvi (as := [_]) (rest := []) 34 ck rfl rfl rfl rfl rfl rfl (by decide) rfl rfl rfl rfl (Nat.le_of_ble_eq_true rfl) (s145  ?_)
        replace h := h _ rfl
        exact g_ret ck rfl rfl (Or.inl (by decide)) h
      · replace h := ite_ht h (b2i_t hc)
        refine g_il 25 ck rfl rfl rfl ?_
        refine g_il 26 ck rfl rfl rfl ?_
        refine g_icne 29 35 ck rfl rfl rfl hs1 hs3 (fun hc => ?_) (fun hc => ?_)
        · replace h := ite_hf h hc
          obtain ⟨⟨hs5, hs6, hs7⟩, h⟩ := h
          refine g_al 36 ck rfl rfl rfl ?_
          refine r_gfr 39 158 ck rfl rfl rfl (by decide) ?_
          refine g_il 40 ck rfl rfl rfl ?_
          refine g_aal (b := 162) (m := 8) 41 ck rfl rfl rfl hs5 hs6 ?_
          refine r_gfi 44 2 ck rfl rfl (isP_2 (isP_row (a := 158) (b := 162) (m := 8) rfl hs5 hs6)) rfl ?_
          refine g_ifeq 47 59 ck rfl rfl rfl hs7 (fun hc => ?_) (fun hc => ?_)
          · replace h := ite_ht h hc
            refine g_al 60 ck rfl rfl rfl ?_
            refine g_ic 61 ck rfl rfl ?_
            refine g_cvi (as := [_]) (rest := []) 64 ck rfl rfl rfl rfl rfl rfl (by decide) rfl rfl rfl rfl (Nat.le_of_ble_eq_true rfl) (s145  ?_)
            replace h := h _ rfl
            exact g_ret ck rfl rfl (Or.inl (by decide)) h
          · replace h := ite_hf h hc
            obtain ⟨⟨hs8, hs9, hs10⟩, h⟩ := h
            refine g_al 48 ck rfl rfl rfl ?_
            refine r_gfr 51 158 ck rfl rfl rfl (by decide) ?_
            refine g_il 52 ck rfl rfl rfl ?_
            refine g_aal (b := 162) (m := 8) 53 ck rfl rfl rfl hs8 hs9 ?_
            refine r_gfi 56 2 ck rfl rfl (isP_2 (isP_row (a := 158) (b := 162) (m := 8) rfl hs8 hs9)) rfl ?_
            refine g_ifne 59 65 ck rfl rfl rfl hs10 (fun hc => ?_) (fun hc => ?_)
            · replace h := ite_hf h hc
              refine g_al 66 ck rfl rfl rfl ?_
              refine g_al 67 ck rfl rfl rfl ?_
              refine r_gfr 70 38 ck rfl rfl rfl (by decide) ?_
              refine g_al 71 ck rfl rfl rfl ?_
              refine r_gfr 74 158 ck rfl rfl rfl (by decide) ?_
              refine g_il 75 ck rfl rfl rfl ?_
              refine g_aal (b := 162) (m := 8) 76 ck rfl rfl rfl hs5 hs6 ?_
              refine g_al 77 ck rfl rfl rfl ?_
              refine r_gfr 80 158 ck rfl rfl rfl (by decide) ?_
              refine g_il 81 ck rfl rfl rfl ?_
              refine g_aal (b := 162) (m := 8) 82 ck rfl rfl rfl hs8 hs9 ?_
              refine g_al 83 ck rfl rfl rfl ?_
              refine r_gfr 86 159 ck rfl rfl rfl (by decide) ?_
              refine g_cvi (as := [_, _, _]) (rest := [_]) 89 ck rfl rfl rfl rfl rfl rfl (by decide) rfl rfl rfl rfl (Nat.le_of_ble_eq_true rfl) (wC.mono h (fun y σ''''' h => ?_))
              refine g_il 90 ck rfl rfl rfl ?_
              refine g_cvi (as := [_, _]) (rest := []) 93 ck rfl rfl rfl rfl rfl rfl (by decide) rfl rfl rfl rfl (Nat.le_of_ble_eq_true rfl) (wC.mono h (fun y' σ'''''' h => ?_))
              exact g_ret ck rfl rfl (Or.inl (by decide)) h
            · replace h := ite_ht h (Classical.not_not.mp hc)
              refine g_al 60 ck rfl rfl rfl ?_
              refine g_ic 61 ck rfl rfl ?_
              refine g_cvi (as := [_]) (rest := []) 64 ck rfl rfl rfl rfl rfl rfl (by decide) rfl rfl rfl rfl (Nat.le_of_ble_eq_true rfl) (s145  ?_)
              replace h := h _ rfl
              exact g_ret ck rfl rfl (Or.inl (by decide)) h
        · replace h := ite_ht h (Classical.not_not.mp hc)
          refine g_al 30 ck rfl rfl rfl ?_
          refine g_ic 31 ck rfl rfl ?_
          refine g_cvi (as := [_]) (rest := []) 34 ck rfl rfl rfl rfl rfl rfl (by decide) rfl rfl rfl rfl (Nat.le_of_ble_eq_true rfl) (s145  ?_)
          replace h := h _ rfl
          exact g_ret ck rfl rfl (Or.inl (by decide)) h
/-! 136 TermDesk.common(III)I -/
def w136 (B : va_E) (σ : l2_m) (x1 : Int) (x2 : Int) (x3 : Int) (K : Int → l2_m → Prop) : Prop := ((rg x1 ∧ ((σ 32 5) = 0 ∨ (σ 32 5) = 1)) ∧ (if (σ 32 5) = 1 ∧ 0 ≤ x1 ∧ x1 < 8 then (rg x2 ∧ (if (σ 32 5) = 1 ∧ 0 ≤ x2 ∧ x2 < 8 then (rg x3 ∧ (if (σ 32 5) = 1 ∧ 0 ≤ x3 ∧ x3 < 8 then ((0 ≤ x1 ∧ x1 < 8) ∧ (wC B 89 [vr (162 + 3 * Int.toNat x1), vi 2] σ (fun y σ''' => (rg y ∧ (if y = 0 then ((0 ≤ x2 ∧ x2 < 8) ∧ (wC B 89 [vr (162 + 3 * Int.toNat x2), vi 2] σ''' (fun y' σ''''' => (rg y' ∧ (if y' = 0 then ((0 ≤ x1 ∧ x1 < 8 ∧ 0 ≤ x2 ∧ x2 < 8) ∧ (wC B 20 [vr 109, vr (162 + 3 * Int.toNat x1), vr (162 + 3 * Int.toNat x2), vr 159] σ''''' (fun y'' σ'''''' => (wC B 163 [vr 32, vi y'', vi x3] σ'''''' (fun y''' σ''''''' => K y''' σ'''''''))))) else (∀ σ'''''''' : l2_m, σ'''''''' = trb σ''''' 5 → K (-1) σ'''''''')))))) else (∀ σ'''' : l2_m, σ'''' = trb σ''' 5 → K (-1) σ'''')))))) else (∀ σ''''''''' : l2_m, σ''''''''' = trb σ 1 → K (-1) σ'''''''''))) else (∀ σ'' : l2_m, σ'' = trb σ 1 → K (-1) σ''))) else (∀ σ' : l2_m, σ' = trb σ 1 → K (-1) σ')))
theorem o136 {B : va_E} {σ : l2_m} {x1 : Int} {x2 : Int} {x3 : Int} {K : Int → l2_m → Prop}   (h : w136 B σ x1 x2 x3  K) : wC B 136 [vr 32, vi x1, vi x2, vi x3] σ K := by
  have ck : pm_code 136 = pc_136 := rfl
  unfold w136 at h
  show wW B 136 0 [vr 32, vi x1, vi x2, vi x3] [] σ K
  obtain ⟨⟨hs1, hs2⟩, h⟩ := h
  refine g_al 1 ck rfl rfl rfl ?_
  refine g_il 2 ck rfl rfl rfl ?_
  refine g_cvi (as := [_]) (rest := []) 5 ck rfl rfl rfl rfl rfl rfl (by decide) rfl rfl rfl rfl (Nat.le_of_ble_eq_true rfl) (s147 hs1 hs2 ?_)
  refine g_ifeq 8 24 ck rfl rfl rfl rg_b2i (fun hc => ?_) (fun hc => ?_)
  · replace h := ite_hf h (b2i_f hc)
    refine g_al 25 ck rfl rfl rfl ?_
    refine g_ic 26 ck rfl rfl ?_
    refine g_cvi (as := [_]) (rest := []) 29 ck rfl rfl rfl rfl rfl rfl (by decide) rfl rfl rfl rfl (Nat.le_of_ble_eq_true rfl) (s145  ?_)
    replace h := h _ rfl
    exact g_ret ck rfl rfl (Or.inl (by decide)) h
  · replace h := ite_ht h (b2i_t hc)
    obtain ⟨hs3, h⟩ := h
    refine g_al 9 ck rfl rfl rfl ?_
    refine g_il 10 ck rfl rfl rfl ?_
    refine g_cvi (as := [_]) (rest := []) 13 ck rfl rfl rfl rfl rfl rfl (by decide) rfl rfl rfl rfl (Nat.le_of_ble_eq_true rfl) (s147 hs3 hs2 ?_)
    refine g_ifeq 16 24 ck rfl rfl rfl rg_b2i (fun hc => ?_) (fun hc => ?_)
    · replace h := ite_hf h (b2i_f hc)
      refine g_al 25 ck rfl rfl rfl ?_
      refine g_ic 26 ck rfl rfl ?_
      refine g_cvi (as := [_]) (rest := []) 29 ck rfl rfl rfl rfl rfl rfl (by decide) rfl rfl rfl rfl (Nat.le_of_ble_eq_true rfl) (s145  ?_)
      replace h := h _ rfl
      exact g_ret ck rfl rfl (Or.inl (by decide)) h
    · replace h := ite_ht h (b2i_t hc)
      obtain ⟨hs4, h⟩ := h
      refine g_al 17 ck rfl rfl rfl ?_
      refine g_il 18 ck rfl rfl rfl ?_
      refine g_cvi (as := [_]) (rest := []) 21 ck rfl rfl rfl rfl rfl rfl (by decide) rfl rfl rfl rfl (Nat.le_of_ble_eq_true rfl) (s147 hs4 hs2 ?_)
      refine g_ifne 24 30 ck rfl rfl rfl rg_b2i (fun hc => ?_) (fun hc => ?_)
      · replace h := ite_ht h (b2i_t hc)
        obtain ⟨⟨hs5, hs6⟩, h⟩ := h
        refine g_al 31 ck rfl rfl rfl ?_
        refine r_gfr 34 158 ck rfl rfl rfl (by decide) ?_
        refine g_il 35 ck rfl rfl rfl ?_
        refine g_aal (b := 162) (m := 8) 36 ck rfl rfl rfl hs5 hs6 ?_
        refine g_ic 37 ck rfl rfl ?_
        refine g_cvi (as := [_]) (rest := []) 40 ck rfl rfl rfl rfl rfl rfl (by decide) (isP_c (isP_row (a := 158) (b := 162) (m := 8) rfl hs5 hs6)) rfl rfl rfl (Nat.le_of_ble_eq_true rfl) (wC.mono h (fun y σ''' h => ?_))
        obtain ⟨hs7, h⟩ := h
        refine g_ifne 43 56 ck rfl rfl rfl hs7 (fun hc => ?_) (fun hc => ?_)
        · replace h := ite_hf h hc
          refine g_al 57 ck rfl rfl rfl ?_
          refine g_ic 58 ck rfl rfl ?_
          refine g_cvi (as := [_]) (rest := []) 61 ck rfl rfl rfl rfl rfl rfl (by decide) rfl rfl rfl rfl (Nat.le_of_ble_eq_true rfl) (s145  ?_)
          replace h := h _ rfl
          exact g_ret ck rfl rfl (Or.inl (by decide)) h
        · replace h := ite_ht h (Classical.not_not.mp hc)
          obtain ⟨⟨hs8, hs9⟩, h⟩ := h
          refine g_al 44 ck rfl rfl rfl ?_
          refine r_gfr 47 158 ck rfl rfl rfl (by decide) ?_
          refine g_il 48 ck rfl rfl rfl ?_
          refine g_aal (b := 162) (m := 8) 49 ck rfl rfl rfl hs8 hs9 ?_
          refine g_ic 50 ck rfl rfl ?_
          refine g_cvi (as := [_]) (rest := []) 53 ck rfl rfl rfl rfl rfl rfl (by decide) (isP_c (isP_row (a := 158) (b := 162) (m := 8) rfl hs8 hs9)) rfl rfl rfl (Nat.le_of_ble_eq_true rfl) (wC.mono h (fun y' σ''''' h => ?_))
          obtain ⟨hs10, h⟩ := h
          refine g_ifeq 56 62 ck rfl rfl rfl hs10 (fun hc => ?_) (fun hc => ?_)
          · replace h := ite_ht h hc
            obtain ⟨⟨hs11, hs12, hs13, hs14⟩, h⟩ := h
            refine g_al 63 ck rfl rfl rfl ?_
            refine g_al 64 ck rfl rfl rfl ?_
            refine r_gfr 67 109 ck rfl rfl rfl (by decide) ?_
            refine g_al 68 ck rfl rfl rfl ?_
            refine r_gfr 71 158 ck rfl rfl rfl (by decide) ?_
            refine g_il 72 ck rfl rfl rfl ?_
            refine g_aal (b := 162) (m := 8) 73 ck rfl rfl rfl hs11 hs12 ?_
            refine g_al 74 ck rfl rfl rfl ?_
            refine r_gfr 77 158 ck rfl rfl rfl (by decide) ?_
            refine g_il 78 ck rfl rfl rfl ?_
            refine g_aal (b := 162) (m := 8) 79 ck rfl rfl rfl hs13 hs14 ?_
            refine g_al 80 ck rfl rfl rfl ?_
            refine r_gfr 83 159 ck rfl rfl rfl (by decide) ?_
            refine g_cvi (as := [_, _, _]) (rest := [_]) 86 ck rfl rfl rfl rfl rfl rfl (by decide) rfl rfl rfl rfl (Nat.le_of_ble_eq_true rfl) (wC.mono h (fun y'' σ'''''' h => ?_))
            refine g_il 87 ck rfl rfl rfl ?_
            refine g_cvi (as := [_, _]) (rest := []) 90 ck rfl rfl rfl rfl rfl rfl (by decide) rfl rfl rfl rfl (Nat.le_of_ble_eq_true rfl) (wC.mono h (fun y''' σ''''''' h => ?_))
            exact g_ret ck rfl rfl (Or.inl (by decide)) h
          · replace h := ite_hf h hc
            refine g_al 57 ck rfl rfl rfl ?_
            refine g_ic 58 ck rfl rfl ?_
            refine g_cvi (as := [_]) (rest := []) 61 ck rfl rfl rfl rfl rfl rfl (by decide) rfl rfl rfl rfl (Nat.le_of_ble_eq_true rfl) (s145  ?_)
            replace h := h _ rfl
            exact g_ret ck rfl rfl (Or.inl (by decide)) h
      · replace h := ite_hf h (b2i_f (Classical.not_not.mp hc))
        refine g_al 25 ck rfl rfl rfl ?_
        refine g_ic 26 ck rfl rfl ?_
        refine g_cvi (as := [_]) (rest := []) 29 ck rfl rfl rfl rfl rfl rfl (by decide) rfl rfl rfl rfl (Nat.le_of_ble_eq_true rfl) (s145  ?_)
        replace h := h _ rfl
        exact g_ret ck rfl rfl (Or.inl (by decide)) h
/-! 137 TermDesk.content(II)I -/
def w137 (B : va_E) (σ : l2_m) (x1 : Int) (x2 : Int) (K : Int → l2_m → Prop) : Prop := ((rg x1 ∧ ((σ 32 5) = 0 ∨ (σ 32 5) = 1)) ∧ (if (σ 32 5) = 1 ∧ 0 ≤ x1 ∧ x1 < 8 then (rg x2 ∧ (if (σ 32 5) = 1 ∧ 0 ≤ x2 ∧ x2 < 8 then ((0 ≤ x1 ∧ x1 < 8) ∧ (wC B 89 [vr (162 + 3 * Int.toNat x1), vi 2] σ (fun y σ'' => (rg y ∧ (if y = 0 then ((0 ≤ x1 ∧ x1 < 8) ∧ (wC B 21 [vr 109, vr (162 + 3 * Int.toNat x1), vr 159] σ'' (fun y' σ''' => (wC B 163 [vr 32, vi y', vi x2] σ''' (fun y'' σ'''' => K y'' σ''''))))) else (∀ σ''''' : l2_m, σ''''' = trb σ'' 5 → K (-1) σ''''')))))) else (∀ σ'''''' : l2_m, σ'''''' = trb σ 1 → K (-1) σ''''''))) else (∀ σ' : l2_m, σ' = trb σ 1 → K (-1) σ')))
theorem o137 {B : va_E} {σ : l2_m} {x1 : Int} {x2 : Int} {K : Int → l2_m → Prop}   (h : w137 B σ x1 x2  K) : wC B 137 [vr 32, vi x1, vi x2] σ K := by
  have ck : pm_code 137 = pc_137 := rfl
  unfold w137 at h
  show wW B 137 0 [vr 32, vi x1, vi x2] [] σ K
  obtain ⟨⟨hs1, hs2⟩, h⟩ := h
  refine g_al 1 ck rfl rfl rfl ?_
  refine g_il 2 ck rfl rfl rfl ?_
  refine g_cvi (as := [_]) (rest := []) 5 ck rfl rfl rfl rfl rfl rfl (by decide) rfl rfl rfl rfl (Nat.le_of_ble_eq_true rfl) (s147 hs1 hs2 ?_)
  refine g_ifeq 8 16 ck rfl rfl rfl rg_b2i (fun hc => ?_) (fun hc => ?_)
  · replace h := ite_hf h (b2i_f hc)
    refine g_al 17 ck rfl rfl rfl ?_
    refine g_ic 18 ck rfl rfl ?_
    refine g_cvi (as := [_]) (rest := []) 21 ck rfl rfl rfl rfl rfl rfl (by decide) rfl rfl rfl rfl (Nat.le_of_ble_eq_true rfl) (s145  ?_)
    replace h := h _ rfl
    exact g_ret ck rfl rfl (Or.inl (by decide)) h
  · replace h := ite_ht h (b2i_t hc)
    obtain ⟨hs3, h⟩ := h
    refine g_al 9 ck rfl rfl rfl ?_
    refine g_il 10 ck rfl rfl rfl ?_
    refine g_cvi (as := [_]) (rest := []) 13 ck rfl rfl rfl rfl rfl rfl (by decide) rfl rfl rfl rfl (Nat.le_of_ble_eq_true rfl) (s147 hs3 hs2 ?_)
    refine g_ifne 16 22 ck rfl rfl rfl rg_b2i (fun hc => ?_) (fun hc => ?_)
    · replace h := ite_ht h (b2i_t hc)
      obtain ⟨⟨hs4, hs5⟩, h⟩ := h
      refine g_al 23 ck rfl rfl rfl ?_
      refine r_gfr 26 158 ck rfl rfl rfl (by decide) ?_
      refine g_il 27 ck rfl rfl rfl ?_
      refine g_aal (b := 162) (m := 8) 28 ck rfl rfl rfl hs4 hs5 ?_
      refine g_ic 29 ck rfl rfl ?_
      refine g_cvi (as := [_]) (rest := []) 32 ck rfl rfl rfl rfl rfl rfl (by decide) (isP_c (isP_row (a := 158) (b := 162) (m := 8) rfl hs4 hs5)) rfl rfl rfl (Nat.le_of_ble_eq_true rfl) (wC.mono h (fun y σ'' h => ?_))
      obtain ⟨hs6, h⟩ := h
      refine g_ifeq 35 41 ck rfl rfl rfl hs6 (fun hc => ?_) (fun hc => ?_)
      · replace h := ite_ht h hc
        obtain ⟨⟨hs7, hs8⟩, h⟩ := h
        refine g_al 42 ck rfl rfl rfl ?_
        refine g_al 43 ck rfl rfl rfl ?_
        refine r_gfr 46 109 ck rfl rfl rfl (by decide) ?_
        refine g_al 47 ck rfl rfl rfl ?_
        refine r_gfr 50 158 ck rfl rfl rfl (by decide) ?_
        refine g_il 51 ck rfl rfl rfl ?_
        refine g_aal (b := 162) (m := 8) 52 ck rfl rfl rfl hs7 hs8 ?_
        refine g_al 53 ck rfl rfl rfl ?_
        refine r_gfr 56 159 ck rfl rfl rfl (by decide) ?_
        refine g_cvi (as := [_, _]) (rest := [_]) 59 ck rfl rfl rfl rfl rfl rfl (by decide) rfl rfl rfl rfl (Nat.le_of_ble_eq_true rfl) (wC.mono h (fun y' σ''' h => ?_))
        refine g_il 60 ck rfl rfl rfl ?_
        refine g_cvi (as := [_, _]) (rest := []) 63 ck rfl rfl rfl rfl rfl rfl (by decide) rfl rfl rfl rfl (Nat.le_of_ble_eq_true rfl) (wC.mono h (fun y'' σ'''' h => ?_))
        exact g_ret ck rfl rfl (Or.inl (by decide)) h
      · replace h := ite_hf h hc
        refine g_al 36 ck rfl rfl rfl ?_
        refine g_ic 37 ck rfl rfl ?_
        refine g_cvi (as := [_]) (rest := []) 40 ck rfl rfl rfl rfl rfl rfl (by decide) rfl rfl rfl rfl (Nat.le_of_ble_eq_true rfl) (s145  ?_)
        replace h := h _ rfl
        exact g_ret ck rfl rfl (Or.inl (by decide)) h
    · replace h := ite_hf h (b2i_f (Classical.not_not.mp hc))
      refine g_al 17 ck rfl rfl rfl ?_
      refine g_ic 18 ck rfl rfl ?_
      refine g_cvi (as := [_]) (rest := []) 21 ck rfl rfl rfl rfl rfl rfl (by decide) rfl rfl rfl rfl (Nat.le_of_ble_eq_true rfl) (s145  ?_)
      replace h := h _ rfl
      exact g_ret ck rfl rfl (Or.inl (by decide)) h
/-! 138 TermDesk.primitive(II)I -/
def w138 (B : va_E) (σ : l2_m) (x1 : Int) (x2 : Int) (K : Int → l2_m → Prop) : Prop := ((rg x1 ∧ ((σ 32 5) = 0 ∨ (σ 32 5) = 1)) ∧ (if (σ 32 5) = 1 ∧ 0 ≤ x1 ∧ x1 < 8 then (rg x2 ∧ (if (σ 32 5) = 1 ∧ 0 ≤ x2 ∧ x2 < 8 then ((0 ≤ x1 ∧ x1 < 8) ∧ (wC B 89 [vr (162 + 3 * Int.toNat x1), vi 2] σ (fun y σ'' => (rg y ∧ (if y = 0 then ((0 ≤ x1 ∧ x1 < 8) ∧ (wC B 22 [vr 109, vr (162 + 3 * Int.toNat x1), vr 159] σ'' (fun y' σ''' => (wC B 163 [vr 32, vi y', vi x2] σ''' (fun y'' σ'''' => K y'' σ''''))))) else (∀ σ''''' : l2_m, σ''''' = trb σ'' 5 → K (-1) σ''''')))))) else (∀ σ'''''' : l2_m, σ'''''' = trb σ 1 → K (-1) σ''''''))) else (∀ σ' : l2_m, σ' = trb σ 1 → K (-1) σ')))
theorem o138 {B : va_E} {σ : l2_m} {x1 : Int} {x2 : Int} {K : Int → l2_m → Prop}   (h : w138 B σ x1 x2  K) : wC B 138 [vr 32, vi x1, vi x2] σ K := by
  have ck : pm_code 138 = pc_138 := rfl
  unfold w138 at h
  show wW B 138 0 [vr 32, vi x1, vi x2] [] σ K
  obtain ⟨⟨hs1, hs2⟩, h⟩ := h
  refine g_al 1 ck rfl rfl rfl ?_
  refine g_il 2 ck rfl rfl rfl ?_
  refine g_cvi (as := [_]) (rest := []) 5 ck rfl rfl rfl rfl rfl rfl (by decide) rfl rfl rfl rfl (Nat.le_of_ble_eq_true rfl) (s147 hs1 hs2 ?_)
  refine g_ifeq 8 16 ck rfl rfl rfl rg_b2i (fun hc => ?_) (fun hc => ?_)
  · replace h := ite_hf h (b2i_f hc)
    refine g_al 17 ck rfl rfl rfl ?_
    refine g_ic 18 ck rfl rfl ?_
    refine g_cvi (as := [_]) (rest := []) 21 ck rfl rfl rfl rfl rfl rfl (by decide) rfl rfl rfl rfl (Nat.le_of_ble_eq_true rfl) (s145  ?_)
    replace h := h _ rfl
    exact g_ret ck rfl rfl (Or.inl (by decide)) h
  · replace h := ite_ht h (b2i_t hc)
    obtain ⟨hs3, h⟩ := h
    refine g_al 9 ck rfl rfl rfl ?_
    refine g_il 10 ck rfl rfl rfl ?_
    refine g_cvi (as := [_]) (rest := []) 13 ck rfl rfl rfl rfl rfl rfl (by decide) rfl rfl rfl rfl (Nat.le_of_ble_eq_true rfl) (s147 hs3 hs2 ?_)
    refine g_ifne 16 22 ck rfl rfl rfl rg_b2i (fun hc => ?_) (fun hc => ?_)
    · replace h := ite_ht h (b2i_t hc)
      obtain ⟨⟨hs4, hs5⟩, h⟩ := h
      refine g_al 23 ck rfl rfl rfl ?_
      refine r_gfr 26 158 ck rfl rfl rfl (by decide) ?_
      refine g_il 27 ck rfl rfl rfl ?_
      refine g_aal (b := 162) (m := 8) 28 ck rfl rfl rfl hs4 hs5 ?_
      refine g_ic 29 ck rfl rfl ?_
      refine g_cvi (as := [_]) (rest := []) 32 ck rfl rfl rfl rfl rfl rfl (by decide) (isP_c (isP_row (a := 158) (b := 162) (m := 8) rfl hs4 hs5)) rfl rfl rfl (Nat.le_of_ble_eq_true rfl) (wC.mono h (fun y σ'' h => ?_))
      obtain ⟨hs6, h⟩ := h
      refine g_ifeq 35 41 ck rfl rfl rfl hs6 (fun hc => ?_) (fun hc => ?_)
      · replace h := ite_ht h hc
        obtain ⟨⟨hs7, hs8⟩, h⟩ := h
        refine g_al 42 ck rfl rfl rfl ?_
        refine g_al 43 ck rfl rfl rfl ?_
        refine r_gfr 46 109 ck rfl rfl rfl (by decide) ?_
        refine g_al 47 ck rfl rfl rfl ?_
        refine r_gfr 50 158 ck rfl rfl rfl (by decide) ?_
        refine g_il 51 ck rfl rfl rfl ?_
        refine g_aal (b := 162) (m := 8) 52 ck rfl rfl rfl hs7 hs8 ?_
        refine g_al 53 ck rfl rfl rfl ?_
        refine r_gfr 56 159 ck rfl rfl rfl (by decide) ?_
        refine g_cvi (as := [_, _]) (rest := [_]) 59 ck rfl rfl rfl rfl rfl rfl (by decide) rfl rfl rfl rfl (Nat.le_of_ble_eq_true rfl) (wC.mono h (fun y' σ''' h => ?_))
        refine g_il 60 ck rfl rfl rfl ?_
        refine g_cvi (as := [_, _]) (rest := []) 63 ck rfl rfl rfl rfl rfl rfl (by decide) rfl rfl rfl rfl (Nat.le_of_ble_eq_true rfl) (wC.mono h (fun y'' σ'''' h => ?_))
        exact g_ret ck rfl rfl (Or.inl (by decide)) h
      · replace h := ite_hf h hc
        refine g_al 36 ck rfl rfl rfl ?_
        refine g_ic 37 ck rfl rfl ?_
        refine g_cvi (as := [_]) (rest := []) 40 ck rfl rfl rfl rfl rfl rfl (by decide) rfl rfl rfl rfl (Nat.le_of_ble_eq_true rfl) (s145  ?_)
        replace h := h _ rfl
        exact g_ret ck rfl rfl (Or.inl (by decide)) h
    · replace h := ite_hf h (b2i_f (Classical.not_not.mp hc))
      refine g_al 17 ck rfl rfl rfl ?_
      refine g_ic 18 ck rfl rfl ?_
      refine g_cvi (as := [_]) (rest := []) 21 ck rfl rfl rfl rfl rfl rfl (by decide) rfl rfl rfl rfl (Nat.le_of_ble_eq_true rfl) (s145  ?_)
      replace h := h _ rfl
      exact g_ret ck rfl rfl (Or.inl (by decide)) h
/-! 139 TermDesk.complete(I)I -/
def w139_48 (B : va_E) (σ : l2_m) (x1 : Int) (x3 : Int) (x4 : Int) (x5 : Int) (X35 : Int → l2_m → Prop) (K : Int → l2_m → Prop) : Prop := lz2 (fun X48 x5 σ => (rg x5 ∧ (if x5 < 8 then ((rg x1 ∧ 0 ≤ x4 ∧ x4 < 32) ∧ ((((bit x1 x4) = 1) → 0 ≤ x5 ∧ x5 < 32) ∧ (if ((bit x1 x4) = 1) ∧ ((bit x1 x5) = 1) then (wC B 162 [vr 32, vi x4, vi x5, vi x1] σ (fun y σ' => (rg y ∧ (if y = 0 then (∀ σ'''' : l2_m, σ'''' = trb σ' 3 → K (-1) σ'''') else (rg (σ' 76 2) ∧ (if 0 < (σ' 76 2) then (wC B 164 [vr 32, vr 76, vi x3] σ' (fun y' σ'' => (∀ σ''' : l2_m, σ''' = trb σ'' 0 → K x3 σ'''))) else X48 (x5 + 1) σ')))))) else X48 (x5 + 1) σ))) else X35 (x4 + 1) σ))) x5 σ
theorem o139_48 {B : va_E} {σ : l2_m} {x1 : Int} {x3 : Int} {x4 : Int} {x5 : Int} {u2 : Value} {X35 : Int → l2_m → Prop} {K : Int → l2_m → Prop}  (hu2 : (u2.category == 1) = true) (hX35 : ∀ (x4 : Int) (σ : l2_m) (u2 : Value) (u5 : Value), (u2.category == 1) = true → (u5.category == 1) = true → X35 x4 σ → wW B 139 35 [vr 32, vi x1, u2, vi x3, vi x4, u5] [] σ K) (h : w139_48 B σ x1 x3 x4 x5 X35 K) : wW B 139 48 [vr 32, vi x1, u2, vi x3, vi x4, vi x5] [] σ K := by
  have ck : pm_code 139 = pc_139 := rfl
  unfold w139_48 at h
  refine h (fun x5 σ => ∀ u2 : Value, (u2.category == 1) = true → wW B 139 48 [vr 32, vi x1, u2, vi x3, vi x4, vi x5] [] σ K) ?_ u2 hu2
  clear h
  intro x5 σ h u2 hu2
  replace h := (And.imp_right (ite_mp (And.imp_right mg_3s) id)) h
  obtain ⟨hs1, h⟩ := h
  refine g_il 50 ck rfl rfl rfl ?_
  refine g_ic 52 ck rfl rfl ?_
  refine g_icge 55 129 ck rfl rfl rfl hs1 (by decide) (fun hc => ?_) (fun hc => ?_)
  · replace h := ite_hf h (Int.not_lt.mpr hc)
    refine r_ii 132 ck rfl rfl rfl rfl ?_
    refine g_goto 35 ck rfl rfl ?_
    exact hX35 _ _ _ _ hu2 rfl h
  · replace h := ite_ht h (Int.not_le.mp hc)
    obtain ⟨⟨hs2, hs3, hs4⟩, h⟩ := h
    refine g_il 56 ck rfl rfl rfl ?_
    refine g_il 58 ck rfl rfl rfl ?_
    refine g_csi (as := [_, _]) (rest := []) 61 ck rfl rfl rfl rfl rfl (by decide) rfl rfl rfl (Nat.le_of_ble_eq_true rfl) (s152 hs2 hs3 hs4 ?_)
    refine g_ifeq 64 123 ck rfl rfl rfl rg_b2i (fun hc => ?_) (fun hc => ?_)
    · replace h := ite_hf h (b2i_f hc)
      refine r_ii 126 ck rfl rfl rfl rfl ?_
      refine g_goto 48 ck rfl rfl ?_
      exact h _ hu2
    · replace h := ite_ht h (b2i_t hc)
      obtain ⟨⟨hs5, hs6⟩, h⟩ := h
      refine g_il 65 ck rfl rfl rfl ?_
      refine g_il 67 ck rfl rfl rfl ?_
      refine g_csi (as := [_, _]) (rest := []) 70 ck rfl rfl rfl rfl rfl (by decide) rfl rfl rfl (Nat.le_of_ble_eq_true rfl) (s152 hs2 hs5 hs6 ?_)
      refine g_ifeq 73 123 ck rfl rfl rfl rg_b2i (fun hc => ?_) (fun hc => ?_)
      · replace h := ite_hf h (b2i_f hc)
        refine r_ii 126 ck rfl rfl rfl rfl ?_
        refine g_goto 48 ck rfl rfl ?_
        exact h _ hu2
      · replace h := ite_ht h (b2i_t hc)
        refine g_al 74 ck rfl rfl rfl ?_
        refine g_il 76 ck rfl rfl rfl ?_
        refine g_il 78 ck rfl rfl rfl ?_
        refine g_il 79 ck rfl rfl rfl ?_
        refine g_cvi (as := [_, _, _]) (rest := []) 82 ck rfl rfl rfl rfl rfl rfl (by decide) rfl rfl rfl rfl (Nat.le_of_ble_eq_true rfl) (wC.mono h (fun y σ' h => ?_))
        obtain ⟨hs7, h⟩ := h
        refine g_ifne 85 91 ck rfl rfl rfl hs7 (fun hc => ?_) (fun hc => ?_)
        · replace h := ite_hf h hc
          obtain ⟨hs8, h⟩ := h
          refine g_al 92 ck rfl rfl rfl ?_
          refine r_gfr 95 74 ck rfl rfl rfl (by decide) ?_
          refine r_gfr 98 76 ck rfl rfl rfl (by decide) ?_
          refine r_gfi 101 2 ck rfl rfl rfl rfl ?_
          refine g_ifle 104 123 ck rfl rfl rfl hs8 (fun hc => ?_) (fun hc => ?_)
          · replace h := ite_hf h (Int.not_lt.mpr hc)
            refine r_ii 126 ck rfl rfl rfl rfl ?_
            refine g_goto 48 ck rfl rfl ?_
            exact h _ hu2
          · replace h := ite_ht h (Int.not_le.mp hc)
            refine g_al 105 ck rfl rfl rfl ?_
            refine g_al 106 ck rfl rfl rfl ?_
            refine r_gfr 109 74 ck rfl rfl rfl (by decide) ?_
            refine r_gfr 112 76 ck rfl rfl rfl (by decide) ?_
            refine g_il 113 ck rfl rfl rfl ?_
            refine g_cvi (as := [_, _]) (rest := []) 116 ck rfl rfl rfl rfl rfl rfl (by decide) rfl rfl rfl rfl (Nat.le_of_ble_eq_true rfl) (wC.mono h (fun y' σ'' h => ?_))
            refine g_pop 117 ck rfl rfl rfl ?_
            refine g_al 118 ck rfl rfl rfl ?_
            refine g_il 119 ck rfl rfl rfl ?_
            refine g_cvi (as := [_]) (rest := []) 122 ck rfl rfl rfl rfl rfl rfl (by decide) rfl rfl rfl rfl (Nat.le_of_ble_eq_true rfl) (s146  ?_)
            replace h := h _ rfl
            exact g_ret ck rfl rfl (Or.inl (by decide)) h
        · replace h := ite_ht h (Classical.not_not.mp hc)
          refine g_al 86 ck rfl rfl rfl ?_
          refine g_ic 87 ck rfl rfl ?_
          refine g_cvi (as := [_]) (rest := []) 90 ck rfl rfl rfl rfl rfl rfl (by decide) rfl rfl rfl rfl (Nat.le_of_ble_eq_true rfl) (s145  ?_)
          replace h := h _ rfl
          exact g_ret ck rfl rfl (Or.inl (by decide)) h
def w139_35 (B : va_E) (σ : l2_m) (x1 : Int) (x3 : Int) (x4 : Int)  (K : Int → l2_m → Prop) : Prop := lz2 (fun X35 x4 σ => (rg x4 ∧ (if x4 < 8 then (∀ x5 : Int, x5 = (x4 + 1) → w139_48 B σ x1 x3 x4 x5 X35 K) else (∀ σ' : l2_m, σ' = trb σ 0 → K (-2) σ')))) x4 σ
theorem o139_35 {B : va_E} {σ : l2_m} {x1 : Int} {x3 : Int} {x4 : Int} {u2 : Value} {u5 : Value}  {K : Int → l2_m → Prop}  (hu2 : (u2.category == 1) = true) (hu5 : (u5.category == 1) = true)  (h : w139_35 B σ x1 x3 x4  K) : wW B 139 35 [vr 32, vi x1, u2, vi x3, vi x4, u5] [] σ K := by
  have ck : pm_code 139 = pc_139 := rfl
  unfold w139_35 at h
  refine h (fun x4 σ => ∀ u2 : Value, (u2.category == 1) = true → ∀ u5 : Value, (u5.category == 1) = true → wW B 139 35 [vr 32, vi x1, u2, vi x3, vi x4, u5] [] σ K) ?_ u2 hu2 u5 hu5
  clear h
  intro x4 σ h u2 hu2 u5 hu5
  obtain ⟨hs1, h⟩ := h
  refine g_il 37 ck rfl rfl rfl ?_
  refine g_ic 39 ck rfl rfl ?_
  refine g_icge 42 135 ck rfl rfl rfl hs1 (by decide) (fun hc => ?_) (fun hc => ?_)
  · replace h := ite_hf h (Int.not_lt.mpr hc)
    refine g_al 136 ck rfl rfl rfl ?_
    refine g_ic 138 ck rfl rfl ?_
    refine g_cvi (as := [_]) (rest := []) 141 ck rfl rfl rfl rfl rfl rfl (by decide) rfl rfl rfl rfl (Nat.le_of_ble_eq_true rfl) (s146  ?_)
    replace h := h _ rfl
    exact g_ret ck rfl rfl (Or.inl (by decide)) h
  · replace h := ite_ht h (Int.not_le.mp hc)
    refine g_il 44 ck rfl rfl rfl ?_
    refine g_ic 45 ck rfl rfl ?_
    refine g_add 46 ck rfl rfl ?_
    refine r_is 48 ck rfl rfl rfl rfl ?_
    replace h := h _ rfl
    exact o139_48 hu2 (fun _ _ u2 u5 hu2 hu5 hx => hx u2 hu2 u5 hu5) h
def w139_22 (B : va_E) (σ : l2_m) (x1 : Int) (x2 : Int) (x3 : Int)  (K : Int → l2_m → Prop) : Prop := (rg x2 ∧ (if x2 = 0 then w139_35 B σ x1 x3 0 K else (∀ σ' : l2_m, σ' = trb σ x2 → K (-1) σ')))
theorem o139_22 {B : va_E} {σ : l2_m} {x1 : Int} {x2 : Int} {x3 : Int} {u4 : Value} {u5 : Value}  {K : Int → l2_m → Prop}  (hu4 : (u4.category == 1) = true) (hu5 : (u5.category == 1) = true)  (h : w139_22 B σ x1 x2 x3  K) : wW B 139 22 [vr 32, vi x1, vi x2, vi x3, u4, u5] [] σ K := by
  have ck : pm_code 139 = pc_139 := rfl
  unfold w139_22 at h
  obtain ⟨hs1, h⟩ := h
  refine g_il 23 ck rfl rfl rfl ?_
  refine g_ifeq 26 32 ck rfl rfl rfl hs1 (fun hc => ?_) (fun hc => ?_)
  · replace h := ite_ht h hc
    refine g_ic 33 ck rfl rfl ?_
    refine r_is 35 ck rfl rfl rfl rfl ?_
    exact o139_35 rfl hu5 h
  · replace h := ite_hf h hc
    refine g_al 27 ck rfl rfl rfl ?_
    refine g_il 28 ck rfl rfl rfl ?_
    refine g_cvi (as := [_]) (rest := []) 31 ck rfl rfl rfl rfl rfl rfl (by decide) rfl rfl rfl rfl (Nat.le_of_ble_eq_true rfl) (s145  ?_)
    replace h := h _ rfl
    exact g_ret ck rfl rfl (Or.inl (by decide)) h
def w139 (B : va_E) (σ : l2_m) (x1 : Int) (K : Int → l2_m → Prop) : Prop := (wC B 153 [vr 32, vi x1] σ (fun y σ' => (wC B 160 [vr 32] σ' (fun y' σ'' => (rg y ∧ (((y = 0) → rg y') ∧ (if (y = 0) ∧ y' = (-1) then w139_22 B σ'' x1 5 y' K else w139_22 B σ'' x1 y y' K)))))))
theorem o139 {B : va_E} {σ : l2_m} {x1 : Int} {K : Int → l2_m → Prop}   (h : w139 B σ x1  K) : wC B 139 [vr 32, vi x1] σ K := by
  have ck : pm_code 139 = pc_139 := rfl
  unfold w139 at h
  show wW B 139 0 [vr 32, vi x1, pm_un, pm_un, pm_un, pm_un] [] σ K
  replace h := (fun h => wC.mono h (fun _ _ => (fun h => wC.mono h (fun _ _ => (And.imp_right mg_3s))))) h
  refine g_al 1 ck rfl rfl rfl ?_
  refine g_il 2 ck rfl rfl rfl ?_
  refine g_cvi (as := [_]) (rest := []) 5 ck rfl rfl rfl rfl rfl rfl (by decide) rfl rfl rfl rfl (Nat.le_of_ble_eq_true rfl) (wC.mono h (fun y σ' h => ?_))
  refine r_is 6 ck rfl rfl rfl rfl ?_
  refine g_al 7 ck rfl rfl rfl ?_
  refine g_cvi (as := []) (rest := []) 10 ck rfl rfl rfl rfl rfl rfl (by decide) rfl rfl rfl rfl (Nat.le_of_ble_eq_true rfl) (wC.mono h (fun y' σ'' h => ?_))
  obtain ⟨hs1, h⟩ := h
  refine r_is 11 ck rfl rfl rfl rfl ?_
  refine g_il 12 ck rfl rfl rfl ?_
  refine g_ifne 15 22 ck rfl rfl rfl hs1 (fun hc => ?_) (fun hc => ?_)
  · replace h := ite_hf h hc
    exact o139_22 rfl rfl h
  · replace h := ite_ht h (Classical.not_not.mp hc)
    obtain ⟨hs2, h⟩ := h
    refine g_il 16 ck rfl rfl rfl ?_
    refine g_ic 17 ck rfl rfl ?_
    refine g_icne 20 22 ck rfl rfl rfl hs2 (by decide) (fun hc => ?_) (fun hc => ?_)
    · replace h := ite_hf h hc
      exact o139_22 rfl rfl h
    · replace h := ite_ht h (Classical.not_not.mp hc)
      refine g_ic 21 ck rfl rfl ?_
      refine r_is 22 ck rfl rfl rfl rfl ?_
      exact o139_22 rfl rfl h
/-! 140 TermDesk.order(III)I -/
def w140_63 (B : va_E) (σ : l2_m) (x4 : Int)  (K : Int → l2_m → Prop) : Prop := (rg x4 ∧ (if x4 = 0 then (∀ σ' : l2_m, σ' = trb σ 0 → K 1 σ') else (∀ σ'' : l2_m, σ'' = trb σ 0 → K 0 σ'')))
theorem o140_63 {B : va_E} {σ : l2_m} {x4 : Int} {u1 : Value} {u2 : Value} {u3 : Value}  {K : Int → l2_m → Prop}  (hu1 : (u1.category == 1) = true) (hu2 : (u2.category == 1) = true) (hu3 : (u3.category == 1) = true)  (h : w140_63 B σ x4  K) : wW B 140 63 [vr 32, u1, u2, u3, vi x4] [] σ K := by
  have ck : pm_code 140 = pc_140 := rfl
  unfold w140_63 at h
  obtain ⟨hs1, h⟩ := h
  refine g_al 64 ck rfl rfl rfl ?_
  refine g_il 66 ck rfl rfl rfl ?_
  refine g_ifeq 69 73 ck rfl rfl rfl hs1 (fun hc => ?_) (fun hc => ?_)
  · replace h := ite_ht h hc
    refine g_ic 74 ck rfl rfl ?_
    refine g_cvi (as := [_]) (rest := []) 77 ck rfl rfl rfl rfl rfl rfl (by decide) rfl rfl rfl rfl (Nat.le_of_ble_eq_true rfl) (s146  ?_)
    replace h := h _ rfl
    exact g_ret ck rfl rfl (Or.inl (by decide)) h
  · replace h := ite_hf h hc
    refine g_ic 70 ck rfl rfl ?_
    refine g_goto 74 ck rfl rfl ?_
    refine g_cvi (as := [_]) (rest := []) 77 ck rfl rfl rfl rfl rfl rfl (by decide) rfl rfl rfl rfl (Nat.le_of_ble_eq_true rfl) (s146  ?_)
    replace h := h _ rfl
    exact g_ret ck rfl rfl (Or.inl (by decide)) h
def w140 (B : va_E) (σ : l2_m) (x1 : Int) (x2 : Int) (x3 : Int) (K : Int → l2_m → Prop) : Prop := (rg (σ 32 5) ∧ (if (σ 32 5) = 0 then (∀ σ'''' : l2_m, σ'''' = trb σ 1 → K (-1) σ'''') else ((rg x1 ∧ rg x2 ∧ rg x3) ∧ (if isOr x1 x2 x3 then ((rg (σ 36 0) ∧ rg (σ 36 1) ∧ rg (σ 36 2)) ∧ ∀ x4 : Int, x4 = (b2i ((σ 36 0) = x1 ∧ (σ 36 1) = x2 ∧ (σ 36 2) = x3)) → (0 ≤ (σ 128 5) ∧ (σ 128 5) < 8 ∧ 0 ≤ (σ 128 6) ∧ (σ 128 6) ≤ 8) ∧ ∀ σ' : l2_m, σ' = kpO σ 36 → (if (σ 36 0) = x1 ∧ (σ 36 1) = x2 ∧ (σ 36 2) = x3 then w140_63 B σ' x4 K else (wC B 165 [vr 32, vi x1, vi x2, vi x3] σ' (fun _ σ'' => w140_63 B σ'' x4 K)))) else (∀ σ''' : l2_m, σ''' = trb σ 2 → K (-1) σ''')))))
theorem o140 {B : va_E} {σ : l2_m} {x1 : Int} {x2 : Int} {x3 : Int} {K : Int → l2_m → Prop}   (h : w140 B σ x1 x2 x3  K) : wC B 140 [vr 32, vi x1, vi x2, vi x3] σ K := by
  have ck : pm_code 140 = pc_140 := rfl
  unfold w140 at h
  show wW B 140 0 [vr 32, vi x1, vi x2, vi x3, pm_un] [] σ K
  obtain ⟨hs1, h⟩ := h
  refine g_al 1 ck rfl rfl rfl ?_
  refine r_gfi 4 5 ck rfl rfl rfl rfl ?_
  refine g_ifne 7 13 ck rfl rfl rfl hs1 (fun hc => ?_) (fun hc => ?_)
  · replace h := ite_hf h hc
    obtain ⟨⟨hs2, hs3, hs4⟩, h⟩ := h
    refine g_il 14 ck rfl rfl rfl ?_
    refine g_il 15 ck rfl rfl rfl ?_
    refine g_il 16 ck rfl rfl rfl ?_
    refine g_csi (as := [_, _, _]) (rest := []) 19 ck rfl rfl rfl rfl rfl (by decide) rfl rfl rfl (Nat.le_of_ble_eq_true rfl) (s149 hs2 hs3 hs4 ?_)
    refine g_ifne 22 28 ck rfl rfl rfl rg_b2i (fun hc => ?_) (fun hc => ?_)
    · replace h := ite_ht h (b2i_t hc)
      obtain ⟨⟨hs5, hs6, hs7⟩, h⟩ := h
      refine g_al 29 ck rfl rfl rfl ?_
      refine r_gfr 32 36 ck rfl rfl rfl (by decide) ?_
      refine g_il 33 ck rfl rfl rfl ?_
      refine g_il 34 ck rfl rfl rfl ?_
      refine g_il 35 ck rfl rfl rfl ?_
      refine g_cvi (as := [_, _, _]) (rest := []) 38 ck rfl rfl rfl rfl rfl rfl (by decide) rfl rfl rfl rfl (Nat.le_of_ble_eq_true rfl) (s77 rfl hs5 hs6 hs7 hs2 hs3 hs4 ?_)
      refine r_is 40 ck rfl rfl rfl rfl ?_
      replace h := h _ rfl
      obtain ⟨⟨hs8, hs9, hs10, hs11⟩, h⟩ := h
      refine g_al 41 ck rfl rfl rfl ?_
      refine r_gfr 44 128 ck rfl rfl rfl (by decide) ?_
      refine g_al 45 ck rfl rfl rfl ?_
      refine r_gfr 48 36 ck rfl rfl rfl (by decide) ?_
      refine g_cvv (as := [_]) (rest := []) 51 ck rfl rfl rfl rfl rfl rfl rfl rfl rfl rfl (Nat.le_of_ble_eq_true rfl) (s65 rfl (by decide) hs8 hs9 hs10 hs11 ?_)
      replace h := h _ rfl
      refine g_il 53 ck rfl rfl rfl ?_
      refine g_ifne 56 63 ck rfl rfl rfl rg_b2i (fun hc => ?_) (fun hc => ?_)
      · replace h := ite_ht h (b2i_t hc)
        exact o140_63 rfl rfl rfl h
      · replace h := ite_hf h (b2i_f (Classical.not_not.mp hc))
        refine g_al 57 ck rfl rfl rfl ?_
        refine g_il 58 ck rfl rfl rfl ?_
        refine g_il 59 ck rfl rfl rfl ?_
        refine g_il 60 ck rfl rfl rfl ?_
        refine g_cvv (as := [_, _, _]) (rest := []) 63 ck rfl rfl rfl rfl rfl rfl rfl rfl rfl rfl (Nat.le_of_ble_eq_true rfl) (wC.mono h (fun _ σ'' h => ?_))
        exact o140_63 rfl rfl rfl h
    · replace h := ite_hf h (b2i_f (Classical.not_not.mp hc))
      refine g_al 23 ck rfl rfl rfl ?_
      refine g_ic 24 ck rfl rfl ?_
      refine g_cvi (as := [_]) (rest := []) 27 ck rfl rfl rfl rfl rfl rfl (by decide) rfl rfl rfl rfl (Nat.le_of_ble_eq_true rfl) (s145  ?_)
      replace h := h _ rfl
      exact g_ret ck rfl rfl (Or.inl (by decide)) h
  · replace h := ite_ht h (Classical.not_not.mp hc)
    refine g_al 8 ck rfl rfl rfl ?_
    refine g_ic 9 ck rfl rfl ?_
    refine g_cvi (as := [_]) (rest := []) 12 ck rfl rfl rfl rfl rfl rfl (by decide) rfl rfl rfl rfl (Nat.le_of_ble_eq_true rfl) (s145  ?_)
    replace h := h _ rfl
    exact g_ret ck rfl rfl (Or.inl (by decide)) h
/-! 141 TermDesk.undo()Z -/
def w141 (B : va_E) (σ : l2_m)  (K : Int → l2_m → Prop) : Prop := (rg (σ 128 6) ∧ (if (σ 128 6) = 0 then (∀ σ'''''' : l2_m, σ'''''' = trb σ 1 → K 0 σ'''''') else ((0 ≤ (σ 128 5) ∧ (σ 128 5) < 8 ∧ 0 ≤ (σ 128 6) ∧ (σ 128 6) ≤ 8) ∧ ∀ σ' : l2_m, σ' = tkn σ → ∀ x1 : Int, x1 = (((σ 128 5) + 7) % 8) → (0 ≤ x1 ∧ x1 < 8) ∧ ∀ x2 : Int, x2 = (σ' 129 x1) → (rg x2 ∧ ((σ' 32 5) = 0 ∨ (σ' 32 5) = 1)) ∧ (if (σ' 32 5) = 1 ∧ 0 ≤ x2 ∧ x2 < 8 then ((0 ≤ x2 ∧ x2 < 8 ∧ (162 + 3 * Int.toNat x2) ≠ (134 + 3 * Int.toNat x1) ∧ 0 ≤ (σ' (134 + 3 * Int.toNat x1) 2) ∧ (σ' (134 + 3 * Int.toNat x1) 2) ≤ 60) ∧ ∀ σ'''' : l2_m, σ'''' = cpP σ' (162 + 3 * Int.toNat x2) (134 + 3 * Int.toNat x1) → ∀ σ''''' : l2_m, σ''''' = trb σ'''' 0 → K 1 σ''''') else (wC B 165 [vr 32, vi (σ' 130 x1), vi (σ' 131 x1), vi (σ' 132 x1)] σ' (fun _ σ'' => (∀ σ''' : l2_m, σ''' = trb σ'' 0 → K 1 σ''')))))))
theorem o141 {B : va_E} {σ : l2_m}  {K : Int → l2_m → Prop}   (h : w141 B σ   K) : wC B 141 [vr 32] σ K := by
  have ck : pm_code 141 = pc_141 := rfl
  unfold w141 at h
  show wW B 141 0 [vr 32, pm_un, pm_un] [] σ K
  obtain ⟨hs1, h⟩ := h
  refine g_al 1 ck rfl rfl rfl ?_
  refine r_gfr 4 128 ck rfl rfl rfl (by decide) ?_
  refine r_gfi 7 6 ck rfl rfl rfl rfl ?_
  refine g_ifne 10 18 ck rfl rfl rfl hs1 (fun hc => ?_) (fun hc => ?_)
  · replace h := ite_hf h hc
    obtain ⟨⟨hs2, hs3, hs4, hs5⟩, h⟩ := h
    refine g_al 19 ck rfl rfl rfl ?_
    refine r_gfr 22 128 ck rfl rfl rfl (by decide) ?_
    refine g_cvi (as := []) (rest := []) 25 ck rfl rfl rfl rfl rfl rfl (by decide) rfl rfl rfl rfl (Nat.le_of_ble_eq_true rfl) (s67 hs2 hs3 hs4 hs5 ?_)
    replace h := h _ rfl
    refine r_is 26 ck rfl rfl rfl rfl ?_
    replace h := h _ rfl
    obtain ⟨⟨hs6, hs7⟩, h⟩ := h
    refine g_al 27 ck rfl rfl rfl ?_
    refine r_gfr 30 128 ck rfl rfl rfl (by decide) ?_
    refine r_gfr 33 129 ck rfl rfl rfl (by decide) ?_
    refine g_il 34 ck rfl rfl rfl ?_
    refine g_ial (m := 8) 35 ck rfl rfl rfl hs6 hs7 ?_
    refine r_is 36 ck rfl rfl rfl rfl ?_
    replace h := h _ rfl
    obtain ⟨⟨hs8, hs9⟩, h⟩ := h
    refine g_al 37 ck rfl rfl rfl ?_
    refine g_il 38 ck rfl rfl rfl ?_
    refine g_cvi (as := [_]) (rest := []) 41 ck rfl rfl rfl rfl rfl rfl (by decide) rfl rfl rfl rfl (Nat.le_of_ble_eq_true rfl) (s147 hs8 hs9 ?_)
    refine g_ifeq 44 65 ck rfl rfl rfl rg_b2i (fun hc => ?_) (fun hc => ?_)
    · replace h := ite_hf h (b2i_f hc)
      refine g_al 66 ck rfl rfl rfl ?_
      refine g_al 67 ck rfl rfl rfl ?_
      refine r_gfr 70 128 ck rfl rfl rfl (by decide) ?_
      refine r_gfr 73 130 ck rfl rfl rfl (by decide) ?_
      refine g_il 74 ck rfl rfl rfl ?_
      refine g_ial (m := 8) 75 ck rfl rfl rfl hs6 hs7 ?_
      refine g_al 76 ck rfl rfl rfl ?_
      refine r_gfr 79 128 ck rfl rfl rfl (by decide) ?_
      refine r_gfr 82 131 ck rfl rfl rfl (by decide) ?_
      refine g_il 83 ck rfl rfl rfl ?_
      refine g_ial (m := 8) 84 ck rfl rfl rfl hs6 hs7 ?_
      refine g_al 85 ck rfl rfl rfl ?_
      refine r_gfr 88 128 ck rfl rfl rfl (by decide) ?_
      refine r_gfr 91 132 ck rfl rfl rfl (by decide) ?_
      refine g_il 92 ck rfl rfl rfl ?_
      refine g_ial (m := 8) 93 ck rfl rfl rfl hs6 hs7 ?_
      refine g_cvv (as := [_, _, _]) (rest := []) 96 ck rfl rfl rfl rfl rfl rfl rfl rfl rfl rfl (Nat.le_of_ble_eq_true rfl) (wC.mono h (fun _ σ'' h => ?_))
      refine g_al 97 ck rfl rfl rfl ?_
      refine g_ic 98 ck rfl rfl ?_
      refine g_cvi (as := [_]) (rest := []) 101 ck rfl rfl rfl rfl rfl rfl (by decide) rfl rfl rfl rfl (Nat.le_of_ble_eq_true rfl) (s146  ?_)
      replace h := h _ rfl
      refine g_pop 102 ck rfl rfl rfl ?_
      refine g_ic 103 ck rfl rfl ?_
      exact g_retb ck rfl rfl (Or.inr rfl) h
    · replace h := ite_ht h (b2i_t hc)
      obtain ⟨⟨hs10, hs11, hs12, hs13, hs14⟩, h⟩ := h
      refine g_al 45 ck rfl rfl rfl ?_
      refine r_gfr 48 158 ck rfl rfl rfl (by decide) ?_
      refine g_il 49 ck rfl rfl rfl ?_
      refine g_aal (b := 162) (m := 8) 50 ck rfl rfl rfl hs10 hs11 ?_
      refine g_al 51 ck rfl rfl rfl ?_
      refine r_gfr 54 128 ck rfl rfl rfl (by decide) ?_
      refine r_gfr 57 133 ck rfl rfl rfl (by decide) ?_
      refine g_il 58 ck rfl rfl rfl ?_
      refine g_aal (b := 134) (m := 8) 59 ck rfl rfl rfl hs6 hs7 ?_
      refine g_cvv (as := [_]) (rest := []) 62 ck rfl rfl rfl rfl rfl rfl (isP_c (isP_row (a := 158) (b := 162) (m := 8) rfl hs10 hs11)) rfl rfl rfl (Nat.le_of_ble_eq_true rfl) (s83 (isP_row (a := 158) (b := 162) (m := 8) rfl hs10 hs11) (isP_row (a := 133) (b := 134) (m := 8) rfl hs6 hs7) hs12 hs13 hs14 ?_)
      replace h := h _ rfl
      refine g_goto 96 ck rfl rfl ?_
      refine g_al 97 ck rfl rfl rfl ?_
      refine g_ic 98 ck rfl rfl ?_
      refine g_cvi (as := [_]) (rest := []) 101 ck rfl rfl rfl rfl rfl rfl (by decide) rfl rfl rfl rfl (Nat.le_of_ble_eq_true rfl) (s146  ?_)
      replace h := h _ rfl
      refine g_pop 102 ck rfl rfl rfl ?_
      refine g_ic 103 ck rfl rfl ?_
      exact g_retb ck rfl rfl (Or.inr rfl) h
  · replace h := ite_ht h (Classical.not_not.mp hc)
    refine g_al 11 ck rfl rfl rfl ?_
    refine g_ic 12 ck rfl rfl ?_
    refine g_cvi (as := [_]) (rest := []) 15 ck rfl rfl rfl rfl rfl rfl (by decide) rfl rfl rfl rfl (Nat.le_of_ble_eq_true rfl) (s145  ?_)
    replace h := h _ rfl
    refine g_pop 16 ck rfl rfl rfl ?_
    refine g_ic 17 ck rfl rfl ?_
    exact g_retb ck rfl rfl (Or.inl rfl) h
/-! 142 TermDesk.constant(I)I -/
def w142_4 (B : va_E) (σ : l2_m) (x1 : Int) (x2 : Int) (x3 : Int)  (K : Int → l2_m → Prop) : Prop := lz2 (fun X4 x2 x3 => (rg x3 ∧ (if x3 < 8 then ((0 ≤ x3 ∧ x3 < 8 ∧ rg (σ (162 + 3 * Int.toNat x3) 2) ∧ rg (σ ((162 + 3 * Int.toNat x3) + 1) 0)) ∧ (if (σ (162 + 3 * Int.toNat x3) 2) = 1 ∧ (σ ((162 + 3 * Int.toNat x3) + 1) 0) = 0 then ((rg x2 ∧ rg x1) ∧ (if x2 = x1 then K x3 σ else X4 (x2 + 1) (x3 + 1))) else X4 x2 (x3 + 1))) else K (-1) σ))) x2 x3
theorem o142_4 {B : va_E} {σ : l2_m} {x1 : Int} {x2 : Int} {x3 : Int}   {K : Int → l2_m → Prop}    (h : w142_4 B σ x1 x2 x3  K) : wW B 142 4 [vr 32, vi x1, vi x2, vi x3] [] σ K := by
  have ck : pm_code 142 = pc_142 := rfl
  unfold w142_4 at h
  refine h (fun x2 x3 => wW B 142 4 [vr 32, vi x1, vi x2, vi x3] [] σ K) ?_
  clear h
  intro x2 x3 h
  obtain ⟨hs1, h⟩ := h
  refine g_il 5 ck rfl rfl rfl ?_
  refine g_ic 7 ck rfl rfl ?_
  refine g_icge 10 38 ck rfl rfl rfl hs1 (by decide) (fun hc => ?_) (fun hc => ?_)
  · replace h := ite_hf h (Int.not_lt.mpr hc)
    exact r_thr rfl h
  · replace h := ite_ht h (Int.not_le.mp hc)
    obtain ⟨⟨hs2, hs3, hs4, hs5⟩, h⟩ := h
    refine g_al 11 ck rfl rfl rfl ?_
    refine r_gfr 14 158 ck rfl rfl rfl (by decide) ?_
    refine g_il 15 ck rfl rfl rfl ?_
    refine g_aal (b := 162) (m := 8) 16 ck rfl rfl rfl hs2 hs3 ?_
    refine g_cvi (as := []) (rest := []) 19 ck rfl rfl rfl rfl rfl rfl (by decide) (isP_c (isP_row (a := 158) (b := 162) (m := 8) rfl hs2 hs3)) rfl rfl rfl (Nat.le_of_ble_eq_true rfl) (s88 (isP_row (a := 158) (b := 162) (m := 8) rfl hs2 hs3) hs4 hs5 ?_)
    refine g_ifeq 22 32 ck rfl rfl rfl rg_b2i (fun hc => ?_) (fun hc => ?_)
    · replace h := ite_hf h (b2i_f hc)
      refine r_ii 35 ck rfl rfl rfl rfl ?_
      refine g_goto 4 ck rfl rfl ?_
      exact h
    · replace h := ite_ht h (b2i_t hc)
      obtain ⟨⟨hs6, hs7⟩, h⟩ := h
      refine g_il 23 ck rfl rfl rfl ?_
      refine g_il 24 ck rfl rfl rfl ?_
      refine g_icne 27 29 ck rfl rfl rfl hs6 hs7 (fun hc => ?_) (fun hc => ?_)
      · replace h := ite_hf h hc
        refine r_ii 32 ck rfl rfl rfl rfl ?_
        refine r_ii 35 ck rfl rfl rfl rfl ?_
        refine g_goto 4 ck rfl rfl ?_
        exact h
      · replace h := ite_ht h (Classical.not_not.mp hc)
        refine g_il 28 ck rfl rfl rfl ?_
        exact g_ret ck rfl rfl (Or.inr hs2) h
def w142 (B : va_E) (σ : l2_m) (x1 : Int) (K : Int → l2_m → Prop) : Prop := w142_4 B σ x1 0 0 K
theorem o142 {B : va_E} {σ : l2_m} {x1 : Int} {K : Int → l2_m → Prop}   (h : w142 B σ x1  K) : wC B 142 [vr 32, vi x1] σ K := by
  have ck : pm_code 142 = pc_142 := rfl
  unfold w142 at h
  show wW B 142 0 [vr 32, vi x1, pm_un, pm_un] [] σ K
  refine g_ic 1 ck rfl rfl ?_
  refine r_is 2 ck rfl rfl rfl rfl ?_
  refine g_ic 3 ck rfl rfl ?_
  refine r_is 4 ck rfl rfl rfl rfl ?_
  exact o142_4  h
/-! 143 TermDesk.size(I)I -/
def w143 (B : va_E) (σ : l2_m) (x1 : Int) (K : Int → l2_m → Prop) : Prop := (rg x1 ∧ (if x1 = 0 then K (σ 32 1) σ else (if x1 = 1 then K (σ 128 6) σ else (if x1 = 2 then K (sumN (fun j => σ (162 + 3 * Int.toNat j) 2) 8) σ else K (-1) σ))))
theorem o143 {B : va_E} {σ : l2_m} {x1 : Int} {K : Int → l2_m → Prop}   (h : w143 B σ x1  K) : wC B 143 [vr 32, vi x1] σ K := by
  have ck : pm_code 143 = pc_143 := rfl
  unfold w143 at h
  show wW B 143 0 [vr 32, vi x1] [] σ K
  obtain ⟨hs1, h⟩ := h
  refine g_il 1 ck rfl rfl rfl ?_
  by_cases hc0 : x1 = 0
  · replace h := ite_ht h hc0
    refine g_sw 28 ck rfl hs1 (by rw [hc0]; rfl) ?_
    refine g_al 29 ck rfl rfl rfl ?_
    refine r_gfi 32 1 ck rfl rfl rfl rfl ?_
    exact g_ret ck rfl rfl (Or.inl (by decide)) h
  replace h := ite_hf h hc0
  by_cases hc1 : x1 = 1
  · replace h := ite_ht h hc1
    refine g_sw 33 ck rfl hs1 (by rw [hc1]; rfl) ?_
    refine g_al 34 ck rfl rfl rfl ?_
    refine r_gfr 37 128 ck rfl rfl rfl (by decide) ?_
    refine r_gfi 40 6 ck rfl rfl rfl rfl ?_
    exact g_ret ck rfl rfl (Or.inl (by decide)) h
  replace h := ite_hf h hc1
  by_cases hc2 : x1 = 2
  · replace h := ite_ht h hc2
    refine g_sw 41 ck rfl hs1 (by rw [hc2]; rfl) ?_
    refine g_al 42 ck rfl rfl rfl ?_
    refine g_cvi (as := []) (rest := []) 45 ck rfl rfl rfl rfl rfl rfl (by decide) rfl rfl rfl rfl (Nat.le_of_ble_eq_true rfl) (s159  ?_)
    exact g_ret ck rfl rfl (Or.inl (by decide)) h
  replace h := ite_hf h hc2
  refine g_sw 46 ck rfl hs1 (by unfold l2_sw; rw [if_pos (by omega)]; rfl) ?_
  refine g_ic 47 ck rfl rfl ?_
  exact g_ret ck rfl rfl (Or.inl (by decide)) h
/-! 153 TermDesk.setTrouble(I)I -/
def w153_25 (B : va_E) (σ : l2_m) (x1 : Int) (x2 : Int)  (K : Int → l2_m → Prop) : Prop := lz1 (fun X25 x2 => (rg x2 ∧ (if x2 < 8 then ((rg x1 ∧ 0 ≤ x2 ∧ x2 < 32) ∧ ((((bit x1 x2) = 1) → x2 < 8 ∧ rg (σ (162 + 3 * Int.toNat x2) 2)) ∧ (if ((bit x1 x2) = 1) ∧ ((σ (162 + 3 * Int.toNat x2) 2) = 0) then K 5 σ else X25 (x2 + 1)))) else K 0 σ))) x2
theorem o153_25 {B : va_E} {σ : l2_m} {x1 : Int} {x2 : Int}   {K : Int → l2_m → Prop}    (h : w153_25 B σ x1 x2  K) : wW B 153 25 [vr 32, vi x1, vi x2] [] σ K := by
  have ck : pm_code 153 = pc_153 := rfl
  unfold w153_25 at h
  refine h (fun x2 => wW B 153 25 [vr 32, vi x1, vi x2] [] σ K) ?_
  clear h
  intro x2 h
  replace h := (And.imp_right (ite_mp (And.imp_right mg_3s) id)) h
  obtain ⟨hs1, h⟩ := h
  refine g_il 26 ck rfl rfl rfl ?_
  refine g_ic 28 ck rfl rfl ?_
  refine g_icge 31 59 ck rfl rfl rfl hs1 (by decide) (fun hc => ?_) (fun hc => ?_)
  · replace h := ite_hf h (Int.not_lt.mpr hc)
    refine g_ic 60 ck rfl rfl ?_
    exact g_ret ck rfl rfl (Or.inl (by decide)) h
  · replace h := ite_ht h (Int.not_le.mp hc)
    obtain ⟨⟨hs2, hs3, hs4⟩, h⟩ := h
    refine g_il 32 ck rfl rfl rfl ?_
    refine g_il 33 ck rfl rfl rfl ?_
    refine g_csi (as := [_, _]) (rest := []) 36 ck rfl rfl rfl rfl rfl (by decide) rfl rfl rfl (Nat.le_of_ble_eq_true rfl) (s152 hs2 hs3 hs4 ?_)
    refine g_ifeq 39 53 ck rfl rfl rfl rg_b2i (fun hc => ?_) (fun hc => ?_)
    · replace h := ite_hf h (b2i_f hc)
      refine r_ii 56 ck rfl rfl rfl rfl ?_
      refine g_goto 25 ck rfl rfl ?_
      exact h
    · replace h := ite_ht h (b2i_t hc)
      obtain ⟨⟨hs5, hs6⟩, h⟩ := h
      refine g_al 40 ck rfl rfl rfl ?_
      refine r_gfr 43 158 ck rfl rfl rfl (by decide) ?_
      refine g_il 44 ck rfl rfl rfl ?_
      refine g_aal (b := 162) (m := 8) 45 ck rfl rfl rfl hs3 hs5 ?_
      refine r_gfi 48 2 ck rfl rfl (isP_2 (isP_row (a := 158) (b := 162) (m := 8) rfl hs3 hs5)) rfl ?_
      refine g_ifne 51 53 ck rfl rfl rfl hs6 (fun hc => ?_) (fun hc => ?_)
      · replace h := ite_hf h hc
        refine r_ii 56 ck rfl rfl rfl rfl ?_
        refine g_goto 25 ck rfl rfl ?_
        exact h
      · replace h := ite_ht h (Classical.not_not.mp hc)
        refine g_ic 52 ck rfl rfl ?_
        exact g_ret ck rfl rfl (Or.inl (by decide)) h
def w153 (B : va_E) (σ : l2_m) (x1 : Int) (K : Int → l2_m → Prop) : Prop := (rg (σ 32 5) ∧ (if (σ 32 5) = 0 then K 1 σ else (rg x1 ∧ (if (x1 < 1) ∨ (255 < x1) then K 2 σ else w153_25 B σ x1 0 K))))
theorem o153 {B : va_E} {σ : l2_m} {x1 : Int} {K : Int → l2_m → Prop}   (h : w153 B σ x1  K) : wC B 153 [vr 32, vi x1] σ K := by
  have ck : pm_code 153 = pc_153 := rfl
  unfold w153 at h
  show wW B 153 0 [vr 32, vi x1, pm_un] [] σ K
  replace h := (And.imp_right (ite_mp id (And.imp_right mg_1))) h
  obtain ⟨hs1, h⟩ := h
  refine g_al 1 ck rfl rfl rfl ?_
  refine r_gfi 4 5 ck rfl rfl rfl rfl ?_
  refine g_ifne 7 9 ck rfl rfl rfl hs1 (fun hc => ?_) (fun hc => ?_)
  · replace h := ite_hf h hc
    obtain ⟨hs2, h⟩ := h
    refine g_il 10 ck rfl rfl rfl ?_
    refine g_ic 11 ck rfl rfl ?_
    refine g_iclt 14 21 ck rfl rfl rfl hs2 (by decide) (fun hc => ?_) (fun hc => ?_)
    · replace h := ite_ht h hc
      refine g_ic 22 ck rfl rfl ?_
      exact g_ret ck rfl rfl (Or.inl (by decide)) h
    · replace h := ite_hf h hc
      refine g_il 15 ck rfl rfl rfl ?_
      refine g_ic 18 ck rfl rfl ?_
      refine g_icle 21 23 ck rfl rfl rfl hs2 (by decide) (fun hc => ?_) (fun hc => ?_)
      · replace h := ite_hf h (Int.not_lt.mpr hc)
        refine g_ic 24 ck rfl rfl ?_
        refine r_is 25 ck rfl rfl rfl rfl ?_
        exact o153_25  h
      · replace h := ite_ht h (Int.not_le.mp hc)
        refine g_ic 22 ck rfl rfl ?_
        exact g_ret ck rfl rfl (Or.inl (by decide)) h
  · replace h := ite_ht h (Classical.not_not.mp hc)
    refine g_ic 8 ck rfl rfl ?_
    exact g_ret ck rfl rfl (Or.inl (by decide)) h
/-! 157 TermDesk.takeDesk()V -/
def w157_56 (B : va_E) (σ : l2_m) (x1 : Int)  (K : Int → l2_m → Prop) : Prop := lz2 (fun X56 x1 σ => (rg x1 ∧ (if x1 < 8 then ((0 ≤ x1 ∧ x1 < 8) ∧ ∀ σ''' : l2_m, σ''' = l2_u σ (162 + 3 * Int.toNat x1) 2 0 → rg (σ''' 49 3) ∧ (if x1 < (σ''' 49 3) ∧ (x1 < 6) then ((x1 < 6 ∧ (162 + 3 * Int.toNat x1) ≠ (56 + 3 * Int.toNat x1) ∧ 0 ≤ (σ''' (56 + 3 * Int.toNat x1) 2) ∧ (σ''' (56 + 3 * Int.toNat x1) 2) ≤ 60) ∧ ∀ σ'''' : l2_m, σ'''' = cpP σ''' (162 + 3 * Int.toNat x1) (56 + 3 * Int.toNat x1) → X56 (x1 + 1) σ'''') else X56 (x1 + 1) σ''')) else (∀ σ' : l2_m, σ' = l2_u σ 128 6 0 → ∀ σ'' : l2_m, σ'' = l2_u σ' 32 5 1 → K 0 σ'')))) x1 σ
theorem o157_56 {B : va_E} {σ : l2_m} {x1 : Int}   {K : Int → l2_m → Prop}    (h : w157_56 B σ x1  K) : wW B 157 56 [vr 32, vi x1] [] σ K := by
  have ck : pm_code 157 = pc_157 := rfl
  unfold w157_56 at h
  refine h (fun x1 σ => wW B 157 56 [vr 32, vi x1] [] σ K) ?_
  clear h
  intro x1 σ h
  replace h := (And.imp_right (ite_mp (And.imp_right (fun h x e => (And.imp_right mg_3) (h x e))) id)) h
  obtain ⟨hs1, h⟩ := h
  refine g_il 57 ck rfl rfl rfl ?_
  refine g_ic 59 ck rfl rfl ?_
  refine g_icge 62 113 ck rfl rfl rfl hs1 (by decide) (fun hc => ?_) (fun hc => ?_)
  · replace h := ite_hf h (Int.not_lt.mpr hc)
    refine g_al 114 ck rfl rfl rfl ?_
    refine r_gfr 117 128 ck rfl rfl rfl (by decide) ?_
    refine g_cvv (as := []) (rest := []) 120 ck rfl rfl rfl rfl rfl rfl rfl rfl rfl rfl (Nat.le_of_ble_eq_true rfl) (s63  ?_)
    replace h := h _ rfl
    refine g_al 121 ck rfl rfl rfl ?_
    refine g_ic 122 ck rfl rfl ?_
    refine g_pfb 125 ck rfl rfl rfl 5 rfl (Or.inr rfl) ?_
    replace h := h _ rfl
    exact g_retv ck rfl rfl h
  · replace h := ite_ht h (Int.not_le.mp hc)
    obtain ⟨⟨hs2, hs3⟩, h⟩ := h
    refine g_al 63 ck rfl rfl rfl ?_
    refine r_gfr 66 158 ck rfl rfl rfl (by decide) ?_
    refine g_il 67 ck rfl rfl rfl ?_
    refine g_aal (b := 162) (m := 8) 68 ck rfl rfl rfl hs2 hs3 ?_
    refine g_ic 69 ck rfl rfl ?_
    refine g_pfi 72 ck rfl rfl (isP_2 (isP_row (a := 158) (b := 162) (m := 8) rfl hs2 hs3)) 2 rfl rfl ?_
    replace h := h _ rfl
    obtain ⟨hs4, h⟩ := h
    refine g_il 73 ck rfl rfl rfl ?_
    refine g_al 74 ck rfl rfl rfl ?_
    refine r_gfr 77 49 ck rfl rfl rfl (by decide) ?_
    refine r_gfi 80 3 ck rfl rfl rfl rfl ?_
    refine g_icge 83 107 ck rfl rfl rfl hs1 hs4 (fun hc => ?_) (fun hc => ?_)
    · replace h := ite_hf h (Int.not_lt.mpr hc)
      refine r_ii 110 ck rfl rfl rfl rfl ?_
      refine g_goto 56 ck rfl rfl ?_
      exact h
    · replace h := ite_ht h (Int.not_le.mp hc)
      refine g_il 84 ck rfl rfl rfl ?_
      refine g_ic 86 ck rfl rfl ?_
      refine g_icge 89 107 ck rfl rfl rfl hs1 (by decide) (fun hc => ?_) (fun hc => ?_)
      · replace h := ite_hf h (Int.not_lt.mpr hc)
        refine r_ii 110 ck rfl rfl rfl rfl ?_
        refine g_goto 56 ck rfl rfl ?_
        exact h
      · replace h := ite_ht h (Int.not_le.mp hc)
        obtain ⟨⟨hs5, hs6, hs7, hs8⟩, h⟩ := h
        refine g_al 90 ck rfl rfl rfl ?_
        refine r_gfr 93 158 ck rfl rfl rfl (by decide) ?_
        refine g_il 94 ck rfl rfl rfl ?_
        refine g_aal (b := 162) (m := 8) 95 ck rfl rfl rfl hs2 hs3 ?_
        refine g_al 96 ck rfl rfl rfl ?_
        refine r_gfr 99 49 ck rfl rfl rfl (by decide) ?_
        refine r_gfr 102 54 ck rfl rfl rfl (by decide) ?_
        refine g_il 103 ck rfl rfl rfl ?_
        refine g_aal (b := 56) (m := 6) 104 ck rfl rfl rfl hs2 hs5 ?_
        refine g_cvv (as := [_]) (rest := []) 107 ck rfl rfl rfl rfl rfl rfl (isP_c (isP_row (a := 158) (b := 162) (m := 8) rfl hs2 hs3)) rfl rfl rfl (Nat.le_of_ble_eq_true rfl) (s83 (isP_row (a := 158) (b := 162) (m := 8) rfl hs2 hs3) (isP_row (a := 54) (b := 56) (m := 6) rfl hs2 hs5) hs6 hs7 hs8 ?_)
        replace h := h _ rfl
        refine r_ii 110 ck rfl rfl rfl rfl ?_
        refine g_goto 56 ck rfl rfl ?_
        exact h
def w157 (B : va_E) (σ : l2_m)  (K : Int → l2_m → Prop) : Prop := (wC B 70 [vr 34, vi (σ 50 0)] σ (fun _ σ' => (wC B 75 [vr 36, vi (σ' 52 0), vi (σ' 52 1), vi (σ' 52 2)] σ' (fun _ σ'' => w157_56 B σ'' 0 K))))
theorem o157 {B : va_E} {σ : l2_m}  {K : Int → l2_m → Prop}   (h : w157 B σ   K) : wC B 157 [vr 32] σ K := by
  have ck : pm_code 157 = pc_157 := rfl
  unfold w157 at h
  show wW B 157 0 [vr 32, pm_un] [] σ K
  refine g_al 1 ck rfl rfl rfl ?_
  refine r_gfr 4 34 ck rfl rfl rfl (by decide) ?_
  refine g_al 5 ck rfl rfl rfl ?_
  refine r_gfr 8 49 ck rfl rfl rfl (by decide) ?_
  refine r_gfr 11 50 ck rfl rfl rfl (by decide) ?_
  refine r_gfi 14 0 ck rfl rfl rfl rfl ?_
  refine g_cvv (as := [_]) (rest := []) 17 ck rfl rfl rfl rfl rfl rfl rfl rfl rfl rfl (Nat.le_of_ble_eq_true rfl) (wC.mono h (fun _ σ' h => ?_))
  refine g_al 18 ck rfl rfl rfl ?_
  refine r_gfr 21 36 ck rfl rfl rfl (by decide) ?_
  refine g_al 22 ck rfl rfl rfl ?_
  refine r_gfr 25 49 ck rfl rfl rfl (by decide) ?_
  refine r_gfr 28 52 ck rfl rfl rfl (by decide) ?_
  refine r_gfi 31 0 ck rfl rfl rfl rfl ?_
  refine g_al 32 ck rfl rfl rfl ?_
  refine r_gfr 35 49 ck rfl rfl rfl (by decide) ?_
  refine r_gfr 38 52 ck rfl rfl rfl (by decide) ?_
  refine r_gfi 41 1 ck rfl rfl rfl rfl ?_
  refine g_al 42 ck rfl rfl rfl ?_
  refine r_gfr 45 49 ck rfl rfl rfl (by decide) ?_
  refine r_gfr 48 52 ck rfl rfl rfl (by decide) ?_
  refine r_gfi 51 2 ck rfl rfl rfl rfl ?_
  refine g_cvv (as := [_, _, _]) (rest := []) 54 ck rfl rfl rfl rfl rfl rfl rfl rfl rfl rfl (Nat.le_of_ble_eq_true rfl) (wC.mono h (fun _ σ'' h => ?_))
  refine g_ic 55 ck rfl rfl ?_
  refine r_is 56 ck rfl rfl rfl rfl ?_
  exact o157_56  h
/-! 161 TermDesk.divide(II)I -/
def w161 (B : va_E) (σ : l2_m) (x1 : Int) (x2 : Int) (K : Int → l2_m → Prop) : Prop := (wC B 153 [vr 32, vi x2] σ (fun y σ' => (rg y ∧ (if y = 0 then ((0 ≤ x1 ∧ x1 < 8) ∧ (wC B 45 [vr 74, vr (162 + 3 * Int.toNat x1), vr 158, vi x2] σ' (fun y' σ'' => (rg y' ∧ (if y' = 0 then K 3 σ'' else K 0 σ''))))) else K y σ'))))
theorem o161 {B : va_E} {σ : l2_m} {x1 : Int} {x2 : Int} {K : Int → l2_m → Prop}   (h : w161 B σ x1 x2  K) : wC B 161 [vr 32, vi x1, vi x2] σ K := by
  have ck : pm_code 161 = pc_161 := rfl
  unfold w161 at h
  show wW B 161 0 [vr 32, vi x1, vi x2, pm_un] [] σ K
  refine g_al 1 ck rfl rfl rfl ?_
  refine g_il 2 ck rfl rfl rfl ?_
  refine g_cvi (as := [_]) (rest := []) 5 ck rfl rfl rfl rfl rfl rfl (by decide) rfl rfl rfl rfl (Nat.le_of_ble_eq_true rfl) (wC.mono h (fun y σ' h => ?_))
  obtain ⟨hs1, h⟩ := h
  refine r_is 6 ck rfl rfl rfl rfl ?_
  refine g_il 7 ck rfl rfl rfl ?_
  refine g_ifeq 10 12 ck rfl rfl rfl hs1 (fun hc => ?_) (fun hc => ?_)
  · replace h := ite_ht h hc
    obtain ⟨⟨hs2, hs3⟩, h⟩ := h
    refine g_al 13 ck rfl rfl rfl ?_
    refine r_gfr 16 74 ck rfl rfl rfl (by decide) ?_
    refine g_al 17 ck rfl rfl rfl ?_
    refine r_gfr 20 158 ck rfl rfl rfl (by decide) ?_
    refine g_il 21 ck rfl rfl rfl ?_
    refine g_aal (b := 162) (m := 8) 22 ck rfl rfl rfl hs2 hs3 ?_
    refine g_al 23 ck rfl rfl rfl ?_
    refine r_gfr 26 158 ck rfl rfl rfl (by decide) ?_
    refine g_il 27 ck rfl rfl rfl ?_
    refine g_cvi (as := [_, _, _]) (rest := []) 30 ck rfl rfl rfl rfl rfl rfl (by decide) rfl rfl rfl rfl (Nat.le_of_ble_eq_true rfl) (wC.mono h (fun y' σ'' h => ?_))
    obtain ⟨hs4, h⟩ := h
    refine g_ifeq 33 37 ck rfl rfl rfl hs4 (fun hc => ?_) (fun hc => ?_)
    · replace h := ite_ht h hc
      refine g_ic 38 ck rfl rfl ?_
      exact g_ret ck rfl rfl (Or.inl (by decide)) h
    · replace h := ite_hf h hc
      refine g_ic 34 ck rfl rfl ?_
      refine g_goto 38 ck rfl rfl ?_
      exact g_ret ck rfl rfl (Or.inl (by decide)) h
  · replace h := ite_hf h hc
    refine g_il 11 ck rfl rfl rfl ?_
    exact g_ret ck rfl rfl (Or.inl (by decide)) h
/-! 162 TermDesk.dividePair(III)Z -/
def w162 (B : va_E) (σ : l2_m) (x1 : Int) (x2 : Int) (x3 : Int) (K : Int → l2_m → Prop) : Prop := ((0 ≤ x1 ∧ x1 < 8 ∧ 0 ≤ x2 ∧ x2 < 8) ∧ (wC B 8 [vr 38, vr (162 + 3 * Int.toNat x1), vr (162 + 3 * Int.toNat x2), vr 159] σ (fun y σ' => (rg y ∧ (if y = 0 then K 0 σ' else (wC B 45 [vr 74, vr 159, vr 158, vi x3] σ' (fun y' σ'' => (rg y' ∧ (if y' = 0 then K 0 σ'' else K 1 σ'')))))))))
theorem o162 {B : va_E} {σ : l2_m} {x1 : Int} {x2 : Int} {x3 : Int} {K : Int → l2_m → Prop}   (h : w162 B σ x1 x2 x3  K) : wC B 162 [vr 32, vi x1, vi x2, vi x3] σ K := by
  have ck : pm_code 162 = pc_162 := rfl
  unfold w162 at h
  show wW B 162 0 [vr 32, vi x1, vi x2, vi x3] [] σ K
  obtain ⟨⟨hs1, hs2, hs3, hs4⟩, h⟩ := h
  refine g_al 1 ck rfl rfl rfl ?_
  refine r_gfr 4 38 ck rfl rfl rfl (by decide) ?_
  refine g_al 5 ck rfl rfl rfl ?_
  refine r_gfr 8 158 ck rfl rfl rfl (by decide) ?_
  refine g_il 9 ck rfl rfl rfl ?_
  refine g_aal (b := 162) (m := 8) 10 ck rfl rfl rfl hs1 hs2 ?_
  refine g_al 11 ck rfl rfl rfl ?_
  refine r_gfr 14 158 ck rfl rfl rfl (by decide) ?_
  refine g_il 15 ck rfl rfl rfl ?_
  refine g_aal (b := 162) (m := 8) 16 ck rfl rfl rfl hs3 hs4 ?_
  refine g_al 17 ck rfl rfl rfl ?_
  refine r_gfr 20 159 ck rfl rfl rfl (by decide) ?_
  refine g_cvi (as := [_, _, _]) (rest := []) 23 ck rfl rfl rfl rfl rfl rfl (by decide) rfl rfl rfl rfl (Nat.le_of_ble_eq_true rfl) (wC.mono h (fun y σ' h => ?_))
  obtain ⟨hs5, h⟩ := h
  refine g_ifeq 26 49 ck rfl rfl rfl hs5 (fun hc => ?_) (fun hc => ?_)
  · replace h := ite_ht h hc
    refine g_ic 50 ck rfl rfl ?_
    exact g_retb ck rfl rfl (Or.inl rfl) h
  · replace h := ite_hf h hc
    refine g_al 27 ck rfl rfl rfl ?_
    refine r_gfr 30 74 ck rfl rfl rfl (by decide) ?_
    refine g_al 31 ck rfl rfl rfl ?_
    refine r_gfr 34 159 ck rfl rfl rfl (by decide) ?_
    refine g_al 35 ck rfl rfl rfl ?_
    refine r_gfr 38 158 ck rfl rfl rfl (by decide) ?_
    refine g_il 39 ck rfl rfl rfl ?_
    refine g_cvi (as := [_, _, _]) (rest := []) 42 ck rfl rfl rfl rfl rfl rfl (by decide) rfl rfl rfl rfl (Nat.le_of_ble_eq_true rfl) (wC.mono h (fun y' σ'' h => ?_))
    obtain ⟨hs6, h⟩ := h
    refine g_ifeq 45 49 ck rfl rfl rfl hs6 (fun hc => ?_) (fun hc => ?_)
    · replace h := ite_ht h hc
      refine g_ic 50 ck rfl rfl ?_
      exact g_retb ck rfl rfl (Or.inl rfl) h
    · replace h := ite_hf h hc
      refine g_ic 46 ck rfl rfl ?_
      refine g_goto 50 ck rfl rfl ?_
      exact g_retb ck rfl rfl (Or.inr rfl) h
/-! 163 TermDesk.layIf(ZI)I -/
def w163 (B : va_E) (σ : l2_m) (x1 : Int) (x2 : Int) (K : Int → l2_m → Prop) : Prop := (rg x1 ∧ (if x1 = 0 then (∀ σ' : l2_m, σ' = trb σ 3 → K (-1) σ') else (wC B 164 [vr 32, vr 159, vi x2] σ (fun y σ'' => K y σ''))))
theorem o163 {B : va_E} {σ : l2_m} {x1 : Int} {x2 : Int} {K : Int → l2_m → Prop}   (h : w163 B σ x1 x2  K) : wC B 163 [vr 32, vi x1, vi x2] σ K := by
  have ck : pm_code 163 = pc_163 := rfl
  unfold w163 at h
  show wW B 163 0 [vr 32, vi x1, vi x2] [] σ K
  obtain ⟨hs1, h⟩ := h
  refine g_il 1 ck rfl rfl rfl ?_
  refine g_ifeq 4 16 ck rfl rfl rfl hs1 (fun hc => ?_) (fun hc => ?_)
  · replace h := ite_ht h hc
    refine g_al 17 ck rfl rfl rfl ?_
    refine g_ic 18 ck rfl rfl ?_
    refine g_cvi (as := [_]) (rest := []) 21 ck rfl rfl rfl rfl rfl rfl (by decide) rfl rfl rfl rfl (Nat.le_of_ble_eq_true rfl) (s145  ?_)
    replace h := h _ rfl
    exact g_ret ck rfl rfl (Or.inl (by decide)) h
  · replace h := ite_hf h hc
    refine g_al 5 ck rfl rfl rfl ?_
    refine g_al 6 ck rfl rfl rfl ?_
    refine r_gfr 9 159 ck rfl rfl rfl (by decide) ?_
    refine g_il 10 ck rfl rfl rfl ?_
    refine g_cvi (as := [_, _]) (rest := []) 13 ck rfl rfl rfl rfl rfl rfl (by decide) rfl rfl rfl rfl (Nat.le_of_ble_eq_true rfl) (wC.mono h (fun y σ'' h => ?_))
    refine g_goto 21 ck rfl rfl ?_
    exact g_ret ck rfl rfl (Or.inl (by decide)) h
/-! 164 TermDesk.lay(LTermDesk$Poly;I)I -/
def w164 (B : va_E) (σ : l2_m) (o1 : Nat) (x2 : Int) (K : Int → l2_m → Prop) : Prop := ((0 ≤ x2 ∧ x2 < 8 ∧ 158 < (162 + 3 * Int.toNat x2) ∧ 0 ≤ (σ 128 5) ∧ (σ 128 5) < 8 ∧ 0 ≤ (σ 128 6) ∧ (σ 128 6) ≤ 8 ∧ 0 ≤ (σ (162 + 3 * Int.toNat x2) 2) ∧ (σ (162 + 3 * Int.toNat x2) 2) ≤ 60) ∧ ∀ σ' : l2_m, σ' = kpR σ x2 (162 + 3 * Int.toNat x2) → ((162 + 3 * Int.toNat x2) ≠ o1 ∧ 0 ≤ (σ' o1 2) ∧ (σ' o1 2) ≤ 60) ∧ ∀ σ'' : l2_m, σ'' = cpP σ' (162 + 3 * Int.toNat x2) o1 → ∀ σ''' : l2_m, σ''' = trb σ'' 0 → K (σ'' o1 2) σ''')
theorem o164 {B : va_E} {σ : l2_m} {o1 : Nat} {x2 : Int} {K : Int → l2_m → Prop} (ho1 : isP o1)  (h : w164 B σ o1 x2  K) : wC B 164 [vr 32, vr o1, vi x2] σ K := by
  have ck : pm_code 164 = pc_164 := rfl
  unfold w164 at h
  show wW B 164 0 [vr 32, vr o1, vi x2] [] σ K
  obtain ⟨⟨hs1, hs2, hs3, hs4, hs5, hs6, hs7, hs8, hs9⟩, h⟩ := h
  refine g_al 1 ck rfl rfl rfl ?_
  refine r_gfr 4 128 ck rfl rfl rfl (by decide) ?_
  refine g_il 5 ck rfl rfl rfl ?_
  refine g_al 6 ck rfl rfl rfl ?_
  refine r_gfr 9 158 ck rfl rfl rfl (by decide) ?_
  refine g_il 10 ck rfl rfl rfl ?_
  refine g_aal (b := 162) (m := 8) 11 ck rfl rfl rfl hs1 hs2 ?_
  refine g_cvv (as := [_, _]) (rest := []) 14 ck rfl rfl rfl rfl rfl rfl rfl rfl rfl rfl (Nat.le_of_ble_eq_true rfl) (s64 (isP_row (a := 158) (b := 162) (m := 8) rfl hs1 hs2) hs3 hs4 hs5 hs6 hs7 hs8 hs9 ?_)
  replace h := h _ rfl
  obtain ⟨⟨hs10, hs11, hs12⟩, h⟩ := h
  refine g_al 15 ck rfl rfl rfl ?_
  refine r_gfr 18 158 ck rfl rfl rfl (by decide) ?_
  refine g_il 19 ck rfl rfl rfl ?_
  refine g_aal (b := 162) (m := 8) 20 ck rfl rfl rfl hs1 hs2 ?_
  refine g_al 21 ck rfl rfl rfl ?_
  refine g_cvv (as := [_]) (rest := []) 24 ck rfl rfl rfl rfl rfl rfl (isP_c (isP_row (a := 158) (b := 162) (m := 8) rfl hs1 hs2)) rfl rfl rfl (Nat.le_of_ble_eq_true rfl) (s83 (isP_row (a := 158) (b := 162) (m := 8) rfl hs1 hs2) ho1 hs10 hs11 hs12 ?_)
  replace h := h _ rfl
  refine g_al 25 ck rfl rfl rfl ?_
  refine g_al 26 ck rfl rfl rfl ?_
  refine r_gfi 29 2 ck rfl rfl (isP_2 ho1) rfl ?_
  refine g_cvi (as := [_]) (rest := []) 32 ck rfl rfl rfl rfl rfl rfl (by decide) rfl rfl rfl rfl (Nat.le_of_ble_eq_true rfl) (s146  ?_)
  replace h := h _ rfl
  exact g_ret ck rfl rfl (Or.inl (by decide)) h
/-! 165 TermDesk.exchangeOrder(III)V -/
def w165_13 (B : va_E) (σ : l2_m) (x4 : Int)  (K : Int → l2_m → Prop) : Prop := lz2 (fun X13 x4 σ => (rg x4 ∧ (if x4 < 8 then ((0 ≤ x4 ∧ x4 < 8) ∧ (wC B 10 [vr 38, vr (162 + 3 * Int.toNat x4)] σ (fun _ σ' => X13 (x4 + 1) σ'))) else K 0 σ))) x4 σ
theorem o165_13 {B : va_E} {σ : l2_m} {x4 : Int} {u1 : Value} {u2 : Value} {u3 : Value}  {K : Int → l2_m → Prop}  (hu1 : (u1.category == 1) = true) (hu2 : (u2.category == 1) = true) (hu3 : (u3.category == 1) = true)  (h : w165_13 B σ x4  K) : wW B 165 13 [vr 32, u1, u2, u3, vi x4] [] σ K := by
  have ck : pm_code 165 = pc_165 := rfl
  unfold w165_13 at h
  refine h (fun x4 σ => ∀ u1 : Value, (u1.category == 1) = true → ∀ u2 : Value, (u2.category == 1) = true → ∀ u3 : Value, (u3.category == 1) = true → wW B 165 13 [vr 32, u1, u2, u3, vi x4] [] σ K) ?_ u1 hu1 u2 hu2 u3 hu3
  clear h
  intro x4 σ h u1 hu1 u2 hu2 u3 hu3
  obtain ⟨hs1, h⟩ := h
  refine g_il 15 ck rfl rfl rfl ?_
  refine g_ic 17 ck rfl rfl ?_
  refine g_icge 20 40 ck rfl rfl rfl hs1 (by decide) (fun hc => ?_) (fun hc => ?_)
  · replace h := ite_hf h (Int.not_lt.mpr hc)
    exact g_retv ck rfl rfl h
  · replace h := ite_ht h (Int.not_le.mp hc)
    obtain ⟨⟨hs2, hs3⟩, h⟩ := h
    refine g_al 21 ck rfl rfl rfl ?_
    refine r_gfr 24 38 ck rfl rfl rfl (by decide) ?_
    refine g_al 25 ck rfl rfl rfl ?_
    refine r_gfr 28 158 ck rfl rfl rfl (by decide) ?_
    refine g_il 30 ck rfl rfl rfl ?_
    refine g_aal (b := 162) (m := 8) 31 ck rfl rfl rfl hs2 hs3 ?_
    refine g_cvv (as := [_]) (rest := []) 34 ck rfl rfl rfl rfl rfl rfl rfl rfl rfl rfl (Nat.le_of_ble_eq_true rfl) (wC.mono h (fun _ σ' h => ?_))
    refine r_ii 37 ck rfl rfl hu3 rfl ?_
    refine g_goto 13 ck rfl rfl ?_
    exact h _ hu1 _ hu2 _ hu3
def w165 (B : va_E) (σ : l2_m) (x1 : Int) (x2 : Int) (x3 : Int) (K : Int → l2_m → Prop) : Prop := (wC B 75 [vr 36, vi x1, vi x2, vi x3] σ (fun _ σ' => w165_13 B σ' 0 K))
theorem o165 {B : va_E} {σ : l2_m} {x1 : Int} {x2 : Int} {x3 : Int} {K : Int → l2_m → Prop}   (h : w165 B σ x1 x2 x3  K) : wC B 165 [vr 32, vi x1, vi x2, vi x3] σ K := by
  have ck : pm_code 165 = pc_165 := rfl
  unfold w165 at h
  show wW B 165 0 [vr 32, vi x1, vi x2, vi x3, pm_un] [] σ K
  refine g_al 1 ck rfl rfl rfl ?_
  refine r_gfr 4 36 ck rfl rfl rfl (by decide) ?_
  refine g_il 5 ck rfl rfl rfl ?_
  refine g_il 6 ck rfl rfl rfl ?_
  refine g_il 7 ck rfl rfl rfl ?_
  refine g_cvv (as := [_, _, _]) (rest := []) 10 ck rfl rfl rfl rfl rfl rfl rfl rfl rfl rfl (Nat.le_of_ble_eq_true rfl) (wC.mono h (fun _ σ' h => ?_))
  refine g_ic 11 ck rfl rfl ?_
  refine r_is 13 ck rfl rfl rfl rfl ?_
  exact o165_13 rfl rfl rfl h
