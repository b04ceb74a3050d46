/-! 20 TermDesk$Commons.commonOf(LTermDesk$Poly;LTermDesk$Poly;LTermDesk$Poly;)Z -/
def w20_27 (B : va_E) (σ : l2_m) (o3 : Nat) (q0 : Nat) (q1 : Nat)  (K : Int → l2_m → Prop) : Prop := ((q0 ≠ q1 ∧ 0 ≤ (σ q1 2) ∧ (σ q1 2) ≤ 60) ∧ ∀ σ' : l2_m, σ' = cpP σ q0 q1 → (wC B 4 [vr 38, vr o3] σ' (fun _ σ'' => K 1 σ'')))
theorem o20_27 {B : va_E} {σ : l2_m} {o3 : Nat} {q0 : Nat} {q1 : Nat} {u1 : Value} {u2 : Value}  {K : Int → l2_m → Prop} (ho3 : isP o3) (hq0 : isP q0) (hq1 : isP q1) (hu1 : (u1.category == 1) = true) (hu2 : (u2.category == 1) = true)  (h : w20_27 B σ o3 q0 q1  K) : wW B 20 27 [vr 109, u1, u2, vr o3] [vr q1, vr q0] σ K := by
  have ck : pm_code 20 = pc_20 := rfl
  unfold w20_27 at h
  obtain ⟨⟨hs1, hs2, hs3⟩, h⟩ := h
  refine g_cvv (as := [_]) (rest := []) 30 ck rfl rfl rfl rfl rfl rfl (isP_c hq0) rfl rfl rfl (Nat.le_of_ble_eq_true rfl) (s83 hq0 hq1 hs1 hs2 hs3 ?_)
  replace h := h _ rfl
  refine g_al 31 ck rfl rfl rfl ?_
  refine r_gfr 34 38 ck rfl rfl rfl (by decide) ?_
  refine g_al 35 ck rfl rfl rfl ?_
  refine g_cvv (as := [_]) (rest := []) 38 ck rfl rfl rfl rfl rfl rfl rfl rfl rfl rfl (Nat.le_of_ble_eq_true rfl) (wC.mono h (fun _ σ'' h => ?_))
  refine g_ic 39 ck rfl rfl ?_
  exact g_retb ck rfl rfl (Or.inr rfl) h
def w20_14 (B : va_E) (σ : l2_m) (o1 : Nat) (o2 : Nat) (o3 : Nat)  (K : Int → l2_m → Prop) : Prop := (rg (σ o1 2) ∧ (if (σ o1 2) = 0 then w20_27 B σ o3 o3 o2 K else w20_27 B σ o3 o3 o1 K))
theorem o20_14 {B : va_E} {σ : l2_m} {o1 : Nat} {o2 : Nat} {o3 : Nat}   {K : Int → l2_m → Prop} (ho1 : isP o1) (ho2 : isP o2) (ho3 : isP o3)   (h : w20_14 B σ o1 o2 o3  K) : wW B 20 14 [vr 109, vr o1, vr o2, vr o3] [] σ K := by
  have ck : pm_code 20 = pc_20 := rfl
  unfold w20_14 at h
  obtain ⟨hs1, h⟩ := h
  refine g_al 15 ck rfl rfl rfl ?_
  refine g_al 16 ck rfl rfl rfl ?_
  refine r_gfi 19 2 ck rfl rfl (isP_2 ho1) rfl ?_
  refine g_ifne 22 26 ck rfl rfl rfl hs1 (fun hc => ?_) (fun hc => ?_)
  · replace h := ite_hf h hc
    refine g_al 27 ck rfl rfl rfl ?_
    exact o20_27 ho3 ho3 ho1 rfl rfl h
  · replace h := ite_ht h (Classical.not_not.mp hc)
    refine g_al 23 ck rfl rfl rfl ?_
    refine g_goto 27 ck rfl rfl ?_
    exact o20_27 ho3 ho3 ho2 rfl rfl h
def w20 (B : va_E) (σ : l2_m) (o1 : Nat) (o2 : Nat) (o3 : Nat) (K : Int → l2_m → Prop) : Prop := (rg (σ o1 2) ∧ ((¬ ((σ o1 2) = 0) → rg (σ o2 2)) ∧ (if ((σ o1 2) = 0) ∨ ((σ o2 2) = 0) then w20_14 B σ o1 o2 o3 K else (wC B 23 [vr 109, vr o1, vr 114] σ (fun _ σ' => (wC B 23 [vr 109, vr o2, vr 115] σ' (fun _ σ'' => (wC B 26 [vr 109, vr 114, vr 121] σ'' (fun _ σ''' => (wC B 26 [vr 109, vr 115, vr 122] σ''' (fun _ σ'''' => (wC B 29 [vr 109, vr 114, vr 121] σ'''' (fun _ σ''''' => (wC B 29 [vr 109, vr 115, vr 122] σ''''' (fun _ σ'''''' => (wC B 27 [vr 109, vr 121, vr 122, vi 0] σ'''''' (fun _ σ''''''' => (wC B 34 [vr 109] σ''''''' (fun _ σ'''''''' => (wC B 32 [vr 109, vr 116, vr 121, vr 119] σ'''''''' (fun _ σ''''''''' => (wC B 24 [vr 109, vr 119, vr o3] σ''''''''' (fun y σ'''''''''' => (rg y ∧ (if y = 0 then K 0 σ'''''''''' else (wC B 4 [vr 38, vr o3] σ'''''''''' (fun _ σ''''''''''' => K 1 σ''''''''''')))))))))))))))))))))))))))
theorem o20 {B : va_E} {σ : l2_m} {o1 : Nat} {o2 : Nat} {o3 : Nat} {K : Int → l2_m → Prop} (ho1 : isP o1) (ho2 : isP o2) (ho3 : isP o3)  (h : w20 B σ o1 o2 o3  K) : wC B 20 [vr 109, vr o1, vr o2, vr o3] σ K := by
  have ck : pm_code 20 = pc_20 := rfl
  unfold w20 at h
  show wW B 20 0 [vr 109, vr o1, vr o2, vr o3] [] σ K
  replace h := (And.imp_right mg_1s) h
  obtain ⟨hs1, h⟩ := h
  refine g_al 1 ck rfl rfl rfl ?_
  refine r_gfi 4 2 ck rfl rfl (isP_2 ho1) rfl ?_
  refine g_ifeq 7 14 ck rfl rfl rfl hs1 (fun hc => ?_) (fun hc => ?_)
  · replace h := ite_ht h hc
    exact o20_14 ho1 ho2 ho3 h
  · replace h := ite_hf h hc
    obtain ⟨hs2, h⟩ := h
    refine g_al 8 ck rfl rfl rfl ?_
    refine r_gfi 11 2 ck rfl rfl (isP_2 ho2) rfl ?_
    refine g_ifne 14 40 ck rfl rfl rfl hs2 (fun hc => ?_) (fun hc => ?_)
    · replace h := ite_hf h hc
      refine g_al 41 ck rfl rfl rfl ?_
      refine g_al 42 ck rfl rfl rfl ?_
      refine g_al 43 ck rfl rfl rfl ?_
      refine r_gfr 46 114 ck rfl rfl rfl (by decide) ?_
      refine g_cvv (as := [_, _]) (rest := []) 49 ck rfl rfl rfl rfl rfl rfl rfl rfl rfl rfl (Nat.le_of_ble_eq_true rfl) (wC.mono h (fun _ σ' h => ?_))
      refine g_al 50 ck rfl rfl rfl ?_
      refine g_al 51 ck rfl rfl rfl ?_
      refine g_al 52 ck rfl rfl rfl ?_
      refine r_gfr 55 115 ck rfl rfl rfl (by decide) ?_
      refine g_cvv (as := [_, _]) (rest := []) 58 ck rfl rfl rfl rfl rfl rfl rfl rfl rfl rfl (Nat.le_of_ble_eq_true rfl) (wC.mono h (fun _ σ'' h => ?_))
      refine g_al 59 ck rfl rfl rfl ?_
      refine g_al 60 ck rfl rfl rfl ?_
      refine r_gfr 63 114 ck rfl rfl rfl (by decide) ?_
      refine g_al 64 ck rfl rfl rfl ?_
      refine r_gfr 67 121 ck rfl rfl rfl (by decide) ?_
      refine g_cvv (as := [_, _]) (rest := []) 70 ck rfl rfl rfl rfl rfl rfl rfl rfl rfl rfl (Nat.le_of_ble_eq_true rfl) (wC.mono h (fun _ σ''' h => ?_))
      refine g_al 71 ck rfl rfl rfl ?_
      refine g_al 72 ck rfl rfl rfl ?_
      refine r_gfr 75 115 ck rfl rfl rfl (by decide) ?_
      refine g_al 76 ck rfl rfl rfl ?_
      refine r_gfr 79 122 ck rfl rfl rfl (by decide) ?_
      refine g_cvv (as := [_, _]) (rest := []) 82 ck rfl rfl rfl rfl rfl rfl rfl rfl rfl rfl (Nat.le_of_ble_eq_true rfl) (wC.mono h (fun _ σ'''' h => ?_))
      refine g_al 83 ck rfl rfl rfl ?_
      refine g_al 84 ck rfl rfl rfl ?_
      refine r_gfr 87 114 ck rfl rfl rfl (by decide) ?_
      refine g_al 88 ck rfl rfl rfl ?_
      refine r_gfr 91 121 ck rfl rfl rfl (by decide) ?_
      refine g_cvv (as := [_, _]) (rest := []) 94 ck rfl rfl rfl rfl rfl rfl rfl rfl rfl rfl (Nat.le_of_ble_eq_true rfl) (wC.mono h (fun _ σ''''' h => ?_))
      refine g_al 95 ck rfl rfl rfl ?_
      refine g_al 96 ck rfl rfl rfl ?_
      refine r_gfr 99 115 ck rfl rfl rfl (by decide) ?_
      refine g_al 100 ck rfl rfl rfl ?_
      refine r_gfr 103 122 ck rfl rfl rfl (by decide) ?_
      refine g_cvv (as := [_, _]) (rest := []) 106 ck rfl rfl rfl rfl rfl rfl rfl rfl rfl rfl (Nat.le_of_ble_eq_true rfl) (wC.mono h (fun _ σ'''''' h => ?_))
      refine g_al 107 ck rfl rfl rfl ?_
      refine g_al 108 ck rfl rfl rfl ?_
      refine r_gfr 111 121 ck rfl rfl rfl (by decide) ?_
      refine g_al 112 ck rfl rfl rfl ?_
      refine r_gfr 115 122 ck rfl rfl rfl (by decide) ?_
      refine g_ic 116 ck rfl rfl ?_
      refine g_cvv (as := [_, _, _]) (rest := []) 119 ck rfl rfl rfl rfl rfl rfl rfl rfl rfl rfl (Nat.le_of_ble_eq_true rfl) (wC.mono h (fun _ σ''''''' h => ?_))
      refine g_al 120 ck rfl rfl rfl ?_
      refine g_cvv (as := []) (rest := []) 123 ck rfl rfl rfl rfl rfl rfl rfl rfl rfl rfl (Nat.le_of_ble_eq_true rfl) (wC.mono h (fun _ σ'''''''' h => ?_))
      refine g_al 124 ck rfl rfl rfl ?_
      refine g_al 125 ck rfl rfl rfl ?_
      refine r_gfr 128 116 ck rfl rfl rfl (by decide) ?_
      refine g_al 129 ck rfl rfl rfl ?_
      refine r_gfr 132 121 ck rfl rfl rfl (by decide) ?_
      refine g_al 133 ck rfl rfl rfl ?_
      refine r_gfr 136 119 ck rfl rfl rfl (by decide) ?_
      refine g_cvv (as := [_, _, _]) (rest := []) 139 ck rfl rfl rfl rfl rfl rfl rfl rfl rfl rfl (Nat.le_of_ble_eq_true rfl) (wC.mono h (fun _ σ''''''''' h => ?_))
      refine g_al 140 ck rfl rfl rfl ?_
      refine g_al 141 ck rfl rfl rfl ?_
      refine r_gfr 144 119 ck rfl rfl rfl (by decide) ?_
      refine g_al 145 ck rfl rfl rfl ?_
      refine g_cvi (as := [_, _]) (rest := []) 148 ck rfl rfl rfl rfl rfl rfl (by decide) rfl rfl rfl rfl (Nat.le_of_ble_eq_true rfl) (wC.mono h (fun y σ'''''''''' h => ?_))
      obtain ⟨hs3, h⟩ := h
      refine g_ifne 151 153 ck rfl rfl rfl hs3 (fun hc => ?_) (fun hc => ?_)
      · replace h := ite_hf h hc
        refine g_al 154 ck rfl rfl rfl ?_
        refine r_gfr 157 38 ck rfl rfl rfl (by decide) ?_
        refine g_al 158 ck rfl rfl rfl ?_
        refine g_cvv (as := [_]) (rest := []) 161 ck rfl rfl rfl rfl rfl rfl rfl rfl rfl rfl (Nat.le_of_ble_eq_true rfl) (wC.mono h (fun _ σ''''''''''' h => ?_))
        refine g_ic 162 ck rfl rfl ?_
        exact g_retb ck rfl rfl (Or.inr rfl) h
      · replace h := ite_ht h (Classical.not_not.mp hc)
        refine g_ic 152 ck rfl rfl ?_
        exact g_retb ck rfl rfl (Or.inl rfl) h
    · replace h := ite_ht h (Classical.not_not.mp hc)
      exact o20_14 ho1 ho2 ho3 h
/-! 21 TermDesk$Commons.contentOf(LTermDesk$Poly;LTermDesk$Poly;)Z -/
def w21 (B : va_E) (σ : l2_m) (o1 : Nat) (o2 : Nat) (K : Int → l2_m → Prop) : Prop := (wC B 23 [vr 109, vr o1, vr 114] σ (fun _ σ' => (wC B 26 [vr 109, vr 114, vr 121] σ' (fun _ σ'' => (∀ σ''' : l2_m, σ''' = fil σ'' 116 0 ((512 : Nat) : Int) → ∀ σ'''' : l2_m, σ'''' = l2_cpy σ''' 121 0 116 0 32 → (wC B 24 [vr 109, vr 116, vr o2] σ'''' (fun y σ''''' => ((y = 0 ∨ y = 1) ∧ K y σ'''''))))))))
theorem o21 {B : va_E} {σ : l2_m} {o1 : Nat} {o2 : Nat} {K : Int → l2_m → Prop} (ho1 : isP o1) (ho2 : isP o2)  (h : w21 B σ o1 o2  K) : wC B 21 [vr 109, vr o1, vr o2] σ K := by
  have ck : pm_code 21 = pc_21 := rfl
  unfold w21 at h
  show wW B 21 0 [vr 109, vr o1, vr o2] [] σ K
  refine g_al 1 ck rfl rfl rfl ?_
  refine g_al 2 ck rfl rfl rfl ?_
  refine g_al 3 ck rfl rfl rfl ?_
  refine r_gfr 6 114 ck rfl rfl rfl (by decide) ?_
  refine g_cvv (as := [_, _]) (rest := []) 9 ck rfl rfl rfl rfl rfl rfl rfl rfl rfl rfl (Nat.le_of_ble_eq_true rfl) (wC.mono h (fun _ σ' h => ?_))
  refine g_al 10 ck rfl rfl rfl ?_
  refine g_al 11 ck rfl rfl rfl ?_
  refine r_gfr 14 114 ck rfl rfl rfl (by decide) ?_
  refine g_al 15 ck rfl rfl rfl ?_
  refine r_gfr 18 121 ck rfl rfl rfl (by decide) ?_
  refine g_cvv (as := [_, _]) (rest := []) 21 ck rfl rfl rfl rfl rfl rfl rfl rfl rfl rfl (Nat.le_of_ble_eq_true rfl) (wC.mono h (fun _ σ'' h => ?_))
  refine g_al 22 ck rfl rfl rfl ?_
  refine r_gfr 25 116 ck rfl rfl rfl (by decide) ?_
  refine g_ic 26 ck rfl rfl ?_
  refine g_csv (as := [_, _]) (rest := []) 29 ck rfl rfl rfl rfl rfl rfl rfl rfl (Nat.le_of_ble_eq_true rfl) (s280 rfl ?_)
  replace h := h _ rfl
  refine g_al 30 ck rfl rfl rfl ?_
  refine r_gfr 33 121 ck rfl rfl rfl (by decide) ?_
  refine g_ic 34 ck rfl rfl ?_
  refine g_al 35 ck rfl rfl rfl ?_
  refine r_gfr 38 116 ck rfl rfl rfl (by decide) ?_
  refine g_ic 39 ck rfl rfl ?_
  refine g_ic 41 ck rfl rfl ?_
  refine g_acp (n0 := 32) (n1 := 512) 44 ck rfl rfl rfl rfl (by decide) (by decide) (by decide) (by decide) (by decide) (Nat.le_of_ble_eq_true rfl) ?_
  replace h := h _ rfl
  refine g_al 45 ck rfl rfl rfl ?_
  refine g_al 46 ck rfl rfl rfl ?_
  refine r_gfr 49 116 ck rfl rfl rfl (by decide) ?_
  refine g_al 50 ck rfl rfl rfl ?_
  refine g_cvi (as := [_, _]) (rest := []) 53 ck rfl rfl rfl rfl rfl rfl (by decide) rfl rfl rfl rfl (Nat.le_of_ble_eq_true rfl) (wC.mono h (fun y σ''''' h => ?_))
  obtain ⟨hs1, h⟩ := h
  exact g_retb ck rfl rfl hs1 h
/-! 22 TermDesk$Commons.primitiveOf(LTermDesk$Poly;LTermDesk$Poly;)Z -/
def w22 (B : va_E) (σ : l2_m) (o1 : Nat) (o2 : Nat) (K : Int → l2_m → Prop) : Prop := (wC B 23 [vr 109, vr o1, vr 114] σ (fun _ σ' => (wC B 26 [vr 109, vr 114, vr 121] σ' (fun _ σ'' => (wC B 29 [vr 109, vr 114, vr 121] σ'' (fun _ σ''' => (wC B 24 [vr 109, vr 114, vr o2] σ''' (fun y σ'''' => ((y = 0 ∨ y = 1) ∧ K y σ'''')))))))))
theorem o22 {B : va_E} {σ : l2_m} {o1 : Nat} {o2 : Nat} {K : Int → l2_m → Prop} (ho1 : isP o1) (ho2 : isP o2)  (h : w22 B σ o1 o2  K) : wC B 22 [vr 109, vr o1, vr o2] σ K := by
  have ck : pm_code 22 = pc_22 := rfl
  unfold w22 at h
  show wW B 22 0 [vr 109, vr o1, vr o2] [] σ K
  refine g_al 1 ck rfl rfl rfl ?_
  refine g_al 2 ck rfl rfl rfl ?_
  refine g_al 3 ck rfl rfl rfl ?_
  refine r_gfr 6 114 ck rfl rfl rfl (by decide) ?_
  refine g_cvv (as := [_, _]) (rest := []) 9 ck rfl rfl rfl rfl rfl rfl rfl rfl rfl rfl (Nat.le_of_ble_eq_true rfl) (wC.mono h (fun _ σ' h => ?_))
  refine g_al 10 ck rfl rfl rfl ?_
  refine g_al 11 ck rfl rfl rfl ?_
  refine r_gfr 14 114 ck rfl rfl rfl (by decide) ?_
  refine g_al 15 ck rfl rfl rfl ?_
  refine r_gfr 18 121 ck rfl rfl rfl (by decide) ?_
  refine g_cvv (as := [_, _]) (rest := []) 21 ck rfl rfl rfl rfl rfl rfl rfl rfl rfl rfl (Nat.le_of_ble_eq_true rfl) (wC.mono h (fun _ σ'' h => ?_))
  refine g_al 22 ck rfl rfl rfl ?_
  refine g_al 23 ck rfl rfl rfl ?_
  refine r_gfr 26 114 ck rfl rfl rfl (by decide) ?_
  refine g_al 27 ck rfl rfl rfl ?_
  refine r_gfr 30 121 ck rfl rfl rfl (by decide) ?_
  refine g_cvv (as := [_, _]) (rest := []) 33 ck rfl rfl rfl rfl rfl rfl rfl rfl rfl rfl (Nat.le_of_ble_eq_true rfl) (wC.mono h (fun _ σ''' h => ?_))
  refine g_al 34 ck rfl rfl rfl ?_
  refine g_al 35 ck rfl rfl rfl ?_
  refine r_gfr 38 114 ck rfl rfl rfl (by decide) ?_
  refine g_al 39 ck rfl rfl rfl ?_
  refine g_cvi (as := [_, _]) (rest := []) 42 ck rfl rfl rfl rfl rfl rfl (by decide) rfl rfl rfl rfl (Nat.le_of_ble_eq_true rfl) (wC.mono h (fun y σ'''' h => ?_))
  obtain ⟨hs1, h⟩ := h
  exact g_retb ck rfl rfl hs1 h
/-! 23 TermDesk$Commons.load(LTermDesk$Poly;[I)V -/
def w23_7 (B : va_E) (σ : l2_m) (o1 : Nat) (o2 : Nat) (x3 : Int)  (K : Int → l2_m → Prop) : Prop := lz2 (fun X7 x3 σ => ((rg x3 ∧ rg (σ o1 2)) ∧ (if x3 < (σ o1 2) then ((0 ≤ x3 ∧ x3 < 60) ∧ ∀ x4 : Int, x4 = (σ (o1 + 1) x3) → rg x4 ∧ ∀ x5 : Int, x5 = ((((e5 x4 0) % 16) * 32) + (e5 x4 1)) → (0 ≤ x5 ∧ x5 < 512) ∧ ∀ σ' : l2_m, σ' = l2_u σ o2 x5 (σ (o1 + 2) x3) → X7 (x3 + 1) σ') else K 0 σ))) x3 σ
theorem o23_7 {B : va_E} {σ : l2_m} {o1 : Nat} {o2 : Nat} {x3 : Int} {u0 : Value} {u4 : Value} {u5 : Value}  {K : Int → l2_m → Prop} (ho1 : isP o1) (ho2 : l2_al o2 = some 512) (hu0 : (u0.category == 1) = true) (hu4 : (u4.category == 1) = true) (hu5 : (u5.category == 1) = true)  (h : w23_7 B σ o1 o2 x3  K) : wW B 23 7 [u0, vr o1, vr o2, vi x3, u4, u5] [] σ K := by
  have ck : pm_code 23 = pc_23 := rfl
  unfold w23_7 at h
  refine h (fun x3 σ => ∀ u0 : Value, (u0.category == 1) = true → ∀ u4 : Value, (u4.category == 1) = true → ∀ u5 : Value, (u5.category == 1) = true → wW B 23 7 [u0, vr o1, vr o2, vi x3, u4, u5] [] σ K) ?_ u0 hu0 u4 hu4 u5 hu5
  clear h
  intro x3 σ h u0 hu0 u4 hu4 u5 hu5
  obtain ⟨⟨hs1, hs2⟩, h⟩ := h
  refine g_il 8 ck rfl rfl rfl ?_
  refine g_al 9 ck rfl rfl rfl ?_
  refine r_gfi 12 2 ck rfl rfl (isP_2 ho1) rfl ?_
  refine g_icge 15 60 ck rfl rfl rfl hs1 hs2 (fun hc => ?_) (fun hc => ?_)
  · replace h := ite_hf h (Int.not_lt.mpr hc)
    exact g_retv ck rfl rfl h
  · replace h := ite_ht h (Int.not_le.mp hc)
    obtain ⟨⟨hs3, hs4⟩, h⟩ := h
    refine g_al 16 ck rfl rfl rfl ?_
    refine r_gfr 19 _ ck rfl rfl (isP_0 ho1) (isX_g (isP_c ho1)) ?_
    refine g_il 20 ck rfl rfl rfl ?_
    refine g_ial (m := 60) 21 ck rfl rfl (isP_m ho1) hs3 hs4 ?_
    refine r_is 23 ck rfl rfl rfl rfl ?_
    replace h := h _ rfl
    obtain ⟨hs5, h⟩ := h
    refine g_il 25 ck rfl rfl rfl ?_
    refine g_ic 26 ck rfl rfl ?_
    refine g_csi (as := [_, _]) (rest := []) 29 ck rfl rfl rfl rfl rfl (by decide) rfl rfl rfl (Nat.le_of_ble_eq_true rfl) (s154 hs5 (by decide) (by decide) ?_)
    refine g_ic 31 ck rfl rfl ?_
    refine r_andk 16 4 32 ck rfl rfl (by decide) (by decide) (by decide) ?_
    refine g_ic 34 ck rfl rfl ?_
    refine g_mul 35 ck rfl rfl ?_
    refine g_il 37 ck rfl rfl rfl ?_
    refine g_ic 38 ck rfl rfl ?_
    refine g_csi (as := [_, _]) (rest := [_]) 41 ck rfl rfl rfl rfl rfl (by decide) rfl rfl rfl (Nat.le_of_ble_eq_true rfl) (s154 hs5 (by decide) (by decide) ?_)
    refine g_add 42 ck rfl rfl ?_
    refine r_is 44 ck rfl rfl rfl rfl ?_
    replace h := h _ rfl
    obtain ⟨⟨hs6, hs7⟩, h⟩ := h
    refine g_al 45 ck rfl rfl rfl ?_
    refine g_il 47 ck rfl rfl rfl ?_
    refine g_al 48 ck rfl rfl rfl ?_
    refine r_gfr 51 _ ck rfl rfl (isP_1 ho1) (isX_g (isP_c ho1)) ?_
    refine g_il 52 ck rfl rfl rfl ?_
    refine g_ial (m := 60) 53 ck rfl rfl (isP_k ho1) hs3 hs4 ?_
    refine g_ias (m := 512) 54 ck rfl rfl ho2 hs6 hs7 ?_
    replace h := h _ rfl
    refine r_ii 57 ck rfl rfl rfl rfl ?_
    refine g_goto 7 ck rfl rfl ?_
    exact h _ hu0 _ rfl _ rfl
def w23 (B : va_E) (σ : l2_m) (o1 : Nat) (o2 : Nat) (K : Int → l2_m → Prop) : Prop := (∀ σ' : l2_m, σ' = fil σ o2 0 ((512 : Nat) : Int) → w23_7 B σ' o1 o2 0 K)
theorem o23 {B : va_E} {σ : l2_m} {o1 : Nat} {o2 : Nat} {K : Int → l2_m → Prop} (ho1 : isP o1) (ho2 : l2_al o2 = some 512)  (h : w23 B σ o1 o2  K) : wC B 23 [vr 109, vr o1, vr o2] σ K := by
  have ck : pm_code 23 = pc_23 := rfl
  unfold w23 at h
  show wW B 23 0 [vr 109, vr o1, vr o2, pm_un, pm_un, pm_un] [] σ K
  refine g_al 1 ck rfl rfl rfl ?_
  refine g_ic 2 ck rfl rfl ?_
  refine g_csv (as := [_, _]) (rest := []) 5 ck rfl rfl rfl rfl rfl rfl rfl rfl (Nat.le_of_ble_eq_true rfl) (s280 ho2 ?_)
  replace h := h _ rfl
  refine g_ic 6 ck rfl rfl ?_
  refine r_is 7 ck rfl rfl rfl rfl ?_
  exact o23_7 ho1 ho2 rfl rfl rfl h
/-! 24 TermDesk$Commons.layOut([ILTermDesk$Poly;)Z -/
def w24_7 (B : va_E) (σ : l2_m) (o1 : Nat) (o2 : Nat) (x3 : Int)  (K : Int → l2_m → Prop) : Prop := lz2 (fun X7 x3 σ => (rg x3 ∧ (if x3 < 512 then ((0 ≤ x3 ∧ x3 < 512 ∧ rg (σ o1 x3)) ∧ (if (σ o1 x3) = 0 then X7 (x3 + 1) σ else (∀ x4 : Int, x4 = ((((x3 / 32) * (σ (36 + 1) 0)) + ((x3 % 32) * (σ (36 + 1) 1))) + (0 * (σ (36 + 1) 2))) → (0 ≤ (σ o2 2) ∧ rg (σ o2 2)) ∧ ∀ σ'' : l2_m, σ'' = app σ o2 x4 (σ o1 x3) → (if (σ o2 2) < 60 then X7 (x3 + 1) σ'' else K 0 σ'')))) else (wC B 90 [vr o2] σ (fun _ σ' => K 1 σ'))))) x3 σ
theorem o24_7 {B : va_E} {σ : l2_m} {o1 : Nat} {o2 : Nat} {x3 : Int} {u4 : Value}  {K : Int → l2_m → Prop} (ho1 : l2_al o1 = some 512) (ho2 : isP o2) (hu4 : (u4.category == 1) = true)  (h : w24_7 B σ o1 o2 x3  K) : wW B 24 7 [vr 109, vr o1, vr o2, vi x3, u4] [] σ K := by
  have ck : pm_code 24 = pc_24 := rfl
  unfold w24_7 at h
  refine h (fun x3 σ => ∀ u4 : Value, (u4.category == 1) = true → wW B 24 7 [vr 109, vr o1, vr o2, vi x3, u4] [] σ K) ?_ u4 hu4
  clear h
  intro x3 σ h u4 hu4
  obtain ⟨hs1, h⟩ := h
  refine g_il 8 ck rfl rfl rfl ?_
  refine g_ic 11 ck rfl rfl ?_
  refine g_icge 14 61 ck rfl rfl rfl hs1 (by decide) (fun hc => ?_) (fun hc => ?_)
  · replace h := ite_hf h (Int.not_lt.mpr hc)
    refine g_al 62 ck rfl rfl rfl ?_
    refine g_cvv (as := []) (rest := []) 65 ck rfl rfl rfl rfl rfl rfl (isP_c ho2) rfl rfl rfl (Nat.le_of_ble_eq_true rfl) (wC.mono h (fun _ σ' h => ?_))
    refine g_ic 66 ck rfl rfl ?_
    exact g_retb ck rfl rfl (Or.inr rfl) h
  · replace h := ite_ht h (Int.not_le.mp hc)
    obtain ⟨⟨hs2, hs3, hs4⟩, h⟩ := h
    refine g_al 15 ck rfl rfl rfl ?_
    refine g_il 16 ck rfl rfl rfl ?_
    refine g_ial (m := 512) 17 ck rfl rfl ho1 hs2 hs3 ?_
    refine g_ifeq 20 55 ck rfl rfl rfl hs4 (fun hc => ?_) (fun hc => ?_)
    · replace h := ite_ht h hc
      refine r_ii 58 ck rfl rfl rfl rfl ?_
      refine g_goto 7 ck rfl rfl ?_
      exact h _ hu4
    · replace h := ite_hf h hc
      refine g_al 21 ck rfl rfl rfl ?_
      refine r_gfr 24 38 ck rfl rfl rfl (by decide) ?_
      refine r_gfr 27 36 ck rfl rfl rfl (by decide) ?_
      refine g_il 28 ck rfl rfl rfl ?_
      refine g_ic 30 ck rfl rfl ?_
      refine g_div 31 ck rfl rfl hs1 (by decide) hs2 (by decide) ?_
      refine g_il 32 ck rfl rfl rfl ?_
      refine g_ic 34 ck rfl rfl ?_
      refine g_rem 35 ck rfl rfl hs1 (by decide) hs2 (by decide) ?_
      refine g_ic 36 ck rfl rfl ?_
      refine g_cvi (as := [_, _, _]) (rest := []) 39 ck rfl rfl rfl rfl rfl rfl (by decide) rfl rfl rfl rfl (Nat.le_of_ble_eq_true rfl) (s78 rfl ?_)
      refine r_is 41 ck rfl rfl rfl rfl ?_
      replace h := h _ rfl
      obtain ⟨⟨hs5, hs6⟩, h⟩ := h
      refine g_al 42 ck rfl rfl rfl ?_
      refine g_il 44 ck rfl rfl rfl ?_
      refine g_al 45 ck rfl rfl rfl ?_
      refine g_il 46 ck rfl rfl rfl ?_
      refine g_ial (m := 512) 47 ck rfl rfl ho1 hs2 hs3 ?_
      refine g_cvi (as := [_, _]) (rest := []) 50 ck rfl rfl rfl rfl rfl rfl (by decide) (isP_c ho2) rfl rfl rfl (Nat.le_of_ble_eq_true rfl) (s82 ho2 hs5 hs6 ?_)
      replace h := h _ rfl
      refine g_ifne 53 55 ck rfl rfl rfl rg_b2i (fun hc => ?_) (fun hc => ?_)
      · replace h := ite_ht h (b2i_t hc)
        refine r_ii 58 ck rfl rfl rfl rfl ?_
        refine g_goto 7 ck rfl rfl ?_
        exact h _ rfl
      · replace h := ite_hf h (b2i_f (Classical.not_not.mp hc))
        refine g_ic 54 ck rfl rfl ?_
        exact g_retb ck rfl rfl (Or.inl rfl) h
def w24 (B : va_E) (σ : l2_m) (o1 : Nat) (o2 : Nat) (K : Int → l2_m → Prop) : Prop := (∀ σ' : l2_m, σ' = l2_u σ o2 2 0 → w24_7 B σ' o1 o2 0 K)
theorem o24 {B : va_E} {σ : l2_m} {o1 : Nat} {o2 : Nat} {K : Int → l2_m → Prop} (ho1 : l2_al o1 = some 512) (ho2 : isP o2)  (h : w24 B σ o1 o2  K) : wC B 24 [vr 109, vr o1, vr o2] σ K := by
  have ck : pm_code 24 = pc_24 := rfl
  unfold w24 at h
  show wW B 24 0 [vr 109, vr o1, vr o2, pm_un, pm_un] [] σ K
  refine g_al 1 ck rfl rfl rfl ?_
  refine g_ic 2 ck rfl rfl ?_
  refine g_pfi 5 ck rfl rfl (isP_2 ho2) 2 rfl rfl ?_
  replace h := h _ rfl
  refine g_ic 6 ck rfl rfl ?_
  refine r_is 7 ck rfl rfl rfl rfl ?_
  exact o24_7 ho1 ho2 rfl h
/-! 26 TermDesk$Commons.takeContent([I[I)V -/
def w26_60 (B : va_E) (σ : l2_m) (o2 : Nat) (x3 : Int) (x4 : Int) (x5 : Int)  (K : Int → l2_m → Prop) : Prop := lz2 (fun X60 x5 σ => ((rg x5 ∧ rg x3) ∧ (if x3 < x5 then K 0 σ else ((0 ≤ x5 ∧ x5 < 32 ∧ 2 ≤ (σ 34 0) ∧ (σ 34 0) ≤ 97 ∧ rg ((σ o2 x5) * x4)) ∧ ∀ σ' : l2_m, σ' = l2_u σ o2 x5 (((σ o2 x5) * x4) % (σ 34 0)) → X60 (x5 + 1) σ')))) x5 σ
theorem o26_60 {B : va_E} {σ : l2_m} {o2 : Nat} {x3 : Int} {x4 : Int} {x5 : Int} {u1 : Value}  {K : Int → l2_m → Prop} (ho2 : l2_al o2 = some 32) (hu1 : (u1.category == 1) = true)  (h : w26_60 B σ o2 x3 x4 x5  K) : wW B 26 60 [vr 109, u1, vr o2, vi x3, vi x4, vi x5] [] σ K := by
  have ck : pm_code 26 = pc_26 := rfl
  unfold w26_60 at h
  refine h (fun x5 σ => ∀ u1 : Value, (u1.category == 1) = true → wW B 26 60 [vr 109, u1, vr o2, vi x3, vi x4, vi x5] [] σ K) ?_ u1 hu1
  clear h
  intro x5 σ h u1 hu1
  obtain ⟨⟨hs1, hs2⟩, h⟩ := h
  refine g_il 62 ck rfl rfl rfl ?_
  refine g_il 63 ck rfl rfl rfl ?_
  refine g_icgt 66 90 ck rfl rfl rfl hs1 hs2 (fun hc => ?_) (fun hc => ?_)
  · replace h := ite_ht h hc
    exact g_retv ck rfl rfl h
  · replace h := ite_hf h hc
    obtain ⟨⟨hs3, hs4, hs5, hs6, hs7⟩, h⟩ := h
    refine g_al 67 ck rfl rfl rfl ?_
    refine g_il 69 ck rfl rfl rfl ?_
    refine g_al 70 ck rfl rfl rfl ?_
    refine r_gfr 73 34 ck rfl rfl rfl (by decide) ?_
    refine g_al 74 ck rfl rfl rfl ?_
    refine g_il 76 ck rfl rfl rfl ?_
    refine g_ial (m := 32) 77 ck rfl rfl ho2 hs3 hs4 ?_
    refine g_il 79 ck rfl rfl rfl ?_
    refine g_mul 80 ck rfl rfl ?_
    refine g_cvi (as := [_]) (rest := [_, _]) 83 ck rfl rfl rfl rfl rfl rfl (by decide) rfl rfl rfl rfl (Nat.le_of_ble_eq_true rfl) (s72 rfl hs5 hs6 hs7 ?_)
    refine g_ias (m := 32) 84 ck rfl rfl ho2 hs3 hs4 ?_
    replace h := h _ rfl
    refine r_ii 87 ck rfl rfl rfl rfl ?_
    refine g_goto 60 ck rfl rfl ?_
    exact h _ hu1
def w26_7 (B : va_E) (σ : l2_m) (o1 : Nat) (o2 : Nat) (x3 : Int)  (K : Int → l2_m → Prop) : Prop := lz2 (fun X7 x3 σ => (rg x3 ∧ (if x3 < 16 then (wC B 27 [vr 109, vr o2, vr o1, vi (x3 * 32)] σ (fun _ σ' => X7 (x3 + 1) σ')) else ((0 + 32 ≤ ((32 : Nat) : Int) ∧ (∀ j : Int, 0 ≤ j → j < 32 → rg (σ o2 (0 + j)))) ∧ ∀ x3' : Int, x3' = (top (fun j => σ o2 (0 + j)) 32) → rg x3' ∧ (if x3' < 0 then w26_60 B σ o2 x3' 0 0 K else ((0 ≤ x3' ∧ x3' < 32 ∧ 0 ≤ (σ 34 0) ∧ (σ 34 0) ≤ 97 ∧ rg (σ o2 x3')) ∧ ∀ x4 : Int, x4 = (invO σ 34 (σ o2 x3')) → w26_60 B σ o2 x3' x4 0 K)))))) x3 σ
theorem o26_7 {B : va_E} {σ : l2_m} {o1 : Nat} {o2 : Nat} {x3 : Int} {u4 : Value} {u5 : Value}  {K : Int → l2_m → Prop} (ho1 : l2_al o1 = some 512) (ho2 : l2_al o2 = some 32) (hu4 : (u4.category == 1) = true) (hu5 : (u5.category == 1) = true)  (h : w26_7 B σ o1 o2 x3  K) : wW B 26 7 [vr 109, vr o1, vr o2, vi x3, u4, u5] [] σ K := by
  have ck : pm_code 26 = pc_26 := rfl
  unfold w26_7 at h
  refine h (fun x3 σ => ∀ u4 : Value, (u4.category == 1) = true → ∀ u5 : Value, (u5.category == 1) = true → wW B 26 7 [vr 109, vr o1, vr o2, vi x3, u4, u5] [] σ K) ?_ u4 hu4 u5 hu5
  clear h
  intro x3 σ h u4 hu4 u5 hu5
  obtain ⟨hs1, h⟩ := h
  refine g_il 8 ck rfl rfl rfl ?_
  refine g_ic 10 ck rfl rfl ?_
  refine g_icge 13 29 ck rfl rfl rfl hs1 (by decide) (fun hc => ?_) (fun hc => ?_)
  · replace h := ite_hf h (Int.not_lt.mpr hc)
    obtain ⟨⟨hs2, hs3⟩, h⟩ := h
    refine g_al 30 ck rfl rfl rfl ?_
    refine g_ic 31 ck rfl rfl ?_
    refine g_ic 33 ck rfl rfl ?_
    refine g_csi (as := [_, _, _]) (rest := []) 36 ck rfl rfl rfl rfl rfl (by decide) rfl rfl rfl (Nat.le_of_ble_eq_true rfl) (s25 ho2 (by decide) (by decide) hs2 hs3 ?_)
    refine r_is 37 ck rfl rfl rfl rfl ?_
    replace h := h _ rfl
    obtain ⟨hs4, h⟩ := h
    refine g_il 38 ck rfl rfl rfl ?_
    refine g_ifge 41 45 ck rfl rfl rfl hs4 (fun hc => ?_) (fun hc => ?_)
    · replace h := ite_hf h (Int.not_lt.mpr hc)
      obtain ⟨⟨hs5, hs6, hs7, hs8, hs9⟩, h⟩ := h
      refine g_al 46 ck rfl rfl rfl ?_
      refine r_gfr 49 34 ck rfl rfl rfl (by decide) ?_
      refine g_al 50 ck rfl rfl rfl ?_
      refine g_il 51 ck rfl rfl rfl ?_
      refine g_ial (m := 32) 52 ck rfl rfl ho2 hs5 hs6 ?_
      refine g_cvi (as := [_]) (rest := []) 55 ck rfl rfl rfl rfl rfl rfl (by decide) rfl rfl rfl rfl (Nat.le_of_ble_eq_true rfl) (s73 rfl hs7 hs8 hs9 ?_)
      refine r_is 57 ck rfl rfl rfl rfl ?_
      replace h := h _ rfl
      refine g_ic 58 ck rfl rfl ?_
      refine r_is 60 ck rfl rfl rfl rfl ?_
      exact o26_60 ho2 rfl h
    · replace h := ite_ht h (Int.not_le.mp hc)
      refine g_ic 42 ck rfl rfl ?_
      refine g_goto 55 ck rfl rfl ?_
      refine r_is 57 ck rfl rfl rfl rfl ?_
      refine g_ic 58 ck rfl rfl ?_
      refine r_is 60 ck rfl rfl rfl rfl ?_
      exact o26_60 ho2 rfl h
  · replace h := ite_ht h (Int.not_le.mp hc)
    refine g_al 14 ck rfl rfl rfl ?_
    refine g_al 15 ck rfl rfl rfl ?_
    refine g_al 16 ck rfl rfl rfl ?_
    refine g_il 17 ck rfl rfl rfl ?_
    refine g_ic 19 ck rfl rfl ?_
    refine g_mul 20 ck rfl rfl ?_
    refine g_cvv (as := [_, _, _]) (rest := []) 23 ck rfl rfl rfl rfl rfl rfl rfl rfl rfl rfl (Nat.le_of_ble_eq_true rfl) (wC.mono h (fun _ σ' h => ?_))
    refine r_ii 26 ck rfl rfl rfl rfl ?_
    refine g_goto 7 ck rfl rfl ?_
    exact h _ hu4 _ hu5
def w26 (B : va_E) (σ : l2_m) (o1 : Nat) (o2 : Nat) (K : Int → l2_m → Prop) : Prop := (∀ σ' : l2_m, σ' = fil σ o2 0 ((32 : Nat) : Int) → w26_7 B σ' o1 o2 0 K)
theorem o26 {B : va_E} {σ : l2_m} {o1 : Nat} {o2 : Nat} {K : Int → l2_m → Prop} (ho1 : l2_al o1 = some 512) (ho2 : l2_al o2 = some 32)  (h : w26 B σ o1 o2  K) : wC B 26 [vr 109, vr o1, vr o2] σ K := by
  have ck : pm_code 26 = pc_26 := rfl
  unfold w26 at h
  show wW B 26 0 [vr 109, vr o1, vr o2, pm_un, pm_un, pm_un] [] σ K
  refine g_al 1 ck rfl rfl rfl ?_
  refine g_ic 2 ck rfl rfl ?_
  refine g_csv (as := [_, _]) (rest := []) 5 ck rfl rfl rfl rfl rfl rfl rfl rfl (Nat.le_of_ble_eq_true rfl) (s280 ho2 ?_)
  replace h := h _ rfl
  refine g_ic 6 ck rfl rfl ?_
  refine r_is 7 ck rfl rfl rfl rfl ?_
  exact o26_7 ho1 ho2 rfl rfl h
/-! 27 TermDesk$Commons.joinRow([I[II)V -/
def w27_58 (B : va_E) (σ : l2_m) (o1 : Nat) (x4 : Int) (x5 : Int) (x6 : Int) (x7 : Int) (X36 : Int → Int → Int → l2_m → Prop) (K : Int → l2_m → Prop) : Prop := lz2 (fun X58 x7 σ => (rg x7 ∧ (if x7 < 32 then ((0 ≤ x7 ∧ x7 < 32) ∧ ∀ x8 : Int, x8 = (σ o1 x7) → ∀ σ' : l2_m, σ' = l2_u σ o1 x7 (σ 124 x7) → ∀ σ'' : l2_m, σ'' = l2_u σ' 124 x7 x8 → X58 (x7 + 1) σ'') else X36 x5 x4 (x6 + 1) σ))) x7 σ
theorem o27_58 {B : va_E} {σ : l2_m} {o1 : Nat} {x4 : Int} {x5 : Int} {x6 : Int} {x7 : Int} {u2 : Value} {u3 : Value} {u8 : Value} {X36 : Int → Int → Int → l2_m → Prop} {K : Int → l2_m → Prop} (ho1 : l2_al o1 = some 32) (hu2 : (u2.category == 1) = true) (hu3 : (u3.category == 1) = true) (hu8 : (u8.category == 1) = true) (hX36 : ∀ (x4 : Int) (x5 : Int) (x6 : Int) (σ : l2_m) (u2 : Value) (u3 : Value) (u7 : Value) (u8 : Value), (u2.category == 1) = true → (u3.category == 1) = true → (u7.category == 1) = true → (u8.category == 1) = true → X36 x4 x5 x6 σ → wW B 27 36 [vr 109, vr o1, u2, u3, vi x4, vi x5, vi x6, u7, u8] [] σ K) (h : w27_58 B σ o1 x4 x5 x6 x7 X36 K) : wW B 27 58 [vr 109, vr o1, u2, u3, vi x4, vi x5, vi x6, vi x7, u8] [] σ K := by
  have ck : pm_code 27 = pc_27 := rfl
  unfold w27_58 at h
  refine h (fun x7 σ => ∀ u2 : Value, (u2.category == 1) = true → ∀ u3 : Value, (u3.category == 1) = true → ∀ u8 : Value, (u8.category == 1) = true → wW B 27 58 [vr 109, vr o1, u2, u3, vi x4, vi x5, vi x6, vi x7, u8] [] σ K) ?_ u2 hu2 u3 hu3 u8 hu8
  clear h
  intro x7 σ h u2 hu2 u3 hu3 u8 hu8
  obtain ⟨hs1, h⟩ := h
  refine g_il 60 ck rfl rfl rfl ?_
  refine g_ic 62 ck rfl rfl ?_
  refine g_icge 65 97 ck rfl rfl rfl hs1 (by decide) (fun hc => ?_) (fun hc => ?_)
  · replace h := ite_hf h (Int.not_lt.mpr hc)
    refine g_il 99 ck rfl rfl rfl ?_
    refine r_is 101 ck rfl rfl rfl rfl ?_
    refine g_il 103 ck rfl rfl rfl ?_
    refine r_is 105 ck rfl rfl hu3 rfl ?_
    refine g_il 107 ck rfl rfl rfl ?_
    refine r_is 109 ck rfl rfl rfl rfl ?_
    refine g_goto 144 ck rfl rfl ?_
    refine r_ii 147 ck rfl rfl rfl rfl ?_
    refine g_goto 36 ck rfl rfl ?_
    exact hX36 _ _ _ _ _ _ _ _ hu2 hu3 rfl hu8 h
  · replace h := ite_ht h (Int.not_le.mp hc)
    obtain ⟨⟨hs2, hs3⟩, h⟩ := h
    refine g_al 66 ck rfl rfl rfl ?_
    refine g_il 68 ck rfl rfl rfl ?_
    refine g_ial (m := 32) 69 ck rfl rfl ho1 hs2 hs3 ?_
    refine r_is 71 ck rfl rfl rfl rfl ?_
    replace h := h _ rfl
    refine g_al 72 ck rfl rfl rfl ?_
    refine g_il 74 ck rfl rfl rfl ?_
    refine g_al 75 ck rfl rfl rfl ?_
    refine r_gfr 78 124 ck rfl rfl rfl (by decide) ?_
    refine g_il 80 ck rfl rfl rfl ?_
    refine g_ial (m := 32) 81 ck rfl rfl rfl hs2 hs3 ?_
    refine g_ias (m := 32) 82 ck rfl rfl ho1 hs2 hs3 ?_
    replace h := h _ rfl
    refine g_al 83 ck rfl rfl rfl ?_
    refine r_gfr 86 124 ck rfl rfl rfl (by decide) ?_
    refine g_il 88 ck rfl rfl rfl ?_
    refine g_il 90 ck rfl rfl rfl ?_
    refine g_ias (m := 32) 91 ck rfl rfl rfl hs2 hs3 ?_
    replace h := h _ rfl
    refine r_ii 94 ck rfl rfl rfl rfl ?_
    refine g_goto 58 ck rfl rfl ?_
    exact h _ hu2 _ hu3 _ rfl
def w27_36 (B : va_E) (σ : l2_m) (o1 : Nat) (x4 : Int) (x5 : Int) (x6 : Int)  (K : Int → l2_m → Prop) : Prop := lz4 (fun X36 x4 x5 x6 σ => (rg x6 ∧ ((¬ (64 < x6) → rg x5) ∧ (if (64 < x6) ∨ (x5 < 0) then K 0 σ else (rg x4 ∧ (if x4 < x5 then w27_58 B σ o1 x4 x5 x6 0 X36 K else ((0 ≤ x5 ∧ x5 < 32 ∧ 0 ≤ (σ 34 0) ∧ (σ 34 0) ≤ 97 ∧ rg (σ 124 x5)) ∧ (wC B 28 [vr 109, vr o1, vi x4, vi x5, vi (invO σ 34 (σ 124 x5))] σ (fun _ σ' => ((0 + 32 ≤ ((32 : Nat) : Int) ∧ (∀ j : Int, 0 ≤ j → j < 32 → rg (σ' o1 (0 + j)))) ∧ ∀ x4' : Int, x4' = (top (fun j => σ' o1 (0 + j)) 32) → X36 x4' x5 (x6 + 1) σ')))))))))) x4 x5 x6 σ
theorem o27_36 {B : va_E} {σ : l2_m} {o1 : Nat} {x4 : Int} {x5 : Int} {x6 : Int} {u2 : Value} {u3 : Value} {u7 : Value} {u8 : Value}  {K : Int → l2_m → Prop} (ho1 : l2_al o1 = some 32) (hu2 : (u2.category == 1) = true) (hu3 : (u3.category == 1) = true) (hu7 : (u7.category == 1) = true) (hu8 : (u8.category == 1) = true)  (h : w27_36 B σ o1 x4 x5 x6  K) : wW B 27 36 [vr 109, vr o1, u2, u3, vi x4, vi x5, vi x6, u7, u8] [] σ K := by
  have ck : pm_code 27 = pc_27 := rfl
  unfold w27_36 at h
  refine h (fun x4 x5 x6 σ => ∀ u2 : Value, (u2.category == 1) = true → ∀ u3 : Value, (u3.category == 1) = true → ∀ u7 : Value, (u7.category == 1) = true → ∀ u8 : Value, (u8.category == 1) = true → wW B 27 36 [vr 109, vr o1, u2, u3, vi x4, vi x5, vi x6, u7, u8] [] σ K) ?_ u2 hu2 u3 hu3 u7 hu7 u8 hu8
  clear h
  intro x4 x5 x6 σ h u2 hu2 u3 hu3 u7 hu7 u8 hu8
  replace h := (And.imp_right mg_1s) h
  obtain ⟨hs1, h⟩ := h
  refine g_il 38 ck rfl rfl rfl ?_
  refine g_ic 40 ck rfl rfl ?_
  refine g_icgt 43 150 ck rfl rfl rfl hs1 (by decide) (fun hc => ?_) (fun hc => ?_)
  · replace h := ite_ht h hc
    exact g_retv ck rfl rfl h
  · replace h := ite_hf h hc
    obtain ⟨hs2, h⟩ := h
    refine g_il 45 ck rfl rfl rfl ?_
    refine g_iflt 48 150 ck rfl rfl rfl hs2 (fun hc => ?_) (fun hc => ?_)
    · replace h := ite_ht h hc
      exact g_retv ck rfl rfl h
    · replace h := ite_hf h hc
      obtain ⟨hs3, h⟩ := h
      refine g_il 50 ck rfl rfl rfl ?_
      refine g_il 52 ck rfl rfl rfl ?_
      refine g_icge 55 112 ck rfl rfl rfl hs3 hs2 (fun hc => ?_) (fun hc => ?_)
      · replace h := ite_hf h (Int.not_lt.mpr hc)
        obtain ⟨⟨hs4, hs5, hs6, hs7, hs8⟩, h⟩ := h
        refine g_al 113 ck rfl rfl rfl ?_
        refine g_al 114 ck rfl rfl rfl ?_
        refine g_il 116 ck rfl rfl rfl ?_
        refine g_il 118 ck rfl rfl rfl ?_
        refine g_al 119 ck rfl rfl rfl ?_
        refine r_gfr 122 34 ck rfl rfl rfl (by decide) ?_
        refine g_al 123 ck rfl rfl rfl ?_
        refine r_gfr 126 124 ck rfl rfl rfl (by decide) ?_
        refine g_il 128 ck rfl rfl rfl ?_
        refine g_ial (m := 32) 129 ck rfl rfl rfl hs4 hs5 ?_
        refine g_cvi (as := [_]) (rest := [_, _, _, _]) 132 ck rfl rfl rfl rfl rfl rfl (by decide) rfl rfl rfl rfl (Nat.le_of_ble_eq_true rfl) (s73 rfl hs6 hs7 hs8 ?_)
        refine g_cvv (as := [_, _, _, _]) (rest := []) 135 ck rfl rfl rfl rfl rfl rfl rfl rfl rfl rfl (Nat.le_of_ble_eq_true rfl) (wC.mono h (fun _ σ' h => ?_))
        obtain ⟨⟨hs9, hs10⟩, h⟩ := h
        refine g_al 136 ck rfl rfl rfl ?_
        refine g_ic 137 ck rfl rfl ?_
        refine g_ic 139 ck rfl rfl ?_
        refine g_csi (as := [_, _, _]) (rest := []) 142 ck rfl rfl rfl rfl rfl (by decide) rfl rfl rfl (Nat.le_of_ble_eq_true rfl) (s25 ho1 (by decide) (by decide) hs9 hs10 ?_)
        refine r_is 144 ck rfl rfl hu3 rfl ?_
        replace h := h _ rfl
        refine r_ii 147 ck rfl rfl rfl rfl ?_
        refine g_goto 36 ck rfl rfl ?_
        exact h _ hu2 _ hu3 _ hu7 _ hu8
      · replace h := ite_ht h (Int.not_le.mp hc)
        refine g_ic 56 ck rfl rfl ?_
        refine r_is 58 ck rfl rfl rfl rfl ?_
        exact o27_58 ho1 hu2 hu3 hu8 (fun _ _ _ _ u2 u3 u7 u8 hu2 hu3 hu7 hu8 hx => hx u2 hu2 u3 hu3 u7 hu7 u8 hu8) h
def w27 (B : va_E) (σ : l2_m) (o1 : Nat) (o2 : Nat) (x3 : Int) (n2 : Nat) (K : Int → l2_m → Prop) : Prop := ((0 ≤ x3 ∧ x3 + 32 ≤ (n2 : Int)) ∧ ∀ σ' : l2_m, σ' = l2_cpy σ o2 x3 124 0 32 → (0 + 32 ≤ ((32 : Nat) : Int) ∧ (∀ j : Int, 0 ≤ j → j < 32 → rg (σ' o1 (0 + j)))) ∧ ∀ x4 : Int, x4 = (top (fun j => σ' o1 (0 + j)) 32) → (∀ j : Int, 0 ≤ j → j < 32 → rg (σ' 124 (0 + j))) ∧ ∀ x5 : Int, x5 = (top (fun j => σ' 124 (0 + j)) 32) → w27_36 B σ' o1 x4 x5 0 K)
theorem o27 {B : va_E} {σ : l2_m} {o1 : Nat} {o2 : Nat} {x3 : Int} {n2 : Nat} {K : Int → l2_m → Prop} (ho1 : l2_al o1 = some 32) (ho2 : l2_al o2 = some n2)  (h : w27 B σ o1 o2 x3 n2  K) : wC B 27 [vr 109, vr o1, vr o2, vi x3] σ K := by
  have ck : pm_code 27 = pc_27 := rfl
  unfold w27 at h
  show wW B 27 0 [vr 109, vr o1, vr o2, vi x3, pm_un, pm_un, pm_un, pm_un, pm_un] [] σ K
  obtain ⟨⟨hs1, hs2⟩, h⟩ := h
  refine g_al 1 ck rfl rfl rfl ?_
  refine g_il 2 ck rfl rfl rfl ?_
  refine g_al 3 ck rfl rfl rfl ?_
  refine r_gfr 6 124 ck rfl rfl rfl (by decide) ?_
  refine g_ic 7 ck rfl rfl ?_
  refine g_ic 9 ck rfl rfl ?_
  refine g_acp (n0 := n2) (n1 := 32) 12 ck rfl rfl ho2 rfl hs1 (by decide) (by decide) hs2 (by decide) (Nat.le_of_ble_eq_true rfl) ?_
  replace h := h _ rfl
  obtain ⟨⟨hs3, hs4⟩, h⟩ := h
  refine g_al 13 ck rfl rfl rfl ?_
  refine g_ic 14 ck rfl rfl ?_
  refine g_ic 16 ck rfl rfl ?_
  refine g_csi (as := [_, _, _]) (rest := []) 19 ck rfl rfl rfl rfl rfl (by decide) rfl rfl rfl (Nat.le_of_ble_eq_true rfl) (s25 ho1 (by decide) (by decide) hs3 hs4 ?_)
  refine r_is 21 ck rfl rfl rfl rfl ?_
  replace h := h _ rfl
  obtain ⟨hs5, h⟩ := h
  refine g_al 22 ck rfl rfl rfl ?_
  refine r_gfr 25 124 ck rfl rfl rfl (by decide) ?_
  refine g_ic 26 ck rfl rfl ?_
  refine g_ic 28 ck rfl rfl ?_
  refine g_csi (as := [_, _, _]) (rest := []) 31 ck rfl rfl rfl rfl rfl (by decide) rfl rfl rfl (Nat.le_of_ble_eq_true rfl) (s25 rfl (by decide) (by decide) hs3 hs5 ?_)
  refine r_is 33 ck rfl rfl rfl rfl ?_
  replace h := h _ rfl
  refine g_ic 34 ck rfl rfl ?_
  refine r_is 36 ck rfl rfl rfl rfl ?_
  exact o27_36 ho1 rfl rfl rfl rfl h
/-! 29 TermDesk$Commons.strip([I[I)V -/
def w29 (B : va_E) (σ : l2_m) (o1 : Nat) (o2 : Nat) (K : Int → l2_m → Prop) : Prop := (∀ σ' : l2_m, σ' = fil σ 118 0 ((512 : Nat) : Int) → ∀ σ'' : l2_m, σ'' = l2_cpy σ' o2 0 118 0 32 → (wC B 30 [vr 109, vr o1, vr 118] σ'' (fun y σ''' => (rg y ∧ (if y = 0 then K 0 σ''' else (∀ σ'''' : l2_m, σ'''' = l2_cpy σ''' 119 0 o1 0 512 → K 0 σ''''))))))
theorem o29 {B : va_E} {σ : l2_m} {o1 : Nat} {o2 : Nat} {K : Int → l2_m → Prop} (ho1 : l2_al o1 = some 512) (ho2 : l2_al o2 = some 32)  (h : w29 B σ o1 o2  K) : wC B 29 [vr 109, vr o1, vr o2] σ K := by
  have ck : pm_code 29 = pc_29 := rfl
  unfold w29 at h
  show wW B 29 0 [vr 109, vr o1, vr o2] [] σ K
  refine g_al 1 ck rfl rfl rfl ?_
  refine r_gfr 4 118 ck rfl rfl rfl (by decide) ?_
  refine g_ic 5 ck rfl rfl ?_
  refine g_csv (as := [_, _]) (rest := []) 8 ck rfl rfl rfl rfl rfl rfl rfl rfl (Nat.le_of_ble_eq_true rfl) (s280 rfl ?_)
  replace h := h _ rfl
  refine g_al 9 ck rfl rfl rfl ?_
  refine g_ic 10 ck rfl rfl ?_
  refine g_al 11 ck rfl rfl rfl ?_
  refine r_gfr 14 118 ck rfl rfl rfl (by decide) ?_
  refine g_ic 15 ck rfl rfl ?_
  refine g_ic 17 ck rfl rfl ?_
  refine g_acp (n0 := 32) (n1 := 512) 20 ck rfl rfl ho2 rfl (by decide) (by decide) (by decide) (by decide) (by decide) (Nat.le_of_ble_eq_true rfl) ?_
  replace h := h _ rfl
  refine g_al 21 ck rfl rfl rfl ?_
  refine g_al 22 ck rfl rfl rfl ?_
  refine g_al 23 ck rfl rfl rfl ?_
  refine r_gfr 26 118 ck rfl rfl rfl (by decide) ?_
  refine g_cvi (as := [_, _]) (rest := []) 29 ck rfl rfl rfl rfl rfl rfl (by decide) rfl rfl rfl rfl (Nat.le_of_ble_eq_true rfl) (wC.mono h (fun y σ''' h => ?_))
  obtain ⟨hs1, h⟩ := h
  refine g_ifeq 32 45 ck rfl rfl rfl hs1 (fun hc => ?_) (fun hc => ?_)
  · replace h := ite_ht h hc
    exact g_retv ck rfl rfl h
  · replace h := ite_hf h hc
    refine g_al 33 ck rfl rfl rfl ?_
    refine r_gfr 36 119 ck rfl rfl rfl (by decide) ?_
    refine g_ic 37 ck rfl rfl ?_
    refine g_al 38 ck rfl rfl rfl ?_
    refine g_ic 39 ck rfl rfl ?_
    refine g_ic 42 ck rfl rfl ?_
    refine g_acp (n0 := 512) (n1 := 512) 45 ck rfl rfl rfl ho1 (by decide) (by decide) (by decide) (by decide) (by decide) (Nat.le_of_ble_eq_true rfl) ?_
    replace h := h _ rfl
    exact g_retv ck rfl rfl h
/-! 30 TermDesk$Commons.isDivided([I[I)Z -/
def w30_55 (B : va_E) (σ : l2_m) (o2 : Nat) (x3 : Int) (x4 : Int) (x5 : Int)  (K : Int → l2_m → Prop) : Prop := lz2 (fun X55 x5 σ => (rg x5 ∧ (if x5 < 0 then K 1 σ else ((0 ≤ x5 ∧ x5 < 512 ∧ rg (σ 117 x5)) ∧ (if (σ 117 x5) = 0 then X55 (x5 + (-1)) σ else ((rg x3 ∧ 0 ≤ x3) ∧ ∀ x6 : Int, x6 = ((x5 / 32) - (x3 / 32)) → ∀ x7 : Int, x7 = ((x5 % 32) - (x3 % 32)) → (2 ≤ (σ 34 0) ∧ (σ 34 0) ≤ 97 ∧ rg ((σ 117 x5) * x4)) ∧ ∀ x8 : Int, x8 = (((σ 117 x5) * x4) % (σ 34 0)) → rg x6 ∧ ((¬ (x6 < 0) → rg x7) ∧ (if (x6 < 0) ∨ (x7 < 0) then K 0 σ else (wC B 31 [vr 109, vr o2, vi x3, vi ((x6 * 32) + x7), vi x8] σ (fun y σ' => (rg y ∧ (if y = 0 then K 0 σ' else ((0 ≤ ((x6 * 32) + x7) ∧ ((x6 * 32) + x7) < 512) ∧ ∀ σ'' : l2_m, σ'' = l2_u σ' 119 ((x6 * 32) + x7) x8 → X55 (x5 + (-1)) σ''))))))))))))) x5 σ
theorem o30_55 {B : va_E} {σ : l2_m} {o2 : Nat} {x3 : Int} {x4 : Int} {x5 : Int} {u1 : Value} {u6 : Value} {u7 : Value} {u8 : Value}  {K : Int → l2_m → Prop} (ho2 : l2_al o2 = some 512) (hu1 : (u1.category == 1) = true) (hu6 : (u6.category == 1) = true) (hu7 : (u7.category == 1) = true) (hu8 : (u8.category == 1) = true)  (h : w30_55 B σ o2 x3 x4 x5  K) : wW B 30 55 [vr 109, u1, vr o2, vi x3, vi x4, vi x5, u6, u7, u8] [] σ K := by
  have ck : pm_code 30 = pc_30 := rfl
  unfold w30_55 at h
  refine h (fun x5 σ => ∀ u1 : Value, (u1.category == 1) = true → ∀ u6 : Value, (u6.category == 1) = true → ∀ u7 : Value, (u7.category == 1) = true → ∀ u8 : Value, (u8.category == 1) = true → wW B 30 55 [vr 109, u1, vr o2, vi x3, vi x4, vi x5, u6, u7, u8] [] σ K) ?_ u1 hu1 u6 hu6 u7 hu7 u8 hu8
  clear h
  intro x5 σ h u1 hu1 u6 hu6 u7 hu7 u8 hu8
  replace h := (And.imp_right (ite_mp id (And.imp_right (ite_mp id (And.imp_right (fun h x e => (fun h x e => (And.imp_right (fun h x e => (And.imp_right mg_1s) (h x e))) (h x e)) (h x e))))))) h
  obtain ⟨hs1, h⟩ := h
  refine g_il 57 ck rfl rfl rfl ?_
  refine g_iflt 60 165 ck rfl rfl rfl hs1 (fun hc => ?_) (fun hc => ?_)
  · replace h := ite_ht h hc
    refine g_ic 166 ck rfl rfl ?_
    exact g_retb ck rfl rfl (Or.inr rfl) h
  · replace h := ite_hf h hc
    obtain ⟨⟨hs2, hs3, hs4⟩, h⟩ := h
    refine g_al 61 ck rfl rfl rfl ?_
    refine r_gfr 64 117 ck rfl rfl rfl (by decide) ?_
    refine g_il 66 ck rfl rfl rfl ?_
    refine g_ial (m := 512) 67 ck rfl rfl rfl hs2 hs3 ?_
    refine g_ifeq 70 159 ck rfl rfl rfl hs4 (fun hc => ?_) (fun hc => ?_)
    · replace h := ite_ht h hc
      refine r_ii 162 ck rfl rfl rfl rfl ?_
      refine g_goto 55 ck rfl rfl ?_
      exact h _ hu1 _ hu6 _ hu7 _ hu8
    · replace h := ite_hf h hc
      obtain ⟨⟨hs5, hs6⟩, h⟩ := h
      refine g_il 72 ck rfl rfl rfl ?_
      refine g_ic 74 ck rfl rfl ?_
      refine g_div 75 ck rfl rfl hs1 (by decide) hs2 (by decide) ?_
      refine g_il 76 ck rfl rfl rfl ?_
      refine g_ic 78 ck rfl rfl ?_
      refine g_div 79 ck rfl rfl hs5 (by decide) hs6 (by decide) ?_
      refine g_sub 80 ck rfl rfl ?_
      refine r_is 82 ck rfl rfl rfl rfl ?_
      replace h := h _ rfl
      refine g_il 84 ck rfl rfl rfl ?_
      refine g_ic 86 ck rfl rfl ?_
      refine g_rem 87 ck rfl rfl hs1 (by decide) hs2 (by decide) ?_
      refine g_il 88 ck rfl rfl rfl ?_
      refine g_ic 90 ck rfl rfl ?_
      refine g_rem 91 ck rfl rfl hs5 (by decide) hs6 (by decide) ?_
      refine g_sub 92 ck rfl rfl ?_
      refine r_is 94 ck rfl rfl rfl rfl ?_
      replace h := h _ rfl
      obtain ⟨⟨hs7, hs8, hs9⟩, h⟩ := h
      refine g_al 95 ck rfl rfl rfl ?_
      refine r_gfr 98 34 ck rfl rfl rfl (by decide) ?_
      refine g_al 99 ck rfl rfl rfl ?_
      refine r_gfr 102 117 ck rfl rfl rfl (by decide) ?_
      refine g_il 104 ck rfl rfl rfl ?_
      refine g_ial (m := 512) 105 ck rfl rfl rfl hs2 hs3 ?_
      refine g_il 107 ck rfl rfl rfl ?_
      refine g_mul 108 ck rfl rfl ?_
      refine g_cvi (as := [_]) (rest := []) 111 ck rfl rfl rfl rfl rfl rfl (by decide) rfl rfl rfl rfl (Nat.le_of_ble_eq_true rfl) (s72 rfl hs7 hs8 hs9 ?_)
      refine r_is 113 ck rfl rfl rfl rfl ?_
      replace h := h _ rfl
      obtain ⟨hs10, h⟩ := h
      refine g_il 115 ck rfl rfl rfl ?_
      refine g_iflt 118 142 ck rfl rfl rfl hs10 (fun hc => ?_) (fun hc => ?_)
      · replace h := ite_ht h hc
        refine g_ic 143 ck rfl rfl ?_
        exact g_retb ck rfl rfl (Or.inl rfl) h
      · replace h := ite_hf h hc
        obtain ⟨hs11, h⟩ := h
        refine g_il 120 ck rfl rfl rfl ?_
        refine g_iflt 123 142 ck rfl rfl rfl hs11 (fun hc => ?_) (fun hc => ?_)
        · replace h := ite_ht h hc
          refine g_ic 143 ck rfl rfl ?_
          exact g_retb ck rfl rfl (Or.inl rfl) h
        · replace h := ite_hf h hc
          refine g_al 124 ck rfl rfl rfl ?_
          refine g_al 125 ck rfl rfl rfl ?_
          refine g_il 126 ck rfl rfl rfl ?_
          refine g_il 128 ck rfl rfl rfl ?_
          refine g_ic 130 ck rfl rfl ?_
          refine g_mul 131 ck rfl rfl ?_
          refine g_il 133 ck rfl rfl rfl ?_
          refine g_add 134 ck rfl rfl ?_
          refine g_il 136 ck rfl rfl rfl ?_
          refine g_cvi (as := [_, _, _, _]) (rest := []) 139 ck rfl rfl rfl rfl rfl rfl (by decide) rfl rfl rfl rfl (Nat.le_of_ble_eq_true rfl) (wC.mono h (fun y σ' h => ?_))
          obtain ⟨hs12, h⟩ := h
          refine g_ifne 142 144 ck rfl rfl rfl hs12 (fun hc => ?_) (fun hc => ?_)
          · replace h := ite_hf h hc
            obtain ⟨⟨hs13, hs14⟩, h⟩ := h
            refine g_al 145 ck rfl rfl rfl ?_
            refine r_gfr 148 119 ck rfl rfl rfl (by decide) ?_
            refine g_il 150 ck rfl rfl rfl ?_
            refine g_ic 152 ck rfl rfl ?_
            refine g_mul 153 ck rfl rfl ?_
            refine g_il 155 ck rfl rfl rfl ?_
            refine g_add 156 ck rfl rfl ?_
            refine g_il 158 ck rfl rfl rfl ?_
            refine g_ias (m := 512) 159 ck rfl rfl rfl hs13 hs14 ?_
            replace h := h _ rfl
            refine r_ii 162 ck rfl rfl rfl rfl ?_
            refine g_goto 55 ck rfl rfl ?_
            exact h _ hu1 _ rfl _ rfl _ rfl
          · replace h := ite_ht h (Classical.not_not.mp hc)
            refine g_ic 143 ck rfl rfl ?_
            exact g_retb ck rfl rfl (Or.inl rfl) h
def w30 (B : va_E) (σ : l2_m) (o1 : Nat) (o2 : Nat) (K : Int → l2_m → Prop) : Prop := (∀ σ' : l2_m, σ' = l2_cpy σ o1 0 117 0 512 → ∀ σ'' : l2_m, σ'' = fil σ' 119 0 ((512 : Nat) : Int) → (0 + 512 ≤ ((512 : Nat) : Int) ∧ (∀ j : Int, 0 ≤ j → j < 512 → rg (σ'' o2 (0 + j)))) ∧ ∀ x3 : Int, x3 = (top (fun j => σ'' o2 (0 + j)) 512) → rg x3 ∧ (if x3 < 0 then w30_55 B σ'' o2 x3 0 511 K else ((0 ≤ x3 ∧ x3 < 512 ∧ 0 ≤ (σ'' 34 0) ∧ (σ'' 34 0) ≤ 97 ∧ rg (σ'' o2 x3)) ∧ ∀ x4 : Int, x4 = (invO σ'' 34 (σ'' o2 x3)) → w30_55 B σ'' o2 x3 x4 511 K)))
theorem o30 {B : va_E} {σ : l2_m} {o1 : Nat} {o2 : Nat} {K : Int → l2_m → Prop} (ho1 : l2_al o1 = some 512) (ho2 : l2_al o2 = some 512)  (h : w30 B σ o1 o2  K) : wC B 30 [vr 109, vr o1, vr o2] σ K := by
  have ck : pm_code 30 = pc_30 := rfl
  unfold w30 at h
  show wW B 30 0 [vr 109, vr o1, vr o2, pm_un, pm_un, pm_un, pm_un, pm_un, pm_un] [] σ K
  refine g_al 1 ck rfl rfl rfl ?_
  refine g_ic 2 ck rfl rfl ?_
  refine g_al 3 ck rfl rfl rfl ?_
  refine r_gfr 6 117 ck rfl rfl rfl (by decide) ?_
  refine g_ic 7 ck rfl rfl ?_
  refine g_ic 10 ck rfl rfl ?_
  refine g_acp (n0 := 512) (n1 := 512) 13 ck rfl rfl ho1 rfl (by decide) (by decide) (by decide) (by decide) (by decide) (Nat.le_of_ble_eq_true rfl) ?_
  replace h := h _ rfl
  refine g_al 14 ck rfl rfl rfl ?_
  refine r_gfr 17 119 ck rfl rfl rfl (by decide) ?_
  refine g_ic 18 ck rfl rfl ?_
  refine g_csv (as := [_, _]) (rest := []) 21 ck rfl rfl rfl rfl rfl rfl rfl rfl (Nat.le_of_ble_eq_true rfl) (s280 rfl ?_)
  replace h := h _ rfl
  obtain ⟨⟨hs1, hs2⟩, h⟩ := h
  refine g_al 22 ck rfl rfl rfl ?_
  refine g_ic 23 ck rfl rfl ?_
  refine g_ic 26 ck rfl rfl ?_
  refine g_csi (as := [_, _, _]) (rest := []) 29 ck rfl rfl rfl rfl rfl (by decide) rfl rfl rfl (Nat.le_of_ble_eq_true rfl) (s25 ho2 (by decide) (by decide) hs1 hs2 ?_)
  refine r_is 30 ck rfl rfl rfl rfl ?_
  replace h := h _ rfl
  obtain ⟨hs3, h⟩ := h
  refine g_il 31 ck rfl rfl rfl ?_
  refine g_ifge 34 38 ck rfl rfl rfl hs3 (fun hc => ?_) (fun hc => ?_)
  · replace h := ite_hf h (Int.not_lt.mpr hc)
    obtain ⟨⟨hs4, hs5, hs6, hs7, hs8⟩, h⟩ := h
    refine g_al 39 ck rfl rfl rfl ?_
    refine r_gfr 42 34 ck rfl rfl rfl (by decide) ?_
    refine g_al 43 ck rfl rfl rfl ?_
    refine g_il 44 ck rfl rfl rfl ?_
    refine g_ial (m := 512) 45 ck rfl rfl ho2 hs4 hs5 ?_
    refine g_cvi (as := [_]) (rest := []) 48 ck rfl rfl rfl rfl rfl rfl (by decide) rfl rfl rfl rfl (Nat.le_of_ble_eq_true rfl) (s73 rfl hs6 hs7 hs8 ?_)
    refine r_is 50 ck rfl rfl rfl rfl ?_
    replace h := h _ rfl
    refine g_ic 53 ck rfl rfl ?_
    refine r_is 55 ck rfl rfl rfl rfl ?_
    exact o30_55 ho2 rfl rfl rfl rfl h
  · replace h := ite_ht h (Int.not_le.mp hc)
    refine g_ic 35 ck rfl rfl ?_
    refine g_goto 48 ck rfl rfl ?_
    refine r_is 50 ck rfl rfl rfl rfl ?_
    refine g_ic 53 ck rfl rfl ?_
    refine r_is 55 ck rfl rfl rfl rfl ?_
    exact o30_55 ho2 rfl rfl rfl rfl h
/-! 31 TermDesk$Commons.takeAway([IIII)Z -/
def w31_20 (B : va_E) (σ : l2_m) (o1 : Nat) (x2 : Int) (x3 : Int) (x4 : Int) (x5 : Int) (x6 : Int)  (K : Int → l2_m → Prop) : Prop := lz2 (fun X20 x6 σ => ((rg x6 ∧ rg x2) ∧ (if x2 < x6 then (if x2 < 0 then K 0 σ else K 1 σ) else ((0 ≤ x6 ∧ x6 < 512 ∧ rg (σ o1 x6)) ∧ (if (σ o1 x6) = 0 then X20 (x6 + 1) σ else ((rg x3 ∧ 0 ≤ x3 ∧ rg ((x6 % 32) + (x3 % 32))) ∧ (((((x6 % 32) + (x3 % 32)) < 32) → rg (x6 + x3)) ∧ (if (((x6 % 32) + (x3 % 32)) < 32) ∧ ((x6 + x3) < 512) then ((0 ≤ (x6 + x3) ∧ (x6 + x3) < 512) ∧ ∀ x7 : Int, x7 = ((σ 117 (x6 + x3)) + ((x5 - x4) * (σ o1 x6))) → (rg x7 ∧ rg x5 ∧ 0 < x5 ∧ 0 ≤ x7) ∧ ∀ σ' : l2_m, σ' = l2_u σ 117 (x6 + x3) (x7 % x5) → X20 (x6 + 1) σ') else K 0 σ)))))))) x6 σ
theorem o31_20 {B : va_E} {σ : l2_m} {o1 : Nat} {x2 : Int} {x3 : Int} {x4 : Int} {x5 : Int} {x6 : Int} {u7 : Value}  {K : Int → l2_m → Prop} (ho1 : l2_al o1 = some 512) (hu7 : (u7.category == 1) = true)  (h : w31_20 B σ o1 x2 x3 x4 x5 x6  K) : wW B 31 20 [vr 109, vr o1, vi x2, vi x3, vi x4, vi x5, vi x6, u7] [] σ K := by
  have ck : pm_code 31 = pc_31 := rfl
  unfold w31_20 at h
  refine h (fun x6 σ => ∀ u7 : Value, (u7.category == 1) = true → wW B 31 20 [vr 109, vr o1, vi x2, vi x3, vi x4, vi x5, vi x6, u7] [] σ K) ?_ u7 hu7
  clear h
  intro x6 σ h u7 hu7
  replace h := (And.imp_right (ite_mp id (And.imp_right (ite_mp id (And.imp_right mg_3s))))) h
  obtain ⟨⟨hs1, hs2⟩, h⟩ := h
  refine g_il 22 ck rfl rfl rfl ?_
  refine g_il 23 ck rfl rfl rfl ?_
  refine g_icgt 26 102 ck rfl rfl rfl hs1 hs2 (fun hc => ?_) (fun hc => ?_)
  · replace h := ite_ht h hc
    refine g_il 103 ck rfl rfl rfl ?_
    refine g_iflt 106 110 ck rfl rfl rfl hs2 (fun hc => ?_) (fun hc => ?_)
    · replace h := ite_ht h hc
      refine g_ic 111 ck rfl rfl ?_
      exact g_retb ck rfl rfl (Or.inl rfl) h
    · replace h := ite_hf h hc
      refine g_ic 107 ck rfl rfl ?_
      refine g_goto 111 ck rfl rfl ?_
      exact g_retb ck rfl rfl (Or.inr rfl) h
  · replace h := ite_hf h hc
    obtain ⟨⟨hs3, hs4, hs5⟩, h⟩ := h
    refine g_al 27 ck rfl rfl rfl ?_
    refine g_il 29 ck rfl rfl rfl ?_
    refine g_ial (m := 512) 30 ck rfl rfl ho1 hs3 hs4 ?_
    refine g_ifeq 33 96 ck rfl rfl rfl hs5 (fun hc => ?_) (fun hc => ?_)
    · replace h := ite_ht h hc
      refine r_ii 99 ck rfl rfl rfl rfl ?_
      refine g_goto 20 ck rfl rfl ?_
      exact h _ hu7
    · replace h := ite_hf h hc
      obtain ⟨⟨hs6, hs7, hs8⟩, h⟩ := h
      refine g_il 35 ck rfl rfl rfl ?_
      refine g_ic 37 ck rfl rfl ?_
      refine g_rem 38 ck rfl rfl hs1 (by decide) hs3 (by decide) ?_
      refine g_il 39 ck rfl rfl rfl ?_
      refine g_ic 41 ck rfl rfl ?_
      refine g_rem 42 ck rfl rfl hs6 (by decide) hs7 (by decide) ?_
      refine g_add 43 ck rfl rfl ?_
      refine g_ic 45 ck rfl rfl ?_
      refine g_icge 48 58 ck rfl rfl rfl hs8 (by decide) (fun hc => ?_) (fun hc => ?_)
      · replace h := ite_hf h (Int.not_lt.mpr hc)
        refine g_ic 59 ck rfl rfl ?_
        exact g_retb ck rfl rfl (Or.inl rfl) h
      · replace h := ite_ht h (Int.not_le.mp hc)
        obtain ⟨hs9, h⟩ := h
        refine g_il 50 ck rfl rfl rfl ?_
        refine g_il 51 ck rfl rfl rfl ?_
        refine g_add 52 ck rfl rfl ?_
        refine g_ic 55 ck rfl rfl ?_
        refine g_iclt 58 60 ck rfl rfl rfl hs9 (by decide) (fun hc => ?_) (fun hc => ?_)
        · replace h := ite_ht h hc
          obtain ⟨⟨hs10, hs11⟩, h⟩ := h
          refine g_al 61 ck rfl rfl rfl ?_
          refine r_gfr 64 117 ck rfl rfl rfl (by decide) ?_
          refine g_il 66 ck rfl rfl rfl ?_
          refine g_il 67 ck rfl rfl rfl ?_
          refine g_add 68 ck rfl rfl ?_
          refine g_ial (m := 512) 69 ck rfl rfl rfl hs10 hs11 ?_
          refine g_il 71 ck rfl rfl rfl ?_
          refine g_il 73 ck rfl rfl rfl ?_
          refine g_sub 74 ck rfl rfl ?_
          refine g_al 75 ck rfl rfl rfl ?_
          refine g_il 77 ck rfl rfl rfl ?_
          refine g_ial (m := 512) 78 ck rfl rfl ho1 hs3 hs4 ?_
          refine g_mul 79 ck rfl rfl ?_
          refine g_add 80 ck rfl rfl ?_
          refine r_is 82 ck rfl rfl rfl rfl ?_
          replace h := h _ rfl
          obtain ⟨⟨hs12, hs13, hs14, hs15⟩, h⟩ := h
          refine g_al 83 ck rfl rfl rfl ?_
          refine r_gfr 86 117 ck rfl rfl rfl (by decide) ?_
          refine g_il 88 ck rfl rfl rfl ?_
          refine g_il 89 ck rfl rfl rfl ?_
          refine g_add 90 ck rfl rfl ?_
          refine g_il 92 ck rfl rfl rfl ?_
          refine g_il 94 ck rfl rfl rfl ?_
          refine g_rem 95 ck rfl rfl hs12 hs13 hs15 hs14 ?_
          refine g_ias (m := 512) 96 ck rfl rfl rfl hs10 hs11 ?_
          replace h := h _ rfl
          refine r_ii 99 ck rfl rfl rfl rfl ?_
          refine g_goto 20 ck rfl rfl ?_
          exact h _ rfl
        · replace h := ite_hf h hc
          refine g_ic 59 ck rfl rfl ?_
          exact g_retb ck rfl rfl (Or.inl rfl) h
def w31 (B : va_E) (σ : l2_m) (o1 : Nat) (x2 : Int) (x3 : Int) (x4 : Int) (K : Int → l2_m → Prop) : Prop := (∀ x5 : Int, x5 = (σ 34 0) → rg x5 ∧ (if x5 < 2 then K 0 σ else w31_20 B σ o1 x2 x3 x4 x5 0 K))
theorem o31 {B : va_E} {σ : l2_m} {o1 : Nat} {x2 : Int} {x3 : Int} {x4 : Int} {K : Int → l2_m → Prop} (ho1 : l2_al o1 = some 512)  (h : w31 B σ o1 x2 x3 x4  K) : wC B 31 [vr 109, vr o1, vi x2, vi x3, vi x4] σ K := by
  have ck : pm_code 31 = pc_31 := rfl
  unfold w31 at h
  show wW B 31 0 [vr 109, vr o1, vi x2, vi x3, vi x4, pm_un, pm_un, pm_un] [] σ K
  refine g_al 1 ck rfl rfl rfl ?_
  refine r_gfr 4 34 ck rfl rfl rfl (by decide) ?_
  refine r_gfi 7 0 ck rfl rfl rfl rfl ?_
  refine r_is 9 ck rfl rfl rfl rfl ?_
  replace h := h _ rfl
  obtain ⟨hs1, h⟩ := h
  refine g_il 11 ck rfl rfl rfl ?_
  refine g_ic 12 ck rfl rfl ?_
  refine g_icge 15 17 ck rfl rfl rfl hs1 (by decide) (fun hc => ?_) (fun hc => ?_)
  · replace h := ite_hf h (Int.not_lt.mpr hc)
    refine g_ic 18 ck rfl rfl ?_
    refine r_is 20 ck rfl rfl rfl rfl ?_
    exact o31_20 ho1 rfl h
  · replace h := ite_ht h (Int.not_le.mp hc)
    refine g_ic 16 ck rfl rfl ?_
    exact g_retb ck rfl rfl (Or.inl rfl) h
/-! 32 TermDesk$Commons.multiplyByRow([I[I[I)V -/
def w32_19 (B : va_E) (σ : l2_m) (o1 : Nat) (o2 : Nat) (o3 : Nat) (x4 : Int) (x5 : Int) (X8 : Int → l2_m → Prop) (K : Int → l2_m → Prop) : Prop := lz2 (fun X19 x5 σ => ((0 ≤ x4 ∧ x4 < 512 ∧ rg (σ o1 x4)) ∧ ((¬ ((σ o1 x4) = 0) → rg x4 ∧ rg (x5 + (x4 % 32))) ∧ (if ((σ o1 x4) = 0) ∨ ¬ ((x5 + (x4 % 32)) < 32) then X8 (x4 + 1) σ else ((0 ≤ (x4 + x5) ∧ (x4 + x5) < 512 ∧ 0 ≤ x5 ∧ x5 < 32 ∧ 2 ≤ (σ 34 0) ∧ (σ 34 0) ≤ 97 ∧ rg ((σ o3 (x4 + x5)) + ((σ o1 x4) * (σ o2 x5)))) ∧ ∀ σ' : l2_m, σ' = l2_u σ o3 (x4 + x5) (((σ o3 (x4 + x5)) + ((σ o1 x4) * (σ o2 x5))) % (σ 34 0)) → X19 (x5 + 1) σ'))))) x5 σ
theorem o32_19 {B : va_E} {σ : l2_m} {o1 : Nat} {o2 : Nat} {o3 : Nat} {x4 : Int} {x5 : Int}  {X8 : Int → l2_m → Prop} {K : Int → l2_m → Prop} (ho1 : l2_al o1 = some 512) (ho2 : l2_al o2 = some 32) (ho3 : l2_al o3 = some 512)  (hX8 : ∀ (x4 : Int) (σ : l2_m) (u5 : Value), (u5.category == 1) = true → X8 x4 σ → wW B 32 8 [vr 109, vr o1, vr o2, vr o3, vi x4, u5] [] σ K) (h : w32_19 B σ o1 o2 o3 x4 x5 X8 K) : wW B 32 19 [vr 109, vr o1, vr o2, vr o3, vi x4, vi x5] [] σ K := by
  have ck : pm_code 32 = pc_32 := rfl
  unfold w32_19 at h
  refine h (fun x5 σ => wW B 32 19 [vr 109, vr o1, vr o2, vr o3, vi x4, vi x5] [] σ K) ?_
  clear h
  intro x5 σ h
  replace h := (And.imp_right mg_2s) h
  obtain ⟨⟨hs1, hs2, hs3⟩, h⟩ := h
  refine g_al 20 ck rfl rfl rfl ?_
  refine g_il 22 ck rfl rfl rfl ?_
  refine g_ial (m := 512) 23 ck rfl rfl ho1 hs1 hs2 ?_
  refine g_ifeq 26 76 ck rfl rfl rfl hs3 (fun hc => ?_) (fun hc => ?_)
  · replace h := ite_ht h hc
    refine r_ii 79 ck rfl rfl rfl rfl ?_
    refine g_goto 8 ck rfl rfl ?_
    exact hX8 _ _ _ rfl h
  · replace h := ite_hf h hc
    obtain ⟨⟨hs4, hs5⟩, h⟩ := h
    refine g_il 28 ck rfl rfl rfl ?_
    refine g_il 30 ck rfl rfl rfl ?_
    refine g_ic 32 ck rfl rfl ?_
    refine g_rem 33 ck rfl rfl hs4 (by decide) hs1 (by decide) ?_
    refine g_add 34 ck rfl rfl ?_
    refine g_ic 36 ck rfl rfl ?_
    refine g_icge 39 76 ck rfl rfl rfl hs5 (by decide) (fun hc => ?_) (fun hc => ?_)
    · replace h := ite_hf h (Int.not_lt.mpr hc)
      refine r_ii 79 ck rfl rfl rfl rfl ?_
      refine g_goto 8 ck rfl rfl ?_
      exact hX8 _ _ _ rfl h
    · replace h := ite_ht h (Int.not_le.mp hc)
      obtain ⟨⟨hs6, hs7, hs8, hs9, hs10, hs11, hs12⟩, h⟩ := h
      refine g_al 40 ck rfl rfl rfl ?_
      refine g_il 42 ck rfl rfl rfl ?_
      refine g_il 44 ck rfl rfl rfl ?_
      refine g_add 45 ck rfl rfl ?_
      refine g_al 46 ck rfl rfl rfl ?_
      refine r_gfr 49 34 ck rfl rfl rfl (by decide) ?_
      refine g_al 50 ck rfl rfl rfl ?_
      refine g_il 52 ck rfl rfl rfl ?_
      refine g_il 54 ck rfl rfl rfl ?_
      refine g_add 55 ck rfl rfl ?_
      refine g_ial (m := 512) 56 ck rfl rfl ho3 hs6 hs7 ?_
      refine g_al 57 ck rfl rfl rfl ?_
      refine g_il 59 ck rfl rfl rfl ?_
      refine g_ial (m := 512) 60 ck rfl rfl ho1 hs1 hs2 ?_
      refine g_al 61 ck rfl rfl rfl ?_
      refine g_il 63 ck rfl rfl rfl ?_
      refine g_ial (m := 32) 64 ck rfl rfl ho2 hs8 hs9 ?_
      refine g_mul 65 ck rfl rfl ?_
      refine g_add 66 ck rfl rfl ?_
      refine g_cvi (as := [_]) (rest := [_, _]) 69 ck rfl rfl rfl rfl rfl rfl (by decide) rfl rfl rfl rfl (Nat.le_of_ble_eq_true rfl) (s72 rfl hs10 hs11 hs12 ?_)
      refine g_ias (m := 512) 70 ck rfl rfl ho3 hs6 hs7 ?_
      replace h := h _ rfl
      refine r_ii 73 ck rfl rfl rfl rfl ?_
      refine g_goto 19 ck rfl rfl ?_
      exact h
def w32_8 (B : va_E) (σ : l2_m) (o1 : Nat) (o2 : Nat) (o3 : Nat) (x4 : Int)  (K : Int → l2_m → Prop) : Prop := lz2 (fun X8 x4 σ => (rg x4 ∧ (if x4 < 512 then w32_19 B σ o1 o2 o3 x4 0 X8 K else K 0 σ))) x4 σ
theorem o32_8 {B : va_E} {σ : l2_m} {o1 : Nat} {o2 : Nat} {o3 : Nat} {x4 : Int} {u5 : Value}  {K : Int → l2_m → Prop} (ho1 : l2_al o1 = some 512) (ho2 : l2_al o2 = some 32) (ho3 : l2_al o3 = some 512) (hu5 : (u5.category == 1) = true)  (h : w32_8 B σ o1 o2 o3 x4  K) : wW B 32 8 [vr 109, vr o1, vr o2, vr o3, vi x4, u5] [] σ K := by
  have ck : pm_code 32 = pc_32 := rfl
  unfold w32_8 at h
  refine h (fun x4 σ => ∀ u5 : Value, (u5.category == 1) = true → wW B 32 8 [vr 109, vr o1, vr o2, vr o3, vi x4, u5] [] σ K) ?_ u5 hu5
  clear h
  intro x4 σ h u5 hu5
  obtain ⟨hs1, h⟩ := h
  refine g_il 10 ck rfl rfl rfl ?_
  refine g_ic 13 ck rfl rfl ?_
  refine g_icge 16 82 ck rfl rfl rfl hs1 (by decide) (fun hc => ?_) (fun hc => ?_)
  · replace h := ite_hf h (Int.not_lt.mpr hc)
    exact g_retv ck rfl rfl h
  · replace h := ite_ht h (Int.not_le.mp hc)
    refine g_ic 17 ck rfl rfl ?_
    refine r_is 19 ck rfl rfl rfl rfl ?_
    exact o32_19 ho1 ho2 ho3 (fun _ _ u5 hu5 hx => hx u5 hu5) h
def w32 (B : va_E) (σ : l2_m) (o1 : Nat) (o2 : Nat) (o3 : Nat) (K : Int → l2_m → Prop) : Prop := (∀ σ' : l2_m, σ' = fil σ o3 0 ((512 : Nat) : Int) → w32_8 B σ' o1 o2 o3 0 K)
theorem o32 {B : va_E} {σ : l2_m} {o1 : Nat} {o2 : Nat} {o3 : Nat} {K : Int → l2_m → Prop} (ho1 : l2_al o1 = some 512) (ho2 : l2_al o2 = some 32) (ho3 : l2_al o3 = some 512)  (h : w32 B σ o1 o2 o3  K) : wC B 32 [vr 109, vr o1, vr o2, vr o3] σ K := by
  have ck : pm_code 32 = pc_32 := rfl
  unfold w32 at h
  show wW B 32 0 [vr 109, vr o1, vr o2, vr o3, pm_un, pm_un] [] σ K
  refine g_al 1 ck rfl rfl rfl ?_
  refine g_ic 2 ck rfl rfl ?_
  refine g_csv (as := [_, _]) (rest := []) 5 ck rfl rfl rfl rfl rfl rfl rfl rfl (Nat.le_of_ble_eq_true rfl) (s280 ho3 ?_)
  replace h := h _ rfl
  refine g_ic 6 ck rfl rfl ?_
  refine r_is 8 ck rfl rfl rfl rfl ?_
  exact o32_8 ho1 ho2 ho3 rfl h
/-! 33 TermDesk$Commons.topY([I)I -/
def w33_4 (B : va_E) (σ : l2_m) (o0 : Nat) (x1 : Int) (x2 : Int)  (K : Int → l2_m → Prop) : Prop := lz2 (fun X4 x1 x2 => (rg x2 ∧ (if x2 < 512 then ((0 ≤ x2 ∧ x2 < 512 ∧ rg (σ o0 x2)) ∧ (if (σ o0 x2) = 0 then X4 x1 (x2 + 1) else (rg x1 ∧ ∀ x1' : Int, x1' = (max x1 (x2 % 32)) → X4 x1' (x2 + 1)))) else K x1 σ))) x1 x2
theorem o33_4 {B : va_E} {σ : l2_m} {o0 : Nat} {x1 : Int} {x2 : Int}   {K : Int → l2_m → Prop} (ho0 : l2_al o0 = some 512)   (h : w33_4 B σ o0 x1 x2  K) : wW B 33 4 [vr o0, vi x1, vi x2] [] σ K := by
  have ck : pm_code 33 = pc_33 := rfl
  unfold w33_4 at h
  refine h (fun x1 x2 => wW B 33 4 [vr o0, vi x1, vi x2] [] σ K) ?_
  clear h
  intro x1 x2 h
  obtain ⟨hs1, h⟩ := h
  refine g_il 5 ck rfl rfl rfl ?_
  refine g_ic 8 ck rfl rfl ?_
  refine g_icge 11 36 ck rfl rfl rfl hs1 (by decide) (fun hc => ?_) (fun hc => ?_)
  · replace h := ite_hf h (Int.not_lt.mpr hc)
    refine g_il 37 ck rfl rfl rfl ?_
    exact g_ret ck rfl rfl (Or.inl (by decide)) h
  · replace h := ite_ht h (Int.not_le.mp hc)
    obtain ⟨⟨hs2, hs3, hs4⟩, h⟩ := h
    refine g_al 12 ck rfl rfl rfl ?_
    refine g_il 13 ck rfl rfl rfl ?_
    refine g_ial (m := 512) 14 ck rfl rfl ho0 hs2 hs3 ?_
    refine g_ifeq 17 28 ck rfl rfl rfl hs4 (fun hc => ?_) (fun hc => ?_)
    · replace h := ite_ht h hc
      refine g_il 29 ck rfl rfl rfl ?_
      refine r_is 30 ck rfl rfl rfl rfl ?_
      refine r_ii 33 ck rfl rfl rfl rfl ?_
      refine g_goto 4 ck rfl rfl ?_
      exact h
    · replace h := ite_hf h hc
      obtain ⟨hs5, h⟩ := h
      refine g_il 18 ck rfl rfl rfl ?_
      refine g_il 19 ck rfl rfl rfl ?_
      refine g_ic 21 ck rfl rfl ?_
      refine g_rem 22 ck rfl rfl hs1 (by decide) hs2 (by decide) ?_
      refine g_max 25 ck rfl rfl hs5 (rg_mod _ (by decide) (by decide)) (Nat.le_of_ble_eq_true rfl) ?_
      refine g_goto 29 ck rfl rfl ?_
      refine r_is 30 ck rfl rfl rfl rfl ?_
      replace h := h _ rfl
      refine r_ii 33 ck rfl rfl rfl rfl ?_
      refine g_goto 4 ck rfl rfl ?_
      exact h
def w33 (B : va_E) (σ : l2_m) (o0 : Nat) (K : Int → l2_m → Prop) : Prop := w33_4 B σ o0 0 0 K
theorem o33 {B : va_E} {σ : l2_m} {o0 : Nat} {K : Int → l2_m → Prop} (ho0 : l2_al o0 = some 512)  (h : w33 B σ o0  K) : wC B 33 [vr o0] σ K := by
  have ck : pm_code 33 = pc_33 := rfl
  unfold w33 at h
  show wW B 33 0 [vr o0, pm_un, pm_un] [] σ K
  refine g_ic 1 ck rfl rfl ?_
  refine r_is 2 ck rfl rfl rfl rfl ?_
  refine g_ic 3 ck rfl rfl ?_
  refine r_is 4 ck rfl rfl rfl rfl ?_
  exact o33_4 ho0 h
/-! 34 TermDesk$Commons.findCommon()V -/
def w34_194 (B : va_E) (σ : l2_m) (x1 : Int) (x2 : Int) (x3 : Int) (x4 : Int) (x5 : Int) (x6 : Int) (X139 : Int → Int → l2_m → Prop) (K : Int → l2_m → Prop) : Prop := (wC B 40 [vr 109, vi x5, vi x6] σ (fun _ σ' => ((rg (σ' 109 17) ∧ rg x3) ∧ (if (σ' 109 17) < x3 then X139 x4 (x5 + 1) σ' else (wC B 43 [vr 109] σ' (fun y σ'' => (rg y ∧ (if y = 0 then (∀ x4' : Int, x4' = (x6 - 1) → (wC B 39 [vr 109] σ'' (fun _ σ''' => X139 x4' (x5 + 1) σ'''))) else K 0 σ''))))))))
theorem o34_194 {B : va_E} {σ : l2_m} {x1 : Int} {x2 : Int} {x3 : Int} {x4 : Int} {x5 : Int} {x6 : Int}  {X139 : Int → Int → l2_m → Prop} {K : Int → l2_m → Prop}   (hX139 : ∀ (x4 : Int) (x5 : Int) (σ : l2_m) (u6 : Value), (u6.category == 1) = true → X139 x4 x5 σ → wW B 34 139 [vr 109, vi x1, vi x2, vi x3, vi x4, vi x5, u6] [] σ K) (h : w34_194 B σ x1 x2 x3 x4 x5 x6 X139 K) : wW B 34 194 [vr 109, vi x1, vi x2, vi x3, vi x4, vi x5, vi x6] [] σ K := by
  have ck : pm_code 34 = pc_34 := rfl
  unfold w34_194 at h
  refine g_al 195 ck rfl rfl rfl ?_
  refine g_il 197 ck rfl rfl rfl ?_
  refine g_il 199 ck rfl rfl rfl ?_
  refine g_cvv (as := [_, _]) (rest := []) 202 ck rfl rfl rfl rfl rfl rfl rfl rfl rfl rfl (Nat.le_of_ble_eq_true rfl) (wC.mono h (fun _ σ' h => ?_))
  obtain ⟨⟨hs1, hs2⟩, h⟩ := h
  refine g_al 203 ck rfl rfl rfl ?_
  refine r_gfi 206 17 ck rfl rfl rfl rfl ?_
  refine g_il 207 ck rfl rfl rfl ?_
  refine g_iclt 210 228 ck rfl rfl rfl hs1 hs2 (fun hc => ?_) (fun hc => ?_)
  · replace h := ite_ht h hc
    refine r_ii 231 ck rfl rfl rfl rfl ?_
    refine g_goto 139 ck rfl rfl ?_
    exact hX139 _ _ _ _ rfl h
  · replace h := ite_hf h hc
    refine g_al 211 ck rfl rfl rfl ?_
    refine g_cvi (as := []) (rest := []) 214 ck rfl rfl rfl rfl rfl rfl (by decide) rfl rfl rfl rfl (Nat.le_of_ble_eq_true rfl) (wC.mono h (fun y σ'' h => ?_))
    obtain ⟨hs3, h⟩ := h
    refine g_ifeq 217 218 ck rfl rfl rfl hs3 (fun hc => ?_) (fun hc => ?_)
    · replace h := ite_ht h hc
      refine g_il 220 ck rfl rfl rfl ?_
      refine g_ic 221 ck rfl rfl ?_
      refine g_sub 222 ck rfl rfl ?_
      refine r_is 224 ck rfl rfl rfl rfl ?_
      replace h := h _ rfl
      refine g_al 225 ck rfl rfl rfl ?_
      refine g_cvv (as := []) (rest := []) 228 ck rfl rfl rfl rfl rfl rfl rfl rfl rfl rfl (Nat.le_of_ble_eq_true rfl) (wC.mono h (fun _ σ''' h => ?_))
      refine r_ii 231 ck rfl rfl rfl rfl ?_
      refine g_goto 139 ck rfl rfl ?_
      exact hX139 _ _ _ _ rfl h
    · replace h := ite_hf h hc
      exact g_retv ck rfl rfl h
def w34_139 (B : va_E) (σ : l2_m) (x1 : Int) (x2 : Int) (x3 : Int) (x4 : Int) (x5 : Int)  (K : Int → l2_m → Prop) : Prop := lz3 (fun X139 x4 x5 σ => ((rg x5 ∧ rg (σ 110 7)) ∧ (if x5 < (σ 110 7) then (wC B 36 [vr 109, vi x5, vi x1, vi x2] σ (fun y σ' => (rg y ∧ (if y = 0 then K 0 σ' else (((0 < y) → rg x4) ∧ (if (0 < y) ∧ ¬ (x4 < y) then (if y < x4 then (wC B 39 [vr 109] σ' (fun _ σ'' => w34_194 B σ'' x1 x2 x3 y x5 y X139 K)) else w34_194 B σ' x1 x2 x3 x4 x5 y X139 K) else X139 x4 (x5 + 1) σ')))))) else K 0 σ))) x4 x5 σ
theorem o34_139 {B : va_E} {σ : l2_m} {x1 : Int} {x2 : Int} {x3 : Int} {x4 : Int} {x5 : Int} {u6 : Value}  {K : Int → l2_m → Prop}  (hu6 : (u6.category == 1) = true)  (h : w34_139 B σ x1 x2 x3 x4 x5  K) : wW B 34 139 [vr 109, vi x1, vi x2, vi x3, vi x4, vi x5, u6] [] σ K := by
  have ck : pm_code 34 = pc_34 := rfl
  unfold w34_139 at h
  refine h (fun x4 x5 σ => ∀ u6 : Value, (u6.category == 1) = true → wW B 34 139 [vr 109, vi x1, vi x2, vi x3, vi x4, vi x5, u6] [] σ K) ?_ u6 hu6
  clear h
  intro x4 x5 σ h u6 hu6
  replace h := (And.imp_right (ite_mp (fun h => wC.mono h (fun _ _ => (And.imp_right (ite_mp id mg_4s)))) id)) h
  obtain ⟨⟨hs1, hs2⟩, h⟩ := h
  refine g_il 141 ck rfl rfl rfl ?_
  refine g_al 142 ck rfl rfl rfl ?_
  refine r_gfr 145 110 ck rfl rfl rfl (by decide) ?_
  refine r_gfi 148 7 ck rfl rfl rfl rfl ?_
  refine g_icge 151 234 ck rfl rfl rfl hs1 hs2 (fun hc => ?_) (fun hc => ?_)
  · replace h := ite_hf h (Int.not_lt.mpr hc)
    exact g_retv ck rfl rfl h
  · replace h := ite_ht h (Int.not_le.mp hc)
    refine g_al 152 ck rfl rfl rfl ?_
    refine g_il 154 ck rfl rfl rfl ?_
    refine g_il 155 ck rfl rfl rfl ?_
    refine g_il 156 ck rfl rfl rfl ?_
    refine g_cvi (as := [_, _, _]) (rest := []) 159 ck rfl rfl rfl rfl rfl rfl (by decide) rfl rfl rfl rfl (Nat.le_of_ble_eq_true rfl) (wC.mono h (fun y σ' h => ?_))
    obtain ⟨hs3, h⟩ := h
    refine r_is 161 ck rfl rfl rfl rfl ?_
    refine g_il 163 ck rfl rfl rfl ?_
    refine g_ifne 166 167 ck rfl rfl rfl hs3 (fun hc => ?_) (fun hc => ?_)
    · replace h := ite_hf h hc
      refine g_il 169 ck rfl rfl rfl ?_
      refine g_ifle 172 228 ck rfl rfl rfl hs3 (fun hc => ?_) (fun hc => ?_)
      · replace h := ite_hf h (Int.not_lt.mpr hc)
        refine r_ii 231 ck rfl rfl rfl rfl ?_
        refine g_goto 139 ck rfl rfl ?_
        exact h _ rfl
      · replace h := ite_ht h (Int.not_le.mp hc)
        obtain ⟨hs4, h⟩ := h
        refine g_il 174 ck rfl rfl rfl ?_
        refine g_il 176 ck rfl rfl rfl ?_
        refine g_icgt 179 228 ck rfl rfl rfl hs3 hs4 (fun hc => ?_) (fun hc => ?_)
        · replace h := ite_ht h hc
          refine r_ii 231 ck rfl rfl rfl rfl ?_
          refine g_goto 139 ck rfl rfl ?_
          exact h _ rfl
        · replace h := ite_hf h hc
          refine g_il 181 ck rfl rfl rfl ?_
          refine g_il 183 ck rfl rfl rfl ?_
          refine g_icge 186 194 ck rfl rfl rfl hs3 hs4 (fun hc => ?_) (fun hc => ?_)
          · replace h := ite_hf h (Int.not_lt.mpr hc)
            exact o34_194 (fun _ _ _ u6 hu6 hx => hx u6 hu6) h
          · replace h := ite_ht h (Int.not_le.mp hc)
            refine g_il 188 ck rfl rfl rfl ?_
            refine r_is 190 ck rfl rfl rfl rfl ?_
            refine g_al 191 ck rfl rfl rfl ?_
            refine g_cvv (as := []) (rest := []) 194 ck rfl rfl rfl rfl rfl rfl rfl rfl rfl rfl (Nat.le_of_ble_eq_true rfl) (wC.mono h (fun _ σ'' h => ?_))
            exact o34_194 (fun _ _ _ u6 hu6 hx => hx u6 hu6) h
    · replace h := ite_ht h (Classical.not_not.mp hc)
      exact g_retv ck rfl rfl h
def w34 (B : va_E) (σ : l2_m)  (K : Int → l2_m → Prop) : Prop := (wC B 35 [vr 116] σ (fun _ σ' => ((0 + 512 ≤ ((512 : Nat) : Int) ∧ (∀ j : Int, 0 ≤ j → j < 512 → rg (σ' 114 (0 + j))) ∧ rg (top (fun j => σ' 114 (0 + j)) 512) ∧ 0 ≤ (top (fun j => σ' 114 (0 + j)) 512)) ∧ ∀ x1 : Int, x1 = ((top (fun j => σ' 114 (0 + j)) 512) / 32) → ((∀ j : Int, 0 ≤ j → j < 512 → rg (σ' 115 (0 + j))) ∧ rg (top (fun j => σ' 115 (0 + j)) 512) ∧ 0 ≤ (top (fun j => σ' 115 (0 + j)) 512)) ∧ ∀ x2 : Int, x2 = ((top (fun j => σ' 115 (0 + j)) 512) / 32) → rg x1 ∧ (((0 < x1) → rg x2) ∧ (if (0 < x1) ∧ (0 < x2) then (wC B 51 [vr 110, vi (σ' 34 0)] σ' (fun _ σ'' => ((0 ≤ (x1 * 32) ∧ (x1 * 32) + 32 ≤ 512) ∧ ∀ σ''' : l2_m, σ''' = l2_cpy σ'' 114 (x1 * 32) 123 0 32 → (wC B 27 [vr 109, vr 123, vr 115, vi (x2 * 32)] σ''' (fun _ σ'''' => ((0 + 32 ≤ ((32 : Nat) : Int) ∧ (∀ j : Int, 0 ≤ j → j < 32 → rg (σ'''' 123 (0 + j)))) ∧ (wC B 33 [vr 114] σ'''' (fun y σ''''' => (wC B 33 [vr 115] σ''''' (fun y' σ'''''' => ((rg y ∧ rg y') ∧ ∀ x3 : Int, x3 = (((top (fun j => σ'''' 123 (0 + j)) 32) + (min y y')) + 1) → (rg x1 ∧ rg x2) ∧ ∀ x4 : Int, x4 = (min x1 x2) → (wC B 39 [vr 109] σ'''''' (fun _ σ''''''' => w34_139 B σ''''''' x1 x2 x3 x4 0 K))))))))))))) else K 0 σ')))))
theorem o34 {B : va_E} {σ : l2_m}  {K : Int → l2_m → Prop}   (h : w34 B σ   K) : wC B 34 [vr 109] σ K := by
  have ck : pm_code 34 = pc_34 := rfl
  unfold w34 at h
  show wW B 34 0 [vr 109, pm_un, pm_un, pm_un, pm_un, pm_un, pm_un] [] σ K
  replace h := (fun h => wC.mono h (fun _ _ => (And.imp_right (fun h x e => (And.imp_right (fun h x e => (And.imp_right mg_3s) (h x e))) (h x e))))) h
  refine g_al 1 ck rfl rfl rfl ?_
  refine r_gfr 4 116 ck rfl rfl rfl (by decide) ?_
  refine g_csv (as := [_]) (rest := []) 7 ck rfl rfl rfl rfl rfl rfl rfl rfl (Nat.le_of_ble_eq_true rfl) (wC.mono h (fun _ σ' h => ?_))
  obtain ⟨⟨hs1, hs2, hs3, hs4⟩, h⟩ := h
  refine g_al 8 ck rfl rfl rfl ?_
  refine r_gfr 11 114 ck rfl rfl rfl (by decide) ?_
  refine g_ic 12 ck rfl rfl ?_
  refine g_ic 15 ck rfl rfl ?_
  refine g_csi (as := [_, _, _]) (rest := []) 18 ck rfl rfl rfl rfl rfl (by decide) rfl rfl rfl (Nat.le_of_ble_eq_true rfl) (s25 rfl (by decide) (by decide) hs1 hs2 ?_)
  refine g_ic 20 ck rfl rfl ?_
  refine g_div 21 ck rfl rfl hs3 (by decide) hs4 (by decide) ?_
  refine r_is 22 ck rfl rfl rfl rfl ?_
  replace h := h _ rfl
  obtain ⟨⟨hs5, hs6, hs7⟩, h⟩ := h
  refine g_al 23 ck rfl rfl rfl ?_
  refine r_gfr 26 115 ck rfl rfl rfl (by decide) ?_
  refine g_ic 27 ck rfl rfl ?_
  refine g_ic 30 ck rfl rfl ?_
  refine g_csi (as := [_, _, _]) (rest := []) 33 ck rfl rfl rfl rfl rfl (by decide) rfl rfl rfl (Nat.le_of_ble_eq_true rfl) (s25 rfl (by decide) (by decide) hs1 hs5 ?_)
  refine g_ic 35 ck rfl rfl ?_
  refine g_div 36 ck rfl rfl hs6 (by decide) hs7 (by decide) ?_
  refine r_is 37 ck rfl rfl rfl rfl ?_
  replace h := h _ rfl
  obtain ⟨hs8, h⟩ := h
  refine g_il 38 ck rfl rfl rfl ?_
  refine g_ifle 41 45 ck rfl rfl rfl hs8 (fun hc => ?_) (fun hc => ?_)
  · replace h := ite_hf h (Int.not_lt.mpr hc)
    exact g_retv ck rfl rfl h
  · replace h := ite_ht h (Int.not_le.mp hc)
    obtain ⟨hs9, h⟩ := h
    refine g_il 42 ck rfl rfl rfl ?_
    refine g_ifgt 45 46 ck rfl rfl rfl hs9 (fun hc => ?_) (fun hc => ?_)
    · replace h := ite_ht h hc
      refine g_al 47 ck rfl rfl rfl ?_
      refine r_gfr 50 110 ck rfl rfl rfl (by decide) ?_
      refine g_al 51 ck rfl rfl rfl ?_
      refine r_gfr 54 34 ck rfl rfl rfl (by decide) ?_
      refine r_gfi 57 0 ck rfl rfl rfl rfl ?_
      refine g_cvv (as := [_]) (rest := []) 60 ck rfl rfl rfl rfl rfl rfl rfl rfl rfl rfl (Nat.le_of_ble_eq_true rfl) (wC.mono h (fun _ σ'' h => ?_))
      obtain ⟨⟨hs10, hs11⟩, h⟩ := h
      refine g_al 61 ck rfl rfl rfl ?_
      refine r_gfr 64 114 ck rfl rfl rfl (by decide) ?_
      refine g_il 65 ck rfl rfl rfl ?_
      refine g_ic 67 ck rfl rfl ?_
      refine g_mul 68 ck rfl rfl ?_
      refine g_al 69 ck rfl rfl rfl ?_
      refine r_gfr 72 123 ck rfl rfl rfl (by decide) ?_
      refine g_ic 73 ck rfl rfl ?_
      refine g_ic 75 ck rfl rfl ?_
      refine g_acp (n0 := 512) (n1 := 32) 78 ck rfl rfl rfl rfl hs10 (by decide) (by decide) hs11 (by decide) (Nat.le_of_ble_eq_true rfl) ?_
      replace h := h _ rfl
      refine g_al 79 ck rfl rfl rfl ?_
      refine g_al 80 ck rfl rfl rfl ?_
      refine r_gfr 83 123 ck rfl rfl rfl (by decide) ?_
      refine g_al 84 ck rfl rfl rfl ?_
      refine r_gfr 87 115 ck rfl rfl rfl (by decide) ?_
      refine g_il 88 ck rfl rfl rfl ?_
      refine g_ic 90 ck rfl rfl ?_
      refine g_mul 91 ck rfl rfl ?_
      refine g_cvv (as := [_, _, _]) (rest := []) 94 ck rfl rfl rfl rfl rfl rfl rfl rfl rfl rfl (Nat.le_of_ble_eq_true rfl) (wC.mono h (fun _ σ'''' h => ?_))
      obtain ⟨⟨hs12, hs13⟩, h⟩ := h
      refine g_al 95 ck rfl rfl rfl ?_
      refine r_gfr 98 123 ck rfl rfl rfl (by decide) ?_
      refine g_ic 99 ck rfl rfl ?_
      refine g_ic 101 ck rfl rfl ?_
      refine g_csi (as := [_, _, _]) (rest := []) 104 ck rfl rfl rfl rfl rfl (by decide) rfl rfl rfl (Nat.le_of_ble_eq_true rfl) (s25 rfl (by decide) (by decide) hs12 hs13 ?_)
      refine g_al 105 ck rfl rfl rfl ?_
      refine r_gfr 108 114 ck rfl rfl rfl (by decide) ?_
      refine g_csi (as := [_]) (rest := [_]) 111 ck rfl rfl rfl rfl rfl (by decide) rfl rfl rfl (Nat.le_of_ble_eq_true rfl) (wC.mono h (fun y σ''''' h => ?_))
      refine g_al 112 ck rfl rfl rfl ?_
      refine r_gfr 115 115 ck rfl rfl rfl (by decide) ?_
      refine g_csi (as := [_]) (rest := [_, _]) 118 ck rfl rfl rfl rfl rfl (by decide) rfl rfl rfl (Nat.le_of_ble_eq_true rfl) (wC.mono h (fun y' σ'''''' h => ?_))
      obtain ⟨⟨hs14, hs15⟩, h⟩ := h
      refine g_min 121 ck rfl rfl hs14 hs15 (Nat.le_of_ble_eq_true rfl) ?_
      refine g_add 122 ck rfl rfl ?_
      refine g_ic 123 ck rfl rfl ?_
      refine g_add 124 ck rfl rfl ?_
      refine r_is 125 ck rfl rfl rfl rfl ?_
      replace h := h _ rfl
      obtain ⟨⟨hs16, hs17⟩, h⟩ := h
      refine g_il 126 ck rfl rfl rfl ?_
      refine g_il 127 ck rfl rfl rfl ?_
      refine g_min 130 ck rfl rfl hs16 hs17 (Nat.le_of_ble_eq_true rfl) ?_
      refine r_is 132 ck rfl rfl rfl rfl ?_
      replace h := h _ rfl
      refine g_al 133 ck rfl rfl rfl ?_
      refine g_cvv (as := []) (rest := []) 136 ck rfl rfl rfl rfl rfl rfl rfl rfl rfl rfl (Nat.le_of_ble_eq_true rfl) (wC.mono h (fun _ σ''''''' h => ?_))
      refine g_ic 137 ck rfl rfl ?_
      refine r_is 139 ck rfl rfl rfl rfl ?_
      exact o34_139 rfl h
    · replace h := ite_hf h hc
      exact g_retv ck rfl rfl h
/-! 35 TermDesk$Commons.makeOne([I)V -/
def w35 (B : va_E) (σ : l2_m) (o0 : Nat) (K : Int → l2_m → Prop) : Prop := (∀ σ' : l2_m, σ' = fil σ o0 0 ((512 : Nat) : Int) → (if 0 < ((512 : Nat) : Int) then (∀ σ'' : l2_m, σ'' = l2_u σ' o0 0 1 → K 0 σ'') else K 0 σ'))
theorem o35 {B : va_E} {σ : l2_m} {o0 : Nat} {K : Int → l2_m → Prop} (ho0 : l2_al o0 = some 512)  (h : w35 B σ o0  K) : wC B 35 [vr o0] σ K := by
  have ck : pm_code 35 = pc_35 := rfl
  unfold w35 at h
  show wW B 35 0 [vr o0] [] σ K
  refine g_al 1 ck rfl rfl rfl ?_
  refine g_ic 2 ck rfl rfl ?_
  refine g_csv (as := [_, _]) (rest := []) 5 ck rfl rfl rfl rfl rfl rfl rfl rfl (Nat.le_of_ble_eq_true rfl) (s280 ho0 ?_)
  replace h := h _ rfl
  refine g_al 6 ck rfl rfl rfl ?_
  refine g_len 7 ck rfl rfl (show l2_al o0 = some 512 from ho0) ?_
  refine g_ifle 10 14 ck rfl rfl rfl (by decide) (fun hc => ?_) (fun hc => ?_)
  · replace h := ite_hf h (Int.not_lt.mpr hc)
    exact g_retv ck rfl rfl h
  · replace h := ite_ht h (Int.not_le.mp hc)
    refine g_al 11 ck rfl rfl rfl ?_
    refine g_ic 12 ck rfl rfl ?_
    refine g_ic 13 ck rfl rfl ?_
    refine g_ias (m := 512) 14 ck rfl rfl ho0 (by decide) (by decide) ?_
    replace h := h _ rfl
    exact g_retv ck rfl rfl h
/-! 36 TermDesk$Commons.commonAt(III)I -/
def w36_69 (B : va_E) (σ : l2_m) (x4 : Int) (x5 : Int) (x6 : Int)  (K : Int → l2_m → Prop) : Prop := lz4 (fun X69 x4 x5 x6 σ => (rg x6 ∧ ((¬ (64 < x6) → rg x5) ∧ (if (64 < x6) ∨ (x5 < 0) then K x4 σ else (rg x4 ∧ (if x4 < x5 then ((l2_al (Int.toNat (σ 109 15)) = some 16 ∧ l2_al (Int.toNat (σ 109 16)) = some 16) ∧ ∀ σ'' : l2_m, σ'' = l2_u σ 109 15 (((Int.toNat (σ 109 16)) : Nat) : Int) → ∀ σ''' : l2_m, σ''' = l2_u σ'' 109 16 (((Int.toNat (σ 109 15)) : Nat) : Int) → X69 x5 x4 (x6 + 1) σ''') else (wC B 38 [vr 109, vi x4, vi x5] σ (fun y σ' => X69 y x5 (x6 + 1) σ')))))))) x4 x5 x6 σ
theorem o36_69 {B : va_E} {σ : l2_m} {x4 : Int} {x5 : Int} {x6 : Int} {u1 : Value} {u2 : Value} {u3 : Value} {u7 : Value} {u8 : Value}  {K : Int → l2_m → Prop}  (hu1 : (u1.category == 1) = true) (hu2 : (u2.category == 1) = true) (hu3 : (u3.category == 1) = true) (hu7 : (u7.category == 1) = true) (hu8 : (u8.category == 1) = true)  (h : w36_69 B σ x4 x5 x6  K) : wW B 36 69 [vr 109, u1, u2, u3, vi x4, vi x5, vi x6, u7, u8] [] σ K := by
  have ck : pm_code 36 = pc_36 := rfl
  unfold w36_69 at h
  refine h (fun x4 x5 x6 σ => ∀ u1 : Value, (u1.category == 1) = true → ∀ u2 : Value, (u2.category == 1) = true → ∀ u3 : Value, (u3.category == 1) = true → ∀ u7 : Value, (u7.category == 1) = true → ∀ u8 : Value, (u8.category == 1) = true → wW B 36 69 [vr 109, u1, u2, u3, vi x4, vi x5, vi x6, u7, u8] [] σ K) ?_ u1 hu1 u2 hu2 u3 hu3 u7 hu7 u8 hu8
  clear h
  intro x4 x5 x6 σ h u1 hu1 u2 hu2 u3 hu3 u7 hu7 u8 hu8
  replace h := (And.imp_right mg_1s) h
  obtain ⟨hs1, h⟩ := h
  refine g_il 71 ck rfl rfl rfl ?_
  refine g_ic 73 ck rfl rfl ?_
  refine g_icgt 76 139 ck rfl rfl rfl hs1 (by decide) (fun hc => ?_) (fun hc => ?_)
  · replace h := ite_ht h hc
    refine g_il 141 ck rfl rfl rfl ?_
    exact g_ret ck rfl rfl (Or.inl (by decide)) h
  · replace h := ite_hf h hc
    obtain ⟨hs2, h⟩ := h
    refine g_il 78 ck rfl rfl rfl ?_
    refine g_iflt 81 139 ck rfl rfl rfl hs2 (fun hc => ?_) (fun hc => ?_)
    · replace h := ite_ht h hc
      refine g_il 141 ck rfl rfl rfl ?_
      exact g_ret ck rfl rfl (Or.inl (by decide)) h
    · replace h := ite_hf h hc
      obtain ⟨hs3, h⟩ := h
      refine g_il 83 ck rfl rfl rfl ?_
      refine g_il 85 ck rfl rfl rfl ?_
      refine g_icge 88 123 ck rfl rfl rfl hs3 hs2 (fun hc => ?_) (fun hc => ?_)
      · replace h := ite_hf h (Int.not_lt.mpr hc)
        refine g_al 124 ck rfl rfl rfl ?_
        refine g_il 126 ck rfl rfl rfl ?_
        refine g_il 128 ck rfl rfl rfl ?_
        refine g_cvi (as := [_, _]) (rest := []) 131 ck rfl rfl rfl rfl rfl rfl (by decide) rfl rfl rfl rfl (Nat.le_of_ble_eq_true rfl) (wC.mono h (fun y σ' h => ?_))
        refine r_is 133 ck rfl rfl hu3 rfl ?_
        refine r_ii 136 ck rfl rfl rfl rfl ?_
        refine g_goto 69 ck rfl rfl ?_
        exact h _ hu1 _ hu2 _ hu3 _ hu7 _ hu8
      · replace h := ite_ht h (Int.not_le.mp hc)
        obtain ⟨⟨hs4, hs5⟩, h⟩ := h
        refine g_al 89 ck rfl rfl rfl ?_
        refine r_gf2 92 15 ck rfl rfl rfl rfl ?_
        refine r_as 94 ck rfl rfl rfl rfl ?_
        refine g_al 95 ck rfl rfl rfl ?_
        refine g_al 96 ck rfl rfl rfl ?_
        refine r_gf2 99 16 ck rfl rfl rfl rfl ?_
        refine g_pfr 102 ck rfl rfl rfl 15 rfl ?_
        replace h := h _ rfl
        refine g_al 103 ck rfl rfl rfl ?_
        refine g_al 105 ck rfl rfl rfl ?_
        refine g_pfr 108 ck rfl rfl rfl 16 rfl ?_
        replace h := h _ rfl
        refine g_il 110 ck rfl rfl rfl ?_
        refine r_is 112 ck rfl rfl rfl rfl ?_
        refine g_il 114 ck rfl rfl rfl ?_
        refine r_is 116 ck rfl rfl hu3 rfl ?_
        refine g_il 118 ck rfl rfl rfl ?_
        refine r_is 120 ck rfl rfl rfl rfl ?_
        refine g_goto 133 ck rfl rfl ?_
        refine r_ii 136 ck rfl rfl rfl rfl ?_
        refine g_goto 69 ck rfl rfl ?_
        exact h _ hu1 _ hu2 _ hu3 _ rfl _ rfl
def w36 (B : va_E) (σ : l2_m) (x1 : Int) (x2 : Int) (x3 : Int) (K : Int → l2_m → Prop) : Prop := (l2_al (Int.toNat (σ 109 15)) = some 16 ∧ (wC B 37 [vr 109, vr 114, vi x1, vr (Int.toNat (σ 109 15))] σ (fun _ σ' => (l2_al (Int.toNat (σ' 109 16)) = some 16 ∧ (wC B 37 [vr 109, vr 115, vi x1, vr (Int.toNat (σ' 109 16))] σ' (fun _ σ'' => ((l2_al (Int.toNat (σ'' 109 15)) = some 16 ∧ 0 ≤ x2 ∧ x2 < 16 ∧ rg (σ'' (Int.toNat (σ'' 109 15)) x2) ∧ rg (σ'' 110 7)) ∧ ((¬ ((σ'' (Int.toNat (σ'' 109 15)) x2) = (σ'' 110 7)) → l2_al (Int.toNat (σ'' 109 16)) = some 16 ∧ 0 ≤ x3 ∧ x3 < 16 ∧ rg (σ'' (Int.toNat (σ'' 109 16)) x3)) ∧ (if ((σ'' (Int.toNat (σ'' 109 15)) x2) = (σ'' 110 7)) ∨ ((σ'' (Int.toNat (σ'' 109 16)) x3) = (σ'' 110 7)) then K (-1) σ'' else w36_69 B σ'' x2 x3 0 K)))))))))
theorem o36 {B : va_E} {σ : l2_m} {x1 : Int} {x2 : Int} {x3 : Int} {K : Int → l2_m → Prop}   (h : w36 B σ x1 x2 x3  K) : wC B 36 [vr 109, vi x1, vi x2, vi x3] σ K := by
  have ck : pm_code 36 = pc_36 := rfl
  unfold w36 at h
  show wW B 36 0 [vr 109, vi x1, vi x2, vi x3, pm_un, pm_un, pm_un, pm_un, pm_un] [] σ K
  replace h := (And.imp_right (fun h => wC.mono h (fun _ _ => (And.imp_right (fun h => wC.mono h (fun _ _ => (And.imp_right mg_1s))))))) h
  obtain ⟨hs1, h⟩ := h
  refine g_al 1 ck rfl rfl rfl ?_
  refine g_al 2 ck rfl rfl rfl ?_
  refine r_gfr 5 114 ck rfl rfl rfl (by decide) ?_
  refine g_il 6 ck rfl rfl rfl ?_
  refine g_al 7 ck rfl rfl rfl ?_
  refine r_gf2 10 15 ck rfl rfl rfl rfl ?_
  refine g_cvv (as := [_, _, _]) (rest := []) 13 ck rfl rfl rfl rfl rfl rfl rfl rfl rfl rfl (Nat.le_of_ble_eq_true rfl) (wC.mono h (fun _ σ' h => ?_))
  obtain ⟨hs2, h⟩ := h
  refine g_al 14 ck rfl rfl rfl ?_
  refine g_al 15 ck rfl rfl rfl ?_
  refine r_gfr 18 115 ck rfl rfl rfl (by decide) ?_
  refine g_il 19 ck rfl rfl rfl ?_
  refine g_al 20 ck rfl rfl rfl ?_
  refine r_gf2 23 16 ck rfl rfl rfl rfl ?_
  refine g_cvv (as := [_, _, _]) (rest := []) 26 ck rfl rfl rfl rfl rfl rfl rfl rfl rfl rfl (Nat.le_of_ble_eq_true rfl) (wC.mono h (fun _ σ'' h => ?_))
  obtain ⟨⟨hs3, hs4, hs5, hs6, hs7⟩, h⟩ := h
  refine g_al 27 ck rfl rfl rfl ?_
  refine r_gf2 30 15 ck rfl rfl rfl rfl ?_
  refine g_il 31 ck rfl rfl rfl ?_
  refine g_ial (m := 16) 32 ck rfl rfl hs3 hs4 hs5 ?_
  refine g_al 33 ck rfl rfl rfl ?_
  refine r_gfr 36 110 ck rfl rfl rfl (by decide) ?_
  refine r_gfi 39 7 ck rfl rfl rfl rfl ?_
  refine g_iceq 42 58 ck rfl rfl rfl hs6 hs7 (fun hc => ?_) (fun hc => ?_)
  · replace h := ite_ht h hc
    refine g_ic 59 ck rfl rfl ?_
    exact g_ret ck rfl rfl (Or.inl (by decide)) h
  · replace h := ite_hf h hc
    obtain ⟨⟨hs8, hs9, hs10, hs11⟩, h⟩ := h
    refine g_al 43 ck rfl rfl rfl ?_
    refine r_gf2 46 16 ck rfl rfl rfl rfl ?_
    refine g_il 47 ck rfl rfl rfl ?_
    refine g_ial (m := 16) 48 ck rfl rfl hs8 hs9 hs10 ?_
    refine g_al 49 ck rfl rfl rfl ?_
    refine r_gfr 52 110 ck rfl rfl rfl (by decide) ?_
    refine r_gfi 55 7 ck rfl rfl rfl rfl ?_
    refine g_icne 58 60 ck rfl rfl rfl hs11 hs7 (fun hc => ?_) (fun hc => ?_)
    · replace h := ite_hf h hc
      refine g_il 61 ck rfl rfl rfl ?_
      refine r_is 63 ck rfl rfl rfl rfl ?_
      refine g_il 64 ck rfl rfl rfl ?_
      refine r_is 66 ck rfl rfl rfl rfl ?_
      refine g_ic 67 ck rfl rfl ?_
      refine r_is 69 ck rfl rfl rfl rfl ?_
      exact o36_69 rfl rfl rfl rfl rfl h
    · replace h := ite_ht h (Classical.not_not.mp hc)
      refine g_ic 59 ck rfl rfl ?_
      exact g_ret ck rfl rfl (Or.inl (by decide)) h
/-! 37 TermDesk$Commons.evaluate([II[I)V -/
def w37_23 (B : va_E) (σ : l2_m) (o1 : Nat) (x2 : Int) (o3 : Nat) (x4 : Int) (x5 : Int) (x6 : Int) (X3 : Int → l2_m → Prop) (K : Int → l2_m → Prop) : Prop := lz2 (fun X23 x5 x6 => (rg x6 ∧ (if x6 < 0 then ((0 ≤ x4 ∧ x4 < 16) ∧ ∀ σ' : l2_m, σ' = l2_u σ o3 x4 x5 → X3 (x4 + 1) σ') else ((0 ≤ ((x4 * 32) + x6) ∧ ((x4 * 32) + x6) < 512 ∧ rg (σ o1 ((x4 * 32) + x6)) ∧ 0 ≤ (σ 110 3) ∧ (σ 110 3) ≤ 97) ∧ ∀ x7 : Int, x7 = (fofn σ (σ o1 ((x4 * 32) + x6))) → (0 ≤ x5 ∧ x5 ≤ (σ 110 7) ∧ 0 ≤ x2 ∧ x2 ≤ (σ 110 7) ∧ (σ 110 7) ≤ 10000 ∧ 0 ≤ (fmul (σ 110 7) x5 x2) ∧ (fmul (σ 110 7) x5 x2) ≤ (σ 110 7) ∧ 0 ≤ x7 ∧ x7 ≤ (σ 110 7) ∧ (σ 110 7) ≤ 9408 ∧ (∀ e : Int, 0 ≤ e → e < σ 110 7 → 0 ≤ σ 112 e ∧ σ 112 e ≤ σ 110 7)) ∧ ∀ x5' : Int, x5' = (fadd (σ 110 7) (σ 112) (fmul (σ 110 7) x5 x2) x7) → X23 x5' (x6 + (-1)))))) x5 x6
theorem o37_23 {B : va_E} {σ : l2_m} {o1 : Nat} {x2 : Int} {o3 : Nat} {x4 : Int} {x5 : Int} {x6 : Int} {u7 : Value} {X3 : Int → l2_m → Prop} {K : Int → l2_m → Prop} (ho1 : l2_al o1 = some 512) (ho3 : l2_al o3 = some 16) (hu7 : (u7.category == 1) = true) (hX3 : ∀ (x4 : Int) (σ : l2_m) (u5 : Value) (u6 : Value) (u7 : Value), (u5.category == 1) = true → (u6.category == 1) = true → (u7.category == 1) = true → X3 x4 σ → wW B 37 3 [vr 109, vr o1, vi x2, vr o3, vi x4, u5, u6, u7] [] σ K) (h : w37_23 B σ o1 x2 o3 x4 x5 x6 X3 K) : wW B 37 23 [vr 109, vr o1, vi x2, vr o3, vi x4, vi x5, vi x6, u7] [] σ K := by
  have ck : pm_code 37 = pc_37 := rfl
  unfold w37_23 at h
  refine h (fun x5 x6 => ∀ u7 : Value, (u7.category == 1) = true → wW B 37 23 [vr 109, vr o1, vi x2, vr o3, vi x4, vi x5, vi x6, u7] [] σ K) ?_ u7 hu7
  clear h
  intro x5 x6 h u7 hu7
  obtain ⟨hs1, h⟩ := h
  refine g_il 25 ck rfl rfl rfl ?_
  refine g_iflt 28 74 ck rfl rfl rfl hs1 (fun hc => ?_) (fun hc => ?_)
  · replace h := ite_ht h hc
    obtain ⟨⟨hs2, hs3⟩, h⟩ := h
    refine g_al 75 ck rfl rfl rfl ?_
    refine g_il 77 ck rfl rfl rfl ?_
    refine g_il 79 ck rfl rfl rfl ?_
    refine g_ias (m := 16) 80 ck rfl rfl ho3 hs2 hs3 ?_
    replace h := h _ rfl
    refine r_ii 83 ck rfl rfl rfl rfl ?_
    refine g_goto 3 ck rfl rfl ?_
    exact hX3 _ _ _ _ _ rfl rfl hu7 h
  · replace h := ite_hf h hc
    obtain ⟨⟨hs4, hs5, hs6, hs7, hs8⟩, h⟩ := h
    refine g_al 29 ck rfl rfl rfl ?_
    refine r_gfr 32 110 ck rfl rfl rfl (by decide) ?_
    refine g_al 33 ck rfl rfl rfl ?_
    refine g_il 35 ck rfl rfl rfl ?_
    refine g_ic 37 ck rfl rfl ?_
    refine g_mul 38 ck rfl rfl ?_
    refine g_il 40 ck rfl rfl rfl ?_
    refine g_add 41 ck rfl rfl ?_
    refine g_ial (m := 512) 42 ck rfl rfl ho1 hs4 hs5 ?_
    refine g_cvi (as := [_]) (rest := []) 45 ck rfl rfl rfl rfl rfl rfl (by decide) rfl rfl rfl rfl (Nat.le_of_ble_eq_true rfl) (s56 hs6 hs7 hs8 ?_)
    refine r_is 47 ck rfl rfl rfl rfl ?_
    replace h := h _ rfl
    obtain ⟨⟨hs9, hs10, hs11, hs12, hs13, hs14, hs15, hs16, hs17, hs18, hs19⟩, h⟩ := h
    refine g_al 48 ck rfl rfl rfl ?_
    refine r_gfr 51 110 ck rfl rfl rfl (by decide) ?_
    refine g_al 52 ck rfl rfl rfl ?_
    refine r_gfr 55 110 ck rfl rfl rfl (by decide) ?_
    refine g_il 57 ck rfl rfl rfl ?_
    refine g_il 58 ck rfl rfl rfl ?_
    refine g_cvi (as := [_, _]) (rest := [_]) 61 ck rfl rfl rfl rfl rfl rfl (by decide) rfl rfl rfl rfl (Nat.le_of_ble_eq_true rfl) (s58 hs9 hs10 hs11 hs12 hs13 ?_)
    refine g_il 63 ck rfl rfl rfl ?_
    refine g_cvi (as := [_, _]) (rest := []) 66 ck rfl rfl rfl rfl rfl rfl (by decide) rfl rfl rfl rfl (Nat.le_of_ble_eq_true rfl) (s59 hs14 hs15 hs16 hs17 hs18 hs19 ?_)
    refine r_is 68 ck rfl rfl rfl rfl ?_
    replace h := h _ rfl
    refine r_ii 71 ck rfl rfl rfl rfl ?_
    refine g_goto 23 ck rfl rfl ?_
    exact h _ rfl
def w37_3 (B : va_E) (σ : l2_m) (o1 : Nat) (x2 : Int) (o3 : Nat) (x4 : Int)  (K : Int → l2_m → Prop) : Prop := lz2 (fun X3 x4 σ => (rg x4 ∧ (if x4 < 16 then (∀ x5 : Int, x5 = (σ 110 7) → w37_23 B σ o1 x2 o3 x4 x5 15 X3 K) else K 0 σ))) x4 σ
theorem o37_3 {B : va_E} {σ : l2_m} {o1 : Nat} {x2 : Int} {o3 : Nat} {x4 : Int} {u5 : Value} {u6 : Value} {u7 : Value}  {K : Int → l2_m → Prop} (ho1 : l2_al o1 = some 512) (ho3 : l2_al o3 = some 16) (hu5 : (u5.category == 1) = true) (hu6 : (u6.category == 1) = true) (hu7 : (u7.category == 1) = true)  (h : w37_3 B σ o1 x2 o3 x4  K) : wW B 37 3 [vr 109, vr o1, vi x2, vr o3, vi x4, u5, u6, u7] [] σ K := by
  have ck : pm_code 37 = pc_37 := rfl
  unfold w37_3 at h
  refine h (fun x4 σ => ∀ u5 : Value, (u5.category == 1) = true → ∀ u6 : Value, (u6.category == 1) = true → ∀ u7 : Value, (u7.category == 1) = true → wW B 37 3 [vr 109, vr o1, vi x2, vr o3, vi x4, u5, u6, u7] [] σ K) ?_ u5 hu5 u6 hu6 u7 hu7
  clear h
  intro x4 σ h u5 hu5 u6 hu6 u7 hu7
  obtain ⟨hs1, h⟩ := h
  refine g_il 5 ck rfl rfl rfl ?_
  refine g_ic 7 ck rfl rfl ?_
  refine g_icge 10 86 ck rfl rfl rfl hs1 (by decide) (fun hc => ?_) (fun hc => ?_)
  · replace h := ite_hf h (Int.not_lt.mpr hc)
    exact g_retv ck rfl rfl h
  · replace h := ite_ht h (Int.not_le.mp hc)
    refine g_al 11 ck rfl rfl rfl ?_
    refine r_gfr 14 110 ck rfl rfl rfl (by decide) ?_
    refine r_gfi 17 7 ck rfl rfl rfl rfl ?_
    refine r_is 19 ck rfl rfl rfl rfl ?_
    replace h := h _ rfl
    refine g_ic 21 ck rfl rfl ?_
    refine r_is 23 ck rfl rfl rfl rfl ?_
    exact o37_23 ho1 ho3 hu7 (fun _ _ u5 u6 u7 hu5 hu6 hu7 hx => hx u5 hu5 u6 hu6 u7 hu7) h
def w37 (B : va_E) (σ : l2_m) (o1 : Nat) (x2 : Int) (o3 : Nat) (K : Int → l2_m → Prop) : Prop := w37_3 B σ o1 x2 o3 0 K
theorem o37 {B : va_E} {σ : l2_m} {o1 : Nat} {x2 : Int} {o3 : Nat} {K : Int → l2_m → Prop} (ho1 : l2_al o1 = some 512) (ho3 : l2_al o3 = some 16)  (h : w37 B σ o1 x2 o3  K) : wC B 37 [vr 109, vr o1, vi x2, vr o3] σ K := by
  have ck : pm_code 37 = pc_37 := rfl
  unfold w37 at h
  show wW B 37 0 [vr 109, vr o1, vi x2, vr o3, pm_un, pm_un, pm_un, pm_un] [] σ K
  refine g_ic 1 ck rfl rfl ?_
  refine r_is 3 ck rfl rfl rfl rfl ?_
  exact o37_3 ho1 ho3 rfl rfl rfl h
/-! 38 TermDesk$Commons.reduceUpper(II)I -/
def w38_123 (B : va_E) (σ : l2_m) (x4 : Int)  (K : Int → l2_m → Prop) : Prop := lz1 (fun X123 x4 => (rg x4 ∧ ((¬ (x4 < 0) → l2_al (Int.toNat (σ 109 15)) = some 16 ∧ 0 ≤ x4 ∧ x4 < 16 ∧ rg (σ (Int.toNat (σ 109 15)) x4) ∧ rg (σ 110 7)) ∧ (if (x4 < 0) ∨ ¬ ((σ (Int.toNat (σ 109 15)) x4) = (σ 110 7)) then K x4 σ else X123 (x4 + (-1)))))) x4
theorem o38_123 {B : va_E} {σ : l2_m} {x4 : Int} {u1 : Value} {u2 : Value} {u3 : Value} {u5 : Value} {u6 : Value} {u7 : Value}  {K : Int → l2_m → Prop}  (hu1 : (u1.category == 1) = true) (hu2 : (u2.category == 1) = true) (hu3 : (u3.category == 1) = true) (hu5 : (u5.category == 1) = true) (hu6 : (u6.category == 1) = true) (hu7 : (u7.category == 1) = true)  (h : w38_123 B σ x4  K) : wW B 38 123 [vr 109, u1, u2, u3, vi x4, u5, u6, u7] [] σ K := by
  have ck : pm_code 38 = pc_38 := rfl
  unfold w38_123 at h
  refine h (fun x4 => ∀ u1 : Value, (u1.category == 1) = true → ∀ u2 : Value, (u2.category == 1) = true → ∀ u3 : Value, (u3.category == 1) = true → ∀ u5 : Value, (u5.category == 1) = true → ∀ u6 : Value, (u6.category == 1) = true → ∀ u7 : Value, (u7.category == 1) = true → wW B 38 123 [vr 109, u1, u2, u3, vi x4, u5, u6, u7] [] σ K) ?_ u1 hu1 u2 hu2 u3 hu3 u5 hu5 u6 hu6 u7 hu7
  clear h
  intro x4 h u1 hu1 u2 hu2 u3 hu3 u5 hu5 u6 hu6 u7 hu7
  replace h := (And.imp_right mg_2s) h
  obtain ⟨hs1, h⟩ := h
  refine g_il 125 ck rfl rfl rfl ?_
  refine g_iflt 128 151 ck rfl rfl rfl hs1 (fun hc => ?_) (fun hc => ?_)
  · replace h := ite_ht h hc
    refine g_il 153 ck rfl rfl rfl ?_
    exact g_ret ck rfl rfl (Or.inl (by decide)) h
  · replace h := ite_hf h hc
    obtain ⟨⟨hs2, hs3, hs4, hs5, hs6⟩, h⟩ := h
    refine g_al 129 ck rfl rfl rfl ?_
    refine r_gf2 132 15 ck rfl rfl rfl rfl ?_
    refine g_il 134 ck rfl rfl rfl ?_
    refine g_ial (m := 16) 135 ck rfl rfl hs2 hs3 hs4 ?_
    refine g_al 136 ck rfl rfl rfl ?_
    refine r_gfr 139 110 ck rfl rfl rfl (by decide) ?_
    refine r_gfi 142 7 ck rfl rfl rfl rfl ?_
    refine g_icne 145 151 ck rfl rfl rfl hs5 hs6 (fun hc => ?_) (fun hc => ?_)
    · replace h := ite_hf h hc
      refine g_il 153 ck rfl rfl rfl ?_
      exact g_ret ck rfl rfl (Or.inl (by decide)) h
    · replace h := ite_ht h (Classical.not_not.mp hc)
      refine r_ii 148 ck rfl rfl hu3 rfl ?_
      refine g_goto 123 ck rfl rfl ?_
      exact h _ hu1 _ hu2 _ hu3 _ hu5 _ hu6 _ hu7
def w38_53 (B : va_E) (σ : l2_m) (x2 : Int) (x3 : Int) (x4 : Int) (x5 : Int) (x6 : Int) (X26 : Int → l2_m → Prop) (K : Int → l2_m → Prop) : Prop := lz2 (fun X53 x6 σ => ((rg x6 ∧ rg x2) ∧ (if x2 < x6 then X26 (x4 + (-1)) σ else ((l2_al (Int.toNat (σ 109 16)) = some 16 ∧ 0 ≤ x6 ∧ x6 < 16 ∧ 0 ≤ x5 ∧ x5 ≤ (σ 110 7) ∧ 0 ≤ (σ (Int.toNat (σ 109 16)) x6) ∧ (σ (Int.toNat (σ 109 16)) x6) ≤ (σ 110 7) ∧ (σ 110 7) ≤ 10000) ∧ ∀ x7 : Int, x7 = (fmul (σ 110 7) x5 (σ (Int.toNat (σ 109 16)) x6)) → (l2_al (Int.toNat (σ 109 15)) = some 16 ∧ 0 ≤ (x4 + x6) ∧ (x4 + x6) < 16 ∧ 0 ≤ (σ (Int.toNat (σ 109 15)) (x4 + x6)) ∧ (σ (Int.toNat (σ 109 15)) (x4 + x6)) ≤ (σ 110 7) ∧ 0 ≤ x7 ∧ x7 ≤ (σ 110 7) ∧ (σ 110 7) ≤ 9408 ∧ (∀ e : Int, 0 ≤ e → e < σ 110 7 → 0 ≤ σ 112 e ∧ σ 112 e ≤ σ 110 7)) ∧ ∀ σ' : l2_m, σ' = l2_u σ (Int.toNat (σ 109 15)) (x4 + x6) (fadd (σ 110 7) (σ 112) (σ (Int.toNat (σ 109 15)) (x4 + x6)) x7) → X53 (x6 + 1) σ')))) x6 σ
theorem o38_53 {B : va_E} {σ : l2_m} {x2 : Int} {x3 : Int} {x4 : Int} {x5 : Int} {x6 : Int} {u1 : Value} {u7 : Value} {X26 : Int → l2_m → Prop} {K : Int → l2_m → Prop}  (hu1 : (u1.category == 1) = true) (hu7 : (u7.category == 1) = true) (hX26 : ∀ (x4 : Int) (σ : l2_m) (u1 : Value) (u5 : Value) (u6 : Value) (u7 : Value), (u1.category == 1) = true → (u5.category == 1) = true → (u6.category == 1) = true → (u7.category == 1) = true → X26 x4 σ → wW B 38 26 [vr 109, u1, vi x2, vi x3, vi x4, u5, u6, u7] [] σ K) (h : w38_53 B σ x2 x3 x4 x5 x6 X26 K) : wW B 38 53 [vr 109, u1, vi x2, vi x3, vi x4, vi x5, vi x6, u7] [] σ K := by
  have ck : pm_code 38 = pc_38 := rfl
  unfold w38_53 at h
  refine h (fun x6 σ => ∀ u1 : Value, (u1.category == 1) = true → ∀ u7 : Value, (u7.category == 1) = true → wW B 38 53 [vr 109, u1, vi x2, vi x3, vi x4, vi x5, vi x6, u7] [] σ K) ?_ u1 hu1 u7 hu7
  clear h
  intro x6 σ h u1 hu1 u7 hu7
  obtain ⟨⟨hs1, hs2⟩, h⟩ := h
  refine g_il 55 ck rfl rfl rfl ?_
  refine g_il 56 ck rfl rfl rfl ?_
  refine g_icgt 59 112 ck rfl rfl rfl hs1 hs2 (fun hc => ?_) (fun hc => ?_)
  · replace h := ite_ht h hc
    refine r_ii 115 ck rfl rfl rfl rfl ?_
    refine g_goto 26 ck rfl rfl ?_
    exact hX26 _ _ _ _ _ _ hu1 rfl rfl hu7 h
  · replace h := ite_hf h hc
    obtain ⟨⟨hs3, hs4, hs5, hs6, hs7, hs8, hs9, hs10⟩, h⟩ := h
    refine g_al 60 ck rfl rfl rfl ?_
    refine r_gfr 63 110 ck rfl rfl rfl (by decide) ?_
    refine g_il 65 ck rfl rfl rfl ?_
    refine g_al 66 ck rfl rfl rfl ?_
    refine r_gf2 69 16 ck rfl rfl rfl rfl ?_
    refine g_il 71 ck rfl rfl rfl ?_
    refine g_ial (m := 16) 72 ck rfl rfl hs3 hs4 hs5 ?_
    refine g_cvi (as := [_, _]) (rest := []) 75 ck rfl rfl rfl rfl rfl rfl (by decide) rfl rfl rfl rfl (Nat.le_of_ble_eq_true rfl) (s58 hs6 hs7 hs8 hs9 hs10 ?_)
    refine r_is 77 ck rfl rfl rfl rfl ?_
    replace h := h _ rfl
    obtain ⟨⟨hs11, hs12, hs13, hs14, hs15, hs16, hs17, hs18, hs19⟩, h⟩ := h
    refine g_al 78 ck rfl rfl rfl ?_
    refine r_gf2 81 15 ck rfl rfl rfl rfl ?_
    refine g_il 83 ck rfl rfl rfl ?_
    refine g_il 85 ck rfl rfl rfl ?_
    refine g_add 86 ck rfl rfl ?_
    refine g_al 87 ck rfl rfl rfl ?_
    refine r_gfr 90 110 ck rfl rfl rfl (by decide) ?_
    refine g_al 91 ck rfl rfl rfl ?_
    refine r_gf2 94 15 ck rfl rfl rfl rfl ?_
    refine g_il 96 ck rfl rfl rfl ?_
    refine g_il 98 ck rfl rfl rfl ?_
    refine g_add 99 ck rfl rfl ?_
    refine g_ial (m := 16) 100 ck rfl rfl hs11 hs12 hs13 ?_
    refine g_il 102 ck rfl rfl rfl ?_
    refine g_cvi (as := [_, _]) (rest := [_, _]) 105 ck rfl rfl rfl rfl rfl rfl (by decide) rfl rfl rfl rfl (Nat.le_of_ble_eq_true rfl) (s59 hs14 hs15 hs16 hs17 hs18 hs19 ?_)
    refine g_ias (m := 16) 106 ck rfl rfl hs11 hs12 hs13 ?_
    replace h := h _ rfl
    refine r_ii 109 ck rfl rfl rfl rfl ?_
    refine g_goto 53 ck rfl rfl ?_
    exact h _ hu1 _ rfl
def w38_26 (B : va_E) (σ : l2_m) (x2 : Int) (x3 : Int) (x4 : Int)  (K : Int → l2_m → Prop) : Prop := lz2 (fun X26 x4 σ => (rg x4 ∧ (if x4 < 0 then (∀ x4' : Int, x4' = (x2 - 1) → w38_123 B σ x4' K) else ((l2_al (Int.toNat (σ 109 15)) = some 16 ∧ 0 ≤ (x4 + x2) ∧ (x4 + x2) < 16 ∧ 0 ≤ (σ (Int.toNat (σ 109 15)) (x4 + x2)) ∧ (σ (Int.toNat (σ 109 15)) (x4 + x2)) ≤ (σ 110 7) ∧ 0 ≤ x3 ∧ x3 ≤ (σ 110 7) ∧ (σ 110 7) ≤ 10000) ∧ ∀ x5 : Int, x5 = (fmul (σ 110 7) (σ (Int.toNat (σ 109 15)) (x4 + x2)) x3) → w38_53 B σ x2 x3 x4 x5 0 X26 K)))) x4 σ
theorem o38_26 {B : va_E} {σ : l2_m} {x2 : Int} {x3 : Int} {x4 : Int} {u1 : Value} {u5 : Value} {u6 : Value} {u7 : Value}  {K : Int → l2_m → Prop}  (hu1 : (u1.category == 1) = true) (hu5 : (u5.category == 1) = true) (hu6 : (u6.category == 1) = true) (hu7 : (u7.category == 1) = true)  (h : w38_26 B σ x2 x3 x4  K) : wW B 38 26 [vr 109, u1, vi x2, vi x3, vi x4, u5, u6, u7] [] σ K := by
  have ck : pm_code 38 = pc_38 := rfl
  unfold w38_26 at h
  refine h (fun x4 σ => ∀ u1 : Value, (u1.category == 1) = true → ∀ u5 : Value, (u5.category == 1) = true → ∀ u6 : Value, (u6.category == 1) = true → ∀ u7 : Value, (u7.category == 1) = true → wW B 38 26 [vr 109, u1, vi x2, vi x3, vi x4, u5, u6, u7] [] σ K) ?_ u1 hu1 u5 hu5 u6 hu6 u7 hu7
  clear h
  intro x4 σ h u1 hu1 u5 hu5 u6 hu6 u7 hu7
  obtain ⟨hs1, h⟩ := h
  refine g_il 28 ck rfl rfl rfl ?_
  refine g_iflt 31 118 ck rfl rfl rfl hs1 (fun hc => ?_) (fun hc => ?_)
  · replace h := ite_ht h hc
    refine g_il 119 ck rfl rfl rfl ?_
    refine g_ic 120 ck rfl rfl ?_
    refine g_sub 121 ck rfl rfl ?_
    refine r_is 123 ck rfl rfl rfl rfl ?_
    replace h := h _ rfl
    exact o38_123 hu1 rfl rfl hu5 hu6 hu7 h
  · replace h := ite_hf h hc
    obtain ⟨⟨hs2, hs3, hs4, hs5, hs6, hs7, hs8, hs9⟩, h⟩ := h
    refine g_al 32 ck rfl rfl rfl ?_
    refine r_gfr 35 110 ck rfl rfl rfl (by decide) ?_
    refine g_al 36 ck rfl rfl rfl ?_
    refine r_gf2 39 15 ck rfl rfl rfl rfl ?_
    refine g_il 41 ck rfl rfl rfl ?_
    refine g_il 42 ck rfl rfl rfl ?_
    refine g_add 43 ck rfl rfl ?_
    refine g_ial (m := 16) 44 ck rfl rfl hs2 hs3 hs4 ?_
    refine g_il 45 ck rfl rfl rfl ?_
    refine g_cvi (as := [_, _]) (rest := []) 48 ck rfl rfl rfl rfl rfl rfl (by decide) rfl rfl rfl rfl (Nat.le_of_ble_eq_true rfl) (s58 hs5 hs6 hs7 hs8 hs9 ?_)
    refine r_is 50 ck rfl rfl rfl rfl ?_
    replace h := h _ rfl
    refine g_ic 51 ck rfl rfl ?_
    refine r_is 53 ck rfl rfl rfl rfl ?_
    exact o38_53 hu1 hu7 (fun _ _ u1 u5 u6 u7 hu1 hu5 hu6 hu7 hx => hx u1 hu1 u5 hu5 u6 hu6 u7 hu7) h
def w38 (B : va_E) (σ : l2_m) (x1 : Int) (x2 : Int) (K : Int → l2_m → Prop) : Prop := ((l2_al (Int.toNat (σ 109 16)) = some 16 ∧ 0 ≤ x2 ∧ x2 < 16 ∧ 0 ≤ (σ (Int.toNat (σ 109 16)) x2) ∧ (σ (Int.toNat (σ 109 16)) x2) ≤ (σ 110 7) ∧ (σ 110 7) ≤ 10000 ∧ 0 ≤ (finv (σ 110 7) (σ (Int.toNat (σ 109 16)) x2)) ∧ (finv (σ 110 7) (σ (Int.toNat (σ 109 16)) x2)) ≤ (σ 110 7) ∧ 0 ≤ (σ 110 5) ∧ (σ 110 5) ≤ (σ 110 7)) ∧ ∀ x3 : Int, x3 = (fmul (σ 110 7) (finv (σ 110 7) (σ (Int.toNat (σ 109 16)) x2)) (σ 110 5)) → ∀ x4 : Int, x4 = (x1 - x2) → w38_26 B σ x2 x3 x4 K)
theorem o38 {B : va_E} {σ : l2_m} {x1 : Int} {x2 : Int} {K : Int → l2_m → Prop}   (h : w38 B σ x1 x2  K) : wC B 38 [vr 109, vi x1, vi x2] σ K := by
  have ck : pm_code 38 = pc_38 := rfl
  unfold w38 at h
  show wW B 38 0 [vr 109, vi x1, vi x2, pm_un, pm_un, pm_un, pm_un, pm_un] [] σ K
  obtain ⟨⟨hs1, hs2, hs3, hs4, hs5, hs6, hs7, hs8, hs9, hs10⟩, h⟩ := h
  refine g_al 1 ck rfl rfl rfl ?_
  refine r_gfr 4 110 ck rfl rfl rfl (by decide) ?_
  refine g_al 5 ck rfl rfl rfl ?_
  refine r_gfr 8 110 ck rfl rfl rfl (by decide) ?_
  refine g_al 9 ck rfl rfl rfl ?_
  refine r_gf2 12 16 ck rfl rfl rfl rfl ?_
  refine g_il 13 ck rfl rfl rfl ?_
  refine g_ial (m := 16) 14 ck rfl rfl hs1 hs2 hs3 ?_
  refine g_cvi (as := [_]) (rest := [_]) 17 ck rfl rfl rfl rfl rfl rfl (by decide) rfl rfl rfl rfl (Nat.le_of_ble_eq_true rfl) (s61 hs4 hs5 hs6 ?_)
  refine g_cvi (as := [_]) (rest := []) 20 ck rfl rfl rfl rfl rfl rfl (by decide) rfl rfl rfl rfl (Nat.le_of_ble_eq_true rfl) (s60 hs7 hs8 hs9 hs10 hs6 ?_)
  refine r_is 21 ck rfl rfl rfl rfl ?_
  replace h := h _ rfl
  refine g_il 22 ck rfl rfl rfl ?_
  refine g_il 23 ck rfl rfl rfl ?_
  refine g_sub 24 ck rfl rfl ?_
  refine r_is 26 ck rfl rfl rfl rfl ?_
  replace h := h _ rfl
  exact o38_26 rfl rfl rfl rfl h
/-! 39 TermDesk$Commons.startBuilding()V -/
def w39 (B : va_E) (σ : l2_m)  (K : Int → l2_m → Prop) : Prop := (∀ σ' : l2_m, σ' = fil σ 120 (σ 110 7) ((512 : Nat) : Int) → ∀ σ'' : l2_m, σ'' = fil σ' 125 (σ' 110 7) ((32 : Nat) : Int) → (0 ≤ (σ'' 110 3) ∧ (σ'' 110 3) ≤ 97) ∧ ∀ σ''' : l2_m, σ''' = l2_u σ'' 125 0 (fofn σ'' 1) → ∀ σ'''' : l2_m, σ'''' = l2_u σ''' 109 17 0 → K 0 σ'''')
theorem o39 {B : va_E} {σ : l2_m}  {K : Int → l2_m → Prop}   (h : w39 B σ   K) : wC B 39 [vr 109] σ K := by
  have ck : pm_code 39 = pc_39 := rfl
  unfold w39 at h
  show wW B 39 0 [vr 109] [] σ K
  refine g_al 1 ck rfl rfl rfl ?_
  refine r_gfr 4 120 ck rfl rfl rfl (by decide) ?_
  refine g_al 5 ck rfl rfl rfl ?_
  refine r_gfr 8 110 ck rfl rfl rfl (by decide) ?_
  refine r_gfi 11 7 ck rfl rfl rfl rfl ?_
  refine g_csv (as := [_, _]) (rest := []) 14 ck rfl rfl rfl rfl rfl rfl rfl rfl (Nat.le_of_ble_eq_true rfl) (s280 rfl ?_)
  replace h := h _ rfl
  refine g_al 15 ck rfl rfl rfl ?_
  refine r_gfr 18 125 ck rfl rfl rfl (by decide) ?_
  refine g_al 19 ck rfl rfl rfl ?_
  refine r_gfr 22 110 ck rfl rfl rfl (by decide) ?_
  refine r_gfi 25 7 ck rfl rfl rfl rfl ?_
  refine g_csv (as := [_, _]) (rest := []) 28 ck rfl rfl rfl rfl rfl rfl rfl rfl (Nat.le_of_ble_eq_true rfl) (s280 rfl ?_)
  replace h := h _ rfl
  obtain ⟨⟨hs1, hs2⟩, h⟩ := h
  refine g_al 29 ck rfl rfl rfl ?_
  refine r_gfr 32 125 ck rfl rfl rfl (by decide) ?_
  refine g_ic 33 ck rfl rfl ?_
  refine g_al 34 ck rfl rfl rfl ?_
  refine r_gfr 37 110 ck rfl rfl rfl (by decide) ?_
  refine g_ic 38 ck rfl rfl ?_
  refine g_cvi (as := [_]) (rest := [_, _]) 41 ck rfl rfl rfl rfl rfl rfl (by decide) rfl rfl rfl rfl (Nat.le_of_ble_eq_true rfl) (s56 (by decide) hs1 hs2 ?_)
  refine g_ias (m := 32) 42 ck rfl rfl rfl (by decide) (by decide) ?_
  replace h := h _ rfl
  refine g_al 43 ck rfl rfl rfl ?_
  refine g_ic 44 ck rfl rfl ?_
  refine g_pfi 47 ck rfl rfl rfl 17 rfl rfl ?_
  replace h := h _ rfl
  exact g_retv ck rfl rfl h
/-! 40 TermDesk$Commons.takeElement(II)V -/
def w40_237 (B : va_E) (σ : l2_m) (x5 : Int) (x6 : Int) (z0 : Int) (X208 : Int → l2_m → Prop) (K : Int → l2_m → Prop) : Prop := ((0 ≤ x6 ∧ x6 < 32 ∧ 0 ≤ x5 ∧ x5 ≤ (σ 110 7) ∧ 0 ≤ (σ 125 x6) ∧ (σ 125 x6) ≤ (σ 110 7) ∧ (σ 110 7) ≤ 10000 ∧ 0 ≤ z0 ∧ z0 ≤ (σ 110 7) ∧ 0 ≤ (fmul (σ 110 7) x5 (σ 125 x6)) ∧ (fmul (σ 110 7) x5 (σ 125 x6)) ≤ (σ 110 7) ∧ (σ 110 7) ≤ 9408 ∧ (∀ e : Int, 0 ≤ e → e < σ 110 7 → 0 ≤ σ 112 e ∧ σ 112 e ≤ σ 110 7)) ∧ ∀ σ' : l2_m, σ' = l2_u σ 125 x6 (fadd (σ 110 7) (σ 112) z0 (fmul (σ 110 7) x5 (σ 125 x6))) → X208 (x6 + (-1)) σ')
theorem o40_237 {B : va_E} {σ : l2_m} {x5 : Int} {x6 : Int} {z0 : Int} {u1 : Value} {u2 : Value} {u3 : Value} {u4 : Value} {u7 : Value} {u8 : Value} {u9 : Value} {u10 : Value} {X208 : Int → l2_m → Prop} {K : Int → l2_m → Prop}  (hu1 : (u1.category == 1) = true) (hu2 : (u2.category == 1) = true) (hu3 : (u3.category == 1) = true) (hu4 : (u4.category == 1) = true) (hu7 : (u7.category == 1) = true) (hu8 : (u8.category == 1) = true) (hu9 : (u9.category == 1) = true) (hu10 : (u10.category == 1) = true) (hX208 : ∀ (x6 : Int) (σ : l2_m) (u1 : Value) (u2 : Value) (u3 : Value) (u4 : Value) (u7 : Value) (u8 : Value) (u9 : Value) (u10 : Value), (u1.category == 1) = true → (u2.category == 1) = true → (u3.category == 1) = true → (u4.category == 1) = true → (u7.category == 1) = true → (u8.category == 1) = true → (u9.category == 1) = true → (u10.category == 1) = true → X208 x6 σ → wW B 40 208 [vr 109, u1, u2, u3, u4, vi x5, vi x6, u7, u8, u9, u10] [] σ K) (h : w40_237 B σ x5 x6 z0 X208 K) : wW B 40 237 [vr 109, u1, u2, u3, u4, vi x5, vi x6, u7, u8, u9, u10] [vi z0] σ K := by
  have ck : pm_code 40 = pc_40 := rfl
  unfold w40_237 at h
  obtain ⟨⟨hs1, hs2, hs3, hs4, hs5, hs6, hs7, hs8, hs9, hs10, hs11, hs12, hs13⟩, h⟩ := h
  refine r_is 239 ck rfl rfl rfl rfl ?_
  refine g_al 240 ck rfl rfl rfl ?_
  refine r_gfr 243 125 ck rfl rfl rfl (by decide) ?_
  refine g_il 245 ck rfl rfl rfl ?_
  refine g_al 246 ck rfl rfl rfl ?_
  refine r_gfr 249 110 ck rfl rfl rfl (by decide) ?_
  refine g_il 251 ck rfl rfl rfl ?_
  refine g_al 252 ck rfl rfl rfl ?_
  refine r_gfr 255 110 ck rfl rfl rfl (by decide) ?_
  refine g_il 257 ck rfl rfl rfl ?_
  refine g_al 258 ck rfl rfl rfl ?_
  refine r_gfr 261 125 ck rfl rfl rfl (by decide) ?_
  refine g_il 263 ck rfl rfl rfl ?_
  refine g_ial (m := 32) 264 ck rfl rfl rfl hs1 hs2 ?_
  refine g_cvi (as := [_, _]) (rest := [_, _, _, _]) 267 ck rfl rfl rfl rfl rfl rfl (by decide) rfl rfl rfl rfl (Nat.le_of_ble_eq_true rfl) (s58 hs3 hs4 hs5 hs6 hs7 ?_)
  refine g_cvi (as := [_, _]) (rest := [_, _]) 270 ck rfl rfl rfl rfl rfl rfl (by decide) rfl rfl rfl rfl (Nat.le_of_ble_eq_true rfl) (s59 hs8 hs9 hs10 hs11 hs12 hs13 ?_)
  refine g_ias (m := 32) 271 ck rfl rfl rfl hs1 hs2 ?_
  replace h := h _ rfl
  refine r_ii 274 ck rfl rfl rfl rfl ?_
  refine g_goto 208 ck rfl rfl ?_
  exact hX208 _ _ _ _ _ _ _ _ _ _ hu1 hu2 hu3 hu4 rfl hu8 hu9 hu10 h
def w40_208 (B : va_E) (σ : l2_m) (x5 : Int) (x6 : Int)  (K : Int → l2_m → Prop) : Prop := lz2 (fun X208 x6 σ => (rg x6 ∧ (if x6 < 0 then (∀ σ' : l2_m, σ' = l2_u σ 109 17 ((σ 109 17) + 1) → K 0 σ') else (if 0 < x6 then ((0 ≤ (x6 - 1) ∧ (x6 - 1) < 32) ∧ w40_237 B σ x5 x6 (σ 125 (x6 - 1)) X208 K) else w40_237 B σ x5 x6 (σ 110 7) X208 K)))) x6 σ
theorem o40_208 {B : va_E} {σ : l2_m} {x5 : Int} {x6 : Int} {u1 : Value} {u2 : Value} {u3 : Value} {u4 : Value} {u7 : Value} {u8 : Value} {u9 : Value} {u10 : Value}  {K : Int → l2_m → Prop}  (hu1 : (u1.category == 1) = true) (hu2 : (u2.category == 1) = true) (hu3 : (u3.category == 1) = true) (hu4 : (u4.category == 1) = true) (hu7 : (u7.category == 1) = true) (hu8 : (u8.category == 1) = true) (hu9 : (u9.category == 1) = true) (hu10 : (u10.category == 1) = true)  (h : w40_208 B σ x5 x6  K) : wW B 40 208 [vr 109, u1, u2, u3, u4, vi x5, vi x6, u7, u8, u9, u10] [] σ K := by
  have ck : pm_code 40 = pc_40 := rfl
  unfold w40_208 at h
  refine h (fun x6 σ => ∀ u1 : Value, (u1.category == 1) = true → ∀ u2 : Value, (u2.category == 1) = true → ∀ u3 : Value, (u3.category == 1) = true → ∀ u4 : Value, (u4.category == 1) = true → ∀ u7 : Value, (u7.category == 1) = true → ∀ u8 : Value, (u8.category == 1) = true → ∀ u9 : Value, (u9.category == 1) = true → ∀ u10 : Value, (u10.category == 1) = true → wW B 40 208 [vr 109, u1, u2, u3, u4, vi x5, vi x6, u7, u8, u9, u10] [] σ K) ?_ u1 hu1 u2 hu2 u3 hu3 u4 hu4 u7 hu7 u8 hu8 u9 hu9 u10 hu10
  clear h
  intro x6 σ h u1 hu1 u2 hu2 u3 hu3 u4 hu4 u7 hu7 u8 hu8 u9 hu9 u10 hu10
  obtain ⟨hs1, h⟩ := h
  refine g_il 210 ck rfl rfl rfl ?_
  refine g_iflt 213 277 ck rfl rfl rfl hs1 (fun hc => ?_) (fun hc => ?_)
  · replace h := ite_ht h hc
    refine g_al 278 ck rfl rfl rfl ?_
    refine g_dup 279 ck rfl rfl rfl ?_
    refine r_gfi 282 17 ck rfl rfl rfl rfl ?_
    refine g_ic 283 ck rfl rfl ?_
    refine g_add 284 ck rfl rfl ?_
    refine g_pfi 287 ck rfl rfl rfl 17 rfl rfl ?_
    replace h := h _ rfl
    exact g_retv ck rfl rfl h
  · replace h := ite_hf h hc
    refine g_il 215 ck rfl rfl rfl ?_
    refine g_ifle 218 230 ck rfl rfl rfl hs1 (fun hc => ?_) (fun hc => ?_)
    · replace h := ite_hf h (Int.not_lt.mpr hc)
      refine g_al 231 ck rfl rfl rfl ?_
      refine r_gfr 234 110 ck rfl rfl rfl (by decide) ?_
      refine r_gfi 237 7 ck rfl rfl rfl rfl ?_
      exact o40_237 hu1 hu2 hu3 hu4 hu7 hu8 hu9 hu10 (fun _ _ u1 u2 u3 u4 u7 u8 u9 u10 hu1 hu2 hu3 hu4 hu7 hu8 hu9 hu10 hx => hx u1 hu1 u2 hu2 u3 hu3 u4 hu4 u7 hu7 u8 hu8 u9 hu9 u10 hu10) h
    · replace h := ite_ht h (Int.not_le.mp hc)
      obtain ⟨⟨hs2, hs3⟩, h⟩ := h
      refine g_al 219 ck rfl rfl rfl ?_
      refine r_gfr 222 125 ck rfl rfl rfl (by decide) ?_
      refine g_il 224 ck rfl rfl rfl ?_
      refine g_ic 225 ck rfl rfl ?_
      refine g_sub 226 ck rfl rfl ?_
      refine g_ial (m := 32) 227 ck rfl rfl rfl hs2 hs3 ?_
      refine g_goto 237 ck rfl rfl ?_
      exact o40_237 hu1 hu2 hu3 hu4 hu7 hu8 hu9 hu10 (fun _ _ u1 u2 u3 u4 u7 u8 u9 u10 hu1 hu2 hu3 hu4 hu7 hu8 hu9 hu10 hx => hx u1 hu1 u2 hu2 u3 hu3 u4 hu4 u7 hu7 u8 hu8 u9 hu9 u10 hu10) h
def w40_119 (B : va_E) (σ : l2_m) (x1 : Int) (x2 : Int) (x3 : Int) (x4 : Int) (x5 : Int) (x8 : Int) (x9 : Int) (X48 : Int → l2_m → Prop) (K : Int → l2_m → Prop) : Prop := lz2 (fun X119 x9 σ => ((rg x9 ∧ rg (σ 109 17)) ∧ (if ((σ 109 17) < x9) ∨ ¬ (x9 < 32) then X48 (x5 + 1) σ else (∀ x10 : Int, x10 = ((x5 * 32) + x9) → (0 ≤ x10 ∧ x10 < 512 ∧ 0 ≤ x9 ∧ x9 < 32 ∧ 0 ≤ x8 ∧ x8 ≤ (σ 110 7) ∧ 0 ≤ (σ 125 x9) ∧ (σ 125 x9) ≤ (σ 110 7) ∧ (σ 110 7) ≤ 10000 ∧ 0 ≤ (σ 120 x10) ∧ (σ 120 x10) ≤ (σ 110 7) ∧ 0 ≤ (fmul (σ 110 7) x8 (σ 125 x9)) ∧ (fmul (σ 110 7) x8 (σ 125 x9)) ≤ (σ 110 7) ∧ (σ 110 7) ≤ 9408 ∧ (∀ e : Int, 0 ≤ e → e < σ 110 7 → 0 ≤ σ 112 e ∧ σ 112 e ≤ σ 110 7)) ∧ ∀ σ' : l2_m, σ' = l2_u σ 120 x10 (fadd (σ 110 7) (σ 112) (σ 120 x10) (fmul (σ 110 7) x8 (σ 125 x9))) → X119 (x9 + 1) σ')))) x9 σ
theorem o40_119 {B : va_E} {σ : l2_m} {x1 : Int} {x2 : Int} {x3 : Int} {x4 : Int} {x5 : Int} {x8 : Int} {x9 : Int} {u6 : Value} {u7 : Value} {u10 : Value} {X48 : Int → l2_m → Prop} {K : Int → l2_m → Prop}  (hu6 : (u6.category == 1) = true) (hu7 : (u7.category == 1) = true) (hu10 : (u10.category == 1) = true) (hX48 : ∀ (x5 : Int) (σ : l2_m) (u6 : Value) (u7 : Value) (u8 : Value) (u9 : Value) (u10 : Value), (u6.category == 1) = true → (u7.category == 1) = true → (u8.category == 1) = true → (u9.category == 1) = true → (u10.category == 1) = true → X48 x5 σ → wW B 40 48 [vr 109, vi x1, vi x2, vi x3, vi x4, vi x5, u6, u7, u8, u9, u10] [] σ K) (h : w40_119 B σ x1 x2 x3 x4 x5 x8 x9 X48 K) : wW B 40 119 [vr 109, vi x1, vi x2, vi x3, vi x4, vi x5, u6, u7, vi x8, vi x9, u10] [] σ K := by
  have ck : pm_code 40 = pc_40 := rfl
  unfold w40_119 at h
  refine h (fun x9 σ => ∀ u6 : Value, (u6.category == 1) = true → ∀ u7 : Value, (u7.category == 1) = true → ∀ u10 : Value, (u10.category == 1) = true → wW B 40 119 [vr 109, vi x1, vi x2, vi x3, vi x4, vi x5, u6, u7, vi x8, vi x9, u10] [] σ K) ?_ u6 hu6 u7 hu7 u10 hu10
  clear h
  intro x9 σ h u6 hu6 u7 hu7 u10 hu10
  replace h := (And.imp_right mg_2) h
  obtain ⟨⟨hs1, hs2⟩, h⟩ := h
  refine g_il 121 ck rfl rfl rfl ?_
  refine g_al 122 ck rfl rfl rfl ?_
  refine r_gfi 125 17 ck rfl rfl rfl rfl ?_
  refine g_icgt 128 188 ck rfl rfl rfl hs1 hs2 (fun hc => ?_) (fun hc => ?_)
  · replace h := ite_ht h hc
    refine r_ii 191 ck rfl rfl rfl rfl ?_
    refine g_goto 48 ck rfl rfl ?_
    exact hX48 _ _ _ _ _ _ _ hu6 hu7 rfl rfl hu10 h
  · replace h := ite_hf h hc
    refine g_il 130 ck rfl rfl rfl ?_
    refine g_ic 132 ck rfl rfl ?_
    refine g_icge 135 188 ck rfl rfl rfl hs1 (by decide) (fun hc => ?_) (fun hc => ?_)
    · replace h := ite_hf h (Int.not_lt.mpr hc)
      refine r_ii 191 ck rfl rfl rfl rfl ?_
      refine g_goto 48 ck rfl rfl ?_
      exact hX48 _ _ _ _ _ _ _ hu6 hu7 rfl rfl hu10 h
    · replace h := ite_ht h (Int.not_le.mp hc)
      refine g_il 137 ck rfl rfl rfl ?_
      refine g_ic 139 ck rfl rfl ?_
      refine g_mul 140 ck rfl rfl ?_
      refine g_il 142 ck rfl rfl rfl ?_
      refine g_add 143 ck rfl rfl ?_
      refine r_is 145 ck rfl rfl rfl rfl ?_
      replace h := h _ rfl
      obtain ⟨⟨hs3, hs4, hs5, hs6, hs7, hs8, hs9, hs10, hs11, hs12, hs13, hs14, hs15, hs16, hs17⟩, h⟩ := h
      refine g_al 146 ck rfl rfl rfl ?_
      refine r_gfr 149 120 ck rfl rfl rfl (by decide) ?_
      refine g_il 151 ck rfl rfl rfl ?_
      refine g_al 152 ck rfl rfl rfl ?_
      refine r_gfr 155 110 ck rfl rfl rfl (by decide) ?_
      refine g_al 156 ck rfl rfl rfl ?_
      refine r_gfr 159 120 ck rfl rfl rfl (by decide) ?_
      refine g_il 161 ck rfl rfl rfl ?_
      refine g_ial (m := 512) 162 ck rfl rfl rfl hs3 hs4 ?_
      refine g_al 163 ck rfl rfl rfl ?_
      refine r_gfr 166 110 ck rfl rfl rfl (by decide) ?_
      refine g_il 168 ck rfl rfl rfl ?_
      refine g_al 169 ck rfl rfl rfl ?_
      refine r_gfr 172 125 ck rfl rfl rfl (by decide) ?_
      refine g_il 174 ck rfl rfl rfl ?_
      refine g_ial (m := 32) 175 ck rfl rfl rfl hs5 hs6 ?_
      refine g_cvi (as := [_, _]) (rest := [_, _, _, _]) 178 ck rfl rfl rfl rfl rfl rfl (by decide) rfl rfl rfl rfl (Nat.le_of_ble_eq_true rfl) (s58 hs7 hs8 hs9 hs10 hs11 ?_)
      refine g_cvi (as := [_, _]) (rest := [_, _]) 181 ck rfl rfl rfl rfl rfl rfl (by decide) rfl rfl rfl rfl (Nat.le_of_ble_eq_true rfl) (s59 hs12 hs13 hs14 hs15 hs16 hs17 ?_)
      refine g_ias (m := 512) 182 ck rfl rfl rfl hs3 hs4 ?_
      replace h := h _ rfl
      refine r_ii 185 ck rfl rfl rfl rfl ?_
      refine g_goto 119 ck rfl rfl ?_
      exact h _ hu6 _ hu7 _ rfl
def w40_48 (B : va_E) (σ : l2_m) (x1 : Int) (x2 : Int) (x3 : Int) (x4 : Int) (x5 : Int)  (K : Int → l2_m → Prop) : Prop := lz2 (fun X48 x5 σ => ((rg x5 ∧ rg x2) ∧ (if x2 < x5 then ((0 ≤ x1 ∧ x1 ≤ (σ 110 7) ∧ 0 ≤ (σ 110 5) ∧ (σ 110 5) ≤ (σ 110 7) ∧ (σ 110 7) ≤ 10000) ∧ ∀ x5' : Int, x5' = (fmul (σ 110 7) x1 (σ 110 5)) → w40_208 B σ x5' 31 K) else (wC B 42 [vr 109, vr 120, vi (x5 * 32), vi x1] σ (fun y σ' => ((l2_al (Int.toNat (σ' 109 15)) = some 16 ∧ 0 ≤ x5 ∧ x5 < 16 ∧ 0 ≤ (σ' (Int.toNat (σ' 109 15)) x5) ∧ (σ' (Int.toNat (σ' 109 15)) x5) ≤ (σ' 110 7) ∧ 0 ≤ x3 ∧ x3 ≤ (σ' 110 7) ∧ (σ' 110 7) ≤ 10000) ∧ ∀ x7 : Int, x7 = (fmul (σ' 110 7) (σ' (Int.toNat (σ' 109 15)) x5) x3) → (0 ≤ y ∧ y ≤ (σ' 110 7) ∧ 0 ≤ (σ' 110 5) ∧ (σ' 110 5) ≤ (σ' 110 7) ∧ 0 ≤ x7 ∧ x7 ≤ (σ' 110 7) ∧ 0 ≤ (fmul (σ' 110 7) y (σ' 110 5)) ∧ (fmul (σ' 110 7) y (σ' 110 5)) ≤ (σ' 110 7) ∧ (σ' 110 7) ≤ 9408 ∧ (∀ e : Int, 0 ≤ e → e < σ' 110 7 → 0 ≤ σ' 112 e ∧ σ' 112 e ≤ σ' 110 7) ∧ 0 ≤ (fadd (σ' 110 7) (σ' 112) x7 (fmul (σ' 110 7) y (σ' 110 5))) ∧ (fadd (σ' 110 7) (σ' 112) x7 (fmul (σ' 110 7) y (σ' 110 5))) ≤ (σ' 110 7) ∧ 0 ≤ x4 ∧ x4 ≤ (σ' 110 7)) ∧ ∀ x8 : Int, x8 = (fmul (σ' 110 7) (fadd (σ' 110 7) (σ' 112) x7 (fmul (σ' 110 7) y (σ' 110 5))) x4) → w40_119 B σ' x1 x2 x3 x4 x5 x8 0 X48 K)))))) x5 σ
theorem o40_48 {B : va_E} {σ : l2_m} {x1 : Int} {x2 : Int} {x3 : Int} {x4 : Int} {x5 : Int} {u6 : Value} {u7 : Value} {u8 : Value} {u9 : Value} {u10 : Value}  {K : Int → l2_m → Prop}  (hu6 : (u6.category == 1) = true) (hu7 : (u7.category == 1) = true) (hu8 : (u8.category == 1) = true) (hu9 : (u9.category == 1) = true) (hu10 : (u10.category == 1) = true)  (h : w40_48 B σ x1 x2 x3 x4 x5  K) : wW B 40 48 [vr 109, vi x1, vi x2, vi x3, vi x4, vi x5, u6, u7, u8, u9, u10] [] σ K := by
  have ck : pm_code 40 = pc_40 := rfl
  unfold w40_48 at h
  refine h (fun x5 σ => ∀ u6 : Value, (u6.category == 1) = true → ∀ u7 : Value, (u7.category == 1) = true → ∀ u8 : Value, (u8.category == 1) = true → ∀ u9 : Value, (u9.category == 1) = true → ∀ u10 : Value, (u10.category == 1) = true → wW B 40 48 [vr 109, vi x1, vi x2, vi x3, vi x4, vi x5, u6, u7, u8, u9, u10] [] σ K) ?_ u6 hu6 u7 hu7 u8 hu8 u9 hu9 u10 hu10
  clear h
  intro x5 σ h u6 hu6 u7 hu7 u8 hu8 u9 hu9 u10 hu10
  obtain ⟨⟨hs1, hs2⟩, h⟩ := h
  refine g_il 50 ck rfl rfl rfl ?_
  refine g_il 51 ck rfl rfl rfl ?_
  refine g_icgt 54 194 ck rfl rfl rfl hs1 hs2 (fun hc => ?_) (fun hc => ?_)
  · replace h := ite_ht h hc
    obtain ⟨⟨hs3, hs4, hs5, hs6, hs7⟩, h⟩ := h
    refine g_al 195 ck rfl rfl rfl ?_
    refine r_gfr 198 110 ck rfl rfl rfl (by decide) ?_
    refine g_il 199 ck rfl rfl rfl ?_
    refine g_cvi (as := [_]) (rest := []) 202 ck rfl rfl rfl rfl rfl rfl (by decide) rfl rfl rfl rfl (Nat.le_of_ble_eq_true rfl) (s60 hs3 hs4 hs5 hs6 hs7 ?_)
    refine r_is 204 ck rfl rfl rfl rfl ?_
    replace h := h _ rfl
    refine g_ic 206 ck rfl rfl ?_
    refine r_is 208 ck rfl rfl rfl rfl ?_
    exact o40_208 rfl rfl rfl rfl hu7 hu8 hu9 hu10 h
  · replace h := ite_hf h hc
    refine g_al 55 ck rfl rfl rfl ?_
    refine g_al 56 ck rfl rfl rfl ?_
    refine r_gfr 59 120 ck rfl rfl rfl (by decide) ?_
    refine g_il 61 ck rfl rfl rfl ?_
    refine g_ic 63 ck rfl rfl ?_
    refine g_mul 64 ck rfl rfl ?_
    refine g_il 65 ck rfl rfl rfl ?_
    refine g_cvi (as := [_, _, _]) (rest := []) 68 ck rfl rfl rfl rfl rfl rfl (by decide) rfl rfl rfl rfl (Nat.le_of_ble_eq_true rfl) (wC.mono h (fun y σ' h => ?_))
    obtain ⟨⟨hs8, hs9, hs10, hs11, hs12, hs13, hs14, hs15⟩, h⟩ := h
    refine r_is 70 ck rfl rfl rfl rfl ?_
    refine g_al 71 ck rfl rfl rfl ?_
    refine r_gfr 74 110 ck rfl rfl rfl (by decide) ?_
    refine g_al 75 ck rfl rfl rfl ?_
    refine r_gf2 78 15 ck rfl rfl rfl rfl ?_
    refine g_il 80 ck rfl rfl rfl ?_
    refine g_ial (m := 16) 81 ck rfl rfl hs8 hs9 hs10 ?_
    refine g_il 82 ck rfl rfl rfl ?_
    refine g_cvi (as := [_, _]) (rest := []) 85 ck rfl rfl rfl rfl rfl rfl (by decide) rfl rfl rfl rfl (Nat.le_of_ble_eq_true rfl) (s58 hs11 hs12 hs13 hs14 hs15 ?_)
    refine r_is 87 ck rfl rfl rfl rfl ?_
    replace h := h _ rfl
    obtain ⟨⟨hs16, hs17, hs18, hs19, hs20, hs21, hs22, hs23, hs24, hs25, hs26, hs27, hs28, hs29⟩, h⟩ := h
    refine g_al 88 ck rfl rfl rfl ?_
    refine r_gfr 91 110 ck rfl rfl rfl (by decide) ?_
    refine g_al 92 ck rfl rfl rfl ?_
    refine r_gfr 95 110 ck rfl rfl rfl (by decide) ?_
    refine g_il 97 ck rfl rfl rfl ?_
    refine g_al 98 ck rfl rfl rfl ?_
    refine r_gfr 101 110 ck rfl rfl rfl (by decide) ?_
    refine g_il 103 ck rfl rfl rfl ?_
    refine g_cvi (as := [_]) (rest := [_, _, _]) 106 ck rfl rfl rfl rfl rfl rfl (by decide) rfl rfl rfl rfl (Nat.le_of_ble_eq_true rfl) (s60 hs16 hs17 hs18 hs19 hs15 ?_)
    refine g_cvi (as := [_, _]) (rest := [_]) 109 ck rfl rfl rfl rfl rfl rfl (by decide) rfl rfl rfl rfl (Nat.le_of_ble_eq_true rfl) (s59 hs20 hs21 hs22 hs23 hs24 hs25 ?_)
    refine g_il 111 ck rfl rfl rfl ?_
    refine g_cvi (as := [_, _]) (rest := []) 114 ck rfl rfl rfl rfl rfl rfl (by decide) rfl rfl rfl rfl (Nat.le_of_ble_eq_true rfl) (s58 hs26 hs27 hs28 hs29 hs15 ?_)
    refine r_is 116 ck rfl rfl rfl rfl ?_
    replace h := h _ rfl
    refine g_ic 117 ck rfl rfl ?_
    refine r_is 119 ck rfl rfl rfl rfl ?_
    exact o40_119 rfl rfl hu10 (fun _ _ u6 u7 u8 u9 u10 hu6 hu7 hu8 hu9 hu10 hx => hx u6 hu6 u7 hu7 u8 hu8 u9 hu9 u10 hu10) h
def w40 (B : va_E) (σ : l2_m) (x1 : Int) (x2 : Int) (K : Int → l2_m → Prop) : Prop := (wC B 41 [vr 109, vi x1] σ (fun y σ' => ((l2_al (Int.toNat (σ' 109 15)) = some 16 ∧ 0 ≤ x2 ∧ x2 < 16 ∧ 0 ≤ (σ' (Int.toNat (σ' 109 15)) x2) ∧ (σ' (Int.toNat (σ' 109 15)) x2) ≤ (σ' 110 7) ∧ (σ' 110 7) ≤ 10000 ∧ 0 ≤ y ∧ y ≤ (σ' 110 7) ∧ 0 ≤ (finv (σ' 110 7) (σ' (Int.toNat (σ' 109 15)) x2)) ∧ (finv (σ' 110 7) (σ' (Int.toNat (σ' 109 15)) x2)) ≤ (σ' 110 7)) ∧ ∀ x3 : Int, x3 = (fmul (σ' 110 7) y (finv (σ' 110 7) (σ' (Int.toNat (σ' 109 15)) x2))) → (wC B 42 [vr 109, vr 125, vi 0, vi x1] σ' (fun y' σ'' => ((0 ≤ y' ∧ y' ≤ (σ'' 110 7) ∧ (σ'' 110 7) ≤ 10000) ∧ ∀ x4 : Int, x4 = (finv (σ'' 110 7) y') → w40_48 B σ'' x1 x2 x3 x4 0 K))))))
theorem o40 {B : va_E} {σ : l2_m} {x1 : Int} {x2 : Int} {K : Int → l2_m → Prop}   (h : w40 B σ x1 x2  K) : wC B 40 [vr 109, vi x1, vi x2] σ K := by
  have ck : pm_code 40 = pc_40 := rfl
  unfold w40 at h
  show wW B 40 0 [vr 109, vi x1, vi x2, pm_un, pm_un, pm_un, pm_un, pm_un, pm_un, pm_un, pm_un] [] σ K
  refine g_al 1 ck rfl rfl rfl ?_
  refine r_gfr 4 110 ck rfl rfl rfl (by decide) ?_
  refine g_al 5 ck rfl rfl rfl ?_
  refine g_il 6 ck rfl rfl rfl ?_
  refine g_cvi (as := [_]) (rest := [_]) 9 ck rfl rfl rfl rfl rfl rfl (by decide) rfl rfl rfl rfl (Nat.le_of_ble_eq_true rfl) (wC.mono h (fun y σ' h => ?_))
  obtain ⟨⟨hs1, hs2, hs3, hs4, hs5, hs6, hs7, hs8, hs9, hs10⟩, h⟩ := h
  refine g_al 10 ck rfl rfl rfl ?_
  refine r_gfr 13 110 ck rfl rfl rfl (by decide) ?_
  refine g_al 14 ck rfl rfl rfl ?_
  refine r_gf2 17 15 ck rfl rfl rfl rfl ?_
  refine g_il 18 ck rfl rfl rfl ?_
  refine g_ial (m := 16) 19 ck rfl rfl hs1 hs2 hs3 ?_
  refine g_cvi (as := [_]) (rest := [_, _]) 22 ck rfl rfl rfl rfl rfl rfl (by decide) rfl rfl rfl rfl (Nat.le_of_ble_eq_true rfl) (s61 hs4 hs5 hs6 ?_)
  refine g_cvi (as := [_, _]) (rest := []) 25 ck rfl rfl rfl rfl rfl rfl (by decide) rfl rfl rfl rfl (Nat.le_of_ble_eq_true rfl) (s58 hs7 hs8 hs9 hs10 hs6 ?_)
  refine r_is 26 ck rfl rfl rfl rfl ?_
  replace h := h _ rfl
  refine g_al 27 ck rfl rfl rfl ?_
  refine r_gfr 30 110 ck rfl rfl rfl (by decide) ?_
  refine g_al 31 ck rfl rfl rfl ?_
  refine g_al 32 ck rfl rfl rfl ?_
  refine r_gfr 35 125 ck rfl rfl rfl (by decide) ?_
  refine g_ic 36 ck rfl rfl ?_
  refine g_il 37 ck rfl rfl rfl ?_
  refine g_cvi (as := [_, _, _]) (rest := [_]) 40 ck rfl rfl rfl rfl rfl rfl (by decide) rfl rfl rfl rfl (Nat.le_of_ble_eq_true rfl) (wC.mono h (fun y' σ'' h => ?_))
  obtain ⟨⟨hs11, hs12, hs13⟩, h⟩ := h
  refine g_cvi (as := [_]) (rest := []) 43 ck rfl rfl rfl rfl rfl rfl (by decide) rfl rfl rfl rfl (Nat.le_of_ble_eq_true rfl) (s61 hs11 hs12 hs13 ?_)
  refine r_is 45 ck rfl rfl rfl rfl ?_
  replace h := h _ rfl
  refine g_ic 46 ck rfl rfl ?_
  refine r_is 48 ck rfl rfl rfl rfl ?_
  exact o40_48 rfl rfl rfl rfl rfl h
/-! 41 TermDesk$Commons.leadsAt(I)I -/
def w41_11 (B : va_E) (σ : l2_m) (x1 : Int) (x2 : Int) (x3 : Int)  (K : Int → l2_m → Prop) : Prop := lz2 (fun X11 x2 x3 => (rg x3 ∧ (if x3 < 0 then K x2 σ else ((0 ≤ x2 ∧ x2 ≤ (σ 110 7) ∧ 0 ≤ x1 ∧ x1 ≤ (σ 110 7) ∧ (σ 110 7) ≤ 10000 ∧ 0 ≤ x3 ∧ x3 < 32 ∧ rg (σ 123 x3) ∧ 0 ≤ (σ 110 3) ∧ (σ 110 3) ≤ 97 ∧ 0 ≤ (fmul (σ 110 7) x2 x1) ∧ (fmul (σ 110 7) x2 x1) ≤ (σ 110 7) ∧ 0 ≤ (fofn σ (σ 123 x3)) ∧ (fofn σ (σ 123 x3)) ≤ (σ 110 7) ∧ (σ 110 7) ≤ 9408 ∧ (∀ e : Int, 0 ≤ e → e < σ 110 7 → 0 ≤ σ 112 e ∧ σ 112 e ≤ σ 110 7)) ∧ ∀ x2' : Int, x2' = (fadd (σ 110 7) (σ 112) (fmul (σ 110 7) x2 x1) (fofn σ (σ 123 x3))) → X11 x2' (x3 + (-1)))))) x2 x3
theorem o41_11 {B : va_E} {σ : l2_m} {x1 : Int} {x2 : Int} {x3 : Int}   {K : Int → l2_m → Prop}    (h : w41_11 B σ x1 x2 x3  K) : wW B 41 11 [vr 109, vi x1, vi x2, vi x3] [] σ K := by
  have ck : pm_code 41 = pc_41 := rfl
  unfold w41_11 at h
  refine h (fun x2 x3 => wW B 41 11 [vr 109, vi x1, vi x2, vi x3] [] σ K) ?_
  clear h
  intro x2 x3 h
  obtain ⟨hs1, h⟩ := h
  refine g_il 12 ck rfl rfl rfl ?_
  refine g_iflt 15 51 ck rfl rfl rfl hs1 (fun hc => ?_) (fun hc => ?_)
  · replace h := ite_ht h hc
    refine g_il 52 ck rfl rfl rfl ?_
    exact g_ret ck rfl rfl (Or.inl (by decide)) h
  · replace h := ite_hf h hc
    obtain ⟨⟨hs2, hs3, hs4, hs5, hs6, hs7, hs8, hs9, hs10, hs11, hs12, hs13, hs14, hs15, hs16, hs17⟩, h⟩ := h
    refine g_al 16 ck rfl rfl rfl ?_
    refine r_gfr 19 110 ck rfl rfl rfl (by decide) ?_
    refine g_al 20 ck rfl rfl rfl ?_
    refine r_gfr 23 110 ck rfl rfl rfl (by decide) ?_
    refine g_il 24 ck rfl rfl rfl ?_
    refine g_il 25 ck rfl rfl rfl ?_
    refine g_cvi (as := [_, _]) (rest := [_]) 28 ck rfl rfl rfl rfl rfl rfl (by decide) rfl rfl rfl rfl (Nat.le_of_ble_eq_true rfl) (s58 hs2 hs3 hs4 hs5 hs6 ?_)
    refine g_al 29 ck rfl rfl rfl ?_
    refine r_gfr 32 110 ck rfl rfl rfl (by decide) ?_
    refine g_al 33 ck rfl rfl rfl ?_
    refine r_gfr 36 123 ck rfl rfl rfl (by decide) ?_
    refine g_il 37 ck rfl rfl rfl ?_
    refine g_ial (m := 32) 38 ck rfl rfl rfl hs7 hs8 ?_
    refine g_cvi (as := [_]) (rest := [_, _]) 41 ck rfl rfl rfl rfl rfl rfl (by decide) rfl rfl rfl rfl (Nat.le_of_ble_eq_true rfl) (s56 hs9 hs10 hs11 ?_)
    refine g_cvi (as := [_, _]) (rest := []) 44 ck rfl rfl rfl rfl rfl rfl (by decide) rfl rfl rfl rfl (Nat.le_of_ble_eq_true rfl) (s59 hs12 hs13 hs14 hs15 hs16 hs17 ?_)
    refine r_is 45 ck rfl rfl rfl rfl ?_
    replace h := h _ rfl
    refine r_ii 48 ck rfl rfl rfl rfl ?_
    refine g_goto 11 ck rfl rfl ?_
    exact h
def w41 (B : va_E) (σ : l2_m) (x1 : Int) (K : Int → l2_m → Prop) : Prop := (∀ x2 : Int, x2 = (σ 110 7) → w41_11 B σ x1 x2 31 K)
theorem o41 {B : va_E} {σ : l2_m} {x1 : Int} {K : Int → l2_m → Prop}   (h : w41 B σ x1  K) : wC B 41 [vr 109, vi x1] σ K := by
  have ck : pm_code 41 = pc_41 := rfl
  unfold w41 at h
  show wW B 41 0 [vr 109, vi x1, pm_un, pm_un] [] σ K
  refine g_al 1 ck rfl rfl rfl ?_
  refine r_gfr 4 110 ck rfl rfl rfl (by decide) ?_
  refine r_gfi 7 7 ck rfl rfl rfl rfl ?_
  refine r_is 8 ck rfl rfl rfl rfl ?_
  replace h := h _ rfl
  refine g_ic 10 ck rfl rfl ?_
  refine r_is 11 ck rfl rfl rfl rfl ?_
  exact o41_11  h
/-! 42 TermDesk$Commons.valueAt([III)I -/
def w42_13 (B : va_E) (σ : l2_m) (o1 : Nat) (n1 : Nat) (x2 : Int) (x3 : Int) (x4 : Int) (x5 : Int)  (K : Int → l2_m → Prop) : Prop := lz2 (fun X13 x4 x5 => (rg x5 ∧ (if x5 < 0 then K x4 σ else ((0 ≤ x4 ∧ x4 ≤ (σ 110 7) ∧ 0 ≤ x3 ∧ x3 ≤ (σ 110 7) ∧ (σ 110 7) ≤ 10000 ∧ 0 ≤ (x2 + x5) ∧ (x2 + x5) < (n1 : Int) ∧ 0 ≤ (fmul (σ 110 7) x4 x3) ∧ (fmul (σ 110 7) x4 x3) ≤ (σ 110 7) ∧ 0 ≤ (σ o1 (x2 + x5)) ∧ (σ o1 (x2 + x5)) ≤ (σ 110 7) ∧ (σ 110 7) ≤ 9408 ∧ (∀ e : Int, 0 ≤ e → e < σ 110 7 → 0 ≤ σ 112 e ∧ σ 112 e ≤ σ 110 7)) ∧ ∀ x4' : Int, x4' = (fadd (σ 110 7) (σ 112) (fmul (σ 110 7) x4 x3) (σ o1 (x2 + x5))) → X13 x4' (x5 + (-1)))))) x4 x5
theorem o42_13 {B : va_E} {σ : l2_m} {o1 : Nat} {n1 : Nat} {x2 : Int} {x3 : Int} {x4 : Int} {x5 : Int}   {K : Int → l2_m → Prop} (ho1 : l2_al o1 = some n1)   (h : w42_13 B σ o1 n1 x2 x3 x4 x5  K) : wW B 42 13 [vr 109, vr o1, vi x2, vi x3, vi x4, vi x5] [] σ K := by
  have ck : pm_code 42 = pc_42 := rfl
  unfold w42_13 at h
  refine h (fun x4 x5 => wW B 42 13 [vr 109, vr o1, vi x2, vi x3, vi x4, vi x5] [] σ K) ?_
  clear h
  intro x4 x5 h
  obtain ⟨hs1, h⟩ := h
  refine g_il 15 ck rfl rfl rfl ?_
  refine g_iflt 18 49 ck rfl rfl rfl hs1 (fun hc => ?_) (fun hc => ?_)
  · replace h := ite_ht h hc
    refine g_il 51 ck rfl rfl rfl ?_
    exact g_ret ck rfl rfl (Or.inl (by decide)) h
  · replace h := ite_hf h hc
    obtain ⟨⟨hs2, hs3, hs4, hs5, hs6, hs7, hs8, hs9, hs10, hs11, hs12, hs13, hs14⟩, h⟩ := h
    refine g_al 19 ck rfl rfl rfl ?_
    refine r_gfr 22 110 ck rfl rfl rfl (by decide) ?_
    refine g_al 23 ck rfl rfl rfl ?_
    refine r_gfr 26 110 ck rfl rfl rfl (by decide) ?_
    refine g_il 28 ck rfl rfl rfl ?_
    refine g_il 29 ck rfl rfl rfl ?_
    refine g_cvi (as := [_, _]) (rest := [_]) 32 ck rfl rfl rfl rfl rfl rfl (by decide) rfl rfl rfl rfl (Nat.le_of_ble_eq_true rfl) (s58 hs2 hs3 hs4 hs5 hs6 ?_)
    refine g_al 33 ck rfl rfl rfl ?_
    refine g_il 34 ck rfl rfl rfl ?_
    refine g_il 36 ck rfl rfl rfl ?_
    refine g_add 37 ck rfl rfl ?_
    refine g_ial (m := n1) 38 ck rfl rfl ho1 hs7 hs8 ?_
    refine g_cvi (as := [_, _]) (rest := []) 41 ck rfl rfl rfl rfl rfl rfl (by decide) rfl rfl rfl rfl (Nat.le_of_ble_eq_true rfl) (s59 hs9 hs10 hs11 hs12 hs13 hs14 ?_)
    refine r_is 43 ck rfl rfl rfl rfl ?_
    replace h := h _ rfl
    refine r_ii 46 ck rfl rfl rfl rfl ?_
    refine g_goto 13 ck rfl rfl ?_
    exact h
def w42 (B : va_E) (σ : l2_m) (o1 : Nat) (x2 : Int) (x3 : Int) (n1 : Nat) (K : Int → l2_m → Prop) : Prop := (∀ x4 : Int, x4 = (σ 110 7) → w42_13 B σ o1 n1 x2 x3 x4 31 K)
theorem o42 {B : va_E} {σ : l2_m} {o1 : Nat} {x2 : Int} {x3 : Int} {n1 : Nat} {K : Int → l2_m → Prop} (ho1 : l2_al o1 = some n1)  (h : w42 B σ o1 x2 x3 n1  K) : wC B 42 [vr 109, vr o1, vi x2, vi x3] σ K := by
  have ck : pm_code 42 = pc_42 := rfl
  unfold w42 at h
  show wW B 42 0 [vr 109, vr o1, vi x2, vi x3, pm_un, pm_un] [] σ K
  refine g_al 1 ck rfl rfl rfl ?_
  refine r_gfr 4 110 ck rfl rfl rfl (by decide) ?_
  refine r_gfi 7 7 ck rfl rfl rfl rfl ?_
  refine r_is 9 ck rfl rfl rfl rfl ?_
  replace h := h _ rfl
  refine g_ic 11 ck rfl rfl ?_
  refine r_is 13 ck rfl rfl rfl rfl ?_
  exact o42_13 ho1 h
/-! 43 TermDesk$Commons.isFound()Z -/
def w43_116 (B : va_E) (σ : l2_m)   (K : Int → l2_m → Prop) : Prop := (wC B 35 [vr 116] σ (fun _ σ' => K 0 σ'))
theorem o43_116 {B : va_E} {σ : l2_m}  {u1 : Value} {u2 : Value}  {K : Int → l2_m → Prop}  (hu1 : (u1.category == 1) = true) (hu2 : (u2.category == 1) = true)  (h : w43_116 B σ   K) : wW B 43 116 [vr 109, u1, u2] [] σ K := by
  have ck : pm_code 43 = pc_43 := rfl
  unfold w43_116 at h
  refine g_al 117 ck rfl rfl rfl ?_
  refine r_gfr 120 116 ck rfl rfl rfl (by decide) ?_
  refine g_csv (as := [_]) (rest := []) 123 ck rfl rfl rfl rfl rfl rfl rfl rfl (Nat.le_of_ble_eq_true rfl) (wC.mono h (fun _ σ' h => ?_))
  refine g_ic 124 ck rfl rfl ?_
  exact g_retb ck rfl rfl (Or.inl rfl) h
def w43_4 (B : va_E) (σ : l2_m) (x1 : Int) (x2 : Int)  (K : Int → l2_m → Prop) : Prop := lz3 (fun X4 x1 x2 σ => (rg x2 ∧ (if x2 < 512 then ((0 ≤ x2 ∧ x2 < 512 ∧ 0 ≤ (σ 120 x2) ∧ (σ 120 x2) ≤ (σ 110 7) ∧ 1 ≤ (σ 110 6) ∧ (σ 110 7) < 98 * (σ 110 6) ∧ (σ 110 7) ≤ 10000 ∧ (σ 110 6) ≤ 10000) ∧ ∀ σ''''' : l2_m, σ''''' = l2_u σ 116 x2 (fnum σ (σ 120 x2)) → rg x1 ∧ ((¬ (x1 = 0) → rg (σ''''' 116 x2)) ∧ (if (x1 = 0) ∨ ((σ''''' 116 x2) = (-1)) then X4 0 (x2 + 1) σ''''' else X4 1 (x2 + 1) σ'''''))) else (rg x1 ∧ (if x1 = 0 then w43_116 B σ K else (wC B 26 [vr 109, vr 116, vr 122] σ (fun _ σ' => (wC B 29 [vr 109, vr 116, vr 122] σ' (fun _ σ'' => (wC B 30 [vr 109, vr 114, vr 116] σ'' (fun y σ''' => (rg y ∧ (if y = 0 then w43_116 B σ''' K else (wC B 30 [vr 109, vr 115, vr 116] σ''' (fun y' σ'''' => (rg y' ∧ (if y' = 0 then w43_116 B σ'''' K else K 1 σ''''))))))))))))))))) x1 x2 σ
theorem o43_4 {B : va_E} {σ : l2_m} {x1 : Int} {x2 : Int}   {K : Int → l2_m → Prop}    (h : w43_4 B σ x1 x2  K) : wW B 43 4 [vr 109, vi x1, vi x2] [] σ K := by
  have ck : pm_code 43 = pc_43 := rfl
  unfold w43_4 at h
  refine h (fun x1 x2 σ => wW B 43 4 [vr 109, vi x1, vi x2] [] σ K) ?_
  clear h
  intro x1 x2 σ h
  replace h := (And.imp_right (ite_mp (And.imp_right (fun h x e => (And.imp_right mg_1s) (h x e))) id)) h
  obtain ⟨hs1, h⟩ := h
  refine g_il 5 ck rfl rfl rfl ?_
  refine g_ic 8 ck rfl rfl ?_
  refine g_icge 11 56 ck rfl rfl rfl hs1 (by decide) (fun hc => ?_) (fun hc => ?_)
  · replace h := ite_hf h (Int.not_lt.mpr hc)
    obtain ⟨hs2, h⟩ := h
    refine g_il 57 ck rfl rfl rfl ?_
    refine g_ifeq 60 116 ck rfl rfl rfl hs2 (fun hc => ?_) (fun hc => ?_)
    · replace h := ite_ht h hc
      exact o43_116 rfl rfl h
    · replace h := ite_hf h hc
      refine g_al 61 ck rfl rfl rfl ?_
      refine g_al 62 ck rfl rfl rfl ?_
      refine r_gfr 65 116 ck rfl rfl rfl (by decide) ?_
      refine g_al 66 ck rfl rfl rfl ?_
      refine r_gfr 69 122 ck rfl rfl rfl (by decide) ?_
      refine g_cvv (as := [_, _]) (rest := []) 72 ck rfl rfl rfl rfl rfl rfl rfl rfl rfl rfl (Nat.le_of_ble_eq_true rfl) (wC.mono h (fun _ σ' h => ?_))
      refine g_al 73 ck rfl rfl rfl ?_
      refine g_al 74 ck rfl rfl rfl ?_
      refine r_gfr 77 116 ck rfl rfl rfl (by decide) ?_
      refine g_al 78 ck rfl rfl rfl ?_
      refine r_gfr 81 122 ck rfl rfl rfl (by decide) ?_
      refine g_cvv (as := [_, _]) (rest := []) 84 ck rfl rfl rfl rfl rfl rfl rfl rfl rfl rfl (Nat.le_of_ble_eq_true rfl) (wC.mono h (fun _ σ'' h => ?_))
      refine g_al 85 ck rfl rfl rfl ?_
      refine g_al 86 ck rfl rfl rfl ?_
      refine r_gfr 89 114 ck rfl rfl rfl (by decide) ?_
      refine g_al 90 ck rfl rfl rfl ?_
      refine r_gfr 93 116 ck rfl rfl rfl (by decide) ?_
      refine g_cvi (as := [_, _]) (rest := []) 96 ck rfl rfl rfl rfl rfl rfl (by decide) rfl rfl rfl rfl (Nat.le_of_ble_eq_true rfl) (wC.mono h (fun y σ''' h => ?_))
      obtain ⟨hs3, h⟩ := h
      refine g_ifeq 99 116 ck rfl rfl rfl hs3 (fun hc => ?_) (fun hc => ?_)
      · replace h := ite_ht h hc
        exact o43_116 rfl rfl h
      · replace h := ite_hf h hc
        refine g_al 100 ck rfl rfl rfl ?_
        refine g_al 101 ck rfl rfl rfl ?_
        refine r_gfr 104 115 ck rfl rfl rfl (by decide) ?_
        refine g_al 105 ck rfl rfl rfl ?_
        refine r_gfr 108 116 ck rfl rfl rfl (by decide) ?_
        refine g_cvi (as := [_, _]) (rest := []) 111 ck rfl rfl rfl rfl rfl rfl (by decide) rfl rfl rfl rfl (Nat.le_of_ble_eq_true rfl) (wC.mono h (fun y' σ'''' h => ?_))
        obtain ⟨hs4, h⟩ := h
        refine g_ifeq 114 116 ck rfl rfl rfl hs4 (fun hc => ?_) (fun hc => ?_)
        · replace h := ite_ht h hc
          exact o43_116 rfl rfl h
        · replace h := ite_hf h hc
          refine g_ic 115 ck rfl rfl ?_
          exact g_retb ck rfl rfl (Or.inr rfl) h
  · replace h := ite_ht h (Int.not_le.mp hc)
    obtain ⟨⟨hs5, hs6, hs7, hs8, hs9, hs10, hs11, hs12⟩, h⟩ := h
    refine g_al 12 ck rfl rfl rfl ?_
    refine r_gfr 15 116 ck rfl rfl rfl (by decide) ?_
    refine g_il 16 ck rfl rfl rfl ?_
    refine g_al 17 ck rfl rfl rfl ?_
    refine r_gfr 20 110 ck rfl rfl rfl (by decide) ?_
    refine g_al 21 ck rfl rfl rfl ?_
    refine r_gfr 24 120 ck rfl rfl rfl (by decide) ?_
    refine g_il 25 ck rfl rfl rfl ?_
    refine g_ial (m := 512) 26 ck rfl rfl rfl hs5 hs6 ?_
    refine g_cvi (as := [_]) (rest := [_, _]) 29 ck rfl rfl rfl rfl rfl rfl (by decide) rfl rfl rfl rfl (Nat.le_of_ble_eq_true rfl) (s57 hs7 hs8 hs9 hs10 hs11 hs12 ?_)
    refine g_ias (m := 512) 30 ck rfl rfl rfl hs5 hs6 ?_
    replace h := h _ rfl
    obtain ⟨hs13, h⟩ := h
    refine g_il 31 ck rfl rfl rfl ?_
    refine g_ifeq 34 48 ck rfl rfl rfl hs13 (fun hc => ?_) (fun hc => ?_)
    · replace h := ite_ht h hc
      refine g_ic 49 ck rfl rfl ?_
      refine r_is 50 ck rfl rfl rfl rfl ?_
      refine r_ii 53 ck rfl rfl rfl rfl ?_
      refine g_goto 4 ck rfl rfl ?_
      exact h
    · replace h := ite_hf h hc
      obtain ⟨hs14, h⟩ := h
      refine g_al 35 ck rfl rfl rfl ?_
      refine r_gfr 38 116 ck rfl rfl rfl (by decide) ?_
      refine g_il 39 ck rfl rfl rfl ?_
      refine g_ial (m := 512) 40 ck rfl rfl rfl hs5 hs6 ?_
      refine g_ic 41 ck rfl rfl ?_
      refine g_iceq 44 48 ck rfl rfl rfl hs14 (by decide) (fun hc => ?_) (fun hc => ?_)
      · replace h := ite_ht h hc
        refine g_ic 49 ck rfl rfl ?_
        refine r_is 50 ck rfl rfl rfl rfl ?_
        refine r_ii 53 ck rfl rfl rfl rfl ?_
        refine g_goto 4 ck rfl rfl ?_
        exact h
      · replace h := ite_hf h hc
        refine g_ic 45 ck rfl rfl ?_
        refine g_goto 49 ck rfl rfl ?_
        refine r_is 50 ck rfl rfl rfl rfl ?_
        refine r_ii 53 ck rfl rfl rfl rfl ?_
        refine g_goto 4 ck rfl rfl ?_
        exact h
def w43 (B : va_E) (σ : l2_m)  (K : Int → l2_m → Prop) : Prop := w43_4 B σ 1 0 K
theorem o43 {B : va_E} {σ : l2_m}  {K : Int → l2_m → Prop}   (h : w43 B σ   K) : wC B 43 [vr 109] σ K := by
  have ck : pm_code 43 = pc_43 := rfl
  unfold w43 at h
  show wW B 43 0 [vr 109, pm_un, pm_un] [] σ K
  refine g_ic 1 ck rfl rfl ?_
  refine r_is 2 ck rfl rfl rfl rfl ?_
  refine g_ic 3 ck rfl rfl ?_
  refine r_is 4 ck rfl rfl rfl rfl ?_
  exact o43_4  h
/-! 45 TermDesk$Divider.divideBy(LTermDesk$Poly;[LTermDesk$Poly;I)Z -/
def w45_159 (B : va_E) (σ : l2_m)   (K : Int → l2_m → Prop) : Prop := ((isP (Int.toNat (σ 74 3)) ∧ rg (σ (Int.toNat (σ 74 3)) 2)) ∧ (if (σ (Int.toNat (σ 74 3)) 2) = 0 then K 1 σ else K 0 σ))
theorem o45_159 {B : va_E} {σ : l2_m}  {u1 : Value} {u2 : Value} {u3 : Value} {u4 : Value} {u5 : Value} {u6 : Value}  {K : Int → l2_m → Prop}  (hu1 : (u1.category == 1) = true) (hu2 : (u2.category == 1) = true) (hu3 : (u3.category == 1) = true) (hu4 : (u4.category == 1) = true) (hu5 : (u5.category == 1) = true) (hu6 : (u6.category == 1) = true)  (h : w45_159 B σ   K) : wW B 45 159 [vr 74, u1, u2, u3, u4, u5, u6] [] σ K := by
  have ck : pm_code 45 = pc_45 := rfl
  unfold w45_159 at h
  obtain ⟨⟨hs1, hs2⟩, h⟩ := h
  refine g_al 160 ck rfl rfl rfl ?_
  refine r_gf2 163 3 ck rfl rfl rfl rfl ?_
  refine r_gfi 166 2 ck rfl rfl (isP_2 hs1) rfl ?_
  refine g_ifne 169 173 ck rfl rfl rfl hs2 (fun hc => ?_) (fun hc => ?_)
  · replace h := ite_hf h hc
    refine g_ic 174 ck rfl rfl ?_
    exact g_retb ck rfl rfl (Or.inl rfl) h
  · replace h := ite_ht h (Classical.not_not.mp hc)
    refine g_ic 170 ck rfl rfl ?_
    refine g_goto 174 ck rfl rfl ?_
    exact g_retb ck rfl rfl (Or.inr rfl) h
def w45_116 (B : va_E) (σ : l2_m) (x3 : Int) (x4 : Int) (z0 : Int) (X62 : Int → l2_m → Prop) (K : Int → l2_m → Prop) : Prop := (rg z0 ∧ (if z0 = 0 then K 0 σ else (∀ σ' : l2_m, σ' = l2_u σ 74 5 ((σ 74 5) + 1) → (isP (Int.toNat (σ' 74 3)) ∧ rg (σ' 74 6) ∧ rg (σ' (Int.toNat (σ' 74 3)) 2)) ∧ ∀ σ'' : l2_m, σ'' = l2_u σ' 74 6 (max (σ' 74 6) (σ' (Int.toNat (σ' 74 3)) 2)) → X62 (x4 + 1) σ'')))
theorem o45_116 {B : va_E} {σ : l2_m} {x3 : Int} {x4 : Int} {z0 : Int} {u1 : Value} {u5 : Value} {u6 : Value} {X62 : Int → l2_m → Prop} {K : Int → l2_m → Prop}  (hu1 : (u1.category == 1) = true) (hu5 : (u5.category == 1) = true) (hu6 : (u6.category == 1) = true) (hX62 : ∀ (x4 : Int) (σ : l2_m) (u1 : Value) (u5 : Value) (u6 : Value), (u1.category == 1) = true → (u5.category == 1) = true → (u6.category == 1) = true → X62 x4 σ → wW B 45 62 [vr 74, u1, vr 158, vi x3, vi x4, u5, u6] [] σ K) (h : w45_116 B σ x3 x4 z0 X62 K) : wW B 45 116 [vr 74, u1, vr 158, vi x3, vi x4, u5, u6] [vi z0] σ K := by
  have ck : pm_code 45 = pc_45 := rfl
  unfold w45_116 at h
  obtain ⟨hs1, h⟩ := h
  refine r_is 118 ck rfl rfl hu5 rfl ?_
  refine g_il 120 ck rfl rfl rfl ?_
  refine g_ifne 123 125 ck rfl rfl rfl hs1 (fun hc => ?_) (fun hc => ?_)
  · replace h := ite_hf h hc
    refine g_al 126 ck rfl rfl rfl ?_
    refine g_dup 127 ck rfl rfl rfl ?_
    refine r_gfi 130 5 ck rfl rfl rfl rfl ?_
    refine g_ic 131 ck rfl rfl ?_
    refine g_add 132 ck rfl rfl ?_
    refine g_pfi 135 ck rfl rfl rfl 5 rfl rfl ?_
    replace h := h _ rfl
    obtain ⟨⟨hs2, hs3, hs4⟩, h⟩ := h
    refine g_al 136 ck rfl rfl rfl ?_
    refine g_al 137 ck rfl rfl rfl ?_
    refine r_gfi 140 6 ck rfl rfl rfl rfl ?_
    refine g_al 141 ck rfl rfl rfl ?_
    refine r_gf2 144 3 ck rfl rfl rfl rfl ?_
    refine r_gfi 147 2 ck rfl rfl (isP_2 hs2) rfl ?_
    refine g_max 150 ck rfl rfl hs3 hs4 (Nat.le_of_ble_eq_true rfl) ?_
    refine g_pfi 153 ck rfl rfl rfl 6 rfl rfl ?_
    replace h := h _ rfl
    refine r_ii 156 ck rfl rfl rfl rfl ?_
    refine g_goto 62 ck rfl rfl ?_
    exact hX62 _ _ _ _ _ hu1 hu5 rfl h
  · replace h := ite_ht h (Classical.not_not.mp hc)
    refine g_ic 124 ck rfl rfl ?_
    exact g_retb ck rfl rfl (Or.inl rfl) h
def w45_62 (B : va_E) (σ : l2_m) (x3 : Int) (x4 : Int)  (K : Int → l2_m → Prop) : Prop := lz2 (fun X62 x4 σ => (rg x4 ∧ (((x4 < 500) → isP (Int.toNat (σ 74 3)) ∧ rg (σ (Int.toNat (σ 74 3)) 2)) ∧ (if (x4 < 500) ∧ 0 < (σ (Int.toNat (σ 74 3)) 2) then (wC B 46 [vr 74, vr 158, vi x3] σ (fun y σ' => (rg y ∧ (if y = (-1) then (wC B 47 [vr 74] σ' (fun y'' σ''' => w45_116 B σ''' x3 x4 y'' X62 K)) else ((0 ≤ y ∧ y < 8) ∧ (wC B 48 [vr 74, vr (162 + 3 * Int.toNat y), vr (85 + 3 * Int.toNat y)] σ' (fun y' σ'' => w45_116 B σ'' x3 x4 y' X62 K))))))) else w45_159 B σ K)))) x4 σ
theorem o45_62 {B : va_E} {σ : l2_m} {x3 : Int} {x4 : Int} {u1 : Value} {u5 : Value} {u6 : Value}  {K : Int → l2_m → Prop}  (hu1 : (u1.category == 1) = true) (hu5 : (u5.category == 1) = true) (hu6 : (u6.category == 1) = true)  (h : w45_62 B σ x3 x4  K) : wW B 45 62 [vr 74, u1, vr 158, vi x3, vi x4, u5, u6] [] σ K := by
  have ck : pm_code 45 = pc_45 := rfl
  unfold w45_62 at h
  refine h (fun x4 σ => ∀ u1 : Value, (u1.category == 1) = true → ∀ u5 : Value, (u5.category == 1) = true → ∀ u6 : Value, (u6.category == 1) = true → wW B 45 62 [vr 74, u1, vr 158, vi x3, vi x4, u5, u6] [] σ K) ?_ u1 hu1 u5 hu5 u6 hu6
  clear h
  intro x4 σ h u1 hu1 u5 hu5 u6 hu6
  replace h := (And.imp_right mg_3s) h
  obtain ⟨hs1, h⟩ := h
  refine g_il 64 ck rfl rfl rfl ?_
  refine g_ic 67 ck rfl rfl ?_
  refine g_icge 70 159 ck rfl rfl rfl hs1 (by decide) (fun hc => ?_) (fun hc => ?_)
  · replace h := ite_hf h (Int.not_lt.mpr hc)
    exact o45_159 hu1 rfl rfl rfl hu5 hu6 h
  · replace h := ite_ht h (Int.not_le.mp hc)
    obtain ⟨⟨hs2, hs3⟩, h⟩ := h
    refine g_al 71 ck rfl rfl rfl ?_
    refine r_gf2 74 3 ck rfl rfl rfl rfl ?_
    refine r_gfi 77 2 ck rfl rfl (isP_2 hs2) rfl ?_
    refine g_ifle 80 159 ck rfl rfl rfl hs3 (fun hc => ?_) (fun hc => ?_)
    · replace h := ite_hf h (Int.not_lt.mpr hc)
      exact o45_159 hu1 rfl rfl rfl hu5 hu6 h
    · replace h := ite_ht h (Int.not_le.mp hc)
      refine g_al 81 ck rfl rfl rfl ?_
      refine g_al 82 ck rfl rfl rfl ?_
      refine g_il 83 ck rfl rfl rfl ?_
      refine g_cvi (as := [_, _]) (rest := []) 86 ck rfl rfl rfl rfl rfl rfl (by decide) rfl rfl rfl rfl (Nat.le_of_ble_eq_true rfl) (wC.mono h (fun y σ' h => ?_))
      obtain ⟨hs4, h⟩ := h
      refine r_is 88 ck rfl rfl rfl rfl ?_
      refine g_il 90 ck rfl rfl rfl ?_
      refine g_ic 91 ck rfl rfl ?_
      refine g_icne 94 101 ck rfl rfl rfl hs4 (by decide) (fun hc => ?_) (fun hc => ?_)
      · replace h := ite_hf h hc
        obtain ⟨⟨hs5, hs6⟩, h⟩ := h
        refine g_al 102 ck rfl rfl rfl ?_
        refine g_al 103 ck rfl rfl rfl ?_
        refine g_il 105 ck rfl rfl rfl ?_
        refine g_aal (b := 162) (m := 8) 106 ck rfl rfl rfl hs5 hs6 ?_
        refine g_al 107 ck rfl rfl rfl ?_
        refine r_gfr 110 75 ck rfl rfl rfl (by decide) ?_
        refine g_il 112 ck rfl rfl rfl ?_
        refine g_aal (b := 85) (m := 8) 113 ck rfl rfl rfl hs5 hs6 ?_
        refine g_cvi (as := [_, _]) (rest := []) 116 ck rfl rfl rfl rfl rfl rfl (by decide) rfl rfl rfl rfl (Nat.le_of_ble_eq_true rfl) (wC.mono h (fun y' σ'' h => ?_))
        exact o45_116 hu1 rfl hu6 (fun _ _ u1 u5 u6 hu1 hu5 hu6 hx => hx u1 hu1 u5 hu5 u6 hu6) h
      · replace h := ite_ht h (Classical.not_not.mp hc)
        refine g_al 95 ck rfl rfl rfl ?_
        refine g_cvi (as := []) (rest := []) 98 ck rfl rfl rfl rfl rfl rfl (by decide) rfl rfl rfl rfl (Nat.le_of_ble_eq_true rfl) (wC.mono h (fun y'' σ''' h => ?_))
        refine g_goto 116 ck rfl rfl ?_
        exact o45_116 hu1 rfl hu6 (fun _ _ u1 u5 u6 hu1 hu5 hu6 hx => hx u1 hu1 u5 hu5 u6 hu6) h
def w45_19 (B : va_E) (σ : l2_m) (x3 : Int) (x4 : Int)  (K : Int → l2_m → Prop) : Prop := lz2 (fun X19 x4 σ => (rg x4 ∧ (if x4 < 8 then ((0 ≤ x4 ∧ x4 < 8) ∧ ∀ σ''' : l2_m, σ''' = l2_u σ (85 + 3 * Int.toNat x4) 2 0 → X19 (x4 + 1) σ''') else (isP (Int.toNat (σ 74 3)) ∧ ∀ σ' : l2_m, σ' = l2_u σ 74 6 (σ (Int.toNat (σ 74 3)) 2) → ∀ σ'' : l2_m, σ'' = l2_u σ' 74 5 0 → w45_62 B σ'' x3 0 K)))) x4 σ
theorem o45_19 {B : va_E} {σ : l2_m} {x3 : Int} {x4 : Int} {u1 : Value} {u5 : Value} {u6 : Value}  {K : Int → l2_m → Prop}  (hu1 : (u1.category == 1) = true) (hu5 : (u5.category == 1) = true) (hu6 : (u6.category == 1) = true)  (h : w45_19 B σ x3 x4  K) : wW B 45 19 [vr 74, u1, vr 158, vi x3, vi x4, u5, u6] [] σ K := by
  have ck : pm_code 45 = pc_45 := rfl
  unfold w45_19 at h
  refine h (fun x4 σ => ∀ u1 : Value, (u1.category == 1) = true → ∀ u5 : Value, (u5.category == 1) = true → ∀ u6 : Value, (u6.category == 1) = true → wW B 45 19 [vr 74, u1, vr 158, vi x3, vi x4, u5, u6] [] σ K) ?_ u1 hu1 u5 hu5 u6 hu6
  clear h
  intro x4 σ h u1 hu1 u5 hu5 u6 hu6
  obtain ⟨hs1, h⟩ := h
  refine g_il 21 ck rfl rfl rfl ?_
  refine g_ic 23 ck rfl rfl ?_
  refine g_icge 26 43 ck rfl rfl rfl hs1 (by decide) (fun hc => ?_) (fun hc => ?_)
  · replace h := ite_hf h (Int.not_lt.mpr hc)
    obtain ⟨hs2, h⟩ := h
    refine g_al 44 ck rfl rfl rfl ?_
    refine g_al 45 ck rfl rfl rfl ?_
    refine r_gf2 48 3 ck rfl rfl rfl rfl ?_
    refine r_gfi 51 2 ck rfl rfl (isP_2 hs2) rfl ?_
    refine g_pfi 54 ck rfl rfl rfl 6 rfl rfl ?_
    replace h := h _ rfl
    refine g_al 55 ck rfl rfl rfl ?_
    refine g_ic 56 ck rfl rfl ?_
    refine g_pfi 59 ck rfl rfl rfl 5 rfl rfl ?_
    replace h := h _ rfl
    refine g_ic 60 ck rfl rfl ?_
    refine r_is 62 ck rfl rfl rfl rfl ?_
    exact o45_62 hu1 hu5 hu6 h
  · replace h := ite_ht h (Int.not_le.mp hc)
    obtain ⟨⟨hs3, hs4⟩, h⟩ := h
    refine g_al 27 ck rfl rfl rfl ?_
    refine r_gfr 30 75 ck rfl rfl rfl (by decide) ?_
    refine g_il 32 ck rfl rfl rfl ?_
    refine g_aal (b := 85) (m := 8) 33 ck rfl rfl rfl hs3 hs4 ?_
    refine g_ic 34 ck rfl rfl ?_
    refine g_pfi 37 ck rfl rfl (isP_2 (isP_row (a := 75) (b := 85) (m := 8) rfl hs3 hs4)) 2 rfl rfl ?_
    replace h := h _ rfl
    refine r_ii 40 ck rfl rfl rfl rfl ?_
    refine g_goto 19 ck rfl rfl ?_
    exact h _ hu1 _ hu5 _ hu6
def w45 (B : va_E) (σ : l2_m) (o1 : Nat) (x3 : Int) (K : Int → l2_m → Prop) : Prop := ((isP (Int.toNat (σ 74 3)) ∧ (Int.toNat (σ 74 3)) ≠ o1 ∧ 0 ≤ (σ o1 2) ∧ (σ o1 2) ≤ 60) ∧ ∀ σ' : l2_m, σ' = cpP σ (Int.toNat (σ 74 3)) o1 → ∀ σ'' : l2_m, σ'' = l2_u σ' 76 2 0 → w45_19 B σ'' x3 0 K)
theorem o45 {B : va_E} {σ : l2_m} {o1 : Nat} {x3 : Int} {K : Int → l2_m → Prop} (ho1 : isP o1)  (h : w45 B σ o1 x3  K) : wC B 45 [vr 74, vr o1, vr 158, vi x3] σ K := by
  have ck : pm_code 45 = pc_45 := rfl
  unfold w45 at h
  show wW B 45 0 [vr 74, vr o1, vr 158, vi x3, pm_un, pm_un, pm_un] [] σ K
  obtain ⟨⟨hs1, hs2, hs3, hs4⟩, h⟩ := h
  refine g_al 1 ck rfl rfl rfl ?_
  refine r_gf2 4 3 ck rfl rfl rfl rfl ?_
  refine g_al 5 ck rfl rfl rfl ?_
  refine g_cvv (as := [_]) (rest := []) 8 ck rfl rfl rfl rfl rfl rfl (isP_c hs1) rfl rfl rfl (Nat.le_of_ble_eq_true rfl) (s83 hs1 ho1 hs2 hs3 hs4 ?_)
  replace h := h _ rfl
  refine g_al 9 ck rfl rfl rfl ?_
  refine r_gfr 12 76 ck rfl rfl rfl (by decide) ?_
  refine g_ic 13 ck rfl rfl ?_
  refine g_pfi 16 ck rfl rfl rfl 2 rfl rfl ?_
  replace h := h _ rfl
  refine g_ic 17 ck rfl rfl ?_
  refine r_is 19 ck rfl rfl rfl rfl ?_
  exact o45_19 rfl rfl rfl h
/-! 46 TermDesk$Divider.firstDivisor([LTermDesk$Poly;I)I -/
def w46_2 (B : va_E) (σ : l2_m) (x2 : Int) (x3 : Int)  (K : Int → l2_m → Prop) : Prop := lz1 (fun X2 x3 => (rg x3 ∧ (if (x3 < 8) ∧ x3 < ((8 : Nat) : Int) then ((rg x2 ∧ 0 ≤ x3 ∧ x3 < 32) ∧ ((((bit x2 x3) = 1) → x3 < 8 ∧ rg (σ (162 + 3 * Int.toNat x3) 2) ∧ isP (Int.toNat (σ 74 3)) ∧ rg (σ (Int.toNat (σ 74 3)) 2) ∧ ok5 (if 0 < (σ (162 + 3 * Int.toNat x3) 2) then (σ ((162 + 3 * Int.toNat x3) + 1) 0) else 0) ∧ ok5 (if 0 < (σ (Int.toNat (σ 74 3)) 2) then (σ ((Int.toNat (σ 74 3)) + 1) 0) else 0)) ∧ (if ((bit x2 x3) = 1) ∧ (e5 (if 0 < (σ (162 + 3 * Int.toNat x3) 2) then (σ ((162 + 3 * Int.toNat x3) + 1) 0) else 0) 0 ≤ e5 (if 0 < (σ (Int.toNat (σ 74 3)) 2) then (σ ((Int.toNat (σ 74 3)) + 1) 0) else 0) 0 ∧ e5 (if 0 < (σ (162 + 3 * Int.toNat x3) 2) then (σ ((162 + 3 * Int.toNat x3) + 1) 0) else 0) 1 ≤ e5 (if 0 < (σ (Int.toNat (σ 74 3)) 2) then (σ ((Int.toNat (σ 74 3)) + 1) 0) else 0) 1 ∧ e5 (if 0 < (σ (162 + 3 * Int.toNat x3) 2) then (σ ((162 + 3 * Int.toNat x3) + 1) 0) else 0) 2 ≤ e5 (if 0 < (σ (Int.toNat (σ 74 3)) 2) then (σ ((Int.toNat (σ 74 3)) + 1) 0) else 0) 2) then K x3 σ else X2 (x3 + 1)))) else K (-1) σ))) x3
theorem o46_2 {B : va_E} {σ : l2_m} {x2 : Int} {x3 : Int}   {K : Int → l2_m → Prop}    (h : w46_2 B σ x2 x3  K) : wW B 46 2 [vr 74, vr 158, vi x2, vi x3] [] σ K := by
  have ck : pm_code 46 = pc_46 := rfl
  unfold w46_2 at h
  refine h (fun x3 => wW B 46 2 [vr 74, vr 158, vi x2, vi x3] [] σ K) ?_
  clear h
  intro x3 h
  replace h := (And.imp_right (fun h => ite_mp (ite_mp (And.imp_right mg_3s) id) id (mg_3 h))) h
  obtain ⟨hs1, h⟩ := h
  refine g_il 3 ck rfl rfl rfl ?_
  refine g_ic 5 ck rfl rfl ?_
  refine g_icge 8 49 ck rfl rfl rfl hs1 (by decide) (fun hc => ?_) (fun hc => ?_)
  · replace h := ite_hf h (Int.not_lt.mpr hc)
    refine g_ic 50 ck rfl rfl ?_
    exact g_ret ck rfl rfl (Or.inl (by decide)) h
  · replace h := ite_ht h (Int.not_le.mp hc)
    refine g_il 9 ck rfl rfl rfl ?_
    refine g_al 10 ck rfl rfl rfl ?_
    refine g_lenP 11 ck rfl rfl (show l2_pb 158 = some (162, 8) from rfl) ?_
    refine g_icge 14 49 ck rfl rfl rfl hs1 (by decide) (fun hc => ?_) (fun hc => ?_)
    · replace h := ite_hf h (Int.not_lt.mpr hc)
      refine g_ic 50 ck rfl rfl ?_
      exact g_ret ck rfl rfl (Or.inl (by decide)) h
    · replace h := ite_ht h (Int.not_le.mp hc)
      obtain ⟨⟨hs2, hs3, hs4⟩, h⟩ := h
      refine g_il 15 ck rfl rfl rfl ?_
      refine g_il 16 ck rfl rfl rfl ?_
      refine g_csi (as := [_, _]) (rest := []) 19 ck rfl rfl rfl rfl rfl (by decide) rfl rfl rfl (Nat.le_of_ble_eq_true rfl) (s152 hs2 hs3 hs4 ?_)
      refine g_ifeq 22 43 ck rfl rfl rfl rg_b2i (fun hc => ?_) (fun hc => ?_)
      · replace h := ite_hf h (b2i_f hc)
        refine r_ii 46 ck rfl rfl rfl rfl ?_
        refine g_goto 2 ck rfl rfl ?_
        exact h
      · replace h := ite_ht h (b2i_t hc)
        obtain ⟨⟨hs5, hs6, hs7, hs8, hs9, hs10⟩, h⟩ := h
        refine g_al 23 ck rfl rfl rfl ?_
        refine g_il 24 ck rfl rfl rfl ?_
        refine g_aal (b := 162) (m := 8) 25 ck rfl rfl rfl hs3 hs5 ?_
        refine g_cvi (as := []) (rest := []) 28 ck rfl rfl rfl rfl rfl rfl (by decide) (isP_c (isP_row (a := 158) (b := 162) (m := 8) rfl hs3 hs5)) rfl rfl rfl (Nat.le_of_ble_eq_true rfl) (s84 (isP_row (a := 158) (b := 162) (m := 8) rfl hs3 hs5) hs6 ?_)
        refine g_al 29 ck rfl rfl rfl ?_
        refine r_gf2 32 3 ck rfl rfl rfl rfl ?_
        refine g_cvi (as := []) (rest := [_]) 35 ck rfl rfl rfl rfl rfl rfl (by decide) (isP_c hs7) rfl rfl rfl (Nat.le_of_ble_eq_true rfl) (s84 hs7 hs8 ?_)
        refine g_csi (as := [_, _]) (rest := []) 38 ck rfl rfl rfl rfl rfl (by decide) rfl rfl rfl (Nat.le_of_ble_eq_true rfl) (s80 hs9 hs10 ?_)
        refine g_ifeq 41 43 ck rfl rfl rfl rg_b2i (fun hc => ?_) (fun hc => ?_)
        · replace h := ite_hf h (b2i_f hc)
          refine r_ii 46 ck rfl rfl rfl rfl ?_
          refine g_goto 2 ck rfl rfl ?_
          exact h
        · replace h := ite_ht h (b2i_t hc)
          refine g_il 42 ck rfl rfl rfl ?_
          exact g_ret ck rfl rfl (Or.inl (by decide)) h
def w46 (B : va_E) (σ : l2_m) (x2 : Int) (K : Int → l2_m → Prop) : Prop := w46_2 B σ x2 0 K
theorem o46 {B : va_E} {σ : l2_m} {x2 : Int} {K : Int → l2_m → Prop}   (h : w46 B σ x2  K) : wC B 46 [vr 74, vr 158, vi x2] σ K := by
  have ck : pm_code 46 = pc_46 := rfl
  unfold w46 at h
  show wW B 46 0 [vr 74, vr 158, vi x2, pm_un] [] σ K
  refine g_ic 1 ck rfl rfl ?_
  refine r_is 2 ck rfl rfl rfl rfl ?_
  exact o46_2  h
/-! 47 TermDesk$Divider.moveLead()Z -/
def w47_28 (B : va_E) (σ : l2_m) (x1 : Int)  (K : Int → l2_m → Prop) : Prop := lz2 (fun X28 x1 σ => ((isP (Int.toNat (σ 74 3)) ∧ rg x1 ∧ rg (σ (Int.toNat (σ 74 3)) 2)) ∧ (if x1 < (σ (Int.toNat (σ 74 3)) 2) then ((0 ≤ x1 ∧ x1 < 60 ∧ 0 ≤ (x1 - 1) ∧ (x1 - 1) < 60) ∧ ∀ σ'' : l2_m, σ'' = l2_u σ ((Int.toNat (σ 74 3)) + 1) (x1 - 1) (σ ((Int.toNat (σ 74 3)) + 1) x1) → isP (Int.toNat (σ'' 74 3)) ∧ ∀ σ''' : l2_m, σ''' = l2_u σ'' ((Int.toNat (σ'' 74 3)) + 2) (x1 - 1) (σ'' ((Int.toNat (σ'' 74 3)) + 2) x1) → X28 (x1 + 1) σ''') else (∀ σ' : l2_m, σ' = l2_u σ (Int.toNat (σ 74 3)) 2 ((σ (Int.toNat (σ 74 3)) 2) - 1) → K 1 σ')))) x1 σ
theorem o47_28 {B : va_E} {σ : l2_m} {x1 : Int}   {K : Int → l2_m → Prop}    (h : w47_28 B σ x1  K) : wW B 47 28 [vr 74, vi x1] [] σ K := by
  have ck : pm_code 47 = pc_47 := rfl
  unfold w47_28 at h
  refine h (fun x1 σ => wW B 47 28 [vr 74, vi x1] [] σ K) ?_
  clear h
  intro x1 σ h
  obtain ⟨⟨hs1, hs2, hs3⟩, h⟩ := h
  refine g_il 29 ck rfl rfl rfl ?_
  refine g_al 30 ck rfl rfl rfl ?_
  refine r_gf2 33 3 ck rfl rfl rfl rfl ?_
  refine r_gfi 36 2 ck rfl rfl (isP_2 hs1) rfl ?_
  refine g_icge 39 85 ck rfl rfl rfl hs2 hs3 (fun hc => ?_) (fun hc => ?_)
  · replace h := ite_hf h (Int.not_lt.mpr hc)
    refine g_al 86 ck rfl rfl rfl ?_
    refine r_gf2 89 3 ck rfl rfl rfl rfl ?_
    refine g_dup 90 ck rfl rfl rfl ?_
    refine r_gfi 93 2 ck rfl rfl (isP_2 hs1) rfl ?_
    refine g_ic 94 ck rfl rfl ?_
    refine g_sub 95 ck rfl rfl ?_
    refine g_pfi 98 ck rfl rfl (isP_2 hs1) 2 rfl rfl ?_
    replace h := h _ rfl
    refine g_ic 99 ck rfl rfl ?_
    exact g_retb ck rfl rfl (Or.inr rfl) h
  · replace h := ite_ht h (Int.not_le.mp hc)
    obtain ⟨⟨hs4, hs5, hs6, hs7⟩, h⟩ := h
    refine g_al 40 ck rfl rfl rfl ?_
    refine r_gf2 43 3 ck rfl rfl rfl rfl ?_
    refine r_gfr 46 _ ck rfl rfl (isP_0 hs1) (isX_g (isP_c hs1)) ?_
    refine g_il 47 ck rfl rfl rfl ?_
    refine g_ic 48 ck rfl rfl ?_
    refine g_sub 49 ck rfl rfl ?_
    refine g_al 50 ck rfl rfl rfl ?_
    refine r_gf2 53 3 ck rfl rfl rfl rfl ?_
    refine r_gfr 56 _ ck rfl rfl (isP_0 hs1) (isX_g (isP_c hs1)) ?_
    refine g_il 57 ck rfl rfl rfl ?_
    refine g_ial (m := 60) 58 ck rfl rfl (isP_m hs1) hs4 hs5 ?_
    refine g_ias (m := 60) 59 ck rfl rfl (isP_m hs1) hs6 hs7 ?_
    replace h := h _ rfl
    obtain ⟨hs8, h⟩ := h
    refine g_al 60 ck rfl rfl rfl ?_
    refine r_gf2 63 3 ck rfl rfl rfl rfl ?_
    refine r_gfr 66 _ ck rfl rfl (isP_1 hs8) (isX_g (isP_c hs8)) ?_
    refine g_il 67 ck rfl rfl rfl ?_
    refine g_ic 68 ck rfl rfl ?_
    refine g_sub 69 ck rfl rfl ?_
    refine g_al 70 ck rfl rfl rfl ?_
    refine r_gf2 73 3 ck rfl rfl rfl rfl ?_
    refine r_gfr 76 _ ck rfl rfl (isP_1 hs8) (isX_g (isP_c hs8)) ?_
    refine g_il 77 ck rfl rfl rfl ?_
    refine g_ial (m := 60) 78 ck rfl rfl (isP_k hs8) hs4 hs5 ?_
    refine g_ias (m := 60) 79 ck rfl rfl (isP_k hs8) hs6 hs7 ?_
    replace h := h _ rfl
    refine r_ii 82 ck rfl rfl rfl rfl ?_
    refine g_goto 28 ck rfl rfl ?_
    exact h
def w47 (B : va_E) (σ : l2_m)  (K : Int → l2_m → Prop) : Prop := ((isP (Int.toNat (σ 74 3)) ∧ rg (σ (Int.toNat (σ 74 3)) 2) ∧ 0 ≤ (σ 76 2) ∧ rg (σ 76 2)) ∧ ∀ σ' : l2_m, σ' = app σ 76 (if 0 < (σ (Int.toNat (σ 74 3)) 2) then (σ ((Int.toNat (σ 74 3)) + 1) 0) else 0) (if 0 < (σ (Int.toNat (σ 74 3)) 2) then (σ ((Int.toNat (σ 74 3)) + 2) 0) else 0) → (if (σ 76 2) < 60 then w47_28 B σ' 1 K else K 0 σ'))
theorem o47 {B : va_E} {σ : l2_m}  {K : Int → l2_m → Prop}   (h : w47 B σ   K) : wC B 47 [vr 74] σ K := by
  have ck : pm_code 47 = pc_47 := rfl
  unfold w47 at h
  show wW B 47 0 [vr 74, pm_un] [] σ K
  obtain ⟨⟨hs1, hs2, hs3, hs4⟩, h⟩ := h
  refine g_al 1 ck rfl rfl rfl ?_
  refine r_gfr 4 76 ck rfl rfl rfl (by decide) ?_
  refine g_al 5 ck rfl rfl rfl ?_
  refine r_gf2 8 3 ck rfl rfl rfl rfl ?_
  refine g_cvi (as := []) (rest := [_]) 11 ck rfl rfl rfl rfl rfl rfl (by decide) (isP_c hs1) rfl rfl rfl (Nat.le_of_ble_eq_true rfl) (s84 hs1 hs2 ?_)
  refine g_al 12 ck rfl rfl rfl ?_
  refine r_gf2 15 3 ck rfl rfl rfl rfl ?_
  refine g_cvi (as := []) (rest := [_, _]) 18 ck rfl rfl rfl rfl rfl rfl (by decide) (isP_c hs1) rfl rfl rfl (Nat.le_of_ble_eq_true rfl) (s85 hs1 hs2 ?_)
  refine g_cvi (as := [_, _]) (rest := []) 21 ck rfl rfl rfl rfl rfl rfl (by decide) rfl rfl rfl rfl (Nat.le_of_ble_eq_true rfl) (s82 rfl hs3 hs4 ?_)
  replace h := h _ rfl
  refine g_ifne 24 26 ck rfl rfl rfl rg_b2i (fun hc => ?_) (fun hc => ?_)
  · replace h := ite_ht h (b2i_t hc)
    refine g_ic 27 ck rfl rfl ?_
    refine r_is 28 ck rfl rfl rfl rfl ?_
    exact o47_28  h
  · replace h := ite_hf h (b2i_f (Classical.not_not.mp hc))
    refine g_ic 25 ck rfl rfl ?_
    exact g_retb ck rfl rfl (Or.inl rfl) h
/-! 48 TermDesk$Divider.subtract(LTermDesk$Poly;LTermDesk$Poly;)Z -/
def w48 (B : va_E) (σ : l2_m) (o1 : Nat) (o2 : Nat) (K : Int → l2_m → Prop) : Prop := ((isP (Int.toNat (σ 74 3)) ∧ rg (σ (Int.toNat (σ 74 3)) 2) ∧ rg (σ o1 2)) ∧ ∀ x4 : Int, x4 = ((if 0 < (σ (Int.toNat (σ 74 3)) 2) then (σ ((Int.toNat (σ 74 3)) + 1) 0) else 0) - (if 0 < (σ o1 2) then (σ (o1 + 1) 0) else 0)) → (0 ≤ (σ 34 0) ∧ (σ 34 0) ≤ 97 ∧ rg (if 0 < (σ o1 2) then (σ (o1 + 2) 0) else 0) ∧ 2 ≤ (σ 34 0) ∧ rg ((if 0 < (σ (Int.toNat (σ 74 3)) 2) then (σ ((Int.toNat (σ 74 3)) + 2) 0) else 0) * (invO σ 34 (if 0 < (σ o1 2) then (σ (o1 + 2) 0) else 0)))) ∧ ∀ x5 : Int, x5 = (((if 0 < (σ (Int.toNat (σ 74 3)) 2) then (σ ((Int.toNat (σ 74 3)) + 2) 0) else 0) * (invO σ 34 (if 0 < (σ o1 2) then (σ (o1 + 2) 0) else 0))) % (σ 34 0)) → isP (Int.toNat (σ 74 4)) ∧ (wC B 1 [vr 38, vr (Int.toNat (σ 74 3)), vi 1, vi 0, vr o1, vi ((σ 34 0) - x5), vi x4, vr (Int.toNat (σ 74 4))] σ (fun y σ' => (rg y ∧ (if y = 0 then K 0 σ' else ((isP (Int.toNat (σ' 74 3)) ∧ isP (Int.toNat (σ' 74 4))) ∧ ∀ σ'' : l2_m, σ'' = l2_u σ' 74 3 (((Int.toNat (σ' 74 4)) : Nat) : Int) → ∀ σ''' : l2_m, σ''' = l2_u σ'' 74 4 (((Int.toNat (σ' 74 3)) : Nat) : Int) → (0 ≤ (σ''' o2 2) ∧ rg (σ''' o2 2)) ∧ ∀ σ'''' : l2_m, σ'''' = app σ''' o2 x4 x5 → K (b2i ((σ''' o2 2) < 60)) σ''''))))))
theorem o48 {B : va_E} {σ : l2_m} {o1 : Nat} {o2 : Nat} {K : Int → l2_m → Prop} (ho1 : isP o1) (ho2 : isP o2)  (h : w48 B σ o1 o2  K) : wC B 48 [vr 74, vr o1, vr o2] σ K := by
  have ck : pm_code 48 = pc_48 := rfl
  unfold w48 at h
  show wW B 48 0 [vr 74, vr o1, vr o2, pm_un, pm_un, pm_un, pm_un] [] σ K
  obtain ⟨⟨hs1, hs2, hs3⟩, h⟩ := h
  refine g_al 1 ck rfl rfl rfl ?_
  refine r_gfr 4 38 ck rfl rfl rfl (by decide) ?_
  refine r_gfr 7 34 ck rfl rfl rfl (by decide) ?_
  refine r_as 8 ck rfl rfl rfl rfl ?_
  refine g_al 9 ck rfl rfl rfl ?_
  refine r_gf2 12 3 ck rfl rfl rfl rfl ?_
  refine g_cvi (as := []) (rest := []) 15 ck rfl rfl rfl rfl rfl rfl (by decide) (isP_c hs1) rfl rfl rfl (Nat.le_of_ble_eq_true rfl) (s84 hs1 hs2 ?_)
  refine g_al 16 ck rfl rfl rfl ?_
  refine g_cvi (as := []) (rest := [_]) 19 ck rfl rfl rfl rfl rfl rfl (by decide) (isP_c ho1) rfl rfl rfl (Nat.le_of_ble_eq_true rfl) (s84 ho1 hs3 ?_)
  refine g_sub 20 ck rfl rfl ?_
  refine r_is 22 ck rfl rfl rfl rfl ?_
  replace h := h _ rfl
  obtain ⟨⟨hs4, hs5, hs6, hs7, hs8⟩, h⟩ := h
  refine g_al 23 ck rfl rfl rfl ?_
  refine g_al 24 ck rfl rfl rfl ?_
  refine r_gf2 27 3 ck rfl rfl rfl rfl ?_
  refine g_cvi (as := []) (rest := [_]) 30 ck rfl rfl rfl rfl rfl rfl (by decide) (isP_c hs1) rfl rfl rfl (Nat.le_of_ble_eq_true rfl) (s85 hs1 hs2 ?_)
  refine g_al 31 ck rfl rfl rfl ?_
  refine g_al 32 ck rfl rfl rfl ?_
  refine g_cvi (as := []) (rest := [_, _, _]) 35 ck rfl rfl rfl rfl rfl rfl (by decide) (isP_c ho1) rfl rfl rfl (Nat.le_of_ble_eq_true rfl) (s85 ho1 hs3 ?_)
  refine g_cvi (as := [_]) (rest := [_, _]) 38 ck rfl rfl rfl rfl rfl rfl (by decide) rfl rfl rfl rfl (Nat.le_of_ble_eq_true rfl) (s73 rfl hs4 hs5 hs6 ?_)
  refine g_mul 39 ck rfl rfl ?_
  refine g_cvi (as := [_]) (rest := []) 42 ck rfl rfl rfl rfl rfl rfl (by decide) rfl rfl rfl rfl (Nat.le_of_ble_eq_true rfl) (s72 rfl hs7 hs5 hs8 ?_)
  refine r_is 44 ck rfl rfl rfl rfl ?_
  replace h := h _ rfl
  obtain ⟨hs9, h⟩ := h
  refine g_al 45 ck rfl rfl rfl ?_
  refine r_gfr 48 38 ck rfl rfl rfl (by decide) ?_
  refine g_al 49 ck rfl rfl rfl ?_
  refine r_gf2 52 3 ck rfl rfl rfl rfl ?_
  refine g_ic 53 ck rfl rfl ?_
  refine g_ic 54 ck rfl rfl ?_
  refine g_al 55 ck rfl rfl rfl ?_
  refine g_al 56 ck rfl rfl rfl ?_
  refine r_gfi 59 0 ck rfl rfl rfl rfl ?_
  refine g_il 61 ck rfl rfl rfl ?_
  refine g_sub 62 ck rfl rfl ?_
  refine g_il 64 ck rfl rfl rfl ?_
  refine g_al 65 ck rfl rfl rfl ?_
  refine r_gf2 68 4 ck rfl rfl rfl rfl ?_
  refine g_cvi (as := [_, _, _, _, _, _, _]) (rest := []) 71 ck rfl rfl rfl rfl rfl rfl (by decide) rfl rfl rfl rfl (Nat.le_of_ble_eq_true rfl) (wC.mono h (fun y σ' h => ?_))
  obtain ⟨hs10, h⟩ := h
  refine g_ifne 74 76 ck rfl rfl rfl hs10 (fun hc => ?_) (fun hc => ?_)
  · replace h := ite_hf h hc
    obtain ⟨⟨hs11, hs12⟩, h⟩ := h
    refine g_al 77 ck rfl rfl rfl ?_
    refine r_gf2 80 3 ck rfl rfl rfl rfl ?_
    refine r_as 82 ck rfl rfl rfl rfl ?_
    refine g_al 83 ck rfl rfl rfl ?_
    refine g_al 84 ck rfl rfl rfl ?_
    refine r_gf2 87 4 ck rfl rfl rfl rfl ?_
    refine g_pfr 90 ck rfl rfl rfl 3 rfl ?_
    replace h := h _ rfl
    refine g_al 91 ck rfl rfl rfl ?_
    refine g_al 93 ck rfl rfl rfl ?_
    refine g_pfr 96 ck rfl rfl rfl 4 rfl ?_
    replace h := h _ rfl
    obtain ⟨⟨hs13, hs14⟩, h⟩ := h
    refine g_al 97 ck rfl rfl rfl ?_
    refine g_il 99 ck rfl rfl rfl ?_
    refine g_il 101 ck rfl rfl rfl ?_
    refine g_cvi (as := [_, _]) (rest := []) 104 ck rfl rfl rfl rfl rfl rfl (by decide) (isP_c ho2) rfl rfl rfl (Nat.le_of_ble_eq_true rfl) (s82 ho2 hs13 hs14 ?_)
    replace h := h _ rfl
    exact g_retb ck rfl rfl b2i_01 h
  · replace h := ite_ht h (Classical.not_not.mp hc)
    refine g_ic 75 ck rfl rfl ?_
    exact g_retb ck rfl rfl (Or.inl rfl) h
/-! 51 TermDesk$Field.choose(I)V -/
def w51_86 (B : va_E) (σ : l2_m) (x1 : Int) (z1 : Int)  (K : Int → l2_m → Prop) : Prop := (∀ σ' : l2_m, σ' = l2_u σ 110 5 z1 → (rg (x1 - 1) ∧ rg (σ' 110 7) ∧ 0 < (max (x1 - 1) 1) ∧ 0 ≤ (σ' 110 7)) ∧ ∀ σ'' : l2_m, σ'' = l2_u σ' 110 6 ((σ' 110 7) / (max (x1 - 1) 1)) → (wC B 52 [vr 110] σ'' (fun _ σ''' => (wC B 54 [vr 110] σ''' (fun _ σ'''' => (wC B 55 [vr 110] σ'''' (fun _ σ''''' => K 0 σ''''')))))))
theorem o51_86 {B : va_E} {σ : l2_m} {x1 : Int} {z1 : Int} {u2 : Value}  {K : Int → l2_m → Prop}  (hu2 : (u2.category == 1) = true)  (h : w51_86 B σ x1 z1  K) : wW B 51 86 [vr 110, vi x1, u2] [vi z1, vr 110] σ K := by
  have ck : pm_code 51 = pc_51 := rfl
  unfold w51_86 at h
  refine g_pfi 89 ck rfl rfl rfl 5 rfl rfl ?_
  replace h := h _ rfl
  obtain ⟨⟨hs1, hs2, hs3, hs4⟩, h⟩ := h
  refine g_al 90 ck rfl rfl rfl ?_
  refine g_al 91 ck rfl rfl rfl ?_
  refine r_gfi 94 7 ck rfl rfl rfl rfl ?_
  refine g_il 95 ck rfl rfl rfl ?_
  refine g_ic 96 ck rfl rfl ?_
  refine g_sub 97 ck rfl rfl ?_
  refine g_ic 98 ck rfl rfl ?_
  refine g_max 101 ck rfl rfl hs1 (by decide) (Nat.le_of_ble_eq_true rfl) ?_
  refine g_div 102 ck rfl rfl hs2 (rg_max hs1 (by decide)) hs4 hs3 ?_
  refine g_pfi 105 ck rfl rfl rfl 6 rfl rfl ?_
  replace h := h _ rfl
  refine g_al 106 ck rfl rfl rfl ?_
  refine g_cvv (as := []) (rest := []) 109 ck rfl rfl rfl rfl rfl rfl rfl rfl rfl rfl (Nat.le_of_ble_eq_true rfl) (wC.mono h (fun _ σ''' h => ?_))
  refine g_al 110 ck rfl rfl rfl ?_
  refine g_cvv (as := []) (rest := []) 113 ck rfl rfl rfl rfl rfl rfl rfl rfl rfl rfl (Nat.le_of_ble_eq_true rfl) (wC.mono h (fun _ σ'''' h => ?_))
  refine g_al 114 ck rfl rfl rfl ?_
  refine g_cvv (as := []) (rest := []) 117 ck rfl rfl rfl rfl rfl rfl rfl rfl rfl rfl (Nat.le_of_ble_eq_true rfl) (wC.mono h (fun _ σ''''' h => ?_))
  exact g_retv ck rfl rfl h
def w51_60 (B : va_E) (σ : l2_m) (x1 : Int)  (K : Int → l2_m → Prop) : Prop := (∀ σ' : l2_m, σ' = l2_u σ 110 7 ((σ 110 4) - 1) → rg x1 ∧ (if x1 = 2 then w51_86 B σ' x1 0 K else ((rg (σ' 110 7) ∧ 0 ≤ (σ' 110 7)) ∧ w51_86 B σ' x1 ((σ' 110 7) / 2) K)))
theorem o51_60 {B : va_E} {σ : l2_m} {x1 : Int} {u2 : Value}  {K : Int → l2_m → Prop}  (hu2 : (u2.category == 1) = true)  (h : w51_60 B σ x1  K) : wW B 51 60 [vr 110, vi x1, u2] [] σ K := by
  have ck : pm_code 51 = pc_51 := rfl
  unfold w51_60 at h
  refine g_al 61 ck rfl rfl rfl ?_
  refine g_al 62 ck rfl rfl rfl ?_
  refine r_gfi 65 4 ck rfl rfl rfl rfl ?_
  refine g_ic 66 ck rfl rfl ?_
  refine g_sub 67 ck rfl rfl ?_
  refine g_pfi 70 ck rfl rfl rfl 7 rfl rfl ?_
  replace h := h _ rfl
  obtain ⟨hs1, h⟩ := h
  refine g_al 71 ck rfl rfl rfl ?_
  refine g_il 72 ck rfl rfl rfl ?_
  refine g_ic 73 ck rfl rfl ?_
  refine g_icne 76 80 ck rfl rfl rfl hs1 (by decide) (fun hc => ?_) (fun hc => ?_)
  · replace h := ite_hf h hc
    obtain ⟨⟨hs2, hs3⟩, h⟩ := h
    refine g_al 81 ck rfl rfl rfl ?_
    refine r_gfi 84 7 ck rfl rfl rfl rfl ?_
    refine g_ic 85 ck rfl rfl ?_
    refine g_div 86 ck rfl rfl hs2 (by decide) hs3 (by decide) ?_
    exact o51_86 hu2 h
  · replace h := ite_ht h (Classical.not_not.mp hc)
    refine g_ic 77 ck rfl rfl ?_
    refine g_goto 86 ck rfl rfl ?_
    exact o51_86 hu2 h
def w51_28 (B : va_E) (σ : l2_m) (x1 : Int) (x2 : Int)  (K : Int → l2_m → Prop) : Prop := lz2 (fun X28 x2 σ => (rg x2 ∧ (((x2 < 9) → rg (σ 110 4)) ∧ (if (x2 < 9) ∧ ((σ 110 4) < 500) then (∀ σ' : l2_m, σ' = l2_u σ 110 4 ((σ 110 4) * x1) → X28 (x2 + 1) σ') else w51_60 B σ x1 K)))) x2 σ
theorem o51_28 {B : va_E} {σ : l2_m} {x1 : Int} {x2 : Int}   {K : Int → l2_m → Prop}    (h : w51_28 B σ x1 x2  K) : wW B 51 28 [vr 110, vi x1, vi x2] [] σ K := by
  have ck : pm_code 51 = pc_51 := rfl
  unfold w51_28 at h
  refine h (fun x2 σ => wW B 51 28 [vr 110, vi x1, vi x2] [] σ K) ?_
  clear h
  intro x2 σ h
  replace h := (And.imp_right mg_3s) h
  obtain ⟨hs1, h⟩ := h
  refine g_il 29 ck rfl rfl rfl ?_
  refine g_ic 31 ck rfl rfl ?_
  refine g_icge 34 60 ck rfl rfl rfl hs1 (by decide) (fun hc => ?_) (fun hc => ?_)
  · replace h := ite_hf h (Int.not_lt.mpr hc)
    exact o51_60 rfl h
  · replace h := ite_ht h (Int.not_le.mp hc)
    obtain ⟨hs2, h⟩ := h
    refine g_al 35 ck rfl rfl rfl ?_
    refine r_gfi 38 4 ck rfl rfl rfl rfl ?_
    refine g_ic 41 ck rfl rfl ?_
    refine g_icge 44 60 ck rfl rfl rfl hs2 (by decide) (fun hc => ?_) (fun hc => ?_)
    · replace h := ite_hf h (Int.not_lt.mpr hc)
      exact o51_60 rfl h
    · replace h := ite_ht h (Int.not_le.mp hc)
      refine g_al 45 ck rfl rfl rfl ?_
      refine g_dup 46 ck rfl rfl rfl ?_
      refine r_gfi 49 4 ck rfl rfl rfl rfl ?_
      refine g_il 50 ck rfl rfl rfl ?_
      refine g_mul 51 ck rfl rfl ?_
      refine g_pfi 54 ck rfl rfl rfl 4 rfl rfl ?_
      replace h := h _ rfl
      refine r_ii 57 ck rfl rfl rfl rfl ?_
      refine g_goto 28 ck rfl rfl ?_
      exact h
def w51 (B : va_E) (σ : l2_m) (x1 : Int) (K : Int → l2_m → Prop) : Prop := ((rg x1 ∧ rg (σ 110 3)) ∧ (if x1 = (σ 110 3) ∨ ¬ (isPr x1) then K 0 σ else (∀ σ' : l2_m, σ' = l2_u σ 110 3 x1 → ∀ σ'' : l2_m, σ'' = l2_u σ' 110 4 x1 → w51_28 B σ'' x1 0 K)))
theorem o51 {B : va_E} {σ : l2_m} {x1 : Int} {K : Int → l2_m → Prop}   (h : w51 B σ x1  K) : wC B 51 [vr 110, vi x1] σ K := by
  have ck : pm_code 51 = pc_51 := rfl
  unfold w51 at h
  show wW B 51 0 [vr 110, vi x1, pm_un] [] σ K
  replace h := (And.imp_right mg_2) h
  obtain ⟨⟨hs1, hs2⟩, h⟩ := h
  refine g_il 1 ck rfl rfl rfl ?_
  refine g_al 2 ck rfl rfl rfl ?_
  refine r_gfi 5 3 ck rfl rfl rfl rfl ?_
  refine g_iceq 8 15 ck rfl rfl rfl hs1 hs2 (fun hc => ?_) (fun hc => ?_)
  · replace h := ite_ht h hc
    exact g_retv ck rfl rfl h
  · replace h := ite_hf h hc
    refine g_il 9 ck rfl rfl rfl ?_
    refine g_csi (as := [_]) (rest := []) 12 ck rfl rfl rfl rfl rfl (by decide) rfl rfl rfl (Nat.le_of_ble_eq_true rfl) (s69 hs1 ?_)
    refine g_ifne 15 16 ck rfl rfl rfl rg_b2i (fun hc => ?_) (fun hc => ?_)
    · replace h := ite_ht h (b2i_t hc)
      refine g_al 17 ck rfl rfl rfl ?_
      refine g_il 18 ck rfl rfl rfl ?_
      refine g_pfi 21 ck rfl rfl rfl 3 rfl rfl ?_
      replace h := h _ rfl
      refine g_al 22 ck rfl rfl rfl ?_
      refine g_il 23 ck rfl rfl rfl ?_
      refine g_pfi 26 ck rfl rfl rfl 4 rfl rfl ?_
      replace h := h _ rfl
      refine g_ic 27 ck rfl rfl ?_
      refine r_is 28 ck rfl rfl rfl rfl ?_
      exact o51_28  h
    · replace h := ite_hf h (b2i_f (Classical.not_not.mp hc))
      exact g_retv ck rfl rfl h
/-! 52 TermDesk$Field.fillExponents()V -/
def w52_88 (B : va_E) (σ : l2_m) (x1 : Int) (x2 : Int) (x3 : Int) (X62 : Int → Int → l2_m → Prop) (K : Int → l2_m → Prop) : Prop := (wC B 53 [vr 110, vi x2, vi x1] σ (fun y σ' => X62 y (x3 + 1) σ'))
theorem o52_88 {B : va_E} {σ : l2_m} {x1 : Int} {x2 : Int} {x3 : Int}  {X62 : Int → Int → l2_m → Prop} {K : Int → l2_m → Prop}   (hX62 : ∀ (x2 : Int) (x3 : Int) (σ : l2_m), X62 x2 x3 σ → wW B 52 62 [vr 110, vi x1, vi x2, vi x3] [] σ K) (h : w52_88 B σ x1 x2 x3 X62 K) : wW B 52 88 [vr 110, vi x1, vi x2, vi x3] [] σ K := by
  have ck : pm_code 52 = pc_52 := rfl
  unfold w52_88 at h
  refine g_al 89 ck rfl rfl rfl ?_
  refine g_il 90 ck rfl rfl rfl ?_
  refine g_il 91 ck rfl rfl rfl ?_
  refine g_cvi (as := [_, _]) (rest := []) 94 ck rfl rfl rfl rfl rfl rfl (by decide) rfl rfl rfl rfl (Nat.le_of_ble_eq_true rfl) (wC.mono h (fun y σ' h => ?_))
  refine r_is 95 ck rfl rfl rfl rfl ?_
  refine r_ii 98 ck rfl rfl rfl rfl ?_
  refine g_goto 62 ck rfl rfl ?_
  exact hX62 _ _ _   h
def w52_62 (B : va_E) (σ : l2_m) (x1 : Int) (x2 : Int) (x3 : Int)  (K : Int → l2_m → Prop) : Prop := lz3 (fun X62 x2 x3 σ => ((rg x3 ∧ rg (σ 110 7)) ∧ (if x3 < (σ 110 7) then (rg x2 ∧ (if (x2 < 0) ∨ ¬ (x2 < 9409) then w52_88 B σ x1 x2 x3 X62 K else ((0 ≤ x2 ∧ x2 < 9409) ∧ ∀ σ' : l2_m, σ' = l2_u σ 111 x2 x3 → w52_88 B σ' x1 x2 x3 X62 K))) else K 0 σ))) x2 x3 σ
theorem o52_62 {B : va_E} {σ : l2_m} {x1 : Int} {x2 : Int} {x3 : Int}   {K : Int → l2_m → Prop}    (h : w52_62 B σ x1 x2 x3  K) : wW B 52 62 [vr 110, vi x1, vi x2, vi x3] [] σ K := by
  have ck : pm_code 52 = pc_52 := rfl
  unfold w52_62 at h
  refine h (fun x2 x3 σ => wW B 52 62 [vr 110, vi x1, vi x2, vi x3] [] σ K) ?_
  clear h
  intro x2 x3 σ h
  replace h := (And.imp_right (ite_mp (And.imp_right mg_2) id)) h
  obtain ⟨⟨hs1, hs2⟩, h⟩ := h
  refine g_il 63 ck rfl rfl rfl ?_
  refine g_al 64 ck rfl rfl rfl ?_
  refine r_gfi 67 7 ck rfl rfl rfl rfl ?_
  refine g_icge 70 101 ck rfl rfl rfl hs1 hs2 (fun hc => ?_) (fun hc => ?_)
  · replace h := ite_hf h (Int.not_lt.mpr hc)
    exact g_retv ck rfl rfl h
  · replace h := ite_ht h (Int.not_le.mp hc)
    obtain ⟨hs3, h⟩ := h
    refine g_il 71 ck rfl rfl rfl ?_
    refine g_iflt 74 88 ck rfl rfl rfl hs3 (fun hc => ?_) (fun hc => ?_)
    · replace h := ite_ht h hc
      exact o52_88 (fun _ _ _ hx => hx) h
    · replace h := ite_hf h hc
      refine g_il 75 ck rfl rfl rfl ?_
      refine g_ic 78 ck rfl rfl ?_
      refine g_icge 81 88 ck rfl rfl rfl hs3 (by decide) (fun hc => ?_) (fun hc => ?_)
      · replace h := ite_hf h (Int.not_lt.mpr hc)
        exact o52_88 (fun _ _ _ hx => hx) h
      · replace h := ite_ht h (Int.not_le.mp hc)
        obtain ⟨⟨hs4, hs5⟩, h⟩ := h
        refine g_al 82 ck rfl rfl rfl ?_
        refine r_gfr 85 111 ck rfl rfl rfl (by decide) ?_
        refine g_il 86 ck rfl rfl rfl ?_
        refine g_il 87 ck rfl rfl rfl ?_
        refine g_ias (m := 9409) 88 ck rfl rfl rfl hs4 hs5 ?_
        replace h := h _ rfl
        exact o52_88 (fun _ _ _ hx => hx) h
def w52_48 (B : va_E) (σ : l2_m) (x1 : Int)  (K : Int → l2_m → Prop) : Prop := (∀ σ' : l2_m, σ' = l2_u σ 111 0 (σ 110 7) → w52_62 B σ' x1 1 0 K)
theorem o52_48 {B : va_E} {σ : l2_m} {x1 : Int} {u2 : Value} {u3 : Value}  {K : Int → l2_m → Prop}  (hu2 : (u2.category == 1) = true) (hu3 : (u3.category == 1) = true)  (h : w52_48 B σ x1  K) : wW B 52 48 [vr 110, vi x1, u2, u3] [] σ K := by
  have ck : pm_code 52 = pc_52 := rfl
  unfold w52_48 at h
  refine g_al 49 ck rfl rfl rfl ?_
  refine r_gfr 52 111 ck rfl rfl rfl (by decide) ?_
  refine g_ic 53 ck rfl rfl ?_
  refine g_al 54 ck rfl rfl rfl ?_
  refine r_gfi 57 7 ck rfl rfl rfl rfl ?_
  refine g_ias (m := 9409) 58 ck rfl rfl rfl (by decide) (by decide) ?_
  replace h := h _ rfl
  refine g_ic 59 ck rfl rfl ?_
  refine r_is 60 ck rfl rfl rfl rfl ?_
  refine g_ic 61 ck rfl rfl ?_
  refine r_is 62 ck rfl rfl rfl rfl ?_
  exact o52_62  h
def w52_4 (B : va_E) (σ : l2_m) (x1 : Int) (x2 : Int)  (K : Int → l2_m → Prop) : Prop := lz2 (fun X4 x1 x2 => (rg x2 ∧ (if (x2 < 25) ∧ (x2 < 25) then ((0 ≤ x2 ∧ x2 < 25 ∧ rg (σ 110 3)) ∧ (if (l2_PR 1 x2) = (σ 110 3) then (∀ x1' : Int, x1' = (l2_PR 2 x2) → X4 x1' (x2 + 1)) else X4 x1 (x2 + 1))) else w52_48 B σ x1 K))) x1 x2
theorem o52_4 {B : va_E} {σ : l2_m} {x1 : Int} {x2 : Int} {u3 : Value}  {K : Int → l2_m → Prop}  (hu3 : (u3.category == 1) = true)  (h : w52_4 B σ x1 x2  K) : wW B 52 4 [vr 110, vi x1, vi x2, u3] [] σ K := by
  have ck : pm_code 52 = pc_52 := rfl
  unfold w52_4 at h
  refine h (fun x1 x2 => ∀ u3 : Value, (u3.category == 1) = true → wW B 52 4 [vr 110, vi x1, vi x2, u3] [] σ K) ?_ u3 hu3
  clear h
  intro x1 x2 h u3 hu3
  replace h := (And.imp_right mg_3) h
  obtain ⟨hs1, h⟩ := h
  refine g_il 5 ck rfl rfl rfl ?_
  refine g_gs 8 ck rfl rfl ?_
  refine g_lens 9 ck rfl rfl (by decide) ?_
  refine g_icge 12 48 ck rfl rfl rfl hs1 (by decide) (fun hc => ?_) (fun hc => ?_)
  · replace h := ite_hf h (Int.not_lt.mpr hc)
    exact o52_48 rfl hu3 h
  · replace h := ite_ht h (Int.not_le.mp hc)
    refine g_il 13 ck rfl rfl rfl ?_
    refine g_gs 16 ck rfl rfl ?_
    refine g_lens 17 ck rfl rfl (by decide) ?_
    refine g_icge 20 48 ck rfl rfl rfl hs1 (by decide) (fun hc => ?_) (fun hc => ?_)
    · replace h := ite_hf h (Int.not_lt.mpr hc)
      exact o52_48 rfl hu3 h
    · replace h := ite_ht h (Int.not_le.mp hc)
      obtain ⟨⟨hs2, hs3, hs4⟩, h⟩ := h
      refine g_gs 23 ck rfl rfl ?_
      refine g_il 24 ck rfl rfl rfl ?_
      refine g_ials 25 ck rfl rfl (by decide) hs2 hs3 ?_
      refine g_al 26 ck rfl rfl rfl ?_
      refine r_gfi 29 3 ck rfl rfl rfl rfl ?_
      refine g_icne 32 40 ck rfl rfl rfl (rg_PR _ _) hs4 (fun hc => ?_) (fun hc => ?_)
      · replace h := ite_hf h hc
        refine g_il 41 ck rfl rfl rfl ?_
        refine r_is 42 ck rfl rfl rfl rfl ?_
        refine r_ii 45 ck rfl rfl rfl rfl ?_
        refine g_goto 4 ck rfl rfl ?_
        exact h _ hu3
      · replace h := ite_ht h (Classical.not_not.mp hc)
        refine g_gs 35 ck rfl rfl ?_
        refine g_il 36 ck rfl rfl rfl ?_
        refine g_ials 37 ck rfl rfl (by decide) hs2 hs3 ?_
        refine g_goto 41 ck rfl rfl ?_
        refine r_is 42 ck rfl rfl rfl rfl ?_
        replace h := h _ rfl
        refine r_ii 45 ck rfl rfl rfl rfl ?_
        refine g_goto 4 ck rfl rfl ?_
        exact h _ hu3
def w52 (B : va_E) (σ : l2_m)  (K : Int → l2_m → Prop) : Prop := w52_4 B σ 0 0 K
theorem o52 {B : va_E} {σ : l2_m}  {K : Int → l2_m → Prop}   (h : w52 B σ   K) : wC B 52 [vr 110] σ K := by
  have ck : pm_code 52 = pc_52 := rfl
  unfold w52 at h
  show wW B 52 0 [vr 110, pm_un, pm_un, pm_un] [] σ K
  refine g_ic 1 ck rfl rfl ?_
  refine r_is 2 ck rfl rfl rfl rfl ?_
  refine g_ic 3 ck rfl rfl ?_
  refine r_is 4 ck rfl rfl rfl rfl ?_
  exact o52_4 rfl h
/-! 53 TermDesk$Field.timesGenerator(II)I -/
def w53_38 (B : va_E) (σ : l2_m) (x2 : Int) (x3 : Int) (x4 : Int) (x5 : Int) (x6 : Int) (x7 : Int)  (K : Int → l2_m → Prop) : Prop := lz3 (fun X38 x5 x6 x7 => (rg x7 ∧ (((x7 < 9) → rg x6 ∧ rg (σ 110 4)) ∧ (if (x7 < 9) ∧ x6 < (σ 110 4) then ((rg x3 ∧ 0 < x6 ∧ 0 ≤ x3 ∧ rg x2 ∧ 0 ≤ x2 ∧ rg (x2 / x6) ∧ rg (σ 110 3) ∧ 0 < (σ 110 3) ∧ 0 ≤ (x2 / x6) ∧ rg ((x3 / x6) + (x4 * ((x2 / x6) % (σ 110 3)))) ∧ 0 ≤ ((x3 / x6) + (x4 * ((x2 / x6) % (σ 110 3))))) ∧ ∀ x5' : Int, x5' = (x5 + ((((x3 / x6) + (x4 * ((x2 / x6) % (σ 110 3)))) % (σ 110 3)) * x6)) → ∀ x6' : Int, x6' = (x6 * (σ 110 3)) → X38 x5' x6' (x7 + 1)) else K x5 σ)))) x5 x6 x7
theorem o53_38 {B : va_E} {σ : l2_m} {x2 : Int} {x3 : Int} {x4 : Int} {x5 : Int} {x6 : Int} {x7 : Int} {u1 : Value}  {K : Int → l2_m → Prop}  (hu1 : (u1.category == 1) = true)  (h : w53_38 B σ x2 x3 x4 x5 x6 x7  K) : wW B 53 38 [vr 110, u1, vi x2, vi x3, vi x4, vi x5, vi x6, vi x7] [] σ K := by
  have ck : pm_code 53 = pc_53 := rfl
  unfold w53_38 at h
  refine h (fun x5 x6 x7 => ∀ u1 : Value, (u1.category == 1) = true → wW B 53 38 [vr 110, u1, vi x2, vi x3, vi x4, vi x5, vi x6, vi x7] [] σ K) ?_ u1 hu1
  clear h
  intro x5 x6 x7 h u1 hu1
  replace h := (And.imp_right mg_3s) h
  obtain ⟨hs1, h⟩ := h
  refine g_il 40 ck rfl rfl rfl ?_
  refine g_ic 42 ck rfl rfl ?_
  refine g_icge 45 99 ck rfl rfl rfl hs1 (by decide) (fun hc => ?_) (fun hc => ?_)
  · replace h := ite_hf h (Int.not_lt.mpr hc)
    refine g_il 101 ck rfl rfl rfl ?_
    exact g_ret ck rfl rfl (Or.inl (by decide)) h
  · replace h := ite_ht h (Int.not_le.mp hc)
    obtain ⟨⟨hs2, hs3⟩, h⟩ := h
    refine g_il 47 ck rfl rfl rfl ?_
    refine g_al 48 ck rfl rfl rfl ?_
    refine r_gfi 51 4 ck rfl rfl rfl rfl ?_
    refine g_icge 54 99 ck rfl rfl rfl hs2 hs3 (fun hc => ?_) (fun hc => ?_)
    · replace h := ite_hf h (Int.not_lt.mpr hc)
      refine g_il 101 ck rfl rfl rfl ?_
      exact g_ret ck rfl rfl (Or.inl (by decide)) h
    · replace h := ite_ht h (Int.not_le.mp hc)
      obtain ⟨⟨hs4, hs5, hs6, hs7, hs8, hs9, hs10, hs11, hs12, hs13, hs14⟩, h⟩ := h
      refine g_il 56 ck rfl rfl rfl ?_
      refine g_il 57 ck rfl rfl rfl ?_
      refine g_il 59 ck rfl rfl rfl ?_
      refine g_div 60 ck rfl rfl hs4 hs2 hs6 hs5 ?_
      refine g_il 62 ck rfl rfl rfl ?_
      refine g_il 63 ck rfl rfl rfl ?_
      refine g_il 65 ck rfl rfl rfl ?_
      refine g_div 66 ck rfl rfl hs7 hs2 hs8 hs5 ?_
      refine g_al 67 ck rfl rfl rfl ?_
      refine r_gfi 70 3 ck rfl rfl rfl rfl ?_
      refine g_rem 71 ck rfl rfl hs9 hs10 hs12 hs11 ?_
      refine g_mul 72 ck rfl rfl ?_
      refine g_add 73 ck rfl rfl ?_
      refine g_al 74 ck rfl rfl rfl ?_
      refine r_gfi 77 3 ck rfl rfl rfl rfl ?_
      refine g_rem 78 ck rfl rfl hs13 hs10 hs14 hs11 ?_
      refine g_il 80 ck rfl rfl rfl ?_
      refine g_mul 81 ck rfl rfl ?_
      refine g_add 82 ck rfl rfl ?_
      refine r_is 84 ck rfl rfl rfl rfl ?_
      replace h := h _ rfl
      refine g_il 86 ck rfl rfl rfl ?_
      refine g_al 87 ck rfl rfl rfl ?_
      refine r_gfi 90 3 ck rfl rfl rfl rfl ?_
      refine g_mul 91 ck rfl rfl ?_
      refine r_is 93 ck rfl rfl rfl rfl ?_
      replace h := h _ rfl
      refine r_ii 96 ck rfl rfl rfl rfl ?_
      refine g_goto 38 ck rfl rfl ?_
      exact h _ hu1
def w53 (B : va_E) (σ : l2_m) (x1 : Int) (x2 : Int) (K : Int → l2_m → Prop) : Prop := (rg (σ 110 3) ∧ (if (σ 110 3) < 2 then K 0 σ else (∀ x3 : Int, x3 = (x1 * (σ 110 3)) → (rg (σ 110 4) ∧ rg x3 ∧ 0 < (max (σ 110 4) 1) ∧ 0 ≤ x3) ∧ ∀ x4 : Int, x4 = (x3 / (max (σ 110 4) 1)) → w53_38 B σ x2 x3 x4 0 1 0 K)))
theorem o53 {B : va_E} {σ : l2_m} {x1 : Int} {x2 : Int} {K : Int → l2_m → Prop}   (h : w53 B σ x1 x2  K) : wC B 53 [vr 110, vi x1, vi x2] σ K := by
  have ck : pm_code 53 = pc_53 := rfl
  unfold w53 at h
  show wW B 53 0 [vr 110, vi x1, vi x2, pm_un, pm_un, pm_un, pm_un, pm_un] [] σ K
  obtain ⟨hs1, h⟩ := h
  refine g_al 1 ck rfl rfl rfl ?_
  refine r_gfi 4 3 ck rfl rfl rfl rfl ?_
  refine g_ic 5 ck rfl rfl ?_
  refine g_icge 8 10 ck rfl rfl rfl hs1 (by decide) (fun hc => ?_) (fun hc => ?_)
  · replace h := ite_hf h (Int.not_lt.mpr hc)
    refine g_il 11 ck rfl rfl rfl ?_
    refine g_al 12 ck rfl rfl rfl ?_
    refine r_gfi 15 3 ck rfl rfl rfl rfl ?_
    refine g_mul 16 ck rfl rfl ?_
    refine r_is 17 ck rfl rfl rfl rfl ?_
    replace h := h _ rfl
    obtain ⟨⟨hs2, hs3, hs4, hs5⟩, h⟩ := h
    refine g_il 18 ck rfl rfl rfl ?_
    refine g_al 19 ck rfl rfl rfl ?_
    refine r_gfi 22 4 ck rfl rfl rfl rfl ?_
    refine g_ic 23 ck rfl rfl ?_
    refine g_max 26 ck rfl rfl hs2 (by decide) (Nat.le_of_ble_eq_true rfl) ?_
    refine g_div 27 ck rfl rfl hs3 (rg_max hs2 (by decide)) hs5 hs4 ?_
    refine r_is 29 ck rfl rfl rfl rfl ?_
    replace h := h _ rfl
    refine g_ic 30 ck rfl rfl ?_
    refine r_is 32 ck rfl rfl rfl rfl ?_
    refine g_ic 33 ck rfl rfl ?_
    refine r_is 35 ck rfl rfl rfl rfl ?_
    refine g_ic 36 ck rfl rfl ?_
    refine r_is 38 ck rfl rfl rfl rfl ?_
    exact o53_38 rfl h
  · replace h := ite_ht h (Int.not_le.mp hc)
    refine g_ic 9 ck rfl rfl ?_
    exact g_ret ck rfl rfl (Or.inl (by decide)) h
/-! 54 TermDesk$Field.fillSuccessors()V -/
def w54_55 (B : va_E) (σ : l2_m) (x1 : Int) (z0 : Int) (X2 : Int → l2_m → Prop) (K : Int → l2_m → Prop) : Prop := ((0 ≤ x1 ∧ x1 < 9409) ∧ ∀ x4 : Int, x4 = (σ 111 x1) → rg x4 ∧ ((¬ (x4 < 0) → ((x4 < 9409) → rg z0)) ∧ (if (x4 < 0) ∨ ¬ ((x4 < 9409) ∧ ¬ ((z0 < 0) ∨ ¬ (z0 < 9409))) then X2 (x1 + 1) σ else ((0 ≤ z0 ∧ z0 < 9409 ∧ 0 ≤ x4 ∧ x4 < 9409) ∧ ∀ σ' : l2_m, σ' = l2_u σ 112 x4 (σ 111 z0) → X2 (x1 + 1) σ'))))
theorem o54_55 {B : va_E} {σ : l2_m} {x1 : Int} {z0 : Int} {u2 : Value} {u3 : Value} {u4 : Value} {X2 : Int → l2_m → Prop} {K : Int → l2_m → Prop}  (hu2 : (u2.category == 1) = true) (hu3 : (u3.category == 1) = true) (hu4 : (u4.category == 1) = true) (hX2 : ∀ (x1 : Int) (σ : l2_m) (u2 : Value) (u3 : Value) (u4 : Value), (u2.category == 1) = true → (u3.category == 1) = true → (u4.category == 1) = true → X2 x1 σ → wW B 54 2 [vr 110, vi x1, u2, u3, u4] [] σ K) (h : w54_55 B σ x1 z0 X2 K) : wW B 54 55 [vr 110, vi x1, u2, u3, u4] [vi z0] σ K := by
  have ck : pm_code 54 = pc_54 := rfl
  unfold w54_55 at h
  replace h := (And.imp_right (fun h x e => (And.imp_right (fun h => ite_mp id (fun h => ite_mp (And.imp_right mg_2) id (mg_4s h)) (mg_2s h))) (h x e))) h
  obtain ⟨⟨hs1, hs2⟩, h⟩ := h
  refine r_is 56 ck rfl rfl hu2 rfl ?_
  refine g_al 57 ck rfl rfl rfl ?_
  refine r_gfr 60 111 ck rfl rfl rfl (by decide) ?_
  refine g_il 61 ck rfl rfl rfl ?_
  refine g_ial (m := 9409) 62 ck rfl rfl rfl hs1 hs2 ?_
  refine r_is 64 ck rfl rfl rfl rfl ?_
  replace h := h _ rfl
  obtain ⟨hs3, h⟩ := h
  refine g_il 66 ck rfl rfl rfl ?_
  refine g_iflt 69 101 ck rfl rfl rfl hs3 (fun hc => ?_) (fun hc => ?_)
  · replace h := ite_ht h hc
    refine r_ii 104 ck rfl rfl rfl rfl ?_
    refine g_goto 2 ck rfl rfl ?_
    exact hX2 _ _ _ _ _ hu2 rfl rfl h
  · replace h := ite_hf h hc
    refine g_il 71 ck rfl rfl rfl ?_
    refine g_ic 74 ck rfl rfl ?_
    refine g_icge 77 101 ck rfl rfl rfl hs3 (by decide) (fun hc => ?_) (fun hc => ?_)
    · replace h := ite_hf h (Int.not_lt.mpr hc)
      refine r_ii 104 ck rfl rfl rfl rfl ?_
      refine g_goto 2 ck rfl rfl ?_
      exact hX2 _ _ _ _ _ hu2 rfl rfl h
    · replace h := ite_ht h (Int.not_le.mp hc)
      obtain ⟨hs4, h⟩ := h
      refine g_il 78 ck rfl rfl rfl ?_
      refine g_iflt 81 101 ck rfl rfl rfl hs4 (fun hc => ?_) (fun hc => ?_)
      · replace h := ite_ht h hc
        refine r_ii 104 ck rfl rfl rfl rfl ?_
        refine g_goto 2 ck rfl rfl ?_
        exact hX2 _ _ _ _ _ hu2 rfl rfl h
      · replace h := ite_hf h hc
        refine g_il 82 ck rfl rfl rfl ?_
        refine g_ic 85 ck rfl rfl ?_
        refine g_icge 88 101 ck rfl rfl rfl hs4 (by decide) (fun hc => ?_) (fun hc => ?_)
        · replace h := ite_hf h (Int.not_lt.mpr hc)
          refine r_ii 104 ck rfl rfl rfl rfl ?_
          refine g_goto 2 ck rfl rfl ?_
          exact hX2 _ _ _ _ _ hu2 rfl rfl h
        · replace h := ite_ht h (Int.not_le.mp hc)
          obtain ⟨⟨hs5, hs6, hs7, hs8⟩, h⟩ := h
          refine g_al 89 ck rfl rfl rfl ?_
          refine r_gfr 92 112 ck rfl rfl rfl (by decide) ?_
          refine g_il 94 ck rfl rfl rfl ?_
          refine g_al 95 ck rfl rfl rfl ?_
          refine r_gfr 98 111 ck rfl rfl rfl (by decide) ?_
          refine g_il 99 ck rfl rfl rfl ?_
          refine g_ial (m := 9409) 100 ck rfl rfl rfl hs5 hs6 ?_
          refine g_ias (m := 9409) 101 ck rfl rfl rfl hs7 hs8 ?_
          replace h := h _ rfl
          refine r_ii 104 ck rfl rfl rfl rfl ?_
          refine g_goto 2 ck rfl rfl ?_
          exact hX2 _ _ _ _ _ hu2 rfl rfl h
def w54_35 (B : va_E) (σ : l2_m) (x1 : Int) (z0 : Int) (X2 : Int → l2_m → Prop) (K : Int → l2_m → Prop) : Prop := ((rg z0 ∧ rg ((σ 110 3) - 1)) ∧ (if z0 = ((σ 110 3) - 1) then w54_55 B σ x1 (x1 - z0) X2 K else w54_55 B σ x1 (x1 + 1) X2 K))
theorem o54_35 {B : va_E} {σ : l2_m} {x1 : Int} {z0 : Int} {u2 : Value} {u3 : Value} {u4 : Value} {X2 : Int → l2_m → Prop} {K : Int → l2_m → Prop}  (hu2 : (u2.category == 1) = true) (hu3 : (u3.category == 1) = true) (hu4 : (u4.category == 1) = true) (hX2 : ∀ (x1 : Int) (σ : l2_m) (u2 : Value) (u3 : Value) (u4 : Value), (u2.category == 1) = true → (u3.category == 1) = true → (u4.category == 1) = true → X2 x1 σ → wW B 54 2 [vr 110, vi x1, u2, u3, u4] [] σ K) (h : w54_35 B σ x1 z0 X2 K) : wW B 54 35 [vr 110, vi x1, u2, u3, u4] [vi z0] σ K := by
  have ck : pm_code 54 = pc_54 := rfl
  unfold w54_35 at h
  obtain ⟨⟨hs1, hs2⟩, h⟩ := h
  refine r_is 36 ck rfl rfl rfl rfl ?_
  refine g_il 37 ck rfl rfl rfl ?_
  refine g_al 38 ck rfl rfl rfl ?_
  refine r_gfi 41 3 ck rfl rfl rfl rfl ?_
  refine g_ic 42 ck rfl rfl ?_
  refine g_sub 43 ck rfl rfl ?_
  refine g_icne 46 52 ck rfl rfl rfl hs1 hs2 (fun hc => ?_) (fun hc => ?_)
  · replace h := ite_hf h hc
    refine g_il 53 ck rfl rfl rfl ?_
    refine g_ic 54 ck rfl rfl ?_
    refine g_add 55 ck rfl rfl ?_
    exact o54_55 rfl hu3 hu4 hX2 h
  · replace h := ite_ht h (Classical.not_not.mp hc)
    refine g_il 47 ck rfl rfl rfl ?_
    refine g_il 48 ck rfl rfl rfl ?_
    refine g_sub 49 ck rfl rfl ?_
    refine g_goto 55 ck rfl rfl ?_
    exact o54_55 rfl hu3 hu4 hX2 h
def w54_2 (B : va_E) (σ : l2_m) (x1 : Int)  (K : Int → l2_m → Prop) : Prop := lz2 (fun X2 x1 σ => ((rg x1 ∧ rg (σ 110 4)) ∧ (if x1 < (σ 110 4) ∧ (x1 < 9409) then (rg (σ 110 3) ∧ (if (σ 110 3) < 2 then w54_35 B σ x1 0 X2 K else ((0 < (σ 110 3) ∧ 0 ≤ x1) ∧ w54_35 B σ x1 (x1 % (σ 110 3)) X2 K))) else K 0 σ))) x1 σ
theorem o54_2 {B : va_E} {σ : l2_m} {x1 : Int} {u2 : Value} {u3 : Value} {u4 : Value}  {K : Int → l2_m → Prop}  (hu2 : (u2.category == 1) = true) (hu3 : (u3.category == 1) = true) (hu4 : (u4.category == 1) = true)  (h : w54_2 B σ x1  K) : wW B 54 2 [vr 110, vi x1, u2, u3, u4] [] σ K := by
  have ck : pm_code 54 = pc_54 := rfl
  unfold w54_2 at h
  refine h (fun x1 σ => ∀ u2 : Value, (u2.category == 1) = true → ∀ u3 : Value, (u3.category == 1) = true → ∀ u4 : Value, (u4.category == 1) = true → wW B 54 2 [vr 110, vi x1, u2, u3, u4] [] σ K) ?_ u2 hu2 u3 hu3 u4 hu4
  clear h
  intro x1 σ h u2 hu2 u3 hu3 u4 hu4
  replace h := (And.imp_right mg_3) h
  obtain ⟨⟨hs1, hs2⟩, h⟩ := h
  refine g_il 3 ck rfl rfl rfl ?_
  refine g_al 4 ck rfl rfl rfl ?_
  refine r_gfi 7 4 ck rfl rfl rfl rfl ?_
  refine g_icge 10 107 ck rfl rfl rfl hs1 hs2 (fun hc => ?_) (fun hc => ?_)
  · replace h := ite_hf h (Int.not_lt.mpr hc)
    exact g_retv ck rfl rfl h
  · replace h := ite_ht h (Int.not_le.mp hc)
    refine g_il 11 ck rfl rfl rfl ?_
    refine g_ic 14 ck rfl rfl ?_
    refine g_icge 17 107 ck rfl rfl rfl hs1 (by decide) (fun hc => ?_) (fun hc => ?_)
    · replace h := ite_hf h (Int.not_lt.mpr hc)
      exact g_retv ck rfl rfl h
    · replace h := ite_ht h (Int.not_le.mp hc)
      obtain ⟨hs3, h⟩ := h
      refine g_al 18 ck rfl rfl rfl ?_
      refine r_gfi 21 3 ck rfl rfl rfl rfl ?_
      refine g_ic 22 ck rfl rfl ?_
      refine g_icge 25 29 ck rfl rfl rfl hs3 (by decide) (fun hc => ?_) (fun hc => ?_)
      · replace h := ite_hf h (Int.not_lt.mpr hc)
        obtain ⟨⟨hs4, hs5⟩, h⟩ := h
        refine g_il 30 ck rfl rfl rfl ?_
        refine g_al 31 ck rfl rfl rfl ?_
        refine r_gfi 34 3 ck rfl rfl rfl rfl ?_
        refine g_rem 35 ck rfl rfl hs1 hs3 hs5 hs4 ?_
        exact o54_35 hu2 hu3 hu4 (fun _ _ u2 u3 u4 hu2 hu3 hu4 hx => hx u2 hu2 u3 hu3 u4 hu4) h
      · replace h := ite_ht h (Int.not_le.mp hc)
        refine g_ic 26 ck rfl rfl ?_
        refine g_goto 35 ck rfl rfl ?_
        exact o54_35 hu2 hu3 hu4 (fun _ _ u2 u3 u4 hu2 hu3 hu4 hx => hx u2 hu2 u3 hu3 u4 hu4) h
def w54 (B : va_E) (σ : l2_m)  (K : Int → l2_m → Prop) : Prop := w54_2 B σ 1 K
theorem o54 {B : va_E} {σ : l2_m}  {K : Int → l2_m → Prop}   (h : w54 B σ   K) : wC B 54 [vr 110] σ K := by
  have ck : pm_code 54 = pc_54 := rfl
  unfold w54 at h
  show wW B 54 0 [vr 110, pm_un, pm_un, pm_un, pm_un] [] σ K
  refine g_ic 1 ck rfl rfl ?_
  refine r_is 2 ck rfl rfl rfl rfl ?_
  exact o54_2 rfl rfl rfl h
/-! 55 TermDesk$Field.fillNumbers()V -/
def w55_2 (B : va_E) (σ : l2_m) (x1 : Int)  (K : Int → l2_m → Prop) : Prop := lz2 (fun X2 x1 σ => ((rg x1 ∧ rg (σ 110 3)) ∧ (if x1 < (σ 110 3) then ((0 ≤ x1 ∧ x1 < 9409 ∧ rg (σ 110 6) ∧ rg (σ 111 x1) ∧ 0 < (max (σ 110 6) 1) ∧ 0 ≤ (σ 111 x1)) ∧ ∀ x2 : Int, x2 = ((σ 111 x1) / (max (σ 110 6) 1)) → rg x2 ∧ (if (x2 < 0) ∨ ¬ x2 < ((98 : Nat) : Int) then X2 (x1 + 1) σ else ((0 ≤ x2 ∧ x2 < 98) ∧ ∀ σ' : l2_m, σ' = l2_u σ 113 x2 x1 → X2 (x1 + 1) σ'))) else K 0 σ))) x1 σ
theorem o55_2 {B : va_E} {σ : l2_m} {x1 : Int} {u2 : Value}  {K : Int → l2_m → Prop}  (hu2 : (u2.category == 1) = true)  (h : w55_2 B σ x1  K) : wW B 55 2 [vr 110, vi x1, u2] [] σ K := by
  have ck : pm_code 55 = pc_55 := rfl
  unfold w55_2 at h
  refine h (fun x1 σ => ∀ u2 : Value, (u2.category == 1) = true → wW B 55 2 [vr 110, vi x1, u2] [] σ K) ?_ u2 hu2
  clear h
  intro x1 σ h u2 hu2
  replace h := (And.imp_right (ite_mp (And.imp_right (fun h x e => (And.imp_right mg_2) (h x e))) id)) h
  obtain ⟨⟨hs1, hs2⟩, h⟩ := h
  refine g_il 3 ck rfl rfl rfl ?_
  refine g_al 4 ck rfl rfl rfl ?_
  refine r_gfi 7 3 ck rfl rfl rfl rfl ?_
  refine g_icge 10 52 ck rfl rfl rfl hs1 hs2 (fun hc => ?_) (fun hc => ?_)
  · replace h := ite_hf h (Int.not_lt.mpr hc)
    exact g_retv ck rfl rfl h
  · replace h := ite_ht h (Int.not_le.mp hc)
    obtain ⟨⟨hs3, hs4, hs5, hs6, hs7, hs8⟩, h⟩ := h
    refine g_al 11 ck rfl rfl rfl ?_
    refine r_gfr 14 111 ck rfl rfl rfl (by decide) ?_
    refine g_il 15 ck rfl rfl rfl ?_
    refine g_ial (m := 9409) 16 ck rfl rfl rfl hs3 hs4 ?_
    refine g_al 17 ck rfl rfl rfl ?_
    refine r_gfi 20 6 ck rfl rfl rfl rfl ?_
    refine g_ic 21 ck rfl rfl ?_
    refine g_max 24 ck rfl rfl hs5 (by decide) (Nat.le_of_ble_eq_true rfl) ?_
    refine g_div 25 ck rfl rfl hs6 (rg_max hs5 (by decide)) hs8 hs7 ?_
    refine r_is 26 ck rfl rfl rfl rfl ?_
    replace h := h _ rfl
    obtain ⟨hs9, h⟩ := h
    refine g_il 27 ck rfl rfl rfl ?_
    refine g_iflt 30 46 ck rfl rfl rfl hs9 (fun hc => ?_) (fun hc => ?_)
    · replace h := ite_ht h hc
      refine r_ii 49 ck rfl rfl rfl rfl ?_
      refine g_goto 2 ck rfl rfl ?_
      exact h _ rfl
    · replace h := ite_hf h hc
      refine g_il 31 ck rfl rfl rfl ?_
      refine g_al 32 ck rfl rfl rfl ?_
      refine r_gfr 35 113 ck rfl rfl rfl (by decide) ?_
      refine g_len 36 ck rfl rfl (show l2_al 113 = some 98 from rfl) ?_
      refine g_icge 39 46 ck rfl rfl rfl hs9 (by decide) (fun hc => ?_) (fun hc => ?_)
      · replace h := ite_hf h (Int.not_lt.mpr hc)
        refine r_ii 49 ck rfl rfl rfl rfl ?_
        refine g_goto 2 ck rfl rfl ?_
        exact h _ rfl
      · replace h := ite_ht h (Int.not_le.mp hc)
        obtain ⟨⟨hs10, hs11⟩, h⟩ := h
        refine g_al 40 ck rfl rfl rfl ?_
        refine r_gfr 43 113 ck rfl rfl rfl (by decide) ?_
        refine g_il 44 ck rfl rfl rfl ?_
        refine g_il 45 ck rfl rfl rfl ?_
        refine g_ias (m := 98) 46 ck rfl rfl rfl hs10 hs11 ?_
        replace h := h _ rfl
        refine r_ii 49 ck rfl rfl rfl rfl ?_
        refine g_goto 2 ck rfl rfl ?_
        exact h _ rfl
def w55 (B : va_E) (σ : l2_m)  (K : Int → l2_m → Prop) : Prop := w55_2 B σ 1 K
theorem o55 {B : va_E} {σ : l2_m}  {K : Int → l2_m → Prop}   (h : w55 B σ   K) : wC B 55 [vr 110] σ K := by
  have ck : pm_code 55 = pc_55 := rfl
  unfold w55 at h
  show wW B 55 0 [vr 110, pm_un, pm_un] [] σ K
  refine g_ic 1 ck rfl rfl ?_
  refine r_is 2 ck rfl rfl rfl rfl ?_
  exact o55_2 rfl h
