/-! 1 TermDesk$Arithmetic.mix(LTermDesk$Poly;IILTermDesk$Poly;IILTermDesk$Poly;)Z -/
def w1_172 (B : va_E) (σ : l2_m) (o1 : Nat) (x2 : Int) (x3 : Int) (o4 : Nat) (x5 : Int) (x6 : Int) (o7 : Nat) (x8 : Int) (x9 : Int) (x10 : Int) (x13 : Int) (x14 : Int) (X24 : Int → Int → Int → l2_m → Prop) (K : Int → l2_m → Prop) : Prop := ((2 ≤ (σ 34 0) ∧ (σ 34 0) ≤ 97 ∧ rg x14) ∧ ∀ x14' : Int, x14' = (x14 % (σ 34 0)) → (if x14' = 0 then X24 x8 x9 (x10 + (-1)) σ else ((0 ≤ (σ o7 2) ∧ rg (σ o7 2)) ∧ ∀ σ' : l2_m, σ' = app σ o7 x13 x14' → (if (σ o7 2) < 60 then X24 x8 x9 (x10 + (-1)) σ' else K 0 σ'))))
theorem o1_172 {B : va_E} {σ : l2_m} {o1 : Nat} {x2 : Int} {x3 : Int} {o4 : Nat} {x5 : Int} {x6 : Int} {o7 : Nat} {x8 : Int} {x9 : Int} {x10 : Int} {x13 : Int} {x14 : Int} {u11 : Value} {u12 : Value} {X24 : Int → Int → Int → l2_m → Prop} {K : Int → l2_m → Prop} (ho1 : isP o1) (ho4 : isP o4) (ho7 : isP o7) (hu11 : (u11.category == 1) = true) (hu12 : (u12.category == 1) = true) (hX24 : ∀ (x8 : Int) (x9 : Int) (x10 : Int) (σ : l2_m) (u11 : Value) (u12 : Value) (u13 : Value) (u14 : Value), (u11.category == 1) = true → (u12.category == 1) = true → (u13.category == 1) = true → (u14.category == 1) = true → X24 x8 x9 x10 σ → wW B 1 24 [vr 38, vr o1, vi x2, vi x3, vr o4, vi x5, vi x6, vr o7, vi x8, vi x9, vi x10, u11, u12, u13, u14] [] σ K) (h : w1_172 B σ o1 x2 x3 o4 x5 x6 o7 x8 x9 x10 x13 x14 X24 K) : wW B 1 172 [vr 38, vr o1, vi x2, vi x3, vr o4, vi x5, vi x6, vr o7, vi x8, vi x9, vi x10, u11, u12, vi x13, vi x14] [] σ K := by
  have ck : pm_code 1 = pc_1 := rfl
  unfold w1_172 at h
  obtain ⟨⟨hs1, hs2, hs3⟩, h⟩ := h
  refine g_al 173 ck rfl rfl rfl ?_
  refine r_gfr 176 34 ck rfl rfl rfl (by decide) ?_
  refine g_il 178 ck rfl rfl rfl ?_
  refine g_cvi (as := [_]) (rest := []) 181 ck rfl rfl rfl rfl rfl rfl (by decide) rfl rfl rfl rfl (Nat.le_of_ble_eq_true rfl) (s72 rfl hs1 hs2 hs3 ?_)
  refine r_is 183 ck rfl rfl rfl rfl ?_
  replace h := h _ rfl
  refine g_il 185 ck rfl rfl rfl ?_
  refine g_ifeq 188 202 ck rfl rfl rfl (rg_md hs1 hs2) (fun hc => ?_) (fun hc => ?_)
  · replace h := ite_ht h hc
    refine r_ii 205 ck rfl rfl rfl rfl ?_
    refine g_goto 24 ck rfl rfl ?_
    exact hX24 _ _ _ _ _ _ _ _ hu11 hu12 rfl rfl h
  · replace h := ite_hf h hc
    obtain ⟨⟨hs4, hs5⟩, h⟩ := h
    refine g_al 190 ck rfl rfl rfl ?_
    refine g_il 192 ck rfl rfl rfl ?_
    refine g_il 194 ck rfl rfl rfl ?_
    refine g_cvi (as := [_, _]) (rest := []) 197 ck rfl rfl rfl rfl rfl rfl (by decide) (isP_c ho7) rfl rfl rfl (Nat.le_of_ble_eq_true rfl) (s82 ho7 hs4 hs5 ?_)
    replace h := h _ rfl
    refine g_ifne 200 202 ck rfl rfl rfl rg_b2i (fun hc => ?_) (fun hc => ?_)
    · replace h := ite_ht h (b2i_t hc)
      refine r_ii 205 ck rfl rfl rfl rfl ?_
      refine g_goto 24 ck rfl rfl ?_
      exact hX24 _ _ _ _ _ _ _ _ hu11 hu12 rfl rfl h
    · replace h := ite_hf h (b2i_f (Classical.not_not.mp hc))
      refine g_ic 201 ck rfl rfl ?_
      exact g_retb ck rfl rfl (Or.inl rfl) h
def w1_146 (B : va_E) (σ : l2_m) (o1 : Nat) (x2 : Int) (x3 : Int) (o4 : Nat) (x5 : Int) (x6 : Int) (o7 : Nat) (x8 : Int) (x9 : Int) (x10 : Int) (x12 : Int) (x13 : Int) (x14 : Int) (X24 : Int → Int → Int → l2_m → Prop) (K : Int → l2_m → Prop) : Prop := ((rg x12 ∧ rg x13) ∧ (if x12 = x13 then ((0 ≤ x9 ∧ x9 < 60) ∧ ∀ x14' : Int, x14' = (x14 + (x5 * (σ (o4 + 2) x9))) → w1_172 B σ o1 x2 x3 o4 x5 x6 o7 x8 (x9 + 1) x10 x13 x14' X24 K) else w1_172 B σ o1 x2 x3 o4 x5 x6 o7 x8 x9 x10 x13 x14 X24 K))
theorem o1_146 {B : va_E} {σ : l2_m} {o1 : Nat} {x2 : Int} {x3 : Int} {o4 : Nat} {x5 : Int} {x6 : Int} {o7 : Nat} {x8 : Int} {x9 : Int} {x10 : Int} {x12 : Int} {x13 : Int} {x14 : Int} {u11 : Value} {X24 : Int → Int → Int → l2_m → Prop} {K : Int → l2_m → Prop} (ho1 : isP o1) (ho4 : isP o4) (ho7 : isP o7) (hu11 : (u11.category == 1) = true) (hX24 : ∀ (x8 : Int) (x9 : Int) (x10 : Int) (σ : l2_m) (u11 : Value) (u12 : Value) (u13 : Value) (u14 : Value), (u11.category == 1) = true → (u12.category == 1) = true → (u13.category == 1) = true → (u14.category == 1) = true → X24 x8 x9 x10 σ → wW B 1 24 [vr 38, vr o1, vi x2, vi x3, vr o4, vi x5, vi x6, vr o7, vi x8, vi x9, vi x10, u11, u12, u13, u14] [] σ K) (h : w1_146 B σ o1 x2 x3 o4 x5 x6 o7 x8 x9 x10 x12 x13 x14 X24 K) : wW B 1 146 [vr 38, vr o1, vi x2, vi x3, vr o4, vi x5, vi x6, vr o7, vi x8, vi x9, vi x10, u11, vi x12, vi x13, vi x14] [] σ K := by
  have ck : pm_code 1 = pc_1 := rfl
  unfold w1_146 at h
  obtain ⟨⟨hs1, hs2⟩, h⟩ := h
  refine g_il 148 ck rfl rfl rfl ?_
  refine g_il 150 ck rfl rfl rfl ?_
  refine g_icne 153 172 ck rfl rfl rfl hs1 hs2 (fun hc => ?_) (fun hc => ?_)
  · replace h := ite_hf h hc
    exact o1_172 ho1 ho4 ho7 hu11 rfl hX24 h
  · replace h := ite_ht h (Classical.not_not.mp hc)
    obtain ⟨⟨hs3, hs4⟩, h⟩ := h
    refine g_il 155 ck rfl rfl rfl ?_
    refine g_il 157 ck rfl rfl rfl ?_
    refine g_al 159 ck rfl rfl rfl ?_
    refine r_gfr 162 _ ck rfl rfl (isP_1 ho4) (isX_g (isP_c ho4)) ?_
    refine g_il 164 ck rfl rfl rfl ?_
    refine g_ial (m := 60) 165 ck rfl rfl (isP_k ho4) hs3 hs4 ?_
    refine g_mul 166 ck rfl rfl ?_
    refine g_add 167 ck rfl rfl ?_
    refine r_is 169 ck rfl rfl rfl rfl ?_
    replace h := h _ rfl
    refine r_ii 172 ck rfl rfl rfl rfl ?_
    exact o1_172 ho1 ho4 ho7 hu11 rfl hX24 h
def w1_97 (B : va_E) (σ : l2_m) (o1 : Nat) (x2 : Int) (x3 : Int) (o4 : Nat) (x5 : Int) (x6 : Int) (o7 : Nat) (x8 : Int) (x9 : Int) (x10 : Int) (x11 : Int) (z0 : Int) (X24 : Int → Int → Int → l2_m → Prop) (K : Int → l2_m → Prop) : Prop := ((rg x11 ∧ rg z0) ∧ ∀ x13 : Int, x13 = (max x11 z0) → (0 ≤ x13 ∧ x13 < 2147483648 ∧ rg (iand x13 16912)) ∧ (if (iand x13 16912) = 0 then (if x11 = x13 then ((0 ≤ x8 ∧ x8 < 60) ∧ ∀ x14 : Int, x14 = (0 + (x2 * (σ (o1 + 2) x8))) → w1_146 B σ o1 x2 x3 o4 x5 x6 o7 (x8 + 1) x9 x10 z0 x13 x14 X24 K) else w1_146 B σ o1 x2 x3 o4 x5 x6 o7 x8 x9 x10 z0 x13 0 X24 K) else K 0 σ))
theorem o1_97 {B : va_E} {σ : l2_m} {o1 : Nat} {x2 : Int} {x3 : Int} {o4 : Nat} {x5 : Int} {x6 : Int} {o7 : Nat} {x8 : Int} {x9 : Int} {x10 : Int} {x11 : Int} {z0 : Int} {u12 : Value} {u13 : Value} {u14 : Value} {X24 : Int → Int → Int → l2_m → Prop} {K : Int → l2_m → Prop} (ho1 : isP o1) (ho4 : isP o4) (ho7 : isP o7) (hu12 : (u12.category == 1) = true) (hu13 : (u13.category == 1) = true) (hu14 : (u14.category == 1) = true) (hX24 : ∀ (x8 : Int) (x9 : Int) (x10 : Int) (σ : l2_m) (u11 : Value) (u12 : Value) (u13 : Value) (u14 : Value), (u11.category == 1) = true → (u12.category == 1) = true → (u13.category == 1) = true → (u14.category == 1) = true → X24 x8 x9 x10 σ → wW B 1 24 [vr 38, vr o1, vi x2, vi x3, vr o4, vi x5, vi x6, vr o7, vi x8, vi x9, vi x10, u11, u12, u13, u14] [] σ K) (h : w1_97 B σ o1 x2 x3 o4 x5 x6 o7 x8 x9 x10 x11 z0 X24 K) : wW B 1 97 [vr 38, vr o1, vi x2, vi x3, vr o4, vi x5, vi x6, vr o7, vi x8, vi x9, vi x10, vi x11, u12, u13, u14] [vi z0] σ K := by
  have ck : pm_code 1 = pc_1 := rfl
  unfold w1_97 at h
  obtain ⟨⟨hs1, hs2⟩, h⟩ := h
  refine r_is 99 ck rfl rfl rfl rfl ?_
  refine g_il 101 ck rfl rfl rfl ?_
  refine g_il 103 ck rfl rfl rfl ?_
  refine g_max 106 ck rfl rfl hs1 hs2 (Nat.le_of_ble_eq_true rfl) ?_
  refine r_is 108 ck rfl rfl rfl rfl ?_
  replace h := h _ rfl
  obtain ⟨⟨hs3, hs4, hs5⟩, h⟩ := h
  refine g_il 110 ck rfl rfl rfl ?_
  refine g_ic 113 ck rfl rfl ?_
  refine g_and 114 ck rfl rfl hs3 (by decide) hs4 (by decide) ?_
  refine g_ifeq 117 119 ck rfl rfl rfl hs5 (fun hc => ?_) (fun hc => ?_)
  · replace h := ite_ht h hc
    refine g_ic 120 ck rfl rfl ?_
    refine r_is 122 ck rfl rfl rfl rfl ?_
    refine g_il 124 ck rfl rfl rfl ?_
    refine g_il 126 ck rfl rfl rfl ?_
    refine g_icne 129 146 ck rfl rfl rfl hs1 (rg_max hs1 hs2) (fun hc => ?_) (fun hc => ?_)
    · replace h := ite_hf h hc
      exact o1_146 ho1 ho4 ho7 rfl hX24 h
    · replace h := ite_ht h (Classical.not_not.mp hc)
      obtain ⟨⟨hs6, hs7⟩, h⟩ := h
      refine g_il 131 ck rfl rfl rfl ?_
      refine g_il 132 ck rfl rfl rfl ?_
      refine g_al 133 ck rfl rfl rfl ?_
      refine r_gfr 136 _ ck rfl rfl (isP_1 ho1) (isX_g (isP_c ho1)) ?_
      refine g_il 138 ck rfl rfl rfl ?_
      refine g_ial (m := 60) 139 ck rfl rfl (isP_k ho1) hs6 hs7 ?_
      refine g_mul 140 ck rfl rfl ?_
      refine g_add 141 ck rfl rfl ?_
      refine r_is 143 ck rfl rfl rfl rfl ?_
      replace h := h _ rfl
      refine r_ii 146 ck rfl rfl rfl rfl ?_
      exact o1_146 ho1 ho4 ho7 rfl hX24 h
  · replace h := ite_hf h hc
    refine g_ic 118 ck rfl rfl ?_
    exact g_retb ck rfl rfl (Or.inl rfl) h
def w1_70 (B : va_E) (σ : l2_m) (o1 : Nat) (x2 : Int) (x3 : Int) (o4 : Nat) (x5 : Int) (x6 : Int) (o7 : Nat) (x8 : Int) (x9 : Int) (x10 : Int) (z0 : Int) (X24 : Int → Int → Int → l2_m → Prop) (K : Int → l2_m → Prop) : Prop := ((rg x9 ∧ rg (σ o4 2)) ∧ (if x9 < (σ o4 2) then ((0 ≤ x9 ∧ x9 < 60) ∧ w1_97 B σ o1 x2 x3 o4 x5 x6 o7 x8 x9 x10 z0 ((σ (o4 + 1) x9) + x6) X24 K) else w1_97 B σ o1 x2 x3 o4 x5 x6 o7 x8 x9 x10 z0 (-1) X24 K))
theorem o1_70 {B : va_E} {σ : l2_m} {o1 : Nat} {x2 : Int} {x3 : Int} {o4 : Nat} {x5 : Int} {x6 : Int} {o7 : Nat} {x8 : Int} {x9 : Int} {x10 : Int} {z0 : Int} {u11 : Value} {u12 : Value} {u13 : Value} {u14 : Value} {X24 : Int → Int → Int → l2_m → Prop} {K : Int → l2_m → Prop} (ho1 : isP o1) (ho4 : isP o4) (ho7 : isP o7) (hu11 : (u11.category == 1) = true) (hu12 : (u12.category == 1) = true) (hu13 : (u13.category == 1) = true) (hu14 : (u14.category == 1) = true) (hX24 : ∀ (x8 : Int) (x9 : Int) (x10 : Int) (σ : l2_m) (u11 : Value) (u12 : Value) (u13 : Value) (u14 : Value), (u11.category == 1) = true → (u12.category == 1) = true → (u13.category == 1) = true → (u14.category == 1) = true → X24 x8 x9 x10 σ → wW B 1 24 [vr 38, vr o1, vi x2, vi x3, vr o4, vi x5, vi x6, vr o7, vi x8, vi x9, vi x10, u11, u12, u13, u14] [] σ K) (h : w1_70 B σ o1 x2 x3 o4 x5 x6 o7 x8 x9 x10 z0 X24 K) : wW B 1 70 [vr 38, vr o1, vi x2, vi x3, vr o4, vi x5, vi x6, vr o7, vi x8, vi x9, vi x10, u11, u12, u13, u14] [vi z0] σ K := by
  have ck : pm_code 1 = pc_1 := rfl
  unfold w1_70 at h
  obtain ⟨⟨hs1, hs2⟩, h⟩ := h
  refine r_is 72 ck rfl rfl rfl rfl ?_
  refine g_il 74 ck rfl rfl rfl ?_
  refine g_al 76 ck rfl rfl rfl ?_
  refine r_gfi 79 2 ck rfl rfl (isP_2 ho4) rfl ?_
  refine g_icge 82 96 ck rfl rfl rfl hs1 hs2 (fun hc => ?_) (fun hc => ?_)
  · replace h := ite_hf h (Int.not_lt.mpr hc)
    refine g_ic 97 ck rfl rfl ?_
    exact o1_97 ho1 ho4 ho7 hu12 hu13 hu14 hX24 h
  · replace h := ite_ht h (Int.not_le.mp hc)
    obtain ⟨⟨hs3, hs4⟩, h⟩ := h
    refine g_al 84 ck rfl rfl rfl ?_
    refine r_gfr 87 _ ck rfl rfl (isP_0 ho4) (isX_g (isP_c ho4)) ?_
    refine g_il 89 ck rfl rfl rfl ?_
    refine g_ial (m := 60) 90 ck rfl rfl (isP_m ho4) hs3 hs4 ?_
    refine g_il 92 ck rfl rfl rfl ?_
    refine g_add 93 ck rfl rfl ?_
    refine g_goto 97 ck rfl rfl ?_
    exact o1_97 ho1 ho4 ho7 hu12 hu13 hu14 hX24 h
def w1_48 (B : va_E) (σ : l2_m) (o1 : Nat) (x2 : Int) (x3 : Int) (o4 : Nat) (x5 : Int) (x6 : Int) (o7 : Nat) (x8 : Int) (x9 : Int) (x10 : Int) (X24 : Int → Int → Int → l2_m → Prop) (K : Int → l2_m → Prop) : Prop := ((rg x8 ∧ rg (σ o1 2)) ∧ (if x8 < (σ o1 2) then ((0 ≤ x8 ∧ x8 < 60) ∧ w1_70 B σ o1 x2 x3 o4 x5 x6 o7 x8 x9 x10 ((σ (o1 + 1) x8) + x3) X24 K) else w1_70 B σ o1 x2 x3 o4 x5 x6 o7 x8 x9 x10 (-1) X24 K))
theorem o1_48 {B : va_E} {σ : l2_m} {o1 : Nat} {x2 : Int} {x3 : Int} {o4 : Nat} {x5 : Int} {x6 : Int} {o7 : Nat} {x8 : Int} {x9 : Int} {x10 : Int} {u11 : Value} {u12 : Value} {u13 : Value} {u14 : Value} {X24 : Int → Int → Int → l2_m → Prop} {K : Int → l2_m → Prop} (ho1 : isP o1) (ho4 : isP o4) (ho7 : isP o7) (hu11 : (u11.category == 1) = true) (hu12 : (u12.category == 1) = true) (hu13 : (u13.category == 1) = true) (hu14 : (u14.category == 1) = true) (hX24 : ∀ (x8 : Int) (x9 : Int) (x10 : Int) (σ : l2_m) (u11 : Value) (u12 : Value) (u13 : Value) (u14 : Value), (u11.category == 1) = true → (u12.category == 1) = true → (u13.category == 1) = true → (u14.category == 1) = true → X24 x8 x9 x10 σ → wW B 1 24 [vr 38, vr o1, vi x2, vi x3, vr o4, vi x5, vi x6, vr o7, vi x8, vi x9, vi x10, u11, u12, u13, u14] [] σ K) (h : w1_48 B σ o1 x2 x3 o4 x5 x6 o7 x8 x9 x10 X24 K) : wW B 1 48 [vr 38, vr o1, vi x2, vi x3, vr o4, vi x5, vi x6, vr o7, vi x8, vi x9, vi x10, u11, u12, u13, u14] [] σ K := by
  have ck : pm_code 1 = pc_1 := rfl
  unfold w1_48 at h
  obtain ⟨⟨hs1, hs2⟩, h⟩ := h
  refine g_il 50 ck rfl rfl rfl ?_
  refine g_al 51 ck rfl rfl rfl ?_
  refine r_gfi 54 2 ck rfl rfl (isP_2 ho1) rfl ?_
  refine g_icge 57 69 ck rfl rfl rfl hs1 hs2 (fun hc => ?_) (fun hc => ?_)
  · replace h := ite_hf h (Int.not_lt.mpr hc)
    refine g_ic 70 ck rfl rfl ?_
    exact o1_70 ho1 ho4 ho7 hu11 hu12 hu13 hu14 hX24 h
  · replace h := ite_ht h (Int.not_le.mp hc)
    obtain ⟨⟨hs3, hs4⟩, h⟩ := h
    refine g_al 58 ck rfl rfl rfl ?_
    refine r_gfr 61 _ ck rfl rfl (isP_0 ho1) (isX_g (isP_c ho1)) ?_
    refine g_il 63 ck rfl rfl rfl ?_
    refine g_ial (m := 60) 64 ck rfl rfl (isP_m ho1) hs3 hs4 ?_
    refine g_il 65 ck rfl rfl rfl ?_
    refine g_add 66 ck rfl rfl ?_
    refine g_goto 70 ck rfl rfl ?_
    exact o1_70 ho1 ho4 ho7 hu11 hu12 hu13 hu14 hX24 h
def w1_24 (B : va_E) (σ : l2_m) (o1 : Nat) (x2 : Int) (x3 : Int) (o4 : Nat) (x5 : Int) (x6 : Int) (o7 : Nat) (x8 : Int) (x9 : Int) (x10 : Int)  (K : Int → l2_m → Prop) : Prop := lz4 (fun X24 x8 x9 x10 σ => (rg x10 ∧ (if 0 < x10 then ((rg x8 ∧ rg (σ o1 2)) ∧ ((¬ x8 < (σ o1 2) → rg x9 ∧ rg (σ o4 2)) ∧ (if x8 < (σ o1 2) ∨ x9 < (σ o4 2) then w1_48 B σ o1 x2 x3 o4 x5 x6 o7 x8 x9 x10 X24 K else K 1 σ))) else K 1 σ))) x8 x9 x10 σ
theorem o1_24 {B : va_E} {σ : l2_m} {o1 : Nat} {x2 : Int} {x3 : Int} {o4 : Nat} {x5 : Int} {x6 : Int} {o7 : Nat} {x8 : Int} {x9 : Int} {x10 : Int} {u11 : Value} {u12 : Value} {u13 : Value} {u14 : Value}  {K : Int → l2_m → Prop} (ho1 : isP o1) (ho4 : isP o4) (ho7 : isP o7) (hu11 : (u11.category == 1) = true) (hu12 : (u12.category == 1) = true) (hu13 : (u13.category == 1) = true) (hu14 : (u14.category == 1) = true)  (h : w1_24 B σ o1 x2 x3 o4 x5 x6 o7 x8 x9 x10  K) : wW B 1 24 [vr 38, vr o1, vi x2, vi x3, vr o4, vi x5, vi x6, vr o7, vi x8, vi x9, vi x10, u11, u12, u13, u14] [] σ K := by
  have ck : pm_code 1 = pc_1 := rfl
  unfold w1_24 at h
  refine h (fun x8 x9 x10 σ => ∀ u11 : Value, (u11.category == 1) = true → ∀ u12 : Value, (u12.category == 1) = true → ∀ u13 : Value, (u13.category == 1) = true → ∀ u14 : Value, (u14.category == 1) = true → wW B 1 24 [vr 38, vr o1, vi x2, vi x3, vr o4, vi x5, vi x6, vr o7, vi x8, vi x9, vi x10, u11, u12, u13, u14] [] σ K) ?_ u11 hu11 u12 hu12 u13 hu13 u14 hu14
  clear h
  intro x8 x9 x10 σ h u11 hu11 u12 hu12 u13 hu13 u14 hu14
  replace h := (And.imp_right (ite_mp (And.imp_right mg_1s) id)) h
  obtain ⟨hs1, h⟩ := h
  refine g_il 26 ck rfl rfl rfl ?_
  refine g_ifle 29 208 ck rfl rfl rfl hs1 (fun hc => ?_) (fun hc => ?_)
  · replace h := ite_hf h (Int.not_lt.mpr hc)
    refine g_ic 209 ck rfl rfl ?_
    exact g_retb ck rfl rfl (Or.inr rfl) h
  · replace h := ite_ht h (Int.not_le.mp hc)
    obtain ⟨⟨hs2, hs3⟩, h⟩ := h
    refine g_il 31 ck rfl rfl rfl ?_
    refine g_al 32 ck rfl rfl rfl ?_
    refine r_gfi 35 2 ck rfl rfl (isP_2 ho1) rfl ?_
    refine g_iclt 38 48 ck rfl rfl rfl hs2 hs3 (fun hc => ?_) (fun hc => ?_)
    · replace h := ite_ht h hc
      exact o1_48 ho1 ho4 ho7 hu11 hu12 hu13 hu14 (fun _ _ _ _ u11 u12 u13 u14 hu11 hu12 hu13 hu14 hx => hx u11 hu11 u12 hu12 u13 hu13 u14 hu14) h
    · replace h := ite_hf h hc
      obtain ⟨⟨hs4, hs5⟩, h⟩ := h
      refine g_il 40 ck rfl rfl rfl ?_
      refine g_al 42 ck rfl rfl rfl ?_
      refine r_gfi 45 2 ck rfl rfl (isP_2 ho4) rfl ?_
      refine g_icge 48 208 ck rfl rfl rfl hs4 hs5 (fun hc => ?_) (fun hc => ?_)
      · replace h := ite_hf h (Int.not_lt.mpr hc)
        refine g_ic 209 ck rfl rfl ?_
        exact g_retb ck rfl rfl (Or.inr rfl) h
      · replace h := ite_ht h (Int.not_le.mp hc)
        exact o1_48 ho1 ho4 ho7 hu11 hu12 hu13 hu14 (fun _ _ _ _ u11 u12 u13 u14 hu11 hu12 hu13 hu14 hx => hx u11 hu11 u12 hu12 u13 hu13 u14 hu14) h
def w1 (B : va_E) (σ : l2_m) (o1 : Nat) (x2 : Int) (x3 : Int) (o4 : Nat) (x5 : Int) (x6 : Int) (o7 : Nat) (K : Int → l2_m → Prop) : Prop := (∀ σ' : l2_m, σ' = l2_u σ o7 2 0 → ∀ x10 : Int, x10 = ((σ' o1 2) + (σ' o4 2)) → w1_24 B σ' o1 x2 x3 o4 x5 x6 o7 0 0 x10 K)
theorem o1 {B : va_E} {σ : l2_m} {o1 : Nat} {x2 : Int} {x3 : Int} {o4 : Nat} {x5 : Int} {x6 : Int} {o7 : Nat} {K : Int → l2_m → Prop} (ho1 : isP o1) (ho4 : isP o4) (ho7 : isP o7)  (h : w1 B σ o1 x2 x3 o4 x5 x6 o7  K) : wC B 1 [vr 38, vr o1, vi x2, vi x3, vr o4, vi x5, vi x6, vr o7] σ K := by
  have ck : pm_code 1 = pc_1 := rfl
  unfold w1 at h
  show wW B 1 0 [vr 38, vr o1, vi x2, vi x3, vr o4, vi x5, vi x6, vr o7, pm_un, pm_un, pm_un, pm_un, pm_un, pm_un, pm_un] [] σ K
  refine g_al 2 ck rfl rfl rfl ?_
  refine g_ic 3 ck rfl rfl ?_
  refine g_pfi 6 ck rfl rfl (isP_2 ho7) 2 rfl rfl ?_
  replace h := h _ rfl
  refine g_ic 7 ck rfl rfl ?_
  refine r_is 9 ck rfl rfl rfl rfl ?_
  refine g_ic 10 ck rfl rfl ?_
  refine r_is 12 ck rfl rfl rfl rfl ?_
  refine g_al 13 ck rfl rfl rfl ?_
  refine r_gfi 16 2 ck rfl rfl (isP_2 ho1) rfl ?_
  refine g_al 18 ck rfl rfl rfl ?_
  refine r_gfi 21 2 ck rfl rfl (isP_2 ho4) rfl ?_
  refine g_add 22 ck rfl rfl ?_
  refine r_is 24 ck rfl rfl rfl rfl ?_
  replace h := h _ rfl
  exact o1_24 ho1 ho4 ho7 rfl rfl rfl rfl h
/-! 2 TermDesk$Arithmetic.multiplyByTerm(LTermDesk$Poly;IILTermDesk$Poly;)Z -/
def w2 (B : va_E) (σ : l2_m) (o1 : Nat) (x2 : Int) (x3 : Int) (o4 : Nat) (K : Int → l2_m → Prop) : Prop := (rg x2 ∧ (if x2 = 0 then (∀ σ'' : l2_m, σ'' = l2_u σ o4 2 0 → K 1 σ'') else (wC B 1 [vr 38, vr o1, vi x2, vi x3, vr 41, vi 0, vi 0, vr o4] σ (fun y σ' => ((y = 0 ∨ y = 1) ∧ K y σ')))))
theorem o2 {B : va_E} {σ : l2_m} {o1 : Nat} {x2 : Int} {x3 : Int} {o4 : Nat} {K : Int → l2_m → Prop} (ho1 : isP o1) (ho4 : isP o4)  (h : w2 B σ o1 x2 x3 o4  K) : wC B 2 [vr 38, vr o1, vi x2, vi x3, vr o4] σ K := by
  have ck : pm_code 2 = pc_2 := rfl
  unfold w2 at h
  show wW B 2 0 [vr 38, vr o1, vi x2, vi x3, vr o4] [] σ K
  obtain ⟨hs1, h⟩ := h
  refine g_il 1 ck rfl rfl rfl ?_
  refine g_ifne 4 12 ck rfl rfl rfl hs1 (fun hc => ?_) (fun hc => ?_)
  · replace h := ite_hf h hc
    refine g_al 13 ck rfl rfl rfl ?_
    refine g_al 14 ck rfl rfl rfl ?_
    refine g_il 15 ck rfl rfl rfl ?_
    refine g_il 16 ck rfl rfl rfl ?_
    refine g_al 17 ck rfl rfl rfl ?_
    refine r_gfr 20 41 ck rfl rfl rfl (by decide) ?_
    refine g_ic 21 ck rfl rfl ?_
    refine g_ic 22 ck rfl rfl ?_
    refine g_al 24 ck rfl rfl rfl ?_
    refine g_cvi (as := [_, _, _, _, _, _, _]) (rest := []) 27 ck rfl rfl rfl rfl rfl rfl (by decide) rfl rfl rfl rfl (Nat.le_of_ble_eq_true rfl) (wC.mono h (fun y σ' h => ?_))
    obtain ⟨hs2, h⟩ := h
    exact g_retb ck rfl rfl hs2 h
  · replace h := ite_ht h (Classical.not_not.mp hc)
    refine g_al 6 ck rfl rfl rfl ?_
    refine g_ic 7 ck rfl rfl ?_
    refine g_pfi 10 ck rfl rfl (isP_2 ho4) 2 rfl rfl ?_
    replace h := h _ rfl
    refine g_ic 11 ck rfl rfl ?_
    exact g_retb ck rfl rfl (Or.inr rfl) h
/-! 3 TermDesk$Arithmetic.multiply(LTermDesk$Poly;LTermDesk$Poly;LTermDesk$Poly;)Z -/
def w3_126 (B : va_E) (σ : l2_m) (o3 : Nat) (x4 : Int)  (K : Int → l2_m → Prop) : Prop := lz2 (fun X126 x4 σ => (rg x4 ∧ (if x4 < 4096 then ((0 ≤ x4 ∧ x4 < 4096 ∧ 2 ≤ (σ 34 0) ∧ (σ 34 0) ≤ 97 ∧ rg (σ 44 x4)) ∧ ∀ x5 : Int, x5 = ((σ 44 x4) % (σ 34 0)) → (if x5 = 0 then X126 (x4 + 1) σ else (∀ x6 : Int, x6 = ((((x4 % 16) * (σ (36 + 1) 0)) + (((x4 / 16) % 16) * (σ (36 + 1) 1))) + ((x4 / 256) * (σ (36 + 1) 2))) → (0 ≤ (σ o3 2) ∧ rg (σ o3 2)) ∧ ∀ σ'' : l2_m, σ'' = app σ o3 x6 x5 → (if (σ o3 2) < 60 then X126 (x4 + 1) σ'' else K 0 σ'')))) else (wC B 90 [vr o3] σ (fun _ σ' => K 1 σ'))))) x4 σ
theorem o3_126 {B : va_E} {σ : l2_m} {o3 : Nat} {x4 : Int} {u1 : Value} {u2 : Value} {u5 : Value} {u6 : Value}  {K : Int → l2_m → Prop} (ho3 : isP o3) (hu1 : (u1.category == 1) = true) (hu2 : (u2.category == 1) = true) (hu5 : (u5.category == 1) = true) (hu6 : (u6.category == 1) = true)  (h : w3_126 B σ o3 x4  K) : wW B 3 126 [vr 38, u1, u2, vr o3, vi x4, u5, u6] [] σ K := by
  have ck : pm_code 3 = pc_3 := rfl
  unfold w3_126 at h
  refine h (fun x4 σ => ∀ u1 : Value, (u1.category == 1) = true → ∀ u2 : Value, (u2.category == 1) = true → ∀ u5 : Value, (u5.category == 1) = true → ∀ u6 : Value, (u6.category == 1) = true → wW B 3 126 [vr 38, u1, u2, vr o3, vi x4, u5, u6] [] σ K) ?_ u1 hu1 u2 hu2 u5 hu5 u6 hu6
  clear h
  intro x4 σ h u1 hu1 u2 hu2 u5 hu5 u6 hu6
  obtain ⟨hs1, h⟩ := h
  refine g_il 128 ck rfl rfl rfl ?_
  refine g_ic 131 ck rfl rfl ?_
  refine g_icge 134 200 ck rfl rfl rfl hs1 (by decide) (fun hc => ?_) (fun hc => ?_)
  · replace h := ite_hf h (Int.not_lt.mpr hc)
    refine g_al 201 ck rfl rfl rfl ?_
    refine g_cvv (as := []) (rest := []) 204 ck rfl rfl rfl rfl rfl rfl (isP_c ho3) rfl rfl rfl (Nat.le_of_ble_eq_true rfl) (wC.mono h (fun _ σ' h => ?_))
    refine g_ic 205 ck rfl rfl ?_
    exact g_retb ck rfl rfl (Or.inr rfl) h
  · replace h := ite_ht h (Int.not_le.mp hc)
    obtain ⟨⟨hs2, hs3, hs4, hs5, hs6⟩, h⟩ := h
    refine g_al 135 ck rfl rfl rfl ?_
    refine r_gfr 138 34 ck rfl rfl rfl (by decide) ?_
    refine g_al 139 ck rfl rfl rfl ?_
    refine r_gfr 142 44 ck rfl rfl rfl (by decide) ?_
    refine g_il 144 ck rfl rfl rfl ?_
    refine g_ial (m := 4096) 145 ck rfl rfl rfl hs2 hs3 ?_
    refine g_cvi (as := [_]) (rest := []) 148 ck rfl rfl rfl rfl rfl rfl (by decide) rfl rfl rfl rfl (Nat.le_of_ble_eq_true rfl) (s72 rfl hs4 hs5 hs6 ?_)
    refine r_is 150 ck rfl rfl rfl rfl ?_
    replace h := h _ rfl
    refine g_il 152 ck rfl rfl rfl ?_
    refine g_ifeq 155 194 ck rfl rfl rfl (rg_md hs4 hs5) (fun hc => ?_) (fun hc => ?_)
    · replace h := ite_ht h hc
      refine r_ii 197 ck rfl rfl rfl rfl ?_
      refine g_goto 126 ck rfl rfl ?_
      exact h _ hu1 _ hu2 _ rfl _ hu6
    · replace h := ite_hf h hc
      refine g_al 156 ck rfl rfl rfl ?_
      refine r_gfr 159 36 ck rfl rfl rfl (by decide) ?_
      refine g_il 161 ck rfl rfl rfl ?_
      refine g_ic 163 ck rfl rfl ?_
      refine r_andk 16 4 164 ck rfl rfl (by decide) (by decide) (by decide) ?_
      refine g_il 166 ck rfl rfl rfl ?_
      refine g_ic 167 ck rfl rfl ?_
      refine r_shrk 16 168 ck rfl rfl hs1 (by decide) (by decide) (by decide) ?_
      refine g_ic 170 ck rfl rfl ?_
      refine r_andk 16 4 171 ck rfl rfl (by decide) (by decide) (by decide) ?_
      refine g_il 173 ck rfl rfl rfl ?_
      refine g_ic 175 ck rfl rfl ?_
      refine r_shrk 256 176 ck rfl rfl hs1 (by decide) (by decide) (by decide) ?_
      refine g_cvi (as := [_, _, _]) (rest := []) 179 ck rfl rfl rfl rfl rfl rfl (by decide) rfl rfl rfl rfl (Nat.le_of_ble_eq_true rfl) (s78 rfl ?_)
      refine r_is 181 ck rfl rfl rfl rfl ?_
      replace h := h _ rfl
      obtain ⟨⟨hs7, hs8⟩, h⟩ := h
      refine g_al 182 ck rfl rfl rfl ?_
      refine g_il 184 ck rfl rfl rfl ?_
      refine g_il 186 ck rfl rfl rfl ?_
      refine g_cvi (as := [_, _]) (rest := []) 189 ck rfl rfl rfl rfl rfl rfl (by decide) (isP_c ho3) rfl rfl rfl (Nat.le_of_ble_eq_true rfl) (s82 ho3 hs7 hs8 ?_)
      replace h := h _ rfl
      refine g_ifne 192 194 ck rfl rfl rfl rg_b2i (fun hc => ?_) (fun hc => ?_)
      · replace h := ite_ht h (b2i_t hc)
        refine r_ii 197 ck rfl rfl rfl rfl ?_
        refine g_goto 126 ck rfl rfl ?_
        exact h _ hu1 _ hu2 _ rfl _ rfl
      · replace h := ite_hf h (b2i_f (Classical.not_not.mp hc))
        refine g_ic 193 ck rfl rfl ?_
        exact g_retb ck rfl rfl (Or.inl rfl) h
def w3_28 (B : va_E) (σ : l2_m) (o1 : Nat) (o2 : Nat) (o3 : Nat) (x4 : Int) (x5 : Int) (X16 : Int → l2_m → Prop) (K : Int → l2_m → Prop) : Prop := lz2 (fun X28 x5 σ => ((rg x5 ∧ rg (σ o2 2)) ∧ (if x5 < (σ o2 2) then ((0 ≤ x4 ∧ x4 < 60 ∧ 0 ≤ x5 ∧ x5 < 60) ∧ ∀ x6 : Int, x6 = ((σ (o1 + 1) x4) + (σ (o2 + 1) x5)) → (0 ≤ x6 ∧ x6 < 2147483648 ∧ rg (iand x6 16912)) ∧ (if (iand x6 16912) = 0 then ((rg x6 ∧ 0 ≤ (x6 / 2) ∧ (x6 / 2) < 2147483648 ∧ 0 ≤ (x6 % 16) ∧ 0 ≤ (iand (x6 / 2) 240) ∧ (x6 % 16) < 2147483648 ∧ (iand (x6 / 2) 240) < 2147483648 ∧ 0 ≤ (x6 / 4) ∧ (x6 / 4) < 2147483648 ∧ 0 ≤ (ior (x6 % 16) (iand (x6 / 2) 240)) ∧ 0 ≤ (iand (x6 / 4) 3840) ∧ (ior (x6 % 16) (iand (x6 / 2) 240)) < 2147483648 ∧ (iand (x6 / 4) 3840) < 2147483648 ∧ 0 ≤ (ior (ior (x6 % 16) (iand (x6 / 2) 240)) (iand (x6 / 4) 3840)) ∧ (ior (ior (x6 % 16) (iand (x6 / 2) 240)) (iand (x6 / 4) 3840)) < 4096) ∧ ∀ σ' : l2_m, σ' = l2_u σ 44 (ior (ior (x6 % 16) (iand (x6 / 2) 240)) (iand (x6 / 4) 3840)) ((σ 44 (ior (ior (x6 % 16) (iand (x6 / 2) 240)) (iand (x6 / 4) 3840))) + ((σ (o1 + 2) x4) * (σ (o2 + 2) x5))) → X28 (x5 + 1) σ') else K 0 σ)) else X16 (x4 + 1) σ))) x5 σ
theorem o3_28 {B : va_E} {σ : l2_m} {o1 : Nat} {o2 : Nat} {o3 : Nat} {x4 : Int} {x5 : Int} {u6 : Value} {X16 : Int → l2_m → Prop} {K : Int → l2_m → Prop} (ho1 : isP o1) (ho2 : isP o2) (ho3 : isP o3) (hu6 : (u6.category == 1) = true) (hX16 : ∀ (x4 : Int) (σ : l2_m) (u5 : Value) (u6 : Value), (u5.category == 1) = true → (u6.category == 1) = true → X16 x4 σ → wW B 3 16 [vr 38, vr o1, vr o2, vr o3, vi x4, u5, u6] [] σ K) (h : w3_28 B σ o1 o2 o3 x4 x5 X16 K) : wW B 3 28 [vr 38, vr o1, vr o2, vr o3, vi x4, vi x5, u6] [] σ K := by
  have ck : pm_code 3 = pc_3 := rfl
  unfold w3_28 at h
  refine h (fun x5 σ => ∀ u6 : Value, (u6.category == 1) = true → wW B 3 28 [vr 38, vr o1, vr o2, vr o3, vi x4, vi x5, u6] [] σ K) ?_ u6 hu6
  clear h
  intro x5 σ h u6 hu6
  obtain ⟨⟨hs1, hs2⟩, h⟩ := h
  refine g_il 30 ck rfl rfl rfl ?_
  refine g_al 31 ck rfl rfl rfl ?_
  refine r_gfi 34 2 ck rfl rfl (isP_2 ho2) rfl ?_
  refine g_icge 37 117 ck rfl rfl rfl hs1 hs2 (fun hc => ?_) (fun hc => ?_)
  · replace h := ite_hf h (Int.not_lt.mpr hc)
    refine r_ii 120 ck rfl rfl rfl rfl ?_
    refine g_goto 16 ck rfl rfl ?_
    exact hX16 _ _ _ _ rfl hu6 h
  · replace h := ite_ht h (Int.not_le.mp hc)
    obtain ⟨⟨hs3, hs4, hs5, hs6⟩, h⟩ := h
    refine g_al 38 ck rfl rfl rfl ?_
    refine r_gfr 41 _ ck rfl rfl (isP_0 ho1) (isX_g (isP_c ho1)) ?_
    refine g_il 43 ck rfl rfl rfl ?_
    refine g_ial (m := 60) 44 ck rfl rfl (isP_m ho1) hs3 hs4 ?_
    refine g_al 45 ck rfl rfl rfl ?_
    refine r_gfr 48 _ ck rfl rfl (isP_0 ho2) (isX_g (isP_c ho2)) ?_
    refine g_il 50 ck rfl rfl rfl ?_
    refine g_ial (m := 60) 51 ck rfl rfl (isP_m ho2) hs5 hs6 ?_
    refine g_add 52 ck rfl rfl ?_
    refine r_is 54 ck rfl rfl rfl rfl ?_
    replace h := h _ rfl
    obtain ⟨⟨hs7, hs8, hs9⟩, h⟩ := h
    refine g_il 56 ck rfl rfl rfl ?_
    refine g_ic 59 ck rfl rfl ?_
    refine g_and 60 ck rfl rfl hs7 (by decide) hs8 (by decide) ?_
    refine g_ifeq 63 65 ck rfl rfl rfl hs9 (fun hc => ?_) (fun hc => ?_)
    · replace h := ite_ht h hc
      obtain ⟨⟨hs10, hs11, hs12, hs13, hs14, hs15, hs16, hs17, hs18, hs19, hs20, hs21, hs22, hs23, hs24⟩, h⟩ := h
      refine g_al 66 ck rfl rfl rfl ?_
      refine r_gfr 69 44 ck rfl rfl rfl (by decide) ?_
      refine g_il 71 ck rfl rfl rfl ?_
      refine g_ic 73 ck rfl rfl ?_
      refine r_andk 16 4 74 ck rfl rfl (by decide) (by decide) (by decide) ?_
      refine g_il 76 ck rfl rfl rfl ?_
      refine g_ic 77 ck rfl rfl ?_
      refine r_shrk 2 78 ck rfl rfl hs10 (by decide) (by decide) (by decide) ?_
      refine g_ic 81 ck rfl rfl ?_
      refine g_and 82 ck rfl rfl hs11 (by decide) hs12 (by decide) ?_
      refine g_or 83 ck rfl rfl hs13 hs14 hs15 hs16 ?_
      refine g_il 85 ck rfl rfl rfl ?_
      refine g_ic 86 ck rfl rfl ?_
      refine r_shrk 4 87 ck rfl rfl hs10 (by decide) (by decide) (by decide) ?_
      refine g_ic 90 ck rfl rfl ?_
      refine g_and 91 ck rfl rfl hs17 (by decide) hs18 (by decide) ?_
      refine g_or 92 ck rfl rfl hs19 hs20 hs21 hs22 ?_
      refine g_dup2 93 ck rfl rfl rfl rfl ?_
      refine g_ial (m := 4096) 94 ck rfl rfl rfl hs23 hs24 ?_
      refine g_al 95 ck rfl rfl rfl ?_
      refine r_gfr 98 _ ck rfl rfl (isP_1 ho1) (isX_g (isP_c ho1)) ?_
      refine g_il 100 ck rfl rfl rfl ?_
      refine g_ial (m := 60) 101 ck rfl rfl (isP_k ho1) hs3 hs4 ?_
      refine g_al 102 ck rfl rfl rfl ?_
      refine r_gfr 105 _ ck rfl rfl (isP_1 ho2) (isX_g (isP_c ho2)) ?_
      refine g_il 107 ck rfl rfl rfl ?_
      refine g_ial (m := 60) 108 ck rfl rfl (isP_k ho2) hs5 hs6 ?_
      refine g_mul 109 ck rfl rfl ?_
      refine g_add 110 ck rfl rfl ?_
      refine g_ias (m := 4096) 111 ck rfl rfl rfl hs23 hs24 ?_
      replace h := h _ rfl
      refine r_ii 114 ck rfl rfl rfl rfl ?_
      refine g_goto 28 ck rfl rfl ?_
      exact h _ rfl
    · replace h := ite_hf h hc
      refine g_ic 64 ck rfl rfl ?_
      exact g_retb ck rfl rfl (Or.inl rfl) h
def w3_16 (B : va_E) (σ : l2_m) (o1 : Nat) (o2 : Nat) (o3 : Nat) (x4 : Int)  (K : Int → l2_m → Prop) : Prop := lz2 (fun X16 x4 σ => ((rg x4 ∧ rg (σ o1 2)) ∧ (if x4 < (σ o1 2) then w3_28 B σ o1 o2 o3 x4 0 X16 K else w3_126 B σ o3 0 K))) x4 σ
theorem o3_16 {B : va_E} {σ : l2_m} {o1 : Nat} {o2 : Nat} {o3 : Nat} {x4 : Int} {u5 : Value} {u6 : Value}  {K : Int → l2_m → Prop} (ho1 : isP o1) (ho2 : isP o2) (ho3 : isP o3) (hu5 : (u5.category == 1) = true) (hu6 : (u6.category == 1) = true)  (h : w3_16 B σ o1 o2 o3 x4  K) : wW B 3 16 [vr 38, vr o1, vr o2, vr o3, vi x4, u5, u6] [] σ K := by
  have ck : pm_code 3 = pc_3 := rfl
  unfold w3_16 at h
  refine h (fun x4 σ => ∀ u5 : Value, (u5.category == 1) = true → ∀ u6 : Value, (u6.category == 1) = true → wW B 3 16 [vr 38, vr o1, vr o2, vr o3, vi x4, u5, u6] [] σ K) ?_ u5 hu5 u6 hu6
  clear h
  intro x4 σ h u5 hu5 u6 hu6
  obtain ⟨⟨hs1, hs2⟩, h⟩ := h
  refine g_il 18 ck rfl rfl rfl ?_
  refine g_al 19 ck rfl rfl rfl ?_
  refine r_gfi 22 2 ck rfl rfl (isP_2 ho1) rfl ?_
  refine g_icge 25 123 ck rfl rfl rfl hs1 hs2 (fun hc => ?_) (fun hc => ?_)
  · replace h := ite_hf h (Int.not_lt.mpr hc)
    refine g_ic 124 ck rfl rfl ?_
    refine r_is 126 ck rfl rfl rfl rfl ?_
    exact o3_126 ho3 rfl rfl hu5 hu6 h
  · replace h := ite_ht h (Int.not_le.mp hc)
    refine g_ic 26 ck rfl rfl ?_
    refine r_is 28 ck rfl rfl rfl rfl ?_
    exact o3_28 ho1 ho2 ho3 hu6 (fun _ _ u5 u6 hu5 hu6 hx => hx u5 hu5 u6 hu6) h
def w3 (B : va_E) (σ : l2_m) (o1 : Nat) (o2 : Nat) (o3 : Nat) (K : Int → l2_m → Prop) : Prop := (∀ σ' : l2_m, σ' = l2_u σ o3 2 0 → ∀ σ'' : l2_m, σ'' = fil σ' 44 0 ((4096 : Nat) : Int) → w3_16 B σ'' o1 o2 o3 0 K)
theorem o3 {B : va_E} {σ : l2_m} {o1 : Nat} {o2 : Nat} {o3 : Nat} {K : Int → l2_m → Prop} (ho1 : isP o1) (ho2 : isP o2) (ho3 : isP o3)  (h : w3 B σ o1 o2 o3  K) : wC B 3 [vr 38, vr o1, vr o2, vr o3] σ K := by
  have ck : pm_code 3 = pc_3 := rfl
  unfold w3 at h
  show wW B 3 0 [vr 38, vr o1, vr o2, vr o3, pm_un, pm_un, pm_un] [] σ K
  refine g_al 1 ck rfl rfl rfl ?_
  refine g_ic 2 ck rfl rfl ?_
  refine g_pfi 5 ck rfl rfl (isP_2 ho3) 2 rfl rfl ?_
  replace h := h _ rfl
  refine g_al 6 ck rfl rfl rfl ?_
  refine r_gfr 9 44 ck rfl rfl rfl (by decide) ?_
  refine g_ic 10 ck rfl rfl ?_
  refine g_csv (as := [_, _]) (rest := []) 13 ck rfl rfl rfl rfl rfl rfl rfl rfl (Nat.le_of_ble_eq_true rfl) (s280 rfl ?_)
  replace h := h _ rfl
  refine g_ic 14 ck rfl rfl ?_
  refine r_is 16 ck rfl rfl rfl rfl ?_
  exact o3_16 ho1 ho2 ho3 rfl rfl h
/-! 4 TermDesk$Arithmetic.makeMonic(LTermDesk$Poly;)V -/
def w4_14 (B : va_E) (σ : l2_m) (o1 : Nat) (x2 : Int) (x3 : Int)  (K : Int → l2_m → Prop) : Prop := lz2 (fun X14 x3 σ => ((rg x3 ∧ rg (σ o1 2)) ∧ (if x3 < (σ o1 2) then ((0 ≤ x3 ∧ x3 < 60 ∧ 2 ≤ (σ 34 0) ∧ (σ 34 0) ≤ 97 ∧ rg ((σ (o1 + 2) x3) * x2)) ∧ ∀ σ' : l2_m, σ' = l2_u σ (o1 + 2) x3 (((σ (o1 + 2) x3) * x2) % (σ 34 0)) → X14 (x3 + 1) σ') else K 0 σ))) x3 σ
theorem o4_14 {B : va_E} {σ : l2_m} {o1 : Nat} {x2 : Int} {x3 : Int}   {K : Int → l2_m → Prop} (ho1 : isP o1)   (h : w4_14 B σ o1 x2 x3  K) : wW B 4 14 [vr 38, vr o1, vi x2, vi x3] [] σ K := by
  have ck : pm_code 4 = pc_4 := rfl
  unfold w4_14 at h
  refine h (fun x3 σ => wW B 4 14 [vr 38, vr o1, vi x2, vi x3] [] σ K) ?_
  clear h
  intro x3 σ h
  obtain ⟨⟨hs1, hs2⟩, h⟩ := h
  refine g_il 15 ck rfl rfl rfl ?_
  refine g_al 16 ck rfl rfl rfl ?_
  refine r_gfi 19 2 ck rfl rfl (isP_2 ho1) rfl ?_
  refine g_icge 22 49 ck rfl rfl rfl hs1 hs2 (fun hc => ?_) (fun hc => ?_)
  · replace h := ite_hf h (Int.not_lt.mpr hc)
    exact g_retv ck rfl rfl h
  · replace h := ite_ht h (Int.not_le.mp hc)
    obtain ⟨⟨hs3, hs4, hs5, hs6, hs7⟩, h⟩ := h
    refine g_al 23 ck rfl rfl rfl ?_
    refine r_gfr 26 _ ck rfl rfl (isP_1 ho1) (isX_g (isP_c ho1)) ?_
    refine g_il 27 ck rfl rfl rfl ?_
    refine g_al 28 ck rfl rfl rfl ?_
    refine r_gfr 31 34 ck rfl rfl rfl (by decide) ?_
    refine g_al 32 ck rfl rfl rfl ?_
    refine r_gfr 35 _ ck rfl rfl (isP_1 ho1) (isX_g (isP_c ho1)) ?_
    refine g_il 36 ck rfl rfl rfl ?_
    refine g_ial (m := 60) 37 ck rfl rfl (isP_k ho1) hs3 hs4 ?_
    refine g_il 38 ck rfl rfl rfl ?_
    refine g_mul 39 ck rfl rfl ?_
    refine g_cvi (as := [_]) (rest := [_, _]) 42 ck rfl rfl rfl rfl rfl rfl (by decide) rfl rfl rfl rfl (Nat.le_of_ble_eq_true rfl) (s72 rfl hs5 hs6 hs7 ?_)
    refine g_ias (m := 60) 43 ck rfl rfl (isP_k ho1) hs3 hs4 ?_
    replace h := h _ rfl
    refine r_ii 46 ck rfl rfl rfl rfl ?_
    refine g_goto 14 ck rfl rfl ?_
    exact h
def w4 (B : va_E) (σ : l2_m) (o1 : Nat) (K : Int → l2_m → Prop) : Prop := ((rg (σ o1 2) ∧ 0 ≤ (σ 34 0) ∧ (σ 34 0) ≤ 97 ∧ rg (if 0 < (σ o1 2) then (σ (o1 + 2) 0) else 0)) ∧ ∀ x2 : Int, x2 = (invO σ 34 (if 0 < (σ o1 2) then (σ (o1 + 2) 0) else 0)) → w4_14 B σ o1 x2 0 K)
theorem o4 {B : va_E} {σ : l2_m} {o1 : Nat} {K : Int → l2_m → Prop} (ho1 : isP o1)  (h : w4 B σ o1  K) : wC B 4 [vr 38, vr o1] σ K := by
  have ck : pm_code 4 = pc_4 := rfl
  unfold w4 at h
  show wW B 4 0 [vr 38, vr o1, pm_un, pm_un] [] σ K
  obtain ⟨⟨hs1, hs2, hs3, hs4⟩, h⟩ := h
  refine g_al 1 ck rfl rfl rfl ?_
  refine r_gfr 4 34 ck rfl rfl rfl (by decide) ?_
  refine g_al 5 ck rfl rfl rfl ?_
  refine g_cvi (as := []) (rest := [_]) 8 ck rfl rfl rfl rfl rfl rfl (by decide) (isP_c ho1) rfl rfl rfl (Nat.le_of_ble_eq_true rfl) (s85 ho1 hs1 ?_)
  refine g_cvi (as := [_]) (rest := []) 11 ck rfl rfl rfl rfl rfl rfl (by decide) rfl rfl rfl rfl (Nat.le_of_ble_eq_true rfl) (s73 rfl hs2 hs3 hs4 ?_)
  refine r_is 12 ck rfl rfl rfl rfl ?_
  replace h := h _ rfl
  refine g_ic 13 ck rfl rfl ?_
  refine r_is 14 ck rfl rfl rfl rfl ?_
  exact o4_14 ho1 h
/-! 5 TermDesk$Arithmetic.derivative(LTermDesk$Poly;ILTermDesk$Poly;)V -/
def w5_8 (B : va_E) (σ : l2_m) (o1 : Nat) (x2 : Int) (o3 : Nat) (x4 : Int)  (K : Int → l2_m → Prop) : Prop := lz2 (fun X8 x4 σ => ((rg x4 ∧ rg (σ o1 2)) ∧ (if x4 < (σ o1 2) then ((0 ≤ x4 ∧ x4 < 60 ∧ rg (σ (o1 + 1) x4) ∧ 0 ≤ x2 ∧ x2 < 3 ∧ 2 ≤ (σ 34 0) ∧ (σ 34 0) ≤ 97 ∧ rg ((σ (o1 + 2) x4) * (e5 (σ (o1 + 1) x4) x2))) ∧ ∀ x5 : Int, x5 = (((σ (o1 + 2) x4) * (e5 (σ (o1 + 1) x4) x2)) % (σ 34 0)) → (if x5 = 0 then X8 (x4 + 1) σ else ((0 ≤ (σ o3 2) ∧ rg (σ o3 2)) ∧ ∀ σ' : l2_m, σ' = app σ o3 ((σ (o1 + 1) x4) - (σ 37 x2)) x5 → X8 (x4 + 1) σ'))) else K 0 σ))) x4 σ
theorem o5_8 {B : va_E} {σ : l2_m} {o1 : Nat} {x2 : Int} {o3 : Nat} {x4 : Int} {u5 : Value}  {K : Int → l2_m → Prop} (ho1 : isP o1) (ho3 : isP o3) (hu5 : (u5.category == 1) = true)  (h : w5_8 B σ o1 x2 o3 x4  K) : wW B 5 8 [vr 38, vr o1, vi x2, vr o3, vi x4, u5] [] σ K := by
  have ck : pm_code 5 = pc_5 := rfl
  unfold w5_8 at h
  refine h (fun x4 σ => ∀ u5 : Value, (u5.category == 1) = true → wW B 5 8 [vr 38, vr o1, vi x2, vr o3, vi x4, u5] [] σ K) ?_ u5 hu5
  clear h
  intro x4 σ h u5 hu5
  obtain ⟨⟨hs1, hs2⟩, h⟩ := h
  refine g_il 10 ck rfl rfl rfl ?_
  refine g_al 11 ck rfl rfl rfl ?_
  refine r_gfi 14 2 ck rfl rfl (isP_2 ho1) rfl ?_
  refine g_icge 17 80 ck rfl rfl rfl hs1 hs2 (fun hc => ?_) (fun hc => ?_)
  · replace h := ite_hf h (Int.not_lt.mpr hc)
    exact g_retv ck rfl rfl h
  · replace h := ite_ht h (Int.not_le.mp hc)
    obtain ⟨⟨hs3, hs4, hs5, hs6, hs7, hs8, hs9, hs10⟩, h⟩ := h
    refine g_al 18 ck rfl rfl rfl ?_
    refine r_gfr 21 34 ck rfl rfl rfl (by decide) ?_
    refine g_al 22 ck rfl rfl rfl ?_
    refine r_gfr 25 _ ck rfl rfl (isP_1 ho1) (isX_g (isP_c ho1)) ?_
    refine g_il 27 ck rfl rfl rfl ?_
    refine g_ial (m := 60) 28 ck rfl rfl (isP_k ho1) hs3 hs4 ?_
    refine g_al 29 ck rfl rfl rfl ?_
    refine r_gfr 32 _ ck rfl rfl (isP_0 ho1) (isX_g (isP_c ho1)) ?_
    refine g_il 34 ck rfl rfl rfl ?_
    refine g_ial (m := 60) 35 ck rfl rfl (isP_m ho1) hs3 hs4 ?_
    refine g_il 36 ck rfl rfl rfl ?_
    refine g_csi (as := [_, _]) (rest := [_, _]) 39 ck rfl rfl rfl rfl rfl (by decide) rfl rfl rfl (Nat.le_of_ble_eq_true rfl) (s154 hs5 hs6 hs7 ?_)
    refine g_mul 40 ck rfl rfl ?_
    refine g_cvi (as := [_]) (rest := []) 43 ck rfl rfl rfl rfl rfl rfl (by decide) rfl rfl rfl rfl (Nat.le_of_ble_eq_true rfl) (s72 rfl hs8 hs9 hs10 ?_)
    refine r_is 45 ck rfl rfl rfl rfl ?_
    replace h := h _ rfl
    refine g_il 47 ck rfl rfl rfl ?_
    refine g_ifeq 50 74 ck rfl rfl rfl (rg_md hs8 hs9) (fun hc => ?_) (fun hc => ?_)
    · replace h := ite_ht h hc
      refine r_ii 77 ck rfl rfl rfl rfl ?_
      refine g_goto 8 ck rfl rfl ?_
      exact h _ rfl
    · replace h := ite_hf h hc
      obtain ⟨⟨hs11, hs12⟩, h⟩ := h
      refine g_al 51 ck rfl rfl rfl ?_
      refine g_al 52 ck rfl rfl rfl ?_
      refine r_gfr 55 _ ck rfl rfl (isP_0 ho1) (isX_g (isP_c ho1)) ?_
      refine g_il 57 ck rfl rfl rfl ?_
      refine g_ial (m := 60) 58 ck rfl rfl (isP_m ho1) hs3 hs4 ?_
      refine g_al 59 ck rfl rfl rfl ?_
      refine r_gfr 62 36 ck rfl rfl rfl (by decide) ?_
      refine r_gfr 65 37 ck rfl rfl rfl (by decide) ?_
      refine g_il 66 ck rfl rfl rfl ?_
      refine g_ial (m := 3) 67 ck rfl rfl rfl hs6 hs7 ?_
      refine g_sub 68 ck rfl rfl ?_
      refine g_il 70 ck rfl rfl rfl ?_
      refine g_cvi (as := [_, _]) (rest := []) 73 ck rfl rfl rfl rfl rfl rfl (by decide) (isP_c ho3) rfl rfl rfl (Nat.le_of_ble_eq_true rfl) (s82 ho3 hs11 hs12 ?_)
      replace h := h _ rfl
      refine g_pop 74 ck rfl rfl rfl ?_
      refine r_ii 77 ck rfl rfl rfl rfl ?_
      refine g_goto 8 ck rfl rfl ?_
      exact h _ rfl
def w5 (B : va_E) (σ : l2_m) (o1 : Nat) (x2 : Int) (o3 : Nat) (K : Int → l2_m → Prop) : Prop := (∀ σ' : l2_m, σ' = l2_u σ o3 2 0 → w5_8 B σ' o1 x2 o3 0 K)
theorem o5 {B : va_E} {σ : l2_m} {o1 : Nat} {x2 : Int} {o3 : Nat} {K : Int → l2_m → Prop} (ho1 : isP o1) (ho3 : isP o3)  (h : w5 B σ o1 x2 o3  K) : wC B 5 [vr 38, vr o1, vi x2, vr o3] σ K := by
  have ck : pm_code 5 = pc_5 := rfl
  unfold w5 at h
  show wW B 5 0 [vr 38, vr o1, vi x2, vr o3, pm_un, pm_un] [] σ K
  refine g_al 1 ck rfl rfl rfl ?_
  refine g_ic 2 ck rfl rfl ?_
  refine g_pfi 5 ck rfl rfl (isP_2 ho3) 2 rfl rfl ?_
  replace h := h _ rfl
  refine g_ic 6 ck rfl rfl ?_
  refine r_is 8 ck rfl rfl rfl rfl ?_
  exact o5_8 ho1 ho3 rfl h
/-! 6 TermDesk$Arithmetic.substitute(LTermDesk$Poly;IILTermDesk$Poly;)V -/
def w6_9 (B : va_E) (σ : l2_m) (o1 : Nat) (x2 : Int) (x3 : Int) (o4 : Nat) (x5 : Int)  (K : Int → l2_m → Prop) : Prop := lz2 (fun X9 x5 σ => ((rg x5 ∧ rg (σ o1 2)) ∧ (if x5 < (σ o1 2) then ((0 ≤ x5 ∧ x5 < 60 ∧ rg (σ (o1 + 1) x5) ∧ 0 ≤ x2 ∧ x2 < 3) ∧ ∀ x6 : Int, x6 = (e5 (σ (o1 + 1) x5) x2) → ∀ x7 : Int, x7 = ((σ (o1 + 1) x5) - (x6 * (σ 37 x2))) → (2 ≤ (σ 34 0) ∧ (σ 34 0) ≤ 97 ∧ 0 ≤ x3 ∧ x3 < (σ 34 0) ∧ 0 ≤ x6 ∧ x6 ≤ 100 ∧ rg ((σ (o1 + 2) x5) * (pw (σ 34 0) x3 x6)) ∧ 0 ≤ (σ o4 2) ∧ rg (σ o4 2)) ∧ ∀ σ'' : l2_m, σ'' = app σ o4 x7 (((σ (o1 + 2) x5) * (pw (σ 34 0) x3 x6)) % (σ 34 0)) → X9 (x5 + 1) σ'') else (wC B 91 [vr o4, vr 34] σ (fun _ σ' => K 0 σ'))))) x5 σ
theorem o6_9 {B : va_E} {σ : l2_m} {o1 : Nat} {x2 : Int} {x3 : Int} {o4 : Nat} {x5 : Int} {u6 : Value} {u7 : Value}  {K : Int → l2_m → Prop} (ho1 : isP o1) (ho4 : isP o4) (hu6 : (u6.category == 1) = true) (hu7 : (u7.category == 1) = true)  (h : w6_9 B σ o1 x2 x3 o4 x5  K) : wW B 6 9 [vr 38, vr o1, vi x2, vi x3, vr o4, vi x5, u6, u7] [] σ K := by
  have ck : pm_code 6 = pc_6 := rfl
  unfold w6_9 at h
  refine h (fun x5 σ => ∀ u6 : Value, (u6.category == 1) = true → ∀ u7 : Value, (u7.category == 1) = true → wW B 6 9 [vr 38, vr o1, vi x2, vi x3, vr o4, vi x5, u6, u7] [] σ K) ?_ u6 hu6 u7 hu7
  clear h
  intro x5 σ h u6 hu6 u7 hu7
  obtain ⟨⟨hs1, hs2⟩, h⟩ := h
  refine g_il 11 ck rfl rfl rfl ?_
  refine g_al 12 ck rfl rfl rfl ?_
  refine r_gfi 15 2 ck rfl rfl (isP_2 ho1) rfl ?_
  refine g_icge 18 89 ck rfl rfl rfl hs1 hs2 (fun hc => ?_) (fun hc => ?_)
  · replace h := ite_hf h (Int.not_lt.mpr hc)
    refine g_al 91 ck rfl rfl rfl ?_
    refine g_al 92 ck rfl rfl rfl ?_
    refine r_gfr 95 34 ck rfl rfl rfl (by decide) ?_
    refine g_cvv (as := [_]) (rest := []) 98 ck rfl rfl rfl rfl rfl rfl (isP_c ho4) rfl rfl rfl (Nat.le_of_ble_eq_true rfl) (wC.mono h (fun _ σ' h => ?_))
    exact g_retv ck rfl rfl h
  · replace h := ite_ht h (Int.not_le.mp hc)
    obtain ⟨⟨hs3, hs4, hs5, hs6, hs7⟩, h⟩ := h
    refine g_al 19 ck rfl rfl rfl ?_
    refine r_gfr 22 _ ck rfl rfl (isP_0 ho1) (isX_g (isP_c ho1)) ?_
    refine g_il 24 ck rfl rfl rfl ?_
    refine g_ial (m := 60) 25 ck rfl rfl (isP_m ho1) hs3 hs4 ?_
    refine g_il 26 ck rfl rfl rfl ?_
    refine g_csi (as := [_, _]) (rest := []) 29 ck rfl rfl rfl rfl rfl (by decide) rfl rfl rfl (Nat.le_of_ble_eq_true rfl) (s154 hs5 hs6 hs7 ?_)
    refine r_is 31 ck rfl rfl rfl rfl ?_
    replace h := h _ rfl
    refine g_al 32 ck rfl rfl rfl ?_
    refine r_gfr 35 _ ck rfl rfl (isP_0 ho1) (isX_g (isP_c ho1)) ?_
    refine g_il 37 ck rfl rfl rfl ?_
    refine g_ial (m := 60) 38 ck rfl rfl (isP_m ho1) hs3 hs4 ?_
    refine g_il 40 ck rfl rfl rfl ?_
    refine g_al 41 ck rfl rfl rfl ?_
    refine r_gfr 44 36 ck rfl rfl rfl (by decide) ?_
    refine r_gfr 47 37 ck rfl rfl rfl (by decide) ?_
    refine g_il 48 ck rfl rfl rfl ?_
    refine g_ial (m := 3) 49 ck rfl rfl rfl hs6 hs7 ?_
    refine g_mul 50 ck rfl rfl ?_
    refine g_sub 51 ck rfl rfl ?_
    refine r_is 53 ck rfl rfl rfl rfl ?_
    replace h := h _ rfl
    obtain ⟨⟨hs8, hs9, hs10, hs11, hs12, hs13, hs14, hs15, hs16⟩, h⟩ := h
    refine g_al 55 ck rfl rfl rfl ?_
    refine g_il 57 ck rfl rfl rfl ?_
    refine g_al 58 ck rfl rfl rfl ?_
    refine r_gfr 61 34 ck rfl rfl rfl (by decide) ?_
    refine g_al 62 ck rfl rfl rfl ?_
    refine r_gfr 65 _ ck rfl rfl (isP_1 ho1) (isX_g (isP_c ho1)) ?_
    refine g_il 67 ck rfl rfl rfl ?_
    refine g_ial (m := 60) 68 ck rfl rfl (isP_k ho1) hs3 hs4 ?_
    refine g_al 69 ck rfl rfl rfl ?_
    refine g_il 70 ck rfl rfl rfl ?_
    refine g_il 72 ck rfl rfl rfl ?_
    refine g_cvi (as := [_, _]) (rest := [_, _, _, _]) 75 ck rfl rfl rfl rfl rfl rfl (by decide) rfl rfl rfl rfl (Nat.le_of_ble_eq_true rfl) (s12 hs8 hs9 hs10 hs11 hs12 hs13 ?_)
    refine g_mul 76 ck rfl rfl ?_
    refine g_cvi (as := [_]) (rest := [_, _]) 79 ck rfl rfl rfl rfl rfl rfl (by decide) rfl rfl rfl rfl (Nat.le_of_ble_eq_true rfl) (s72 rfl hs8 hs9 hs14 ?_)
    refine g_cvi (as := [_, _]) (rest := []) 82 ck rfl rfl rfl rfl rfl rfl (by decide) (isP_c ho4) rfl rfl rfl (Nat.le_of_ble_eq_true rfl) (s82 ho4 hs15 hs16 ?_)
    replace h := h _ rfl
    refine g_pop 83 ck rfl rfl rfl ?_
    refine r_ii 86 ck rfl rfl rfl rfl ?_
    refine g_goto 9 ck rfl rfl ?_
    exact h _ rfl _ rfl
def w6 (B : va_E) (σ : l2_m) (o1 : Nat) (x2 : Int) (x3 : Int) (o4 : Nat) (K : Int → l2_m → Prop) : Prop := (∀ σ' : l2_m, σ' = l2_u σ o4 2 0 → w6_9 B σ' o1 x2 x3 o4 0 K)
theorem o6 {B : va_E} {σ : l2_m} {o1 : Nat} {x2 : Int} {x3 : Int} {o4 : Nat} {K : Int → l2_m → Prop} (ho1 : isP o1) (ho4 : isP o4)  (h : w6 B σ o1 x2 x3 o4  K) : wC B 6 [vr 38, vr o1, vi x2, vi x3, vr o4] σ K := by
  have ck : pm_code 6 = pc_6 := rfl
  unfold w6 at h
  show wW B 6 0 [vr 38, vr o1, vi x2, vi x3, vr o4, pm_un, pm_un, pm_un] [] σ K
  refine g_al 2 ck rfl rfl rfl ?_
  refine g_ic 3 ck rfl rfl ?_
  refine g_pfi 6 ck rfl rfl (isP_2 ho4) 2 rfl rfl ?_
  replace h := h _ rfl
  refine g_ic 7 ck rfl rfl ?_
  refine r_is 9 ck rfl rfl rfl rfl ?_
  exact o6_9 ho1 ho4 rfl rfl h
/-! 7 TermDesk$Arithmetic.exchange(LTermDesk$Poly;IILTermDesk$Poly;)V -/
def w7_30 (B : va_E) (σ : l2_m) (o1 : Nat) (x2 : Int) (x3 : Int) (o4 : Nat) (x5 : Int) (x6 : Int)  (K : Int → l2_m → Prop) : Prop := lz2 (fun X30 x6 σ => ((rg x6 ∧ rg (σ o1 2)) ∧ (if x6 < (σ o1 2) then ((0 ≤ x6 ∧ x6 < 60) ∧ ∀ x7 : Int, x7 = (σ (o1 + 1) x6) → (rg x7 ∧ 0 ≤ x2 ∧ x2 < 3 ∧ 0 ≤ x3 ∧ x3 < 3) ∧ ∀ x8 : Int, x8 = ((e5 x7 x2) - (e5 x7 x3)) → (0 ≤ (σ o4 2) ∧ rg (σ o4 2)) ∧ ∀ σ'' : l2_m, σ'' = app σ o4 (x7 + (x8 * x5)) (σ (o1 + 2) x6) → X30 (x6 + 1) σ'') else (wC B 90 [vr o4] σ (fun _ σ' => K 0 σ'))))) x6 σ
theorem o7_30 {B : va_E} {σ : l2_m} {o1 : Nat} {x2 : Int} {x3 : Int} {o4 : Nat} {x5 : Int} {x6 : Int} {u0 : Value} {u7 : Value} {u8 : Value}  {K : Int → l2_m → Prop} (ho1 : isP o1) (ho4 : isP o4) (hu0 : (u0.category == 1) = true) (hu7 : (u7.category == 1) = true) (hu8 : (u8.category == 1) = true)  (h : w7_30 B σ o1 x2 x3 o4 x5 x6  K) : wW B 7 30 [u0, vr o1, vi x2, vi x3, vr o4, vi x5, vi x6, u7, u8] [] σ K := by
  have ck : pm_code 7 = pc_7 := rfl
  unfold w7_30 at h
  refine h (fun x6 σ => ∀ u0 : Value, (u0.category == 1) = true → ∀ u7 : Value, (u7.category == 1) = true → ∀ u8 : Value, (u8.category == 1) = true → wW B 7 30 [u0, vr o1, vi x2, vi x3, vr o4, vi x5, vi x6, u7, u8] [] σ K) ?_ u0 hu0 u7 hu7 u8 hu8
  clear h
  intro x6 σ h u0 hu0 u7 hu7 u8 hu8
  obtain ⟨⟨hs1, hs2⟩, h⟩ := h
  refine g_il 32 ck rfl rfl rfl ?_
  refine g_al 33 ck rfl rfl rfl ?_
  refine r_gfi 36 2 ck rfl rfl (isP_2 ho1) rfl ?_
  refine g_icge 39 90 ck rfl rfl rfl hs1 hs2 (fun hc => ?_) (fun hc => ?_)
  · replace h := ite_hf h (Int.not_lt.mpr hc)
    refine g_al 92 ck rfl rfl rfl ?_
    refine g_cvv (as := []) (rest := []) 95 ck rfl rfl rfl rfl rfl rfl (isP_c ho4) rfl rfl rfl (Nat.le_of_ble_eq_true rfl) (wC.mono h (fun _ σ' h => ?_))
    exact g_retv ck rfl rfl h
  · replace h := ite_ht h (Int.not_le.mp hc)
    obtain ⟨⟨hs3, hs4⟩, h⟩ := h
    refine g_al 40 ck rfl rfl rfl ?_
    refine r_gfr 43 _ ck rfl rfl (isP_0 ho1) (isX_g (isP_c ho1)) ?_
    refine g_il 45 ck rfl rfl rfl ?_
    refine g_ial (m := 60) 46 ck rfl rfl (isP_m ho1) hs3 hs4 ?_
    refine r_is 48 ck rfl rfl rfl rfl ?_
    replace h := h _ rfl
    obtain ⟨⟨hs5, hs6, hs7, hs8, hs9⟩, h⟩ := h
    refine g_il 50 ck rfl rfl rfl ?_
    refine g_il 51 ck rfl rfl rfl ?_
    refine g_csi (as := [_, _]) (rest := []) 54 ck rfl rfl rfl rfl rfl (by decide) rfl rfl rfl (Nat.le_of_ble_eq_true rfl) (s154 hs5 hs6 hs7 ?_)
    refine g_il 56 ck rfl rfl rfl ?_
    refine g_il 57 ck rfl rfl rfl ?_
    refine g_csi (as := [_, _]) (rest := [_]) 60 ck rfl rfl rfl rfl rfl (by decide) rfl rfl rfl (Nat.le_of_ble_eq_true rfl) (s154 hs5 hs8 hs9 ?_)
    refine g_sub 61 ck rfl rfl ?_
    refine r_is 63 ck rfl rfl rfl rfl ?_
    replace h := h _ rfl
    obtain ⟨⟨hs10, hs11⟩, h⟩ := h
    refine g_al 65 ck rfl rfl rfl ?_
    refine g_il 67 ck rfl rfl rfl ?_
    refine g_il 69 ck rfl rfl rfl ?_
    refine g_il 71 ck rfl rfl rfl ?_
    refine g_mul 72 ck rfl rfl ?_
    refine g_add 73 ck rfl rfl ?_
    refine g_al 74 ck rfl rfl rfl ?_
    refine r_gfr 77 _ ck rfl rfl (isP_1 ho1) (isX_g (isP_c ho1)) ?_
    refine g_il 79 ck rfl rfl rfl ?_
    refine g_ial (m := 60) 80 ck rfl rfl (isP_k ho1) hs3 hs4 ?_
    refine g_cvi (as := [_, _]) (rest := []) 83 ck rfl rfl rfl rfl rfl rfl (by decide) (isP_c ho4) rfl rfl rfl (Nat.le_of_ble_eq_true rfl) (s82 ho4 hs10 hs11 ?_)
    replace h := h _ rfl
    refine g_pop 84 ck rfl rfl rfl ?_
    refine r_ii 87 ck rfl rfl rfl rfl ?_
    refine g_goto 30 ck rfl rfl ?_
    exact h _ hu0 _ rfl _ rfl
def w7 (B : va_E) (σ : l2_m) (o1 : Nat) (x2 : Int) (x3 : Int) (o4 : Nat) (K : Int → l2_m → Prop) : Prop := (∀ σ' : l2_m, σ' = l2_u σ o4 2 0 → (0 ≤ x3 ∧ x3 < 3 ∧ 0 ≤ x2 ∧ x2 < 3) ∧ ∀ x5 : Int, x5 = ((σ' 37 x3) - (σ' 37 x2)) → w7_30 B σ' o1 x2 x3 o4 x5 0 K)
theorem o7 {B : va_E} {σ : l2_m} {o1 : Nat} {x2 : Int} {x3 : Int} {o4 : Nat} {K : Int → l2_m → Prop} (ho1 : isP o1) (ho4 : isP o4)  (h : w7 B σ o1 x2 x3 o4  K) : wC B 7 [vr 38, vr o1, vi x2, vi x3, vr o4] σ K := by
  have ck : pm_code 7 = pc_7 := rfl
  unfold w7 at h
  show wW B 7 0 [vr 38, vr o1, vi x2, vi x3, vr o4, pm_un, pm_un, pm_un, pm_un] [] σ K
  refine g_al 2 ck rfl rfl rfl ?_
  refine g_ic 3 ck rfl rfl ?_
  refine g_pfi 6 ck rfl rfl (isP_2 ho4) 2 rfl rfl ?_
  replace h := h _ rfl
  obtain ⟨⟨hs1, hs2, hs3, hs4⟩, h⟩ := h
  refine g_al 7 ck rfl rfl rfl ?_
  refine r_gfr 10 36 ck rfl rfl rfl (by decide) ?_
  refine r_gfr 13 37 ck rfl rfl rfl (by decide) ?_
  refine g_il 14 ck rfl rfl rfl ?_
  refine g_ial (m := 3) 15 ck rfl rfl rfl hs1 hs2 ?_
  refine g_al 16 ck rfl rfl rfl ?_
  refine r_gfr 19 36 ck rfl rfl rfl (by decide) ?_
  refine r_gfr 22 37 ck rfl rfl rfl (by decide) ?_
  refine g_il 23 ck rfl rfl rfl ?_
  refine g_ial (m := 3) 24 ck rfl rfl rfl hs3 hs4 ?_
  refine g_sub 25 ck rfl rfl ?_
  refine r_is 27 ck rfl rfl rfl rfl ?_
  replace h := h _ rfl
  refine g_ic 28 ck rfl rfl ?_
  refine r_is 30 ck rfl rfl rfl rfl ?_
  exact o7_30 ho1 ho4 rfl rfl rfl h
/-! 8 TermDesk$Arithmetic.pairOf(LTermDesk$Poly;LTermDesk$Poly;LTermDesk$Poly;)Z -/
def w8 (B : va_E) (σ : l2_m) (o1 : Nat) (o2 : Nat) (o3 : Nat) (K : Int → l2_m → Prop) : Prop := ((rg (σ o1 2) ∧ rg (σ o2 2) ∧ rg (if 0 < (σ o1 2) then (σ (o1 + 1) 0) else 0) ∧ rg (if 0 < (σ o2 2) then (σ (o2 + 1) 0) else 0)) ∧ ∀ x4 : Int, x4 = (max (e5 (if 0 < (σ o1 2) then (σ (o1 + 1) 0) else 0) 0) (e5 (if 0 < (σ o2 2) then (σ (o2 + 1) 0) else 0) 0) * σ 37 0 + max (e5 (if 0 < (σ o1 2) then (σ (o1 + 1) 0) else 0) 1) (e5 (if 0 < (σ o2 2) then (σ (o2 + 1) 0) else 0) 1) * σ 37 1 + max (e5 (if 0 < (σ o1 2) then (σ (o1 + 1) 0) else 0) 2) (e5 (if 0 < (σ o2 2) then (σ (o2 + 1) 0) else 0) 2) * σ 37 2) → (0 ≤ (σ 34 0) ∧ (σ 34 0) ≤ 97 ∧ rg (if 0 < (σ o1 2) then (σ (o1 + 2) 0) else 0)) ∧ ∀ x5 : Int, x5 = (invO σ 34 (if 0 < (σ o1 2) then (σ (o1 + 2) 0) else 0)) → rg (if 0 < (σ o2 2) then (σ (o2 + 2) 0) else 0) ∧ ∀ x6 : Int, x6 = ((σ 34 0) - (invO σ 34 (if 0 < (σ o2 2) then (σ (o2 + 2) 0) else 0))) → (wC B 1 [vr 38, vr o1, vi x5, vi (x4 - (if 0 < (σ o1 2) then (σ (o1 + 1) 0) else 0)), vr o2, vi x6, vi (x4 - (if 0 < (σ o2 2) then (σ (o2 + 1) 0) else 0)), vr o3] σ (fun y σ' => ((y = 0 ∨ y = 1) ∧ K y σ'))))
theorem o8 {B : va_E} {σ : l2_m} {o1 : Nat} {o2 : Nat} {o3 : Nat} {K : Int → l2_m → Prop} (ho1 : isP o1) (ho2 : isP o2) (ho3 : isP o3)  (h : w8 B σ o1 o2 o3  K) : wC B 8 [vr 38, vr o1, vr o2, vr o3] σ K := by
  have ck : pm_code 8 = pc_8 := rfl
  unfold w8 at h
  show wW B 8 0 [vr 38, vr o1, vr o2, vr o3, pm_un, pm_un, pm_un] [] σ K
  obtain ⟨⟨hs1, hs2, hs3, hs4⟩, h⟩ := h
  refine g_al 1 ck rfl rfl rfl ?_
  refine g_al 2 ck rfl rfl rfl ?_
  refine g_cvi (as := []) (rest := [_]) 5 ck rfl rfl rfl rfl rfl rfl (by decide) (isP_c ho1) rfl rfl rfl (Nat.le_of_ble_eq_true rfl) (s84 ho1 hs1 ?_)
  refine g_al 6 ck rfl rfl rfl ?_
  refine g_cvi (as := []) (rest := [_, _]) 9 ck rfl rfl rfl rfl rfl rfl (by decide) (isP_c ho2) rfl rfl rfl (Nat.le_of_ble_eq_true rfl) (s84 ho2 hs2 ?_)
  refine g_cvi (as := [_, _]) (rest := []) 12 ck rfl rfl rfl rfl rfl rfl (by decide) rfl rfl rfl rfl (Nat.le_of_ble_eq_true rfl) (s9 hs3 hs4 ?_)
  refine r_is 14 ck rfl rfl rfl rfl ?_
  replace h := h _ rfl
  obtain ⟨⟨hs5, hs6, hs7⟩, h⟩ := h
  refine g_al 15 ck rfl rfl rfl ?_
  refine r_gfr 18 34 ck rfl rfl rfl (by decide) ?_
  refine g_al 19 ck rfl rfl rfl ?_
  refine g_cvi (as := []) (rest := [_]) 22 ck rfl rfl rfl rfl rfl rfl (by decide) (isP_c ho1) rfl rfl rfl (Nat.le_of_ble_eq_true rfl) (s85 ho1 hs1 ?_)
  refine g_cvi (as := [_]) (rest := []) 25 ck rfl rfl rfl rfl rfl rfl (by decide) rfl rfl rfl rfl (Nat.le_of_ble_eq_true rfl) (s73 rfl hs5 hs6 hs7 ?_)
  refine r_is 27 ck rfl rfl rfl rfl ?_
  replace h := h _ rfl
  obtain ⟨hs8, h⟩ := h
  refine g_al 28 ck rfl rfl rfl ?_
  refine r_gfr 31 34 ck rfl rfl rfl (by decide) ?_
  refine r_gfi 34 0 ck rfl rfl rfl rfl ?_
  refine g_al 35 ck rfl rfl rfl ?_
  refine r_gfr 38 34 ck rfl rfl rfl (by decide) ?_
  refine g_al 39 ck rfl rfl rfl ?_
  refine g_cvi (as := []) (rest := [_, _]) 42 ck rfl rfl rfl rfl rfl rfl (by decide) (isP_c ho2) rfl rfl rfl (Nat.le_of_ble_eq_true rfl) (s85 ho2 hs2 ?_)
  refine g_cvi (as := [_]) (rest := [_]) 45 ck rfl rfl rfl rfl rfl rfl (by decide) rfl rfl rfl rfl (Nat.le_of_ble_eq_true rfl) (s73 rfl hs5 hs6 hs8 ?_)
  refine g_sub 46 ck rfl rfl ?_
  refine r_is 48 ck rfl rfl rfl rfl ?_
  replace h := h _ rfl
  refine g_al 49 ck rfl rfl rfl ?_
  refine g_al 50 ck rfl rfl rfl ?_
  refine g_il 52 ck rfl rfl rfl ?_
  refine g_il 54 ck rfl rfl rfl ?_
  refine g_al 55 ck rfl rfl rfl ?_
  refine g_cvi (as := []) (rest := [_, _, _, _]) 58 ck rfl rfl rfl rfl rfl rfl (by decide) (isP_c ho1) rfl rfl rfl (Nat.le_of_ble_eq_true rfl) (s84 ho1 hs1 ?_)
  refine g_sub 59 ck rfl rfl ?_
  refine g_al 60 ck rfl rfl rfl ?_
  refine g_il 62 ck rfl rfl rfl ?_
  refine g_il 64 ck rfl rfl rfl ?_
  refine g_al 65 ck rfl rfl rfl ?_
  refine g_cvi (as := []) (rest := [_, _, _, _, _, _, _]) 68 ck rfl rfl rfl rfl rfl rfl (by decide) (isP_c ho2) rfl rfl rfl (Nat.le_of_ble_eq_true rfl) (s84 ho2 hs2 ?_)
  refine g_sub 69 ck rfl rfl ?_
  refine g_al 70 ck rfl rfl rfl ?_
  refine g_cvi (as := [_, _, _, _, _, _, _]) (rest := []) 73 ck rfl rfl rfl rfl rfl rfl (by decide) rfl rfl rfl rfl (Nat.le_of_ble_eq_true rfl) (wC.mono h (fun y σ' h => ?_))
  obtain ⟨hs9, h⟩ := h
  exact g_retb ck rfl rfl hs9 h
/-! 10 TermDesk$Arithmetic.rankAnew(LTermDesk$Poly;)V -/
def w10_2 (B : va_E) (σ : l2_m) (o1 : Nat) (x2 : Int)  (K : Int → l2_m → Prop) : Prop := lz2 (fun X2 x2 σ => ((rg x2 ∧ rg (σ o1 2)) ∧ (if x2 < (σ o1 2) then ((0 ≤ x2 ∧ x2 < 60 ∧ rg (σ (o1 + 1) x2)) ∧ ∀ σ'' : l2_m, σ'' = l2_u σ (o1 + 1) x2 ((((e5 (σ (o1 + 1) x2) 0) * (σ (36 + 1) 0)) + ((e5 (σ (o1 + 1) x2) 1) * (σ (36 + 1) 1))) + ((e5 (σ (o1 + 1) x2) 2) * (σ (36 + 1) 2))) → X2 (x2 + 1) σ'') else (wC B 90 [vr o1] σ (fun _ σ' => K 0 σ'))))) x2 σ
theorem o10_2 {B : va_E} {σ : l2_m} {o1 : Nat} {x2 : Int}   {K : Int → l2_m → Prop} (ho1 : isP o1)   (h : w10_2 B σ o1 x2  K) : wW B 10 2 [vr 38, vr o1, vi x2] [] σ K := by
  have ck : pm_code 10 = pc_10 := rfl
  unfold w10_2 at h
  refine h (fun x2 σ => wW B 10 2 [vr 38, vr o1, vi x2] [] σ K) ?_
  clear h
  intro x2 σ h
  obtain ⟨⟨hs1, hs2⟩, h⟩ := h
  refine g_il 3 ck rfl rfl rfl ?_
  refine g_al 4 ck rfl rfl rfl ?_
  refine r_gfi 7 2 ck rfl rfl (isP_2 ho1) rfl ?_
  refine g_icge 10 35 ck rfl rfl rfl hs1 hs2 (fun hc => ?_) (fun hc => ?_)
  · replace h := ite_hf h (Int.not_lt.mpr hc)
    refine g_al 36 ck rfl rfl rfl ?_
    refine g_cvv (as := []) (rest := []) 39 ck rfl rfl rfl rfl rfl rfl (isP_c ho1) rfl rfl rfl (Nat.le_of_ble_eq_true rfl) (wC.mono h (fun _ σ' h => ?_))
    exact g_retv ck rfl rfl h
  · replace h := ite_ht h (Int.not_le.mp hc)
    obtain ⟨⟨hs3, hs4, hs5⟩, h⟩ := h
    refine g_al 11 ck rfl rfl rfl ?_
    refine r_gfr 14 _ ck rfl rfl (isP_0 ho1) (isX_g (isP_c ho1)) ?_
    refine g_il 15 ck rfl rfl rfl ?_
    refine g_al 16 ck rfl rfl rfl ?_
    refine r_gfr 19 36 ck rfl rfl rfl (by decide) ?_
    refine g_al 20 ck rfl rfl rfl ?_
    refine r_gfr 23 _ ck rfl rfl (isP_0 ho1) (isX_g (isP_c ho1)) ?_
    refine g_il 24 ck rfl rfl rfl ?_
    refine g_ial (m := 60) 25 ck rfl rfl (isP_m ho1) hs3 hs4 ?_
    refine g_cvi (as := [_]) (rest := [_, _]) 28 ck rfl rfl rfl rfl rfl rfl (by decide) rfl rfl rfl rfl (Nat.le_of_ble_eq_true rfl) (s79 rfl hs5 ?_)
    refine g_ias (m := 60) 29 ck rfl rfl (isP_m ho1) hs3 hs4 ?_
    replace h := h _ rfl
    refine r_ii 32 ck rfl rfl rfl rfl ?_
    refine g_goto 2 ck rfl rfl ?_
    exact h
def w10 (B : va_E) (σ : l2_m) (o1 : Nat) (K : Int → l2_m → Prop) : Prop := w10_2 B σ o1 0 K
theorem o10 {B : va_E} {σ : l2_m} {o1 : Nat} {K : Int → l2_m → Prop} (ho1 : isP o1)  (h : w10 B σ o1  K) : wC B 10 [vr 38, vr o1] σ K := by
  have ck : pm_code 10 = pc_10 := rfl
  unfold w10 at h
  show wW B 10 0 [vr 38, vr o1, pm_un] [] σ K
  refine g_ic 1 ck rfl rfl ?_
  refine r_is 2 ck rfl rfl rfl rfl ?_
  exact o10_2 ho1 h
/-! 11 TermDesk$Arithmetic.leadByAnother(LTermDesk$Poly;III)I -/
def w11_17 (B : va_E) (σ : l2_m) (o1 : Nat) (x5 : Int) (x6 : Int)  (K : Int → l2_m → Prop) : Prop := lz2 (fun X17 x5 x6 => ((rg x6 ∧ rg (σ o1 2)) ∧ (if x6 < (σ o1 2) then ((0 ≤ x6 ∧ x6 < 60 ∧ rg (σ (o1 + 1) x6) ∧ rg x5 ∧ rg ((((e5 (σ (o1 + 1) x6) 0) * (σ (39 + 1) 0)) + ((e5 (σ (o1 + 1) x6) 1) * (σ (39 + 1) 1))) + ((e5 (σ (o1 + 1) x6) 2) * (σ (39 + 1) 2)))) ∧ ∀ x5' : Int, x5' = (max x5 ((((e5 (σ (o1 + 1) x6) 0) * (σ (39 + 1) 0)) + ((e5 (σ (o1 + 1) x6) 1) * (σ (39 + 1) 1))) + ((e5 (σ (o1 + 1) x6) 2) * (σ (39 + 1) 2)))) → X17 x5' (x6 + 1)) else K x5 σ))) x5 x6
theorem o11_17 {B : va_E} {σ : l2_m} {o1 : Nat} {x5 : Int} {x6 : Int} {u2 : Value} {u3 : Value} {u4 : Value}  {K : Int → l2_m → Prop} (ho1 : isP o1) (hu2 : (u2.category == 1) = true) (hu3 : (u3.category == 1) = true) (hu4 : (u4.category == 1) = true)  (h : w11_17 B σ o1 x5 x6  K) : wW B 11 17 [vr 38, vr o1, u2, u3, u4, vi x5, vi x6] [] σ K := by
  have ck : pm_code 11 = pc_11 := rfl
  unfold w11_17 at h
  refine h (fun x5 x6 => ∀ u2 : Value, (u2.category == 1) = true → ∀ u3 : Value, (u3.category == 1) = true → ∀ u4 : Value, (u4.category == 1) = true → wW B 11 17 [vr 38, vr o1, u2, u3, u4, vi x5, vi x6] [] σ K) ?_ u2 hu2 u3 hu3 u4 hu4
  clear h
  intro x5 x6 h u2 hu2 u3 hu3 u4 hu4
  obtain ⟨⟨hs1, hs2⟩, h⟩ := h
  refine g_il 19 ck rfl rfl rfl ?_
  refine g_al 20 ck rfl rfl rfl ?_
  refine r_gfi 23 2 ck rfl rfl (isP_2 ho1) rfl ?_
  refine g_icge 26 53 ck rfl rfl rfl hs1 hs2 (fun hc => ?_) (fun hc => ?_)
  · replace h := ite_hf h (Int.not_lt.mpr hc)
    refine g_il 55 ck rfl rfl rfl ?_
    exact g_ret ck rfl rfl (Or.inl (by decide)) h
  · replace h := ite_ht h (Int.not_le.mp hc)
    obtain ⟨⟨hs3, hs4, hs5, hs6, hs7⟩, h⟩ := h
    refine g_il 28 ck rfl rfl rfl ?_
    refine g_al 29 ck rfl rfl rfl ?_
    refine r_gfr 32 39 ck rfl rfl rfl (by decide) ?_
    refine g_al 33 ck rfl rfl rfl ?_
    refine r_gfr 36 _ ck rfl rfl (isP_0 ho1) (isX_g (isP_c ho1)) ?_
    refine g_il 38 ck rfl rfl rfl ?_
    refine g_ial (m := 60) 39 ck rfl rfl (isP_m ho1) hs3 hs4 ?_
    refine g_cvi (as := [_]) (rest := [_]) 42 ck rfl rfl rfl rfl rfl rfl (by decide) rfl rfl rfl rfl (Nat.le_of_ble_eq_true rfl) (s79 rfl hs5 ?_)
    refine g_max 45 ck rfl rfl hs6 hs7 (Nat.le_of_ble_eq_true rfl) ?_
    refine r_is 47 ck rfl rfl hu4 rfl ?_
    replace h := h _ rfl
    refine r_ii 50 ck rfl rfl rfl rfl ?_
    refine g_goto 17 ck rfl rfl ?_
    exact h _ hu2 _ hu3 _ hu4
def w11 (B : va_E) (σ : l2_m) (o1 : Nat) (x2 : Int) (x3 : Int) (x4 : Int) (K : Int → l2_m → Prop) : Prop := (wC B 75 [vr 39, vi x2, vi x3, vi x4] σ (fun _ σ' => w11_17 B σ' o1 0 0 K))
theorem o11 {B : va_E} {σ : l2_m} {o1 : Nat} {x2 : Int} {x3 : Int} {x4 : Int} {K : Int → l2_m → Prop} (ho1 : isP o1)  (h : w11 B σ o1 x2 x3 x4  K) : wC B 11 [vr 38, vr o1, vi x2, vi x3, vi x4] σ K := by
  have ck : pm_code 11 = pc_11 := rfl
  unfold w11 at h
  show wW B 11 0 [vr 38, vr o1, vi x2, vi x3, vi x4, pm_un, pm_un] [] σ K
  refine g_al 1 ck rfl rfl rfl ?_
  refine r_gfr 4 39 ck rfl rfl rfl (by decide) ?_
  refine g_il 5 ck rfl rfl rfl ?_
  refine g_il 6 ck rfl rfl rfl ?_
  refine g_il 8 ck rfl rfl rfl ?_
  refine g_cvv (as := [_, _, _]) (rest := []) 11 ck rfl rfl rfl rfl rfl rfl rfl rfl rfl rfl (Nat.le_of_ble_eq_true rfl) (wC.mono h (fun _ σ' h => ?_))
  refine g_ic 12 ck rfl rfl ?_
  refine r_is 14 ck rfl rfl rfl rfl ?_
  refine g_ic 15 ck rfl rfl ?_
  refine r_is 17 ck rfl rfl rfl rfl ?_
  exact o11_17 ho1 rfl rfl rfl h
/-! 13 TermDesk$Arithmetic.valueAt(LTermDesk$Poly;III)I -/
def w13_6 (B : va_E) (σ : l2_m) (o1 : Nat) (x2 : Int) (x3 : Int) (x4 : Int) (x5 : Int) (x6 : Int)  (K : Int → l2_m → Prop) : Prop := lz2 (fun X6 x5 x6 => ((rg x6 ∧ rg (σ o1 2)) ∧ (if x6 < (σ o1 2) then ((0 ≤ x6 ∧ x6 < 60) ∧ ∀ x7 : Int, x7 = (σ (o1 + 1) x6) → (rg x7 ∧ 2 ≤ (σ 34 0) ∧ (σ 34 0) ≤ 97 ∧ 0 ≤ x2 ∧ x2 < (σ 34 0) ∧ 0 ≤ (e5 x7 0) ∧ (e5 x7 0) ≤ 100) ∧ ∀ x8 : Int, x8 = ((σ (o1 + 2) x6) * (pw (σ 34 0) x2 (e5 x7 0))) → (rg x8 ∧ 0 ≤ x3 ∧ x3 < (σ 34 0) ∧ 0 ≤ (e5 x7 1) ∧ (e5 x7 1) ≤ 100) ∧ ∀ x8' : Int, x8' = ((x8 % (σ 34 0)) * (pw (σ 34 0) x3 (e5 x7 1))) → (rg x8' ∧ 0 ≤ x4 ∧ x4 < (σ 34 0) ∧ 0 ≤ (e5 x7 2) ∧ (e5 x7 2) ≤ 100) ∧ ∀ x8'' : Int, x8'' = ((x8' % (σ 34 0)) * (pw (σ 34 0) x4 (e5 x7 2))) → rg x8'' ∧ ∀ x5' : Int, x5' = (x5 + (x8'' % (σ 34 0))) → X6 x5' (x6 + 1)) else ((2 ≤ (σ 34 0) ∧ (σ 34 0) ≤ 97 ∧ rg x5) ∧ K (x5 % (σ 34 0)) σ)))) x5 x6
theorem o13_6 {B : va_E} {σ : l2_m} {o1 : Nat} {x2 : Int} {x3 : Int} {x4 : Int} {x5 : Int} {x6 : Int} {u7 : Value} {u8 : Value}  {K : Int → l2_m → Prop} (ho1 : isP o1) (hu7 : (u7.category == 1) = true) (hu8 : (u8.category == 1) = true)  (h : w13_6 B σ o1 x2 x3 x4 x5 x6  K) : wW B 13 6 [vr 38, vr o1, vi x2, vi x3, vi x4, vi x5, vi x6, u7, u8] [] σ K := by
  have ck : pm_code 13 = pc_13 := rfl
  unfold w13_6 at h
  refine h (fun x5 x6 => ∀ u7 : Value, (u7.category == 1) = true → ∀ u8 : Value, (u8.category == 1) = true → wW B 13 6 [vr 38, vr o1, vi x2, vi x3, vi x4, vi x5, vi x6, u7, u8] [] σ K) ?_ u7 hu7 u8 hu8
  clear h
  intro x5 x6 h u7 hu7 u8 hu8
  obtain ⟨⟨hs1, hs2⟩, h⟩ := h
  refine g_il 8 ck rfl rfl rfl ?_
  refine g_al 9 ck rfl rfl rfl ?_
  refine r_gfi 12 2 ck rfl rfl (isP_2 ho1) rfl ?_
  refine g_icge 15 112 ck rfl rfl rfl hs1 hs2 (fun hc => ?_) (fun hc => ?_)
  · replace h := ite_hf h (Int.not_lt.mpr hc)
    obtain ⟨⟨hs3, hs4, hs5⟩, h⟩ := h
    refine g_al 113 ck rfl rfl rfl ?_
    refine r_gfr 116 34 ck rfl rfl rfl (by decide) ?_
    refine g_il 118 ck rfl rfl rfl ?_
    refine g_cvi (as := [_]) (rest := []) 121 ck rfl rfl rfl rfl rfl rfl (by decide) rfl rfl rfl rfl (Nat.le_of_ble_eq_true rfl) (s72 rfl hs3 hs4 hs5 ?_)
    exact g_ret ck rfl rfl (Or.inl (by decide)) h
  · replace h := ite_ht h (Int.not_le.mp hc)
    obtain ⟨⟨hs6, hs7⟩, h⟩ := h
    refine g_al 16 ck rfl rfl rfl ?_
    refine r_gfr 19 _ ck rfl rfl (isP_0 ho1) (isX_g (isP_c ho1)) ?_
    refine g_il 21 ck rfl rfl rfl ?_
    refine g_ial (m := 60) 22 ck rfl rfl (isP_m ho1) hs6 hs7 ?_
    refine r_is 24 ck rfl rfl rfl rfl ?_
    replace h := h _ rfl
    obtain ⟨⟨hs8, hs9, hs10, hs11, hs12, hs13, hs14⟩, h⟩ := h
    refine g_al 25 ck rfl rfl rfl ?_
    refine r_gfr 28 _ ck rfl rfl (isP_1 ho1) (isX_g (isP_c ho1)) ?_
    refine g_il 30 ck rfl rfl rfl ?_
    refine g_ial (m := 60) 31 ck rfl rfl (isP_k ho1) hs6 hs7 ?_
    refine g_al 32 ck rfl rfl rfl ?_
    refine g_il 33 ck rfl rfl rfl ?_
    refine g_il 35 ck rfl rfl rfl ?_
    refine g_ic 36 ck rfl rfl ?_
    refine g_csi (as := [_, _]) (rest := [_, _, _]) 39 ck rfl rfl rfl rfl rfl (by decide) rfl rfl rfl (Nat.le_of_ble_eq_true rfl) (s154 hs8 (by decide) (by decide) ?_)
    refine g_cvi (as := [_, _]) (rest := [_]) 42 ck rfl rfl rfl rfl rfl rfl (by decide) rfl rfl rfl rfl (Nat.le_of_ble_eq_true rfl) (s12 hs9 hs10 hs11 hs12 hs13 hs14 ?_)
    refine g_mul 43 ck rfl rfl ?_
    refine r_is 45 ck rfl rfl rfl rfl ?_
    replace h := h _ rfl
    obtain ⟨⟨hs15, hs16, hs17, hs18, hs19⟩, h⟩ := h
    refine g_al 46 ck rfl rfl rfl ?_
    refine r_gfr 49 34 ck rfl rfl rfl (by decide) ?_
    refine g_il 51 ck rfl rfl rfl ?_
    refine g_cvi (as := [_]) (rest := []) 54 ck rfl rfl rfl rfl rfl rfl (by decide) rfl rfl rfl rfl (Nat.le_of_ble_eq_true rfl) (s72 rfl hs9 hs10 hs15 ?_)
    refine g_al 55 ck rfl rfl rfl ?_
    refine g_il 56 ck rfl rfl rfl ?_
    refine g_il 58 ck rfl rfl rfl ?_
    refine g_ic 59 ck rfl rfl ?_
    refine g_csi (as := [_, _]) (rest := [_, _, _]) 62 ck rfl rfl rfl rfl rfl (by decide) rfl rfl rfl (Nat.le_of_ble_eq_true rfl) (s154 hs8 (by decide) (by decide) ?_)
    refine g_cvi (as := [_, _]) (rest := [_]) 65 ck rfl rfl rfl rfl rfl rfl (by decide) rfl rfl rfl rfl (Nat.le_of_ble_eq_true rfl) (s12 hs9 hs10 hs16 hs17 hs18 hs19 ?_)
    refine g_mul 66 ck rfl rfl ?_
    refine r_is 68 ck rfl rfl rfl rfl ?_
    replace h := h _ rfl
    obtain ⟨⟨hs20, hs21, hs22, hs23, hs24⟩, h⟩ := h
    refine g_al 69 ck rfl rfl rfl ?_
    refine r_gfr 72 34 ck rfl rfl rfl (by decide) ?_
    refine g_il 74 ck rfl rfl rfl ?_
    refine g_cvi (as := [_]) (rest := []) 77 ck rfl rfl rfl rfl rfl rfl (by decide) rfl rfl rfl rfl (Nat.le_of_ble_eq_true rfl) (s72 rfl hs9 hs10 hs20 ?_)
    refine g_al 78 ck rfl rfl rfl ?_
    refine g_il 80 ck rfl rfl rfl ?_
    refine g_il 82 ck rfl rfl rfl ?_
    refine g_ic 83 ck rfl rfl ?_
    refine g_csi (as := [_, _]) (rest := [_, _, _]) 86 ck rfl rfl rfl rfl rfl (by decide) rfl rfl rfl (Nat.le_of_ble_eq_true rfl) (s154 hs8 (by decide) (by decide) ?_)
    refine g_cvi (as := [_, _]) (rest := [_]) 89 ck rfl rfl rfl rfl rfl rfl (by decide) rfl rfl rfl rfl (Nat.le_of_ble_eq_true rfl) (s12 hs9 hs10 hs21 hs22 hs23 hs24 ?_)
    refine g_mul 90 ck rfl rfl ?_
    refine r_is 92 ck rfl rfl rfl rfl ?_
    replace h := h _ rfl
    obtain ⟨hs25, h⟩ := h
    refine g_il 94 ck rfl rfl rfl ?_
    refine g_al 95 ck rfl rfl rfl ?_
    refine r_gfr 98 34 ck rfl rfl rfl (by decide) ?_
    refine g_il 100 ck rfl rfl rfl ?_
    refine g_cvi (as := [_]) (rest := [_]) 103 ck rfl rfl rfl rfl rfl rfl (by decide) rfl rfl rfl rfl (Nat.le_of_ble_eq_true rfl) (s72 rfl hs9 hs10 hs25 ?_)
    refine g_add 104 ck rfl rfl ?_
    refine r_is 106 ck rfl rfl rfl rfl ?_
    replace h := h _ rfl
    refine r_ii 109 ck rfl rfl rfl rfl ?_
    refine g_goto 6 ck rfl rfl ?_
    exact h _ rfl _ rfl
def w13 (B : va_E) (σ : l2_m) (o1 : Nat) (x2 : Int) (x3 : Int) (x4 : Int) (K : Int → l2_m → Prop) : Prop := w13_6 B σ o1 x2 x3 x4 0 0 K
theorem o13 {B : va_E} {σ : l2_m} {o1 : Nat} {x2 : Int} {x3 : Int} {x4 : Int} {K : Int → l2_m → Prop} (ho1 : isP o1)  (h : w13 B σ o1 x2 x3 x4  K) : wC B 13 [vr 38, vr o1, vi x2, vi x3, vi x4] σ K := by
  have ck : pm_code 13 = pc_13 := rfl
  unfold w13 at h
  show wW B 13 0 [vr 38, vr o1, vi x2, vi x3, vi x4, pm_un, pm_un, pm_un, pm_un] [] σ K
  refine g_ic 1 ck rfl rfl ?_
  refine r_is 3 ck rfl rfl rfl rfl ?_
  refine g_ic 4 ck rfl rfl ?_
  refine r_is 6 ck rfl rfl rfl rfl ?_
  exact o13_6 ho1 rfl rfl h
/-! 14 TermDesk$Arithmetic.countRoots(LTermDesk$Poly;)I -/
def w14_121 (B : va_E) (σ : l2_m) (o1 : Nat) (x4 : Int) (x5 : Int) (x6 : Int) (x7 : Int) (x8 : Int) (x9 : Int) (X101 : Int → Int → l2_m → Prop) (K : Int → l2_m → Prop) : Prop := lz3 (fun X121 x7 x9 σ => ((rg x9 ∧ rg x5) ∧ (if x9 < x5 then (wC B 16 [vr 38, vr 47, vi x9] σ (fun _ σ' => (wC B 17 [vr 38, vr o1] σ' (fun _ σ'' => (wC B 18 [vr 38, vi x6] σ'' (fun y σ''' => (∀ x7' : Int, x7' = (x7 + y) → X121 x7' (x9 + 1) σ'''))))))) else X101 x7 (x8 + 1) σ))) x7 x9 σ
theorem o14_121 {B : va_E} {σ : l2_m} {o1 : Nat} {x4 : Int} {x5 : Int} {x6 : Int} {x7 : Int} {x8 : Int} {x9 : Int} {u2 : Value} {u3 : Value} {X101 : Int → Int → l2_m → Prop} {K : Int → l2_m → Prop} (ho1 : isP o1) (hu2 : (u2.category == 1) = true) (hu3 : (u3.category == 1) = true) (hX101 : ∀ (x7 : Int) (x8 : Int) (σ : l2_m) (u2 : Value) (u3 : Value) (u9 : Value), (u2.category == 1) = true → (u3.category == 1) = true → (u9.category == 1) = true → X101 x7 x8 σ → wW B 14 101 [vr 38, vr o1, u2, u3, vi x4, vi x5, vi x6, vi x7, vi x8, u9] [] σ K) (h : w14_121 B σ o1 x4 x5 x6 x7 x8 x9 X101 K) : wW B 14 121 [vr 38, vr o1, u2, u3, vi x4, vi x5, vi x6, vi x7, vi x8, vi x9] [] σ K := by
  have ck : pm_code 14 = pc_14 := rfl
  unfold w14_121 at h
  refine h (fun x7 x9 σ => ∀ u2 : Value, (u2.category == 1) = true → ∀ u3 : Value, (u3.category == 1) = true → wW B 14 121 [vr 38, vr o1, u2, u3, vi x4, vi x5, vi x6, vi x7, vi x8, vi x9] [] σ K) ?_ u2 hu2 u3 hu3
  clear h
  intro x7 x9 σ h u2 hu2 u3 hu3
  obtain ⟨⟨hs1, hs2⟩, h⟩ := h
  refine g_il 123 ck rfl rfl rfl ?_
  refine g_il 125 ck rfl rfl rfl ?_
  refine g_icge 128 160 ck rfl rfl rfl hs1 hs2 (fun hc => ?_) (fun hc => ?_)
  · replace h := ite_hf h (Int.not_lt.mpr hc)
    refine r_ii 163 ck rfl rfl rfl rfl ?_
    refine g_goto 101 ck rfl rfl ?_
    exact hX101 _ _ _ _ _ _ hu2 hu3 rfl h
  · replace h := ite_ht h (Int.not_le.mp hc)
    refine g_al 129 ck rfl rfl rfl ?_
    refine g_al 130 ck rfl rfl rfl ?_
    refine r_gfr 133 47 ck rfl rfl rfl (by decide) ?_
    refine g_il 135 ck rfl rfl rfl ?_
    refine g_cvv (as := [_, _]) (rest := []) 138 ck rfl rfl rfl rfl rfl rfl rfl rfl rfl rfl (Nat.le_of_ble_eq_true rfl) (wC.mono h (fun _ σ' h => ?_))
    refine g_al 139 ck rfl rfl rfl ?_
    refine g_al 140 ck rfl rfl rfl ?_
    refine g_cvv (as := [_]) (rest := []) 143 ck rfl rfl rfl rfl rfl rfl rfl rfl rfl rfl (Nat.le_of_ble_eq_true rfl) (wC.mono h (fun _ σ'' h => ?_))
    refine g_il 145 ck rfl rfl rfl ?_
    refine g_al 146 ck rfl rfl rfl ?_
    refine g_il 148 ck rfl rfl rfl ?_
    refine g_cvi (as := [_]) (rest := [_]) 151 ck rfl rfl rfl rfl rfl rfl (by decide) rfl rfl rfl rfl (Nat.le_of_ble_eq_true rfl) (wC.mono h (fun y σ''' h => ?_))
    refine g_add 152 ck rfl rfl ?_
    refine r_is 154 ck rfl rfl rfl rfl ?_
    replace h := h _ rfl
    refine r_ii 157 ck rfl rfl rfl rfl ?_
    refine g_goto 121 ck rfl rfl ?_
    exact h _ hu2 _ hu3
def w14_101 (B : va_E) (σ : l2_m) (o1 : Nat) (x4 : Int) (x5 : Int) (x6 : Int) (x7 : Int) (x8 : Int)  (K : Int → l2_m → Prop) : Prop := lz3 (fun X101 x7 x8 σ => ((rg x8 ∧ rg x4) ∧ (if x8 < x4 then (wC B 16 [vr 38, vr 46, vi x8] σ (fun _ σ' => w14_121 B σ' o1 x4 x5 x6 x7 x8 0 X101 K)) else K x7 σ))) x7 x8 σ
theorem o14_101 {B : va_E} {σ : l2_m} {o1 : Nat} {x4 : Int} {x5 : Int} {x6 : Int} {x7 : Int} {x8 : Int} {u2 : Value} {u3 : Value} {u9 : Value}  {K : Int → l2_m → Prop} (ho1 : isP o1) (hu2 : (u2.category == 1) = true) (hu3 : (u3.category == 1) = true) (hu9 : (u9.category == 1) = true)  (h : w14_101 B σ o1 x4 x5 x6 x7 x8  K) : wW B 14 101 [vr 38, vr o1, u2, u3, vi x4, vi x5, vi x6, vi x7, vi x8, u9] [] σ K := by
  have ck : pm_code 14 = pc_14 := rfl
  unfold w14_101 at h
  refine h (fun x7 x8 σ => ∀ u2 : Value, (u2.category == 1) = true → ∀ u3 : Value, (u3.category == 1) = true → ∀ u9 : Value, (u9.category == 1) = true → wW B 14 101 [vr 38, vr o1, u2, u3, vi x4, vi x5, vi x6, vi x7, vi x8, u9] [] σ K) ?_ u2 hu2 u3 hu3 u9 hu9
  clear h
  intro x7 x8 σ h u2 hu2 u3 hu3 u9 hu9
  obtain ⟨⟨hs1, hs2⟩, h⟩ := h
  refine g_il 103 ck rfl rfl rfl ?_
  refine g_il 105 ck rfl rfl rfl ?_
  refine g_icge 108 166 ck rfl rfl rfl hs1 hs2 (fun hc => ?_) (fun hc => ?_)
  · replace h := ite_hf h (Int.not_lt.mpr hc)
    refine g_il 168 ck rfl rfl rfl ?_
    exact g_ret ck rfl rfl (Or.inl (by decide)) h
  · replace h := ite_ht h (Int.not_le.mp hc)
    refine g_al 109 ck rfl rfl rfl ?_
    refine g_al 110 ck rfl rfl rfl ?_
    refine r_gfr 113 46 ck rfl rfl rfl (by decide) ?_
    refine g_il 115 ck rfl rfl rfl ?_
    refine g_cvv (as := [_, _]) (rest := []) 118 ck rfl rfl rfl rfl rfl rfl rfl rfl rfl rfl (Nat.le_of_ble_eq_true rfl) (wC.mono h (fun _ σ' h => ?_))
    refine g_ic 119 ck rfl rfl ?_
    refine r_is 121 ck rfl rfl rfl rfl ?_
    exact o14_121 ho1 hu2 hu3 (fun _ _ _ u2 u3 u9 hu2 hu3 hu9 hx => hx u2 hu2 u3 hu3 u9 hu9) h
def w14_76 (B : va_E) (σ : l2_m) (o1 : Nat) (x2 : Int) (x4 : Int) (z0 : Int)  (K : Int → l2_m → Prop) : Prop := (rg x2 ∧ (if 0 < x2 then (∀ x6 : Int, x6 = (σ 34 0) → w14_101 B σ o1 x4 z0 x6 0 0 K) else w14_101 B σ o1 x4 z0 1 0 0 K))
theorem o14_76 {B : va_E} {σ : l2_m} {o1 : Nat} {x2 : Int} {x4 : Int} {z0 : Int} {u3 : Value} {u5 : Value} {u6 : Value} {u7 : Value} {u8 : Value} {u9 : Value}  {K : Int → l2_m → Prop} (ho1 : isP o1) (hu3 : (u3.category == 1) = true) (hu5 : (u5.category == 1) = true) (hu6 : (u6.category == 1) = true) (hu7 : (u7.category == 1) = true) (hu8 : (u8.category == 1) = true) (hu9 : (u9.category == 1) = true)  (h : w14_76 B σ o1 x2 x4 z0  K) : wW B 14 76 [vr 38, vr o1, vi x2, u3, vi x4, u5, u6, u7, u8, u9] [vi z0] σ K := by
  have ck : pm_code 14 = pc_14 := rfl
  unfold w14_76 at h
  obtain ⟨hs1, h⟩ := h
  refine r_is 78 ck rfl rfl rfl rfl ?_
  refine g_il 79 ck rfl rfl rfl ?_
  refine g_ifle 82 92 ck rfl rfl rfl hs1 (fun hc => ?_) (fun hc => ?_)
  · replace h := ite_hf h (Int.not_lt.mpr hc)
    refine g_ic 93 ck rfl rfl ?_
    refine r_is 95 ck rfl rfl rfl rfl ?_
    refine g_ic 96 ck rfl rfl ?_
    refine r_is 98 ck rfl rfl rfl rfl ?_
    refine g_ic 99 ck rfl rfl ?_
    refine r_is 101 ck rfl rfl rfl rfl ?_
    exact o14_101 ho1 rfl hu3 hu9 h
  · replace h := ite_ht h (Int.not_le.mp hc)
    refine g_al 83 ck rfl rfl rfl ?_
    refine r_gfr 86 34 ck rfl rfl rfl (by decide) ?_
    refine r_gfi 89 0 ck rfl rfl rfl rfl ?_
    refine g_goto 93 ck rfl rfl ?_
    refine r_is 95 ck rfl rfl rfl rfl ?_
    replace h := h _ rfl
    refine g_ic 96 ck rfl rfl ?_
    refine r_is 98 ck rfl rfl rfl rfl ?_
    refine g_ic 99 ck rfl rfl ?_
    refine r_is 101 ck rfl rfl rfl rfl ?_
    exact o14_101 ho1 rfl hu3 hu9 h
def w14_58 (B : va_E) (σ : l2_m) (o1 : Nat) (x2 : Int) (z0 : Int)  (K : Int → l2_m → Prop) : Prop := (rg x2 ∧ (if 1 < x2 then w14_76 B σ o1 x2 z0 (σ 34 0) K else w14_76 B σ o1 x2 z0 1 K))
theorem o14_58 {B : va_E} {σ : l2_m} {o1 : Nat} {x2 : Int} {z0 : Int} {u3 : Value} {u4 : Value} {u5 : Value} {u6 : Value} {u7 : Value} {u8 : Value} {u9 : Value}  {K : Int → l2_m → Prop} (ho1 : isP o1) (hu3 : (u3.category == 1) = true) (hu4 : (u4.category == 1) = true) (hu5 : (u5.category == 1) = true) (hu6 : (u6.category == 1) = true) (hu7 : (u7.category == 1) = true) (hu8 : (u8.category == 1) = true) (hu9 : (u9.category == 1) = true)  (h : w14_58 B σ o1 x2 z0  K) : wW B 14 58 [vr 38, vr o1, vi x2, u3, u4, u5, u6, u7, u8, u9] [vi z0] σ K := by
  have ck : pm_code 14 = pc_14 := rfl
  unfold w14_58 at h
  obtain ⟨hs1, h⟩ := h
  refine r_is 60 ck rfl rfl hu3 rfl ?_
  refine g_il 61 ck rfl rfl rfl ?_
  refine g_ic 62 ck rfl rfl ?_
  refine g_icle 65 75 ck rfl rfl rfl hs1 (by decide) (fun hc => ?_) (fun hc => ?_)
  · replace h := ite_hf h (Int.not_lt.mpr hc)
    refine g_ic 76 ck rfl rfl ?_
    exact o14_76 ho1 hu3 hu5 hu6 hu7 hu8 hu9 h
  · replace h := ite_ht h (Int.not_le.mp hc)
    refine g_al 66 ck rfl rfl rfl ?_
    refine r_gfr 69 34 ck rfl rfl rfl (by decide) ?_
    refine r_gfi 72 0 ck rfl rfl rfl rfl ?_
    refine g_goto 76 ck rfl rfl ?_
    exact o14_76 ho1 hu3 hu5 hu6 hu7 hu8 hu9 h
def w14_11 (B : va_E) (σ : l2_m) (o1 : Nat) (x2 : Int) (x3 : Int) (x4 : Int)  (K : Int → l2_m → Prop) : Prop := lz2 (fun X11 x3 x4 => ((rg x4 ∧ rg x2) ∧ (if x4 < x2 then (∀ x3' : Int, x3' = (x3 * (σ 34 0)) → X11 x3' (x4 + 1)) else (rg x3 ∧ (if 10000 < x3 then K (-1) σ else (if 2 < x2 then w14_58 B σ o1 x2 (σ 34 0) K else w14_58 B σ o1 x2 1 K)))))) x3 x4
theorem o14_11 {B : va_E} {σ : l2_m} {o1 : Nat} {x2 : Int} {x3 : Int} {x4 : Int} {u5 : Value} {u6 : Value} {u7 : Value} {u8 : Value} {u9 : Value}  {K : Int → l2_m → Prop} (ho1 : isP o1) (hu5 : (u5.category == 1) = true) (hu6 : (u6.category == 1) = true) (hu7 : (u7.category == 1) = true) (hu8 : (u8.category == 1) = true) (hu9 : (u9.category == 1) = true)  (h : w14_11 B σ o1 x2 x3 x4  K) : wW B 14 11 [vr 38, vr o1, vi x2, vi x3, vi x4, u5, u6, u7, u8, u9] [] σ K := by
  have ck : pm_code 14 = pc_14 := rfl
  unfold w14_11 at h
  refine h (fun x3 x4 => ∀ u5 : Value, (u5.category == 1) = true → ∀ u6 : Value, (u6.category == 1) = true → ∀ u7 : Value, (u7.category == 1) = true → ∀ u8 : Value, (u8.category == 1) = true → ∀ u9 : Value, (u9.category == 1) = true → wW B 14 11 [vr 38, vr o1, vi x2, vi x3, vi x4, u5, u6, u7, u8, u9] [] σ K) ?_ u5 hu5 u6 hu6 u7 hu7 u8 hu8 u9 hu9
  clear h
  intro x3 x4 h u5 hu5 u6 hu6 u7 hu7 u8 hu8 u9 hu9
  obtain ⟨⟨hs1, hs2⟩, h⟩ := h
  refine g_il 13 ck rfl rfl rfl ?_
  refine g_il 14 ck rfl rfl rfl ?_
  refine g_icge 17 33 ck rfl rfl rfl hs1 hs2 (fun hc => ?_) (fun hc => ?_)
  · replace h := ite_hf h (Int.not_lt.mpr hc)
    obtain ⟨hs3, h⟩ := h
    refine g_il 34 ck rfl rfl rfl ?_
    refine g_ic 37 ck rfl rfl ?_
    refine g_icle 40 42 ck rfl rfl rfl hs3 (by decide) (fun hc => ?_) (fun hc => ?_)
    · replace h := ite_hf h (Int.not_lt.mpr hc)
      refine g_il 43 ck rfl rfl rfl ?_
      refine g_ic 44 ck rfl rfl ?_
      refine g_icle 47 57 ck rfl rfl rfl hs2 (by decide) (fun hc => ?_) (fun hc => ?_)
      · replace h := ite_hf h (Int.not_lt.mpr hc)
        refine g_ic 58 ck rfl rfl ?_
        exact o14_58 ho1 rfl rfl hu5 hu6 hu7 hu8 hu9 h
      · replace h := ite_ht h (Int.not_le.mp hc)
        refine g_al 48 ck rfl rfl rfl ?_
        refine r_gfr 51 34 ck rfl rfl rfl (by decide) ?_
        refine r_gfi 54 0 ck rfl rfl rfl rfl ?_
        refine g_goto 58 ck rfl rfl ?_
        exact o14_58 ho1 rfl rfl hu5 hu6 hu7 hu8 hu9 h
    · replace h := ite_ht h (Int.not_le.mp hc)
      refine g_ic 41 ck rfl rfl ?_
      exact g_ret ck rfl rfl (Or.inl (by decide)) h
  · replace h := ite_ht h (Int.not_le.mp hc)
    refine g_il 18 ck rfl rfl rfl ?_
    refine g_al 19 ck rfl rfl rfl ?_
    refine r_gfr 22 34 ck rfl rfl rfl (by decide) ?_
    refine r_gfi 25 0 ck rfl rfl rfl rfl ?_
    refine g_mul 26 ck rfl rfl ?_
    refine r_is 27 ck rfl rfl rfl rfl ?_
    replace h := h _ rfl
    refine r_ii 30 ck rfl rfl rfl rfl ?_
    refine g_goto 11 ck rfl rfl ?_
    exact h _ hu5 _ hu6 _ hu7 _ hu8 _ hu9
def w14 (B : va_E) (σ : l2_m) (o1 : Nat) (K : Int → l2_m → Prop) : Prop := (wC B 15 [vr 38, vr o1] σ (fun y σ' => w14_11 B σ' o1 y 1 0 K))
theorem o14 {B : va_E} {σ : l2_m} {o1 : Nat} {K : Int → l2_m → Prop} (ho1 : isP o1)  (h : w14 B σ o1  K) : wC B 14 [vr 38, vr o1] σ K := by
  have ck : pm_code 14 = pc_14 := rfl
  unfold w14 at h
  show wW B 14 0 [vr 38, vr o1, pm_un, pm_un, pm_un, pm_un, pm_un, pm_un, pm_un, pm_un] [] σ K
  refine g_al 1 ck rfl rfl rfl ?_
  refine g_al 2 ck rfl rfl rfl ?_
  refine g_cvi (as := [_]) (rest := []) 5 ck rfl rfl rfl rfl rfl rfl (by decide) rfl rfl rfl rfl (Nat.le_of_ble_eq_true rfl) (wC.mono h (fun y σ' h => ?_))
  refine r_is 6 ck rfl rfl rfl rfl ?_
  refine g_ic 7 ck rfl rfl ?_
  refine r_is 8 ck rfl rfl rfl rfl ?_
  refine g_ic 9 ck rfl rfl ?_
  refine r_is 11 ck rfl rfl rfl rfl ?_
  exact o14_11 ho1 rfl rfl rfl rfl rfl h
/-! 15 TermDesk$Arithmetic.takeTurns(LTermDesk$Poly;)I -/
def w15_7 (B : va_E) (σ : l2_m) (o1 : Nat) (x2 : Int) (x3 : Int) (x4 : Int)  (K : Int → l2_m → Prop) : Prop := lz4 (fun X7 x2 x3 x4 σ => (rg x4 ∧ (if x4 < 3 then (wC B 89 [vr o1, vi x4] σ (fun y σ' => (rg y ∧ (if y = 0 then (rg x3 ∧ (if x3 < 0 then X7 x2 x3 (x4 + 1) σ' else ((0 ≤ x3 ∧ x3 < 3) ∧ ∀ σ'' : l2_m, σ'' = l2_u σ' 45 x3 x4 → X7 x2 (x3 + (-1)) (x4 + 1) σ''))) else ((0 ≤ x2 ∧ x2 < 3) ∧ ∀ σ''' : l2_m, σ''' = l2_u σ' 45 x2 x4 → X7 (x2 + 1) x3 (x4 + 1) σ'''))))) else K x2 σ))) x2 x3 x4 σ
theorem o15_7 {B : va_E} {σ : l2_m} {o1 : Nat} {x2 : Int} {x3 : Int} {x4 : Int}   {K : Int → l2_m → Prop} (ho1 : isP o1)   (h : w15_7 B σ o1 x2 x3 x4  K) : wW B 15 7 [vr 38, vr o1, vi x2, vi x3, vi x4] [] σ K := by
  have ck : pm_code 15 = pc_15 := rfl
  unfold w15_7 at h
  refine h (fun x2 x3 x4 σ => wW B 15 7 [vr 38, vr o1, vi x2, vi x3, vi x4] [] σ K) ?_
  clear h
  intro x2 x3 x4 σ h
  obtain ⟨hs1, h⟩ := h
  refine g_il 9 ck rfl rfl rfl ?_
  refine g_ic 10 ck rfl rfl ?_
  refine g_icge 13 57 ck rfl rfl rfl hs1 (by decide) (fun hc => ?_) (fun hc => ?_)
  · replace h := ite_hf h (Int.not_lt.mpr hc)
    refine g_il 58 ck rfl rfl rfl ?_
    exact g_ret ck rfl rfl (Or.inl (by decide)) h
  · replace h := ite_ht h (Int.not_le.mp hc)
    refine g_al 14 ck rfl rfl rfl ?_
    refine g_il 16 ck rfl rfl rfl ?_
    refine g_cvi (as := [_]) (rest := []) 19 ck rfl rfl rfl rfl rfl rfl (by decide) (isP_c ho1) rfl rfl rfl (Nat.le_of_ble_eq_true rfl) (wC.mono h (fun y σ' h => ?_))
    obtain ⟨hs2, h⟩ := h
    refine g_ifeq 22 36 ck rfl rfl rfl hs2 (fun hc => ?_) (fun hc => ?_)
    · replace h := ite_ht h hc
      obtain ⟨hs3, h⟩ := h
      refine g_il 37 ck rfl rfl rfl ?_
      refine g_iflt 40 51 ck rfl rfl rfl hs3 (fun hc => ?_) (fun hc => ?_)
      · replace h := ite_ht h hc
        refine r_ii 54 ck rfl rfl rfl rfl ?_
        refine g_goto 7 ck rfl rfl ?_
        exact h
      · replace h := ite_hf h hc
        obtain ⟨⟨hs4, hs5⟩, h⟩ := h
        refine g_al 41 ck rfl rfl rfl ?_
        refine r_gfr 44 45 ck rfl rfl rfl (by decide) ?_
        refine g_il 45 ck rfl rfl rfl ?_
        refine g_il 47 ck rfl rfl rfl ?_
        refine g_ias (m := 3) 48 ck rfl rfl rfl hs4 hs5 ?_
        replace h := h _ rfl
        refine r_ii 51 ck rfl rfl rfl rfl ?_
        refine r_ii 54 ck rfl rfl rfl rfl ?_
        refine g_goto 7 ck rfl rfl ?_
        exact h
    · replace h := ite_hf h hc
      obtain ⟨⟨hs6, hs7⟩, h⟩ := h
      refine g_al 23 ck rfl rfl rfl ?_
      refine r_gfr 26 45 ck rfl rfl rfl (by decide) ?_
      refine g_il 27 ck rfl rfl rfl ?_
      refine g_il 29 ck rfl rfl rfl ?_
      refine g_ias (m := 3) 30 ck rfl rfl rfl hs6 hs7 ?_
      replace h := h _ rfl
      refine r_ii 33 ck rfl rfl rfl rfl ?_
      refine g_goto 51 ck rfl rfl ?_
      refine r_ii 54 ck rfl rfl rfl rfl ?_
      refine g_goto 7 ck rfl rfl ?_
      exact h
def w15 (B : va_E) (σ : l2_m) (o1 : Nat) (K : Int → l2_m → Prop) : Prop := w15_7 B σ o1 0 2 0 K
theorem o15 {B : va_E} {σ : l2_m} {o1 : Nat} {K : Int → l2_m → Prop} (ho1 : isP o1)  (h : w15 B σ o1  K) : wC B 15 [vr 38, vr o1] σ K := by
  have ck : pm_code 15 = pc_15 := rfl
  unfold w15 at h
  show wW B 15 0 [vr 38, vr o1, pm_un, pm_un, pm_un] [] σ K
  refine g_ic 1 ck rfl rfl ?_
  refine r_is 2 ck rfl rfl rfl rfl ?_
  refine g_ic 3 ck rfl rfl ?_
  refine r_is 4 ck rfl rfl rfl rfl ?_
  refine g_ic 5 ck rfl rfl ?_
  refine r_is 7 ck rfl rfl rfl rfl ?_
  exact o15_7 ho1 h
/-! 16 TermDesk$Arithmetic.fillPowers([II)V -/
def w16_5 (B : va_E) (σ : l2_m) (o1 : Nat) (x2 : Int) (x3 : Int) (x4 : Int)  (K : Int → l2_m → Prop) : Prop := lz3 (fun X5 x3 x4 σ => (rg x4 ∧ (if x4 < ((16 : Nat) : Int) then ((0 ≤ x4 ∧ x4 < 16) ∧ ∀ σ' : l2_m, σ' = l2_u σ o1 x4 x3 → (2 ≤ (σ' 34 0) ∧ (σ' 34 0) ≤ 97 ∧ rg (x3 * x2)) ∧ ∀ x3' : Int, x3' = ((x3 * x2) % (σ' 34 0)) → X5 x3' (x4 + 1) σ') else K 0 σ))) x3 x4 σ
theorem o16_5 {B : va_E} {σ : l2_m} {o1 : Nat} {x2 : Int} {x3 : Int} {x4 : Int}   {K : Int → l2_m → Prop} (ho1 : l2_al o1 = some 16)   (h : w16_5 B σ o1 x2 x3 x4  K) : wW B 16 5 [vr 38, vr o1, vi x2, vi x3, vi x4] [] σ K := by
  have ck : pm_code 16 = pc_16 := rfl
  unfold w16_5 at h
  refine h (fun x3 x4 σ => wW B 16 5 [vr 38, vr o1, vi x2, vi x3, vi x4] [] σ K) ?_
  clear h
  intro x3 x4 σ h
  obtain ⟨hs1, h⟩ := h
  refine g_il 7 ck rfl rfl rfl ?_
  refine g_al 8 ck rfl rfl rfl ?_
  refine g_len 9 ck rfl rfl (show l2_al o1 = some 16 from ho1) ?_
  refine g_icge 12 34 ck rfl rfl rfl hs1 (by decide) (fun hc => ?_) (fun hc => ?_)
  · replace h := ite_hf h (Int.not_lt.mpr hc)
    exact g_retv ck rfl rfl h
  · replace h := ite_ht h (Int.not_le.mp hc)
    obtain ⟨⟨hs2, hs3⟩, h⟩ := h
    refine g_al 13 ck rfl rfl rfl ?_
    refine g_il 15 ck rfl rfl rfl ?_
    refine g_il 16 ck rfl rfl rfl ?_
    refine g_ias (m := 16) 17 ck rfl rfl ho1 hs2 hs3 ?_
    replace h := h _ rfl
    obtain ⟨⟨hs4, hs5, hs6⟩, h⟩ := h
    refine g_al 18 ck rfl rfl rfl ?_
    refine r_gfr 21 34 ck rfl rfl rfl (by decide) ?_
    refine g_il 22 ck rfl rfl rfl ?_
    refine g_il 23 ck rfl rfl rfl ?_
    refine g_mul 24 ck rfl rfl ?_
    refine g_cvi (as := [_]) (rest := []) 27 ck rfl rfl rfl rfl rfl rfl (by decide) rfl rfl rfl rfl (Nat.le_of_ble_eq_true rfl) (s72 rfl hs4 hs5 hs6 ?_)
    refine r_is 28 ck rfl rfl rfl rfl ?_
    replace h := h _ rfl
    refine r_ii 31 ck rfl rfl rfl rfl ?_
    refine g_goto 5 ck rfl rfl ?_
    exact h
def w16 (B : va_E) (σ : l2_m) (o1 : Nat) (x2 : Int) (K : Int → l2_m → Prop) : Prop := w16_5 B σ o1 x2 1 0 K
theorem o16 {B : va_E} {σ : l2_m} {o1 : Nat} {x2 : Int} {K : Int → l2_m → Prop} (ho1 : l2_al o1 = some 16)  (h : w16 B σ o1 x2  K) : wC B 16 [vr 38, vr o1, vi x2] σ K := by
  have ck : pm_code 16 = pc_16 := rfl
  unfold w16 at h
  show wW B 16 0 [vr 38, vr o1, vi x2, pm_un, pm_un] [] σ K
  refine g_ic 1 ck rfl rfl ?_
  refine r_is 2 ck rfl rfl rfl rfl ?_
  refine g_ic 3 ck rfl rfl ?_
  refine r_is 5 ck rfl rfl rfl rfl ?_
  exact o16_5 ho1 h
/-! 17 TermDesk$Arithmetic.fillInnerRow(LTermDesk$Poly;)V -/
def w17_10 (B : va_E) (σ : l2_m) (o1 : Nat) (x2 : Int)  (K : Int → l2_m → Prop) : Prop := lz2 (fun X10 x2 σ => ((rg x2 ∧ rg (σ o1 2)) ∧ (if x2 < (σ o1 2) then ((0 ≤ x2 ∧ x2 < 60) ∧ ∀ x3 : Int, x3 = (σ (o1 + 1) x2) → (rg x3 ∧ 0 ≤ (σ 45 2) ∧ (σ 45 2) < 3 ∧ 0 ≤ ((e5 x3 (σ 45 2)) % 16) ∧ ((e5 x3 (σ 45 2)) % 16) < 16) ∧ ∀ x4 : Int, x4 = (σ 46 ((e5 x3 (σ 45 2)) % 16)) → (0 ≤ (σ 45 1) ∧ (σ 45 1) < 3 ∧ 0 ≤ ((e5 x3 (σ 45 1)) % 16) ∧ ((e5 x3 (σ 45 1)) % 16) < 16 ∧ 2 ≤ (σ 34 0) ∧ (σ 34 0) ≤ 97 ∧ rg (x4 * (σ 47 ((e5 x3 (σ 45 1)) % 16)))) ∧ ∀ x4' : Int, x4' = ((x4 * (σ 47 ((e5 x3 (σ 45 1)) % 16))) % (σ 34 0)) → (0 ≤ (σ 45 0) ∧ (σ 45 0) < 3) ∧ ∀ x5 : Int, x5 = ((e5 x3 (σ 45 0)) % 16) → (0 ≤ x5 ∧ x5 < 16 ∧ rg ((σ 48 x5) + (x4' * (σ (o1 + 2) x2)))) ∧ ∀ σ' : l2_m, σ' = l2_u σ 48 x5 (((σ 48 x5) + (x4' * (σ (o1 + 2) x2))) % (σ 34 0)) → X10 (x2 + 1) σ') else K 0 σ))) x2 σ
theorem o17_10 {B : va_E} {σ : l2_m} {o1 : Nat} {x2 : Int} {u3 : Value} {u4 : Value} {u5 : Value}  {K : Int → l2_m → Prop} (ho1 : isP o1) (hu3 : (u3.category == 1) = true) (hu4 : (u4.category == 1) = true) (hu5 : (u5.category == 1) = true)  (h : w17_10 B σ o1 x2  K) : wW B 17 10 [vr 38, vr o1, vi x2, u3, u4, u5] [] σ K := by
  have ck : pm_code 17 = pc_17 := rfl
  unfold w17_10 at h
  refine h (fun x2 σ => ∀ u3 : Value, (u3.category == 1) = true → ∀ u4 : Value, (u4.category == 1) = true → ∀ u5 : Value, (u5.category == 1) = true → wW B 17 10 [vr 38, vr o1, vi x2, u3, u4, u5] [] σ K) ?_ u3 hu3 u4 hu4 u5 hu5
  clear h
  intro x2 σ h u3 hu3 u4 hu4 u5 hu5
  obtain ⟨⟨hs1, hs2⟩, h⟩ := h
  refine g_il 11 ck rfl rfl rfl ?_
  refine g_al 12 ck rfl rfl rfl ?_
  refine r_gfi 15 2 ck rfl rfl (isP_2 ho1) rfl ?_
  refine g_icge 18 127 ck rfl rfl rfl hs1 hs2 (fun hc => ?_) (fun hc => ?_)
  · replace h := ite_hf h (Int.not_lt.mpr hc)
    exact g_retv ck rfl rfl h
  · replace h := ite_ht h (Int.not_le.mp hc)
    obtain ⟨⟨hs3, hs4⟩, h⟩ := h
    refine g_al 19 ck rfl rfl rfl ?_
    refine r_gfr 22 _ ck rfl rfl (isP_0 ho1) (isX_g (isP_c ho1)) ?_
    refine g_il 23 ck rfl rfl rfl ?_
    refine g_ial (m := 60) 24 ck rfl rfl (isP_m ho1) hs3 hs4 ?_
    refine r_is 25 ck rfl rfl rfl rfl ?_
    replace h := h _ rfl
    obtain ⟨⟨hs5, hs6, hs7, hs8, hs9⟩, h⟩ := h
    refine g_al 26 ck rfl rfl rfl ?_
    refine r_gfr 29 46 ck rfl rfl rfl (by decide) ?_
    refine g_il 30 ck rfl rfl rfl ?_
    refine g_al 31 ck rfl rfl rfl ?_
    refine r_gfr 34 45 ck rfl rfl rfl (by decide) ?_
    refine g_ic 35 ck rfl rfl ?_
    refine g_ial (m := 3) 36 ck rfl rfl rfl (by decide) (by decide) ?_
    refine g_csi (as := [_, _]) (rest := [_]) 39 ck rfl rfl rfl rfl rfl (by decide) rfl rfl rfl (Nat.le_of_ble_eq_true rfl) (s154 hs5 hs6 hs7 ?_)
    refine g_ic 41 ck rfl rfl ?_
    refine r_andk 16 4 42 ck rfl rfl (by decide) (by decide) (by decide) ?_
    refine g_ial (m := 16) 43 ck rfl rfl rfl hs8 hs9 ?_
    refine r_is 45 ck rfl rfl rfl rfl ?_
    replace h := h _ rfl
    obtain ⟨⟨hs10, hs11, hs12, hs13, hs14, hs15, hs16⟩, h⟩ := h
    refine g_al 46 ck rfl rfl rfl ?_
    refine r_gfr 49 34 ck rfl rfl rfl (by decide) ?_
    refine g_il 51 ck rfl rfl rfl ?_
    refine g_al 52 ck rfl rfl rfl ?_
    refine r_gfr 55 47 ck rfl rfl rfl (by decide) ?_
    refine g_il 56 ck rfl rfl rfl ?_
    refine g_al 57 ck rfl rfl rfl ?_
    refine r_gfr 60 45 ck rfl rfl rfl (by decide) ?_
    refine g_ic 61 ck rfl rfl ?_
    refine g_ial (m := 3) 62 ck rfl rfl rfl (by decide) (by decide) ?_
    refine g_csi (as := [_, _]) (rest := [_, _, _]) 65 ck rfl rfl rfl rfl rfl (by decide) rfl rfl rfl (Nat.le_of_ble_eq_true rfl) (s154 hs5 hs10 hs11 ?_)
    refine g_ic 67 ck rfl rfl ?_
    refine r_andk 16 4 68 ck rfl rfl (by decide) (by decide) (by decide) ?_
    refine g_ial (m := 16) 69 ck rfl rfl rfl hs12 hs13 ?_
    refine g_mul 70 ck rfl rfl ?_
    refine g_cvi (as := [_]) (rest := []) 73 ck rfl rfl rfl rfl rfl rfl (by decide) rfl rfl rfl rfl (Nat.le_of_ble_eq_true rfl) (s72 rfl hs14 hs15 hs16 ?_)
    refine r_is 75 ck rfl rfl rfl rfl ?_
    replace h := h _ rfl
    obtain ⟨⟨hs17, hs18⟩, h⟩ := h
    refine g_il 76 ck rfl rfl rfl ?_
    refine g_al 77 ck rfl rfl rfl ?_
    refine r_gfr 80 45 ck rfl rfl rfl (by decide) ?_
    refine g_ic 81 ck rfl rfl ?_
    refine g_ial (m := 3) 82 ck rfl rfl rfl (by decide) (by decide) ?_
    refine g_csi (as := [_, _]) (rest := []) 85 ck rfl rfl rfl rfl rfl (by decide) rfl rfl rfl (Nat.le_of_ble_eq_true rfl) (s154 hs5 hs17 hs18 ?_)
    refine g_ic 87 ck rfl rfl ?_
    refine r_andk 16 4 88 ck rfl rfl (by decide) (by decide) (by decide) ?_
    refine r_is 90 ck rfl rfl rfl rfl ?_
    replace h := h _ rfl
    obtain ⟨⟨hs19, hs20, hs21⟩, h⟩ := h
    refine g_al 91 ck rfl rfl rfl ?_
    refine r_gfr 94 48 ck rfl rfl rfl (by decide) ?_
    refine g_il 96 ck rfl rfl rfl ?_
    refine g_al 97 ck rfl rfl rfl ?_
    refine r_gfr 100 34 ck rfl rfl rfl (by decide) ?_
    refine g_al 101 ck rfl rfl rfl ?_
    refine r_gfr 104 48 ck rfl rfl rfl (by decide) ?_
    refine g_il 106 ck rfl rfl rfl ?_
    refine g_ial (m := 16) 107 ck rfl rfl rfl hs19 hs20 ?_
    refine g_il 109 ck rfl rfl rfl ?_
    refine g_al 110 ck rfl rfl rfl ?_
    refine r_gfr 113 _ ck rfl rfl (isP_1 ho1) (isX_g (isP_c ho1)) ?_
    refine g_il 114 ck rfl rfl rfl ?_
    refine g_ial (m := 60) 115 ck rfl rfl (isP_k ho1) hs3 hs4 ?_
    refine g_mul 116 ck rfl rfl ?_
    refine g_add 117 ck rfl rfl ?_
    refine g_cvi (as := [_]) (rest := [_, _]) 120 ck rfl rfl rfl rfl rfl rfl (by decide) rfl rfl rfl rfl (Nat.le_of_ble_eq_true rfl) (s72 rfl hs14 hs15 hs21 ?_)
    refine g_ias (m := 16) 121 ck rfl rfl rfl hs19 hs20 ?_
    replace h := h _ rfl
    refine r_ii 124 ck rfl rfl rfl rfl ?_
    refine g_goto 10 ck rfl rfl ?_
    exact h _ rfl _ rfl _ rfl
def w17 (B : va_E) (σ : l2_m) (o1 : Nat) (K : Int → l2_m → Prop) : Prop := (∀ σ' : l2_m, σ' = fil σ 48 0 ((16 : Nat) : Int) → w17_10 B σ' o1 0 K)
theorem o17 {B : va_E} {σ : l2_m} {o1 : Nat} {K : Int → l2_m → Prop} (ho1 : isP o1)  (h : w17 B σ o1  K) : wC B 17 [vr 38, vr o1] σ K := by
  have ck : pm_code 17 = pc_17 := rfl
  unfold w17 at h
  show wW B 17 0 [vr 38, vr o1, pm_un, pm_un, pm_un, pm_un] [] σ K
  refine g_al 1 ck rfl rfl rfl ?_
  refine r_gfr 4 48 ck rfl rfl rfl (by decide) ?_
  refine g_ic 5 ck rfl rfl ?_
  refine g_csv (as := [_, _]) (rest := []) 8 ck rfl rfl rfl rfl rfl rfl rfl rfl (Nat.le_of_ble_eq_true rfl) (s280 rfl ?_)
  replace h := h _ rfl
  refine g_ic 9 ck rfl rfl ?_
  refine r_is 10 ck rfl rfl rfl rfl ?_
  exact o17_10 ho1 rfl rfl rfl h
/-! 18 TermDesk$Arithmetic.rowRoots(I)I -/
def w18_39 (B : va_E) (σ : l2_m) (x1 : Int) (x2 : Int) (x3 : Int) (x4 : Int) (x5 : Int) (x6 : Int) (X27 : Int → Int → Prop) (K : Int → l2_m → Prop) : Prop := lz2 (fun X39 x5 x6 => (rg x6 ∧ (if x6 < 0 then (rg x5 ∧ (if x5 = 0 then (∀ x3'' : Int, x3'' = (x3 + 1) → X27 x3'' (x4 + 1)) else (∀ x3' : Int, x3' = (x3 + 0) → X27 x3' (x4 + 1)))) else ((0 ≤ x6 ∧ x6 < 16 ∧ 2 ≤ (σ 34 0) ∧ (σ 34 0) ≤ 97 ∧ rg ((x5 * x4) + (σ 48 x6))) ∧ ∀ x5' : Int, x5' = (((x5 * x4) + (σ 48 x6)) % (σ 34 0)) → X39 x5' (x6 + (-1)))))) x5 x6
theorem o18_39 {B : va_E} {σ : l2_m} {x1 : Int} {x2 : Int} {x3 : Int} {x4 : Int} {x5 : Int} {x6 : Int}  {X27 : Int → Int → Prop} {K : Int → l2_m → Prop}   (hX27 : ∀ (x3 : Int) (x4 : Int) (u5 : Value) (u6 : Value), (u5.category == 1) = true → (u6.category == 1) = true → X27 x3 x4 → wW B 18 27 [vr 38, vi x1, vi x2, vi x3, vi x4, u5, u6] [] σ K) (h : w18_39 B σ x1 x2 x3 x4 x5 x6 X27 K) : wW B 18 39 [vr 38, vi x1, vi x2, vi x3, vi x4, vi x5, vi x6] [] σ K := by
  have ck : pm_code 18 = pc_18 := rfl
  unfold w18_39 at h
  refine h (fun x5 x6 => wW B 18 39 [vr 38, vi x1, vi x2, vi x3, vi x4, vi x5, vi x6] [] σ K) ?_
  clear h
  intro x5 x6 h
  obtain ⟨hs1, h⟩ := h
  refine g_il 41 ck rfl rfl rfl ?_
  refine g_iflt 44 72 ck rfl rfl rfl hs1 (fun hc => ?_) (fun hc => ?_)
  · replace h := ite_ht h hc
    obtain ⟨hs2, h⟩ := h
    refine g_il 73 ck rfl rfl rfl ?_
    refine g_il 75 ck rfl rfl rfl ?_
    refine g_ifne 78 82 ck rfl rfl rfl hs2 (fun hc => ?_) (fun hc => ?_)
    · replace h := ite_hf h hc
      refine g_ic 83 ck rfl rfl ?_
      refine g_add 84 ck rfl rfl ?_
      refine r_is 85 ck rfl rfl rfl rfl ?_
      replace h := h _ rfl
      refine r_ii 88 ck rfl rfl rfl rfl ?_
      refine g_goto 27 ck rfl rfl ?_
      exact hX27 _ _ _ _ rfl rfl h
    · replace h := ite_ht h (Classical.not_not.mp hc)
      refine g_ic 79 ck rfl rfl ?_
      refine g_goto 83 ck rfl rfl ?_
      refine g_add 84 ck rfl rfl ?_
      refine r_is 85 ck rfl rfl rfl rfl ?_
      replace h := h _ rfl
      refine r_ii 88 ck rfl rfl rfl rfl ?_
      refine g_goto 27 ck rfl rfl ?_
      exact hX27 _ _ _ _ rfl rfl h
  · replace h := ite_hf h hc
    obtain ⟨⟨hs3, hs4, hs5, hs6, hs7⟩, h⟩ := h
    refine g_al 45 ck rfl rfl rfl ?_
    refine r_gfr 48 34 ck rfl rfl rfl (by decide) ?_
    refine g_il 50 ck rfl rfl rfl ?_
    refine g_il 52 ck rfl rfl rfl ?_
    refine g_mul 53 ck rfl rfl ?_
    refine g_al 54 ck rfl rfl rfl ?_
    refine r_gfr 57 48 ck rfl rfl rfl (by decide) ?_
    refine g_il 59 ck rfl rfl rfl ?_
    refine g_ial (m := 16) 60 ck rfl rfl rfl hs3 hs4 ?_
    refine g_add 61 ck rfl rfl ?_
    refine g_cvi (as := [_]) (rest := []) 64 ck rfl rfl rfl rfl rfl rfl (by decide) rfl rfl rfl rfl (Nat.le_of_ble_eq_true rfl) (s72 rfl hs5 hs6 hs7 ?_)
    refine r_is 66 ck rfl rfl rfl rfl ?_
    replace h := h _ rfl
    refine r_ii 69 ck rfl rfl rfl rfl ?_
    refine g_goto 39 ck rfl rfl ?_
    exact h
def w18_27 (B : va_E) (σ : l2_m) (x1 : Int) (x2 : Int) (x3 : Int) (x4 : Int)  (K : Int → l2_m → Prop) : Prop := lz2 (fun X27 x3 x4 => ((rg x4 ∧ rg x1) ∧ (if x4 < x1 then w18_39 B σ x1 x2 x3 x4 0 x2 X27 K else K x3 σ))) x3 x4
theorem o18_27 {B : va_E} {σ : l2_m} {x1 : Int} {x2 : Int} {x3 : Int} {x4 : Int} {u5 : Value} {u6 : Value}  {K : Int → l2_m → Prop}  (hu5 : (u5.category == 1) = true) (hu6 : (u6.category == 1) = true)  (h : w18_27 B σ x1 x2 x3 x4  K) : wW B 18 27 [vr 38, vi x1, vi x2, vi x3, vi x4, u5, u6] [] σ K := by
  have ck : pm_code 18 = pc_18 := rfl
  unfold w18_27 at h
  refine h (fun x3 x4 => ∀ u5 : Value, (u5.category == 1) = true → ∀ u6 : Value, (u6.category == 1) = true → wW B 18 27 [vr 38, vi x1, vi x2, vi x3, vi x4, u5, u6] [] σ K) ?_ u5 hu5 u6 hu6
  clear h
  intro x3 x4 h u5 hu5 u6 hu6
  obtain ⟨⟨hs1, hs2⟩, h⟩ := h
  refine g_il 29 ck rfl rfl rfl ?_
  refine g_il 30 ck rfl rfl rfl ?_
  refine g_icge 33 91 ck rfl rfl rfl hs1 hs2 (fun hc => ?_) (fun hc => ?_)
  · replace h := ite_hf h (Int.not_lt.mpr hc)
    refine g_il 92 ck rfl rfl rfl ?_
    exact g_ret ck rfl rfl (Or.inl (by decide)) h
  · replace h := ite_ht h (Int.not_le.mp hc)
    refine g_ic 34 ck rfl rfl ?_
    refine r_is 36 ck rfl rfl rfl rfl ?_
    refine g_il 37 ck rfl rfl rfl ?_
    refine r_is 39 ck rfl rfl rfl rfl ?_
    exact o18_39 (fun _ _ u5 u6 hu5 hu6 hx => hx u5 hu5 u6 hu6) h
def w18_3 (B : va_E) (σ : l2_m) (x1 : Int) (x2 : Int)  (K : Int → l2_m → Prop) : Prop := lz1 (fun X3 x2 => (rg x2 ∧ (((0 < x2) → 0 ≤ x2 ∧ x2 < 16 ∧ rg (σ 48 x2)) ∧ (if (0 < x2) ∧ ((σ 48 x2) = 0) then X3 (x2 + (-1)) else w18_27 B σ x1 x2 0 0 K)))) x2
theorem o18_3 {B : va_E} {σ : l2_m} {x1 : Int} {x2 : Int} {u3 : Value} {u4 : Value} {u5 : Value} {u6 : Value}  {K : Int → l2_m → Prop}  (hu3 : (u3.category == 1) = true) (hu4 : (u4.category == 1) = true) (hu5 : (u5.category == 1) = true) (hu6 : (u6.category == 1) = true)  (h : w18_3 B σ x1 x2  K) : wW B 18 3 [vr 38, vi x1, vi x2, u3, u4, u5, u6] [] σ K := by
  have ck : pm_code 18 = pc_18 := rfl
  unfold w18_3 at h
  refine h (fun x2 => ∀ u3 : Value, (u3.category == 1) = true → ∀ u4 : Value, (u4.category == 1) = true → ∀ u5 : Value, (u5.category == 1) = true → ∀ u6 : Value, (u6.category == 1) = true → wW B 18 3 [vr 38, vi x1, vi x2, u3, u4, u5, u6] [] σ K) ?_ u3 hu3 u4 hu4 u5 hu5 u6 hu6
  clear h
  intro x2 h u3 hu3 u4 hu4 u5 hu5 u6 hu6
  replace h := (And.imp_right mg_3s) h
  obtain ⟨hs1, h⟩ := h
  refine g_il 4 ck rfl rfl rfl ?_
  refine g_ifle 7 22 ck rfl rfl rfl hs1 (fun hc => ?_) (fun hc => ?_)
  · replace h := ite_hf h (Int.not_lt.mpr hc)
    refine g_ic 23 ck rfl rfl ?_
    refine r_is 24 ck rfl rfl rfl rfl ?_
    refine g_ic 25 ck rfl rfl ?_
    refine r_is 27 ck rfl rfl rfl rfl ?_
    exact o18_27 hu5 hu6 h
  · replace h := ite_ht h (Int.not_le.mp hc)
    obtain ⟨⟨hs2, hs3, hs4⟩, h⟩ := h
    refine g_al 8 ck rfl rfl rfl ?_
    refine r_gfr 11 48 ck rfl rfl rfl (by decide) ?_
    refine g_il 12 ck rfl rfl rfl ?_
    refine g_ial (m := 16) 13 ck rfl rfl rfl hs2 hs3 ?_
    refine g_ifne 16 22 ck rfl rfl rfl hs4 (fun hc => ?_) (fun hc => ?_)
    · replace h := ite_hf h hc
      refine g_ic 23 ck rfl rfl ?_
      refine r_is 24 ck rfl rfl rfl rfl ?_
      refine g_ic 25 ck rfl rfl ?_
      refine r_is 27 ck rfl rfl rfl rfl ?_
      exact o18_27 hu5 hu6 h
    · replace h := ite_ht h (Classical.not_not.mp hc)
      refine r_ii 19 ck rfl rfl rfl rfl ?_
      refine g_goto 3 ck rfl rfl ?_
      exact h _ hu3 _ hu4 _ hu5 _ hu6
def w18 (B : va_E) (σ : l2_m) (x1 : Int) (K : Int → l2_m → Prop) : Prop := w18_3 B σ x1 15 K
theorem o18 {B : va_E} {σ : l2_m} {x1 : Int} {K : Int → l2_m → Prop}   (h : w18 B σ x1  K) : wC B 18 [vr 38, vi x1] σ K := by
  have ck : pm_code 18 = pc_18 := rfl
  unfold w18 at h
  show wW B 18 0 [vr 38, vi x1, pm_un, pm_un, pm_un, pm_un, pm_un] [] σ K
  refine g_ic 2 ck rfl rfl ?_
  refine r_is 3 ck rfl rfl rfl rfl ?_
  exact o18_3 rfl rfl rfl rfl h
/-! 70 TermDesk$Modulus.choose(I)V -/
def w70_22 (B : va_E) (σ : l2_m) (o0 : Nat) (x1 : Int) (x2 : Int)  (K : Int → l2_m → Prop) : Prop := lz2 (fun X22 x2 σ => ((rg x2 ∧ rg x1) ∧ (if x2 < x1 then ((0 < x2 ∧ 0 ≤ x1 ∧ 0 ≤ (x1 % x2) ∧ (x1 % x2) < 98 ∧ rg ((x1 - (x1 / x2)) * (σ (o0 + 1) (x1 % x2))) ∧ 0 < x1 ∧ 0 ≤ ((x1 - (x1 / x2)) * (σ (o0 + 1) (x1 % x2))) ∧ 0 ≤ x2 ∧ x2 < 98) ∧ ∀ σ' : l2_m, σ' = l2_u σ (o0 + 1) x2 (((x1 - (x1 / x2)) * (σ (o0 + 1) (x1 % x2))) % x1) → X22 (x2 + 1) σ') else K 0 σ))) x2 σ
theorem o70_22 {B : va_E} {σ : l2_m} {o0 : Nat} {x1 : Int} {x2 : Int}   {K : Int → l2_m → Prop} (ho0 : isM o0)   (h : w70_22 B σ o0 x1 x2  K) : wW B 70 22 [vr o0, vi x1, vi x2] [] σ K := by
  have ck : pm_code 70 = pc_70 := rfl
  unfold w70_22 at h
  refine h (fun x2 σ => wW B 70 22 [vr o0, vi x1, vi x2] [] σ K) ?_
  clear h
  intro x2 σ h
  obtain ⟨⟨hs1, hs2⟩, h⟩ := h
  refine g_il 23 ck rfl rfl rfl ?_
  refine g_il 24 ck rfl rfl rfl ?_
  refine g_icge 27 55 ck rfl rfl rfl hs1 hs2 (fun hc => ?_) (fun hc => ?_)
  · replace h := ite_hf h (Int.not_lt.mpr hc)
    exact g_retv ck rfl rfl h
  · replace h := ite_ht h (Int.not_le.mp hc)
    obtain ⟨⟨hs3, hs4, hs5, hs6, hs7, hs8, hs9, hs10, hs11⟩, h⟩ := h
    refine g_al 28 ck rfl rfl rfl ?_
    refine r_gfr 31 _ ck rfl rfl (isM_1 ho0) (isX_g (isM_c ho0)) ?_
    refine g_il 32 ck rfl rfl rfl ?_
    refine g_il 33 ck rfl rfl rfl ?_
    refine g_il 34 ck rfl rfl rfl ?_
    refine g_il 35 ck rfl rfl rfl ?_
    refine g_div 36 ck rfl rfl hs2 hs1 hs4 hs3 ?_
    refine g_sub 37 ck rfl rfl ?_
    refine g_al 38 ck rfl rfl rfl ?_
    refine r_gfr 41 _ ck rfl rfl (isM_1 ho0) (isX_g (isM_c ho0)) ?_
    refine g_il 42 ck rfl rfl rfl ?_
    refine g_il 43 ck rfl rfl rfl ?_
    refine g_rem 44 ck rfl rfl hs2 hs1 hs4 hs3 ?_
    refine g_ial (m := 98) 45 ck rfl rfl (isM_m ho0) hs5 hs6 ?_
    refine g_mul 46 ck rfl rfl ?_
    refine g_il 47 ck rfl rfl rfl ?_
    refine g_rem 48 ck rfl rfl hs7 hs2 hs9 hs8 ?_
    refine g_ias (m := 98) 49 ck rfl rfl (isM_m ho0) hs10 hs11 ?_
    replace h := h _ rfl
    refine r_ii 52 ck rfl rfl rfl rfl ?_
    refine g_goto 22 ck rfl rfl ?_
    exact h
def w70 (B : va_E) (σ : l2_m) (o0 : Nat) (x1 : Int) (K : Int → l2_m → Prop) : Prop := (rg x1 ∧ (if isPr x1 then (∀ σ' : l2_m, σ' = l2_u σ o0 0 x1 → ∀ σ'' : l2_m, σ'' = l2_u σ' (o0 + 1) 1 1 → w70_22 B σ'' o0 x1 2 K) else K 0 σ))
theorem o70 {B : va_E} {σ : l2_m} {o0 : Nat} {x1 : Int} {K : Int → l2_m → Prop} (ho0 : isM o0)  (h : w70 B σ o0 x1  K) : wC B 70 [vr o0, vi x1] σ K := by
  have ck : pm_code 70 = pc_70 := rfl
  unfold w70 at h
  show wW B 70 0 [vr o0, vi x1, pm_un] [] σ K
  obtain ⟨hs1, h⟩ := h
  refine g_il 1 ck rfl rfl rfl ?_
  refine g_csi (as := [_]) (rest := []) 4 ck rfl rfl rfl rfl rfl (by decide) rfl rfl rfl (Nat.le_of_ble_eq_true rfl) (s69 hs1 ?_)
  refine g_ifne 7 8 ck rfl rfl rfl rg_b2i (fun hc => ?_) (fun hc => ?_)
  · replace h := ite_ht h (b2i_t hc)
    refine g_al 9 ck rfl rfl rfl ?_
    refine g_il 10 ck rfl rfl rfl ?_
    refine g_pfi 13 ck rfl rfl (isM_0 ho0) 0 rfl rfl ?_
    replace h := h _ rfl
    refine g_al 14 ck rfl rfl rfl ?_
    refine r_gfr 17 _ ck rfl rfl (isM_1 ho0) (isX_g (isM_c ho0)) ?_
    refine g_ic 18 ck rfl rfl ?_
    refine g_ic 19 ck rfl rfl ?_
    refine g_ias (m := 98) 20 ck rfl rfl (isM_m ho0) (by decide) (by decide) ?_
    replace h := h _ rfl
    refine g_ic 21 ck rfl rfl ?_
    refine r_is 22 ck rfl rfl rfl rfl ?_
    exact o70_22 ho0 h
  · replace h := ite_hf h (b2i_f (Classical.not_not.mp hc))
    exact g_retv ck rfl rfl h
/-! 75 TermDesk$Order.choose(III)V -/
def w75 (B : va_E) (σ : l2_m) (o0 : Nat) (x1 : Int) (x2 : Int) (x3 : Int) (K : Int → l2_m → Prop) : Prop := ((rg x1 ∧ rg x2 ∧ rg x3) ∧ (if isOr x1 x2 x3 then (∀ σ' : l2_m, σ' = l2_u σ o0 0 x1 → ∀ σ'' : l2_m, σ'' = l2_u σ' o0 1 x2 → ∀ σ''' : l2_m, σ''' = l2_u σ'' o0 2 x3 → ∀ σ'''' : l2_m, σ'''' = l2_u σ''' o0 3 ((3 - x2) - x3) → (if x1 = 0 then (wC B 76 [vr o0, vi 256, vi 16, vi 1] σ'''' (fun _ σ''''' => K 0 σ''''')) else (if x1 = 1 then (wC B 76 [vr o0, vi 272, vi 257, vi 256] σ'''' (fun _ σ'''''' => K 0 σ'''''')) else (wC B 76 [vr o0, vi 256, vi 255, vi 240] σ'''' (fun _ σ''''''' => K 0 σ'''''''))))) else K 0 σ))
theorem o75 {B : va_E} {σ : l2_m} {o0 : Nat} {x1 : Int} {x2 : Int} {x3 : Int} {K : Int → l2_m → Prop} (ho0 : isO o0)  (h : w75 B σ o0 x1 x2 x3  K) : wC B 75 [vr o0, vi x1, vi x2, vi x3] σ K := by
  have ck : pm_code 75 = pc_75 := rfl
  unfold w75 at h
  show wW B 75 0 [vr o0, vi x1, vi x2, vi x3] [] σ K
  obtain ⟨⟨hs1, hs2, hs3⟩, h⟩ := h
  refine g_il 1 ck rfl rfl rfl ?_
  refine g_il 2 ck rfl rfl rfl ?_
  refine g_il 3 ck rfl rfl rfl ?_
  refine g_csi (as := [_, _, _]) (rest := []) 6 ck rfl rfl rfl rfl rfl (by decide) rfl rfl rfl (Nat.le_of_ble_eq_true rfl) (s149 hs1 hs2 hs3 ?_)
  refine g_ifne 9 10 ck rfl rfl rfl rg_b2i (fun hc => ?_) (fun hc => ?_)
  · replace h := ite_ht h (b2i_t hc)
    refine g_al 11 ck rfl rfl rfl ?_
    refine g_il 12 ck rfl rfl rfl ?_
    refine g_pfi 15 ck rfl rfl (isO_0 ho0) 0 rfl rfl ?_
    replace h := h _ rfl
    refine g_al 16 ck rfl rfl rfl ?_
    refine g_il 17 ck rfl rfl rfl ?_
    refine g_pfi 20 ck rfl rfl (isO_1 ho0) 1 rfl rfl ?_
    replace h := h _ rfl
    refine g_al 21 ck rfl rfl rfl ?_
    refine g_il 22 ck rfl rfl rfl ?_
    refine g_pfi 25 ck rfl rfl (isO_2 ho0) 2 rfl rfl ?_
    replace h := h _ rfl
    refine g_al 26 ck rfl rfl rfl ?_
    refine g_ic 27 ck rfl rfl ?_
    refine g_il 28 ck rfl rfl rfl ?_
    refine g_sub 29 ck rfl rfl ?_
    refine g_il 30 ck rfl rfl rfl ?_
    refine g_sub 31 ck rfl rfl ?_
    refine g_pfi 34 ck rfl rfl (isO_3 ho0) 3 rfl rfl ?_
    replace h := h _ rfl
    refine g_il 35 ck rfl rfl rfl ?_
    by_cases hc0 : x1 = 0
    · replace h := ite_ht h hc0
      refine g_lsw 60 ck rfl hs1 rfl (by rw [hc0]; decide) (by rw [hc0]; rfl) ?_
      refine g_al 61 ck rfl rfl rfl ?_
      refine g_ic 64 ck rfl rfl ?_
      refine g_ic 66 ck rfl rfl ?_
      refine g_ic 67 ck rfl rfl ?_
      refine g_cvv (as := [_, _, _]) (rest := []) 70 ck rfl rfl rfl rfl rfl rfl (isO_c ho0) rfl rfl rfl (Nat.le_of_ble_eq_true rfl) (wC.mono h (fun _ σ''''' h => ?_))
      refine g_goto 102 ck rfl rfl ?_
      exact g_retv ck rfl rfl h
    replace h := ite_hf h hc0
    by_cases hc1 : x1 = 1
    · replace h := ite_ht h hc1
      refine g_lsw 73 ck rfl hs1 rfl (by rw [hc1]; decide) (by rw [hc1]; rfl) ?_
      refine g_al 74 ck rfl rfl rfl ?_
      refine g_ic 77 ck rfl rfl ?_
      refine g_ic 80 ck rfl rfl ?_
      refine g_ic 83 ck rfl rfl ?_
      refine g_cvv (as := [_, _, _]) (rest := []) 86 ck rfl rfl rfl rfl rfl rfl (isO_c ho0) rfl rfl rfl (Nat.le_of_ble_eq_true rfl) (wC.mono h (fun _ σ'''''' h => ?_))
      refine g_goto 102 ck rfl rfl ?_
      exact g_retv ck rfl rfl h
    replace h := ite_hf h hc1
    refine g_lsw 89 ck rfl hs1 rfl (by simp [Op.lookupswitch.offset, hc0, Ne.symm hc0, hc1, Ne.symm hc1]) (by simp [Op.lookupswitch.offset, hc0, Ne.symm hc0, hc1, Ne.symm hc1]) ?_
    refine g_al 90 ck rfl rfl rfl ?_
    refine g_ic 93 ck rfl rfl ?_
    refine g_ic 96 ck rfl rfl ?_
    refine g_ic 99 ck rfl rfl ?_
    refine g_cvv (as := [_, _, _]) (rest := []) 102 ck rfl rfl rfl rfl rfl rfl (isO_c ho0) rfl rfl rfl (Nat.le_of_ble_eq_true rfl) (wC.mono h (fun _ σ''''''' h => ?_))
    exact g_retv ck rfl rfl h
  · replace h := ite_hf h (b2i_f (Classical.not_not.mp hc))
    exact g_retv ck rfl rfl h
/-! 89 TermDesk$Poly.hasUnknown(I)Z -/
def w89_2 (B : va_E) (σ : l2_m) (o0 : Nat) (x1 : Int) (x2 : Int)  (K : Int → l2_m → Prop) : Prop := lz1 (fun X2 x2 => ((rg x2 ∧ rg (σ o0 2)) ∧ (if x2 < (σ o0 2) then ((0 ≤ x2 ∧ x2 < 60 ∧ rg (σ (o0 + 1) x2) ∧ 0 ≤ x1 ∧ x1 < 3) ∧ (if 0 < (e5 (σ (o0 + 1) x2) x1) then K 1 σ else X2 (x2 + 1))) else K 0 σ))) x2
theorem o89_2 {B : va_E} {σ : l2_m} {o0 : Nat} {x1 : Int} {x2 : Int}   {K : Int → l2_m → Prop} (ho0 : isP o0)   (h : w89_2 B σ o0 x1 x2  K) : wW B 89 2 [vr o0, vi x1, vi x2] [] σ K := by
  have ck : pm_code 89 = pc_89 := rfl
  unfold w89_2 at h
  refine h (fun x2 => wW B 89 2 [vr o0, vi x1, vi x2] [] σ K) ?_
  clear h
  intro x2 h
  obtain ⟨⟨hs1, hs2⟩, h⟩ := h
  refine g_il 3 ck rfl rfl rfl ?_
  refine g_al 4 ck rfl rfl rfl ?_
  refine r_gfi 7 2 ck rfl rfl (isP_2 ho0) rfl ?_
  refine g_icge 10 31 ck rfl rfl rfl hs1 hs2 (fun hc => ?_) (fun hc => ?_)
  · replace h := ite_hf h (Int.not_lt.mpr hc)
    refine g_ic 32 ck rfl rfl ?_
    exact g_retb ck rfl rfl (Or.inl rfl) h
  · replace h := ite_ht h (Int.not_le.mp hc)
    obtain ⟨⟨hs3, hs4, hs5, hs6, hs7⟩, h⟩ := h
    refine g_al 11 ck rfl rfl rfl ?_
    refine r_gfr 14 _ ck rfl rfl (isP_0 ho0) (isX_g (isP_c ho0)) ?_
    refine g_il 15 ck rfl rfl rfl ?_
    refine g_ial (m := 60) 16 ck rfl rfl (isP_m ho0) hs3 hs4 ?_
    refine g_il 17 ck rfl rfl rfl ?_
    refine g_csi (as := [_, _]) (rest := []) 20 ck rfl rfl rfl rfl rfl (by decide) rfl rfl rfl (Nat.le_of_ble_eq_true rfl) (s154 hs5 hs6 hs7 ?_)
    refine g_ifle 23 25 ck rfl rfl rfl (rg_e5 _ _) (fun hc => ?_) (fun hc => ?_)
    · replace h := ite_hf h (Int.not_lt.mpr hc)
      refine r_ii 28 ck rfl rfl rfl rfl ?_
      refine g_goto 2 ck rfl rfl ?_
      exact h
    · replace h := ite_ht h (Int.not_le.mp hc)
      refine g_ic 24 ck rfl rfl ?_
      exact g_retb ck rfl rfl (Or.inr rfl) h
def w89 (B : va_E) (σ : l2_m) (o0 : Nat) (x1 : Int) (K : Int → l2_m → Prop) : Prop := w89_2 B σ o0 x1 0 K
theorem o89 {B : va_E} {σ : l2_m} {o0 : Nat} {x1 : Int} {K : Int → l2_m → Prop} (ho0 : isP o0)  (h : w89 B σ o0 x1  K) : wC B 89 [vr o0, vi x1] σ K := by
  have ck : pm_code 89 = pc_89 := rfl
  unfold w89 at h
  show wW B 89 0 [vr o0, vi x1, pm_un] [] σ K
  refine g_ic 1 ck rfl rfl ?_
  refine r_is 2 ck rfl rfl rfl rfl ?_
  exact o89_2 ho0 h
/-! 91 TermDesk$Poly.settle(LTermDesk$Modulus;)V -/
def w91_73 (B : va_E) (σ : l2_m) (o0 : Nat) (o1 : Nat) (x2 : Int) (x3 : Int) (x4 : Int) (x5 : Int) (x6 : Int) (X19 : Int → Int → l2_m → Prop) (K : Int → l2_m → Prop) : Prop := ((2 ≤ (σ o1 0) ∧ (σ o1 0) ≤ 97 ∧ rg x6) ∧ ∀ x6' : Int, x6' = (x6 % (σ o1 0)) → (if x6' = 0 then X19 x3 (x4 + (-1)) σ else ((0 ≤ (σ o0 2) ∧ rg (σ o0 2)) ∧ ∀ σ' : l2_m, σ' = app σ o0 x5 x6' → X19 x3 (x4 + (-1)) σ')))
theorem o91_73 {B : va_E} {σ : l2_m} {o0 : Nat} {o1 : Nat} {x2 : Int} {x3 : Int} {x4 : Int} {x5 : Int} {x6 : Int}  {X19 : Int → Int → l2_m → Prop} {K : Int → l2_m → Prop} (ho0 : isP o0) (ho1 : isM o1)  (hX19 : ∀ (x3 : Int) (x4 : Int) (σ : l2_m) (u5 : Value) (u6 : Value), (u5.category == 1) = true → (u6.category == 1) = true → X19 x3 x4 σ → wW B 91 19 [vr o0, vr o1, vi x2, vi x3, vi x4, u5, u6] [] σ K) (h : w91_73 B σ o0 o1 x2 x3 x4 x5 x6 X19 K) : wW B 91 73 [vr o0, vr o1, vi x2, vi x3, vi x4, vi x5, vi x6] [] σ K := by
  have ck : pm_code 91 = pc_91 := rfl
  unfold w91_73 at h
  obtain ⟨⟨hs1, hs2, hs3⟩, h⟩ := h
  refine g_al 74 ck rfl rfl rfl ?_
  refine g_il 76 ck rfl rfl rfl ?_
  refine g_cvi (as := [_]) (rest := []) 79 ck rfl rfl rfl rfl rfl rfl (by decide) (isM_c ho1) rfl rfl rfl (Nat.le_of_ble_eq_true rfl) (s72 ho1 hs1 hs2 hs3 ?_)
  refine r_is 81 ck rfl rfl rfl rfl ?_
  replace h := h _ rfl
  refine g_il 83 ck rfl rfl rfl ?_
  refine g_ifeq 86 95 ck rfl rfl rfl (rg_md hs1 hs2) (fun hc => ?_) (fun hc => ?_)
  · replace h := ite_ht h hc
    refine r_ii 98 ck rfl rfl rfl rfl ?_
    refine g_goto 19 ck rfl rfl ?_
    exact hX19 _ _ _ _ _ rfl rfl h
  · replace h := ite_hf h hc
    obtain ⟨⟨hs4, hs5⟩, h⟩ := h
    refine g_al 87 ck rfl rfl rfl ?_
    refine g_il 89 ck rfl rfl rfl ?_
    refine g_il 91 ck rfl rfl rfl ?_
    refine g_cvi (as := [_, _]) (rest := []) 94 ck rfl rfl rfl rfl rfl rfl (by decide) (isP_c ho0) rfl rfl rfl (Nat.le_of_ble_eq_true rfl) (s82 ho0 hs4 hs5 ?_)
    replace h := h _ rfl
    refine g_pop 95 ck rfl rfl rfl ?_
    refine r_ii 98 ck rfl rfl rfl rfl ?_
    refine g_goto 19 ck rfl rfl ?_
    exact hX19 _ _ _ _ _ rfl rfl h
def w91_40 (B : va_E) (σ : l2_m) (o0 : Nat) (o1 : Nat) (x2 : Int) (x3 : Int) (x4 : Int) (x5 : Int) (x6 : Int) (X19 : Int → Int → l2_m → Prop) (K : Int → l2_m → Prop) : Prop := lz2 (fun X40 x3 x6 => ((rg x3 ∧ rg x2) ∧ (((x3 < x2) → 0 ≤ x3 ∧ x3 < 60 ∧ rg (σ (o0 + 1) x3) ∧ rg x5) ∧ (if (x3 < x2) ∧ ((σ (o0 + 1) x3) = x5) then (∀ x6' : Int, x6' = (x6 + (σ (o0 + 2) x3)) → X40 (x3 + 1) x6') else w91_73 B σ o0 o1 x2 x3 x4 x5 x6 X19 K)))) x3 x6
theorem o91_40 {B : va_E} {σ : l2_m} {o0 : Nat} {o1 : Nat} {x2 : Int} {x3 : Int} {x4 : Int} {x5 : Int} {x6 : Int}  {X19 : Int → Int → l2_m → Prop} {K : Int → l2_m → Prop} (ho0 : isP o0) (ho1 : isM o1)  (hX19 : ∀ (x3 : Int) (x4 : Int) (σ : l2_m) (u5 : Value) (u6 : Value), (u5.category == 1) = true → (u6.category == 1) = true → X19 x3 x4 σ → wW B 91 19 [vr o0, vr o1, vi x2, vi x3, vi x4, u5, u6] [] σ K) (h : w91_40 B σ o0 o1 x2 x3 x4 x5 x6 X19 K) : wW B 91 40 [vr o0, vr o1, vi x2, vi x3, vi x4, vi x5, vi x6] [] σ K := by
  have ck : pm_code 91 = pc_91 := rfl
  unfold w91_40 at h
  refine h (fun x3 x6 => wW B 91 40 [vr o0, vr o1, vi x2, vi x3, vi x4, vi x5, vi x6] [] σ K) ?_
  clear h
  intro x3 x6 h
  replace h := (And.imp_right mg_3s) h
  obtain ⟨⟨hs1, hs2⟩, h⟩ := h
  refine g_il 41 ck rfl rfl rfl ?_
  refine g_il 42 ck rfl rfl rfl ?_
  refine g_icge 45 73 ck rfl rfl rfl hs1 hs2 (fun hc => ?_) (fun hc => ?_)
  · replace h := ite_hf h (Int.not_lt.mpr hc)
    exact o91_73 ho0 ho1 hX19 h
  · replace h := ite_ht h (Int.not_le.mp hc)
    obtain ⟨⟨hs3, hs4, hs5, hs6⟩, h⟩ := h
    refine g_al 46 ck rfl rfl rfl ?_
    refine r_gfr 49 _ ck rfl rfl (isP_0 ho0) (isX_g (isP_c ho0)) ?_
    refine g_il 50 ck rfl rfl rfl ?_
    refine g_ial (m := 60) 51 ck rfl rfl (isP_m ho0) hs3 hs4 ?_
    refine g_il 53 ck rfl rfl rfl ?_
    refine g_icne 56 73 ck rfl rfl rfl hs5 hs6 (fun hc => ?_) (fun hc => ?_)
    · replace h := ite_hf h hc
      exact o91_73 ho0 ho1 hX19 h
    · replace h := ite_ht h (Classical.not_not.mp hc)
      refine g_il 58 ck rfl rfl rfl ?_
      refine g_al 59 ck rfl rfl rfl ?_
      refine r_gfr 62 _ ck rfl rfl (isP_1 ho0) (isX_g (isP_c ho0)) ?_
      refine g_il 63 ck rfl rfl rfl ?_
      refine g_ial (m := 60) 64 ck rfl rfl (isP_k ho0) hs3 hs4 ?_
      refine g_add 65 ck rfl rfl ?_
      refine r_is 67 ck rfl rfl rfl rfl ?_
      replace h := h _ rfl
      refine r_ii 70 ck rfl rfl rfl rfl ?_
      refine g_goto 40 ck rfl rfl ?_
      exact h
def w91_19 (B : va_E) (σ : l2_m) (o0 : Nat) (o1 : Nat) (x2 : Int) (x3 : Int) (x4 : Int)  (K : Int → l2_m → Prop) : Prop := lz3 (fun X19 x3 x4 σ => (rg x4 ∧ (((0 < x4) → rg x3 ∧ rg x2) ∧ (if (0 < x4) ∧ (x3 < x2) then ((0 ≤ x3 ∧ x3 < 60) ∧ ∀ x5 : Int, x5 = (σ (o0 + 1) x3) → w91_40 B σ o0 o1 x2 x3 x4 x5 0 X19 K) else K 0 σ)))) x3 x4 σ
theorem o91_19 {B : va_E} {σ : l2_m} {o0 : Nat} {o1 : Nat} {x2 : Int} {x3 : Int} {x4 : Int} {u5 : Value} {u6 : Value}  {K : Int → l2_m → Prop} (ho0 : isP o0) (ho1 : isM o1) (hu5 : (u5.category == 1) = true) (hu6 : (u6.category == 1) = true)  (h : w91_19 B σ o0 o1 x2 x3 x4  K) : wW B 91 19 [vr o0, vr o1, vi x2, vi x3, vi x4, u5, u6] [] σ K := by
  have ck : pm_code 91 = pc_91 := rfl
  unfold w91_19 at h
  refine h (fun x3 x4 σ => ∀ u5 : Value, (u5.category == 1) = true → ∀ u6 : Value, (u6.category == 1) = true → wW B 91 19 [vr o0, vr o1, vi x2, vi x3, vi x4, u5, u6] [] σ K) ?_ u5 hu5 u6 hu6
  clear h
  intro x3 x4 σ h u5 hu5 u6 hu6
  replace h := (And.imp_right mg_3s) h
  obtain ⟨hs1, h⟩ := h
  refine g_il 21 ck rfl rfl rfl ?_
  refine g_ifle 24 101 ck rfl rfl rfl hs1 (fun hc => ?_) (fun hc => ?_)
  · replace h := ite_hf h (Int.not_lt.mpr hc)
    exact g_retv ck rfl rfl h
  · replace h := ite_ht h (Int.not_le.mp hc)
    obtain ⟨⟨hs2, hs3⟩, h⟩ := h
    refine g_il 25 ck rfl rfl rfl ?_
    refine g_il 26 ck rfl rfl rfl ?_
    refine g_icge 29 101 ck rfl rfl rfl hs2 hs3 (fun hc => ?_) (fun hc => ?_)
    · replace h := ite_hf h (Int.not_lt.mpr hc)
      exact g_retv ck rfl rfl h
    · replace h := ite_ht h (Int.not_le.mp hc)
      obtain ⟨⟨hs4, hs5⟩, h⟩ := h
      refine g_al 30 ck rfl rfl rfl ?_
      refine r_gfr 33 _ ck rfl rfl (isP_0 ho0) (isX_g (isP_c ho0)) ?_
      refine g_il 34 ck rfl rfl rfl ?_
      refine g_ial (m := 60) 35 ck rfl rfl (isP_m ho0) hs4 hs5 ?_
      refine r_is 37 ck rfl rfl rfl rfl ?_
      replace h := h _ rfl
      refine g_ic 38 ck rfl rfl ?_
      refine r_is 40 ck rfl rfl rfl rfl ?_
      exact o91_40 ho0 ho1 (fun _ _ _ u5 u6 hu5 hu6 hx => hx u5 hu5 u6 hu6) h
def w91 (B : va_E) (σ : l2_m) (o0 : Nat) (o1 : Nat) (K : Int → l2_m → Prop) : Prop := (wC B 90 [vr o0] σ (fun _ σ' => (∀ x2 : Int, x2 = (σ' o0 2) → ∀ σ'' : l2_m, σ'' = l2_u σ' o0 2 0 → w91_19 B σ'' o0 o1 x2 0 x2 K)))
theorem o91 {B : va_E} {σ : l2_m} {o0 : Nat} {o1 : Nat} {K : Int → l2_m → Prop} (ho0 : isP o0) (ho1 : isM o1)  (h : w91 B σ o0 o1  K) : wC B 91 [vr o0, vr o1] σ K := by
  have ck : pm_code 91 = pc_91 := rfl
  unfold w91 at h
  show wW B 91 0 [vr o0, vr o1, pm_un, pm_un, pm_un, pm_un, pm_un] [] σ K
  refine g_al 1 ck rfl rfl rfl ?_
  refine g_cvv (as := []) (rest := []) 4 ck rfl rfl rfl rfl rfl rfl (isP_c ho0) rfl rfl rfl (Nat.le_of_ble_eq_true rfl) (wC.mono h (fun _ σ' h => ?_))
  refine g_al 5 ck rfl rfl rfl ?_
  refine r_gfi 8 2 ck rfl rfl (isP_2 ho0) rfl ?_
  refine r_is 9 ck rfl rfl rfl rfl ?_
  replace h := h _ rfl
  refine g_ic 10 ck rfl rfl ?_
  refine r_is 11 ck rfl rfl rfl rfl ?_
  refine g_al 12 ck rfl rfl rfl ?_
  refine g_ic 13 ck rfl rfl ?_
  refine g_pfi 16 ck rfl rfl (isP_2 ho0) 2 rfl rfl ?_
  replace h := h _ rfl
  refine g_il 17 ck rfl rfl rfl ?_
  refine r_is 19 ck rfl rfl rfl rfl ?_
  exact o91_19 ho0 ho1 rfl rfl h
