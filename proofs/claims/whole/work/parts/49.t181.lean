/-! 181 TermDeskModel.unknownHere()I -/
def w181 (B : va_E) (σ : l2_m)  (K : Int → l2_m → Prop) : Prop := ((rg (σ 186 19) ∧ 0 ≤ (σ 186 23) ∧ (σ 186 23) < 9223372036854775808) ∧ (if (σ 186 19) = 2 ∧ (σ 186 23) = wcd (l2_tx 10) then K 0 σ else (if (σ 186 19) = 2 ∧ (σ 186 23) = wcd (l2_tx 11) then K 1 σ else (if (σ 186 19) = 2 ∧ (σ 186 23) = wcd (l2_tx 12) then K 2 σ else K (-1) σ))))
theorem o181 {B : va_E} {σ : l2_m}  {K : Int → l2_m → Prop}   (h : w181 B σ   K) : wC B 181 [vr 186] σ K := by
  have ck : pm_code 181 = pc_181 := rfl
  unfold w181 at h
  show wW B 181 0 [vr 186] [] σ K
  obtain ⟨⟨s1, s2, s3⟩, h⟩ := h
  refine g_al 1 ck rfl rfl rfl ?_
  refine g_ldc 3 ck rfl rfl ?_
  refine g_cvi (as := [_]) (rest := []) 6 ck rfl rfl rfl rfl rfl rfl (by decide) rfl rfl rfl rfl (Nat.le_of_ble_eq_true rfl) (s179 (by decide) s1 s2 s3 ?_)
  refine g_ifeq 9 13 ck rfl rfl rfl rg_b2i (fun hc => ?_) (fun hc => ?_)
  · replace h := ite_hf h (b2i_f hc)
    refine g_al 14 ck rfl rfl rfl ?_
    refine g_ldc 16 ck rfl rfl ?_
    refine g_cvi (as := [_]) (rest := []) 19 ck rfl rfl rfl rfl rfl rfl (by decide) rfl rfl rfl rfl (Nat.le_of_ble_eq_true rfl) (s179 (by decide) s1 s2 s3 ?_)
    refine g_ifeq 22 26 ck rfl rfl rfl rg_b2i (fun hc => ?_) (fun hc => ?_)
    · replace h := ite_hf h (b2i_f hc)
      refine g_al 27 ck rfl rfl rfl ?_
      refine g_ldc 29 ck rfl rfl ?_
      refine g_cvi (as := [_]) (rest := []) 32 ck rfl rfl rfl rfl rfl rfl (by decide) rfl rfl rfl rfl (Nat.le_of_ble_eq_true rfl) (s179 (by decide) s1 s2 s3 ?_)
      refine g_ifeq 35 39 ck rfl rfl rfl rg_b2i (fun hc => ?_) (fun hc => ?_)
      · replace h := ite_hf h (b2i_f hc)
        refine g_ic 40 ck rfl rfl ?_
        exact g_ret ck rfl rfl (Or.inl (by decide)) h
      · replace h := ite_ht h (b2i_t hc)
        refine g_ic 36 ck rfl rfl ?_
        refine g_goto 40 ck rfl rfl ?_
        exact g_ret ck rfl rfl (Or.inl (by decide)) h
    · replace h := ite_ht h (b2i_t hc)
      refine g_ic 23 ck rfl rfl ?_
      refine g_goto 40 ck rfl rfl ?_
      exact g_ret ck rfl rfl (Or.inl (by decide)) h
  · replace h := ite_ht h (b2i_t hc)
    refine g_ic 10 ck rfl rfl ?_
    refine g_goto 40 ck rfl rfl ?_
    exact g_ret ck rfl rfl (Or.inl (by decide)) h
def unkR (σ : l2_m) : Int := if σ 186 19 = 2 ∧ 120 ≤ σ 186 23 ∧ σ 186 23 ≤ 122 then σ 186 23 - 120 else -1
theorem unkR_b (σ : l2_m) : -1 ≤ unkR σ ∧ unkR σ < 3 := by unfold unkR; split <;> omega
theorem unkR_rg (σ : l2_m) : rg (unkR σ) := by have := unkR_b σ; exact ⟨by omega, by omega⟩
theorem s181 {B : va_E} {σ : l2_m} {K : Int → l2_m → Prop} (h1 : rg (σ 186 19)) (h2 : 0 ≤ σ 186 23) (h3 : σ 186 23 < 9223372036854775808) (h : K (unkR σ) σ) : wC B 181 [vr 186] σ K := by
  refine o181 ?_
  unfold w181
  have t0 : wcd (l2_tx 10) = 120 := by decide
  have t1 : wcd (l2_tx 11) = 121 := by decide
  have t2 : wcd (l2_tx 12) = 122 := by decide
  rw [t0, t1, t2]
  refine ⟨⟨h1, h2, h3⟩, ?_⟩
  unfold unkR at h
  by_cases c0 : σ 186 19 = 2 ∧ σ 186 23 = 120
  · rw [if_pos c0]; rw [if_pos (by omega)] at h; rw [c0.2] at h; exact h
  · rw [if_neg c0]
    by_cases c1 : σ 186 19 = 2 ∧ σ 186 23 = 121
    · rw [if_pos c1]; rw [if_pos (by omega)] at h; rw [c1.2] at h; exact h
    · rw [if_neg c1]
      by_cases c2 : σ 186 19 = 2 ∧ σ 186 23 = 122
      · rw [if_pos c2]; rw [if_pos (by omega)] at h; rw [c2.2] at h; exact h
      · rw [if_neg c2]; rw [if_neg (by omega)] at h; exact h
