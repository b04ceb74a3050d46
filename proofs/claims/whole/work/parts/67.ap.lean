/-! ===== rows of terms that grow ===== -/
def AP (τ : l2_m) (o : Nat) (W H : Int → Int) (P : Int → Prop) : Prop := 0 ≤ τ o 2 ∧ τ o 2 ≤ 60 ∧ (∀ e : Int, 0 ≤ e → e < τ o 2 → ∃ k : Int, 0 ≤ k ∧ k < 4096 ∧ P k ∧ τ (o + 1) e = MW W k ∧ τ (o + 2) e = H k ∧ H k ≠ 0) ∧ (∀ e e' : Int, 0 ≤ e → e < e' → e' < τ o 2 → τ (o + 1) e ≠ τ (o + 1) e') ∧ (∀ k : Int, 0 ≤ k → k < 4096 → P k → H k ≠ 0 → ∃ e : Int, 0 ≤ e ∧ e < τ o 2 ∧ τ (o + 1) e = MW W k)
def fall (τ : l2_m) (o : Nat) : Prop := ∀ e e' : Int, 0 ≤ e → e < e' → e' < τ o 2 → τ (o + 1) e' < τ (o + 1) e
theorem AP_UR {τ : l2_m} {o : Nat} {W H : Int → Int} {P : Int → Prop} (h : AP τ o W H P) (hP : ∀ k : Int, 0 ≤ k → k < 4096 → H k ≠ 0 → P k) : UR τ o W H := by
  obtain ⟨h1, h2, h3, h4, h5⟩ := h
  refine ⟨h1, h2, fun i a b => ?_, h4, fun k a b c => h5 k a b (hP k a b c) c⟩
  obtain ⟨k, k1, k2, k3, k4, k5, k6⟩ := h3 i a b
  exact ⟨k, k1, k2, k4, k5, k6⟩
theorem AP_PR {τ : l2_m} {o : Nat} {W H : Int → Int} {P : Int → Prop} (h : AP τ o W H P) (hP : ∀ k : Int, 0 ≤ k → k < 4096 → H k ≠ 0 → P k) (hf : fall τ o) : PR τ o W H := by
  obtain ⟨h1, h2, h3, h4, h5⟩ := AP_UR h hP
  exact ⟨h1, h2, h3, hf, h5⟩
theorem AP_0 {τ : l2_m} {o : Nat} {W H : Int → Int} (h : τ o 2 = 0) : AP τ o W H (fun _ => False) ∧ fall τ o := ⟨⟨by omega, by omega, fun e a b => by omega, fun e e' a b c => by omega, fun k a b c => c.elim⟩, fun e e' a b c => by omega⟩
theorem AP_skip {τ : l2_m} {o : Nat} {W H : Int → Int} {P P' : Int → Prop} (h : AP τ o W H P) (h1 : ∀ k, P k → P' k) (h2 : ∀ k : Int, 0 ≤ k → k < 4096 → H k ≠ 0 → P' k → P k) : AP τ o W H P' := by
  obtain ⟨a1, a2, a3, a4, a5⟩ := h
  refine ⟨a1, a2, fun e x y => ?_, a4, fun k x y z w => a5 k x y (h2 k x y w z) w⟩
  obtain ⟨k, k1, k2, k3, k4⟩ := a3 e x y
  exact ⟨k, k1, k2, h1 k k3, k4⟩
theorem app_row {τ υ : l2_m} {o : Nat} {m c : Int} (hl : τ o 2 < 60) (he : υ = app τ o m c) : υ o 2 = τ o 2 + 1 ∧ (∀ j, υ (o + 1) j = if j = τ o 2 then m else τ (o + 1) j) ∧ (∀ j, υ (o + 2) j = if j = τ o 2 then c else τ (o + 2) j) ∧ frQ o τ υ := by
  have ta : ∀ b j, υ b j = if b = o ∧ j = 2 then τ o 2 + 1 else if b = o + 2 ∧ j = τ o 2 then c else if b = o + 1 ∧ j = τ o 2 then m else τ b j := fun b j => by rw [he]; exact app_at hl b j
  refine ⟨by rw [ta, if_pos ⟨rfl, rfl⟩], fun j => ?_, fun j => ?_, fun b j b1 b2 b3 => ?_⟩
  · rw [ta, if_neg (by omega), if_neg (by omega)]
    by_cases hj : j = τ o 2
    · rw [if_pos ⟨rfl, hj⟩, if_pos hj]
    · rw [if_neg (fun z => hj z.2), if_neg hj]
  · rw [ta, if_neg (by omega)]
    by_cases hj : j = τ o 2
    · rw [if_pos ⟨rfl, hj⟩, if_pos hj]
    · rw [if_neg (fun z => hj z.2), if_neg (by omega), if_neg hj]
  · rw [ta, if_neg (fun z => b1 z.1), if_neg (fun z => b3 z.1), if_neg (fun z => b2 z.1)]
theorem AP_app {τ υ : l2_m} {o : Nat} {W H : Int → Int} {P P' : Int → Prop} {k m c : Int} (h : AP τ o W H P) (k0 : 0 ≤ k) (k1 : k < 4096) (hk : ¬ P k) (hm : m = MW W k) (hc : c = H k) (hn : H k ≠ 0) (hl : τ o 2 < 60) (h1 : ∀ l, P l → P' l) (h2 : P' k) (h3 : ∀ l : Int, 0 ≤ l → l < 4096 → H l ≠ 0 → P' l → P l ∨ l = k) (he : υ = app τ o m c) : AP υ o W H P' := by
  obtain ⟨a1, a2, a3, a4, a5⟩ := h
  obtain ⟨t2, tm, tc, -⟩ := app_row hl he
  unfold AP
  rw [t2]
  refine ⟨by omega, by omega, fun e x y => ?_, fun e e' x y z => ?_, fun l l0 l1 l2 l3 => ?_⟩
  · rw [tm, tc]
    by_cases hx : e = τ o 2
    · rw [if_pos hx, if_pos hx]
      exact ⟨k, k0, k1, h2, hm, hc, hn⟩
    · rw [if_neg hx, if_neg hx]
      obtain ⟨l, l1, l2, l3, l4⟩ := a3 e x (by omega)
      exact ⟨l, l1, l2, h1 l l3, l4⟩
  · rw [tm, tm, if_neg (by omega)]
    by_cases hx : e' = τ o 2
    · rw [if_pos hx]
      obtain ⟨l, l1, l2, l3, l4, -⟩ := a3 e x (by omega)
      rw [l4, hm]
      intro z
      have := MW_inj l1 l2 k0 k1 z
      subst this
      exact hk l3
    · rw [if_neg hx]
      exact a4 e e' x y (by omega)
  · rcases h3 l l0 l1 l3 l2 with q | q
    · obtain ⟨e, x, y, z⟩ := a5 l l0 l1 q l3
      exact ⟨e, x, by omega, by rw [tm, if_neg (by omega)]; exact z⟩
    · exact ⟨τ o 2, a1, by omega, by rw [tm, if_pos rfl, hm, q]⟩
theorem fall_app {τ υ : l2_m} {o : Nat} {m c : Int} (h : fall τ o) (c0 : 0 ≤ τ o 2) (hl : τ o 2 < 60) (hb : ∀ e : Int, 0 ≤ e → e < τ o 2 → m < τ (o + 1) e) (he : υ = app τ o m c) : fall υ o := by
  obtain ⟨t2, tm, -, -⟩ := app_row hl he
  intro e e' x y z
  rw [t2] at z
  rw [tm e', tm e, if_neg (show ¬ e = τ o 2 by omega)]
  by_cases hx : e' = τ o 2
  · rw [if_pos hx]; exact hb e x (by omega)
  · rw [if_neg hx]; exact h e e' x y (by omega)
/-- no room: more than 60 -/
theorem AP_full {τ : l2_m} {o : Nat} {W H : Int → Int} {P : Int → Prop} {k : Int} (h : AP τ o W H P) (k0 : 0 ≤ k) (k1 : k < 4096) (hk : ¬ P k) (hn : H k ≠ 0) (hl : ¬ τ o 2 < 60) : 60 < cnt H 4096 := by
  obtain ⟨a1, a2, a3, a4, a5⟩ := h
  have t60 : τ o 2 = 60 := by omega
  have := cnt_inj (N := 4096) (fun e => if e < 60 then kom (τ (o + 1) e) else k) 61 H (fun e x y => by
    by_cases he : e < 60
    · obtain ⟨q, q1, q2, q3, q4, q5, q6⟩ := a3 e x (by omega)
      simp only [if_pos he]
      rw [q4, kom_MW q1 q2]
      exact ⟨q1, q2, q6⟩
    · simp only [if_neg he]
      exact ⟨k0, k1, hn⟩) (fun e e' x y z => by
    obtain ⟨q, q1, q2, q3, q4, q5, q6⟩ := a3 e x (by omega)
    simp only [if_pos (show e < 60 by omega)]
    rw [q4, kom_MW q1 q2]
    by_cases he : e' < 60
    · obtain ⟨l, l1, l2, l3, l4, l5, l6⟩ := a3 e' (by omega) (by omega)
      simp only [if_pos he]
      rw [l4, kom_MW l1 l2]
      rintro rfl
      exact a4 e e' x y (by omega) (by rw [q4, l4])
    · simp only [if_neg he]
      rintro rfl
      exact hk q3)
  omega
theorem frQ_tr {o : Nat} {σ τ υ : l2_m} (h1 : frQ o σ τ) (h2 : frQ o τ υ) : frQ o σ υ := fun b j x y z => by rw [h2 b j x y z]; exact h1 b j x y z
theorem frP_Q {o : Nat} {σ τ : l2_m} (h : frP o σ τ) : frQ o σ τ := fun b j _ y z => h b j y z
