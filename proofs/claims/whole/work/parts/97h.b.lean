/-! ===== the law: constant ===== -/
theorem hp_211 (B : va_E) (σ : l2_m) : hp B σ 211 = .inl (2, 1, .inr (.inl (fun j => Int64.ofInt (σ 211 j)))) := by
  rw [hp_at (q := (2, 1, [])) (by decide +kernel) (by decide)]
  rfl
theorem hp_u211 {B : va_E} {σ : l2_m} {x : Int} {y : Int64} (h : y = Int64.ofInt x) : va_up (hp B σ) 211 (.inl (2, 1, .inr (.inl (vp_updL (fun j => Int64.ofInt (σ 211 j)) 0 y)))) = hp B (l2_u σ 211 0 x) := by
  funext b
  unfold va_up
  by_cases hb : b = 211
  · rw [if_pos hb, hb, hp_211]
    congr 5
    funext j
    unfold vp_updL l2_u
    by_cases hj : j = 0
    · rw [if_pos hj, if_pos ⟨rfl, by omega⟩, h]
    · rw [if_neg hj, if_neg (fun z => hj (by omega))]
  · rw [if_neg hb]
    exact (hp_frame (fun j => l2_u_ne hb)).symm
theorem i8_64 {x : Int} (h0 : 0 ≤ x) (h1 : x < 8) : (Int32.ofInt x).toInt64 = Int64.ofInt x := by
  have h : x = 0 ∨ x = 1 ∨ x = 2 ∨ x = 3 ∨ x = 4 ∨ x = 5 ∨ x = 6 ∨ x = 7 := by omega
  rcases h with rfl | rfl | rfl | rfl | rfl | rfl | rfl | rfl <;> rfl
theorem vi_to (x : Int32) : vi x.toInt = .int x := by
  show Value.int (Int32.ofInt x.toInt) = .int x
  rw [Int32.ofInt_toInt]
theorem rg_i32 (x : Int32) : rg x.toInt := ⟨Int32.le_toInt x, Int32.toInt_lt x⟩
theorem lc2 {t i N : Nat} {xs : Nat → Int32} {v w : Value} {τ' : l2_m} {x k : Int} (hN : N ≤ 3584) (hi : i + 2 ≤ N) (hk1 : x = -1 → k = 1) (hk0 : 0 ≤ x → k = 0 ∧ τ' 211 0 = x ∧ x < 8) (hw : wC (lB N xs) 275 [vr 186, .int (xs (i + 1))] τ' (fun y υ => (∀ b, b = 211 → ∀ j, υ b j = τ' b j) ∧ ((x = -1 ∧ υ 186 0 = 1) ∨ (0 ≤ x ∧ x = y ∧ υ 186 0 = 0)) ∧ CI comF υ υ ∧ RWF υ)) (h : ∀ (υ : l2_m) (v w : Value), CI comF υ υ → RWF υ → lW (lB N xs) t 1841 (lL i v w) [] υ) : lW (lB N xs) t 1758 (lL i v w) [vi k] τ' := by
  refine l_go (pc' := 1760) (L' := lL i (vi k) w) (st' := []) (i := .istore 5) (n := 2) (by decide +kernel) rfl rfl (by intro h; cases h) (fun M hM => rfl) ?_
  refine l_go (pc' := 1761) (L' := lL i (vi k) w) (st' := [.ref 186]) (i := .aload 2) (n := 1) (by decide +kernel) rfl rfl (by intro h; cases h) (fun M hM => rfl) ?_
  refine l_args hN 1 1761 1 _ (by decide +kernel) (by omega) ?_
  refine l_call (i := .invokevirtual 275) (n := 3) (as := ags xs i 1 1) (rest := []) (q := 275) (a := 186) (c := 10) (b := true) (ty := .int) (by decide +kernel) rfl (by decide +kernel) (by decide +kernel) (by decide +kernel) (by decide) rfl (by rw [ags_len]; decide +kernel) rfl (ags_cat xs i 1 1) (by decide) ?_
  refine wC.mono hw (fun y υ hυ => ?_)
  obtain ⟨e1, e2, q1, q2⟩ := hυ
  have e3 : υ 186 0 = k := by
    rcases e2 with ⟨a1, a2⟩ | ⟨a1, a2, a3⟩
    · rw [a2, hk1 a1]
    · rw [a3, (hk0 a1).1]
  have fin : lW (lB N xs) t 1800 (lL i (vi k) (vi y)) [] υ := by
    refine l_go (pc' := 1841) (L' := lL i (vi k) (vi y)) (st' := []) (i := .goto 1841) (n := 3) (by decide +kernel) rfl rfl (by intro h; cases h) (fun M hM => rfl) (h υ _ _ q1 q2)
  refine l_go (pc' := 1772) (L' := lL i (vi k) (vi y)) (st' := []) (i := .istore 6) (n := 2) (by decide +kernel) rfl rfl (by intro h; cases h) (fun M hM => rfl) ?_
  refine l_go (pc' := 1773) (L' := lL i (vi k) (vi y)) (st' := [.ref 186]) (i := .aload 2) (n := 1) (by decide +kernel) rfl rfl (by intro h; cases h) (fun M hM => rfl) ?_
  refine l_call (i := .invokevirtual 167) (n := 3) (as := []) (rest := []) (q := 167) (a := 186) (c := 10) (b := true) (ty := .int) (by decide +kernel) rfl (by decide +kernel) (by decide +kernel) (by decide +kernel) (by decide) rfl (by decide +kernel) rfl rfl (by decide) ?_
  refine o167 ?_
  unfold w167
  rw [e3]
  refine l_go (pc' := 1778) (L' := lL i (vi k) (vi y)) (st' := [vi k, vi k]) (i := .iload 5) (n := 2) (by decide +kernel) rfl rfl (by intro h; cases h) (fun M hM => rfl) ?_
  have ek : (Int32.ofInt k == Int32.ofInt k) = true := by simp
  refine l_go (pc' := 1783) (L' := lL i (vi k) (vi y)) (st' := []) (i := .if_icmp .eq 1783) (n := 3) (by decide +kernel) rfl rfl (by intro h; cases h) (fun M hM => (if_pos ek).trans rfl) ?_
  refine l_go (pc' := 1785) (L' := lL i (vi k) (vi y)) (st' := [vi k]) (i := .iload 5) (n := 2) (by decide +kernel) rfl rfl (by intro h; cases h) (fun M hM => rfl) ?_
  rcases e2 with ⟨a1, a2⟩ | ⟨a1, a2, a3⟩
  · have k1 := hk1 a1
    rw [k1] at fin ⊢
    exact l_go (pc' := 1800) (L' := lL i (vi 1) (vi y)) (st' := []) (i := .ifCond .ne 1800) (n := 3) (by decide +kernel) rfl rfl (by intro h; cases h) (fun M hM => rfl) fin
  · obtain ⟨k0, t0, x8⟩ := hk0 a1
    rw [k0] at fin ⊢
    refine l_go (pc' := 1788) (L' := lL i (vi 0) (vi y)) (st' := []) (i := .ifCond .ne 1800) (n := 3) (by decide +kernel) rfl rfl (by intro h; cases h) (fun M hM => rfl) ?_
    refine l_go (pc' := 1789) (L' := lL i (vi 0) (vi y)) (st' := [.ref 211]) (i := .aload 3) (n := 1) (by decide +kernel) rfl rfl (by intro h; cases h) (fun M hM => rfl) ?_
    refine l_go (pc' := 1790) (L' := lL i (vi 0) (vi y)) (st' := [vi 0, .ref 211]) (i := .iconst 0) (n := 1) (by decide +kernel) rfl rfl (by intro h; cases h) (fun M hM => rfl) ?_
    refine l_go (pc' := 1791) (L' := lL i (vi 0) (vi y)) (st' := [.long (Int64.ofInt x)]) (i := .laload) (n := 1) (by decide +kernel) rfl rfl (by intro h; cases h) (fun M hM => ?_) ?_
    · simp only [pm_step, hp_211]
      refine Eq.trans (if_pos ⟨by decide, lt_of_eq_of_lt' hM (by decide), by decide⟩) ?_
      have ex : υ 211 0 = x := (e1 211 rfl 0).trans t0
      have ez : ((Int32.ofInt 0).toNatClampNeg : Nat) = 0 := by decide
      rw [ez]
      show some (1790 + 1, lL i (vi 0) (vi y), [Value.long (Int64.ofInt (υ 211 ((0 : Nat) : Int)))], M, hp (lB N xs) υ) = _
      rw [show ((0 : Nat) : Int) = 0 from rfl, ex]
    refine l_go (pc' := 1793) (L' := lL i (vi 0) (vi y)) (st' := [vi y, .long (Int64.ofInt x)]) (i := .iload 6) (n := 2) (by decide +kernel) rfl rfl (by intro h; cases h) (fun M hM => rfl) ?_
    refine l_go (pc' := 1794) (L' := lL i (vi 0) (vi y)) (st' := [.long (Int64.ofInt x), .long (Int64.ofInt x)]) (i := .i2l) (n := 1) (by decide +kernel) rfl rfl (by intro h; cases h) (fun M hM => ?_) ?_
    · rw [← a2]
      simp only [pm_step, i8_64 a1 x8]
    refine l_go (pc' := 1795) (L' := lL i (vi 0) (vi y)) (st' := [vi 0]) (i := .lcmp) (n := 1) (by decide +kernel) rfl rfl (by intro h; cases h) (fun M hM => ?_) ?_
    · simp only [pm_step]
      have el : lg_cmp (Int64.ofInt x) (Int64.ofInt x) = Int32.ofInt 0 := by
        unfold lg_cmp
        rw [if_neg (by simp), if_pos rfl]
        rfl
      rw [el]
    exact l_go (pc' := 1800) (L' := lL i (vi 0) (vi y)) (st' := []) (i := .ifCond .eq 1800) (n := 3) (by decide +kernel) rfl rfl (by intro h; cases h) (fun M hM => rfl) fin
theorem lc1 {t i N : Nat} {xs : Nat → Int32} {v w : Value} {σ : l2_m} (hN : N ≤ 3584) (hi : i + 2 ≤ N) (hC : CI comF σ σ) (hR : RWF σ) (h : ∀ (υ : l2_m) (v w : Value), CI comF υ υ → RWF υ → lW (lB N xs) (t + 1) 1841 (lL i v w) [] υ) : lW (lB N xs) t 1747 (lL i v w) [] σ := by
  have hpc := pair_constant (F := comF) (B := lB N xs) (rg_i32 (xs (i + 1))) σ hC hR
  rw [vi_to] at hpc
  refine l_go (pc' := 1748) (L' := lL i v w) (st' := [.ref 32]) (i := .aload 1) (n := 1) (by decide +kernel) rfl rfl (by intro h; cases h) (fun M hM => rfl) ?_
  refine l_args hN 1 1748 1 _ (by decide +kernel) (by omega) ?_
  refine l_go (pc' := 1755) (L' := lL i v w) (st' := [.ref 211, .int (xs (i + 1)), .ref 32]) (i := .aload 3) (n := 1) (by decide +kernel) rfl rfl (by intro h; cases h) (fun M hM => rfl) ?_
  intro M q1 q2 q3
  have hok := l2_cok (B := lB N xs) (σ := σ) (q := 142) (a := 32) (c := 9) (as := [.int (xs (i + 1))]) (rest := []) q1 (by decide +kernel) (by decide +kernel) rfl rfl (by decide)
  unfold pm_cok at hok
  simp only [Bool.and_eq_true] at hok
  refine pm_cstW (n := 3) (by decide +kernel) ⟨by decide, by decide, by rw [q1]; decide, hok.2.2⟩ ((hpc M q1).mono (fun r M' S' hq => ?_))
  obtain ⟨rfl, x, σ', er, rfl, rfl, x0, x1, hw⟩ := hq
  have eR : l2_rv 142 x = if 142 = 142 ∧ x < 0 then some .null else some (vi x) := by
    unfold l2_rv
    rw [show pm_R 142 = some .int by decide +kernel]
  rw [eR] at er
  by_cases hx : x < 0
  · rw [if_pos ⟨rfl, hx⟩] at er
    refine Or.inr ⟨er, rfl, ?_⟩
    have hl := lc2 (v := v) (w := w) (x := x) (k := 1) hN hi (fun _ => rfl) (fun z => by omega) (hw σ' (fun _ _ _ => rfl)) h
    exact hl (M'.1, M'.2.1 + 1, M'.2.2 + 6) q1 (by show M'.2.1 + 1 ≤ _; omega) (by show M'.2.2 + 6 ≤ _; omega)
  · rw [if_neg (fun z => hx z.2)] at er
    refine Or.inl ⟨Int32.ofInt x, 1, _, er, hp_211 _ _, by decide, rfl, ?_⟩
    rw [hp_u211 (i8_64 (by omega) x1)]
    have hl := lc2 (v := v) (w := w) (x := x) (k := 0) hN hi (fun z => by omega) (fun _ => ⟨rfl, l2_u_self _ _ _ _, x1⟩) (hw (l2_u σ' 211 0 x) (fun b j z => l2_u_ne z)) h
    exact hl M' q1 (by omega) (by omega)
