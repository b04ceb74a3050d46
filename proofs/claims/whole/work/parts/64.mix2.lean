/-- where mix stands: the rows a, b, how far it is in them, what is laid out so far -/
def mixI (σ : l2_m) (a b o : Nat) (W f g H : Int → Int) (da db : Int) (i j : Int) (τ : l2_m) : Prop := 0 ≤ i ∧ i ≤ σ a 2 ∧ 0 ≤ j ∧ j ≤ σ b 2 ∧ frQ o σ τ ∧ 0 ≤ τ o 2 ∧ τ o 2 ≤ 60 ∧ (∀ x : Int, 0 ≤ x → x < i → ∀ k : Int, 0 ≤ k → k < 4096 → σ (a + 1) x = MW W k → noO k da) ∧ (∀ x : Int, 0 ≤ x → x < j → ∀ k : Int, 0 ≤ k → k < 4096 → σ (b + 1) x = MW W k → noO k db) ∧ (∀ x : Int, 0 ≤ x → x < i → hd σ b (MW W db) j < σ (a + 1) x + MW W da) ∧ (∀ x : Int, 0 ≤ x → x < j → hd σ a (MW W da) i < σ (b + 1) x + MW W db) ∧ (∀ e : Int, 0 ≤ e → e < τ o 2 → (∃ k : Int, 0 ≤ k ∧ k < 4096 ∧ τ (o + 1) e = MW W k ∧ τ (o + 2) e = H k ∧ H k ≠ 0) ∧ hd σ a (MW W da) i < τ (o + 1) e ∧ hd σ b (MW W db) j < τ (o + 1) e) ∧ (∀ e e' : Int, 0 ≤ e → e < e' → e' < τ o 2 → τ (o + 1) e' < τ (o + 1) e) ∧ (∀ k : Int, 0 ≤ k → k < 4096 → H k ≠ 0 → hd σ a (MW W da) i < MW W k → hd σ b (MW W db) j < MW W k → ∃ e : Int, 0 ≤ e ∧ e < τ o 2 ∧ τ (o + 1) e = MW W k)
/-- one term further -/
theorem mix_step {σ τ : l2_m} {a b o : Nat} {W f g H : Int → Int} {p ac da bc db i j i' j' M s : Int} (hW : okW W) (fa : PR σ a W f) (fb : PR σ b W g) (d0 : 0 ≤ da) (d1 : da < 4096) (e0 : 0 ≤ db) (e1 : db < 4096) (hH : H = mixF p ac da f bc db g) (hI : mixI σ a b o W f g H da db i j τ) (hM : M = max (hd σ a (MW W da) i) (hd σ b (MW W db) j)) (M0 : 0 ≤ M) (hov : iand M 16912 = 0) (hi' : i' = if hd σ a (MW W da) i = M then i + 1 else i) (hj' : j' = if hd σ b (MW W db) j = M then j + 1 else j) (hs : s = ac * (if hd σ a (MW W da) i = M then σ (a + 2) i else 0) + bc * (if hd σ b (MW W db) j = M then σ (b + 2) j else 0)) : ∃ k : Int, 0 ≤ k ∧ k < 4096 ∧ MW W k = M ∧ H k = s % p ∧ (∀ e : Int, 0 ≤ e → e < τ o 2 → M < τ (o + 1) e) ∧ (s % p = 0 → mixI σ a b o W f g H da db i' j' τ) ∧ (∀ υ : l2_m, s % p ≠ 0 → τ o 2 < 60 → frQ o σ υ → υ o 2 = τ o 2 + 1 → (∀ x, υ (o + 1) x = if x = τ o 2 then M else τ (o + 1) x) → (∀ x, υ (o + 2) x = if x = τ o 2 then s % p else τ (o + 2) x) → mixI σ a b o W f g H da db i' j' υ) := by
  obtain ⟨i0, i1, j0, j1, fr, c0, c1, oa, ob, pa, pb, en, fa', co⟩ := hI
  have ma := (MW_b hW da).1
  have mb := (MW_b hW db).1
  have la : hd σ a (MW W da) i ≤ M := by omega
  have lb : hd σ b (MW W db) j ≤ M := by omega
  have pa' : ∀ x : Int, 0 ≤ x → x < i → M < σ (a + 1) x + MW W da := by
    intro x x0 x1
    have h1 := pa x x0 x1
    have h2 := hd_fall fa hW ma x0 x1 (by omega)
    unfold hd at h2
    rw [if_pos (show x < σ a 2 by omega)] at h2
    unfold hd at hM h1 la lb
    omega
  have pb' : ∀ x : Int, 0 ≤ x → x < j → M < σ (b + 1) x + MW W db := by
    intro x x0 x1
    have h1 := pb x x0 x1
    have h2 := hd_fall fb hW mb x0 x1 (by omega)
    unfold hd at h2
    rw [if_pos (show x < σ b 2 by omega)] at h2
    unfold hd at hM h1 la lb
    omega
  have hk : ∃ k : Int, 0 ≤ k ∧ k < 4096 ∧ MW W k = M := by
    by_cases hl : hd σ a (MW W da) i = M
    · obtain ⟨l, l1, l2, l3, l4, l5, l6, l7⟩ := side_key fa hW d0 d1 i0 hl M0
      have hno := l7.mp hov
      have ha := add_e l1 l2 d0 d1 hno
      exact ⟨l + da, ha.1, ha.2.1, by rw [MW_add l1 l2 d0 d1 hno, l6]⟩
    · have hr : hd σ b (MW W db) j = M := by omega
      obtain ⟨l, l1, l2, l3, l4, l5, l6, l7⟩ := side_key fb hW e0 e1 j0 hr M0
      have hno := l7.mp hov
      have ha := add_e l1 l2 e0 e1 hno
      exact ⟨l + db, ha.1, ha.2.1, by rw [MW_add l1 l2 e0 e1 hno, l6]⟩
  obtain ⟨k, k0, k1, k2⟩ := hk
  have hHk : H k = s % p := by
    rw [hH, hs]
    unfold mixF
    rw [side_val fa hW d0 d1 k0 k1 i0 i1 k2 la pa', side_val fb hW e0 e1 k0 k1 j0 j1 k2 lb pb']
  have ent : ∀ e : Int, 0 ≤ e → e < τ o 2 → M < τ (o + 1) e := fun e x y => by
    have := (en e x y).2
    omega
  have ni : 0 ≤ i' ∧ i' ≤ σ a 2 ∧ i ≤ i' ∧ i' ≤ i + 1 ∧ hd σ a (MW W da) i' < M := by
    rw [hi']
    by_cases hl : hd σ a (MW W da) i = M
    · obtain ⟨l, l1, l2, l3, -⟩ := side_key fa hW d0 d1 i0 hl M0
      rw [if_pos hl]
      have := hd_fall fa hW ma i0 (show i < i + 1 by omega) l3
      omega
    · rw [if_neg hl]; omega
  have nj : 0 ≤ j' ∧ j' ≤ σ b 2 ∧ j ≤ j' ∧ j' ≤ j + 1 ∧ hd σ b (MW W db) j' < M := by
    rw [hj']
    by_cases hl : hd σ b (MW W db) j = M
    · obtain ⟨l, l1, l2, l3, -⟩ := side_key fb hW e0 e1 j0 hl M0
      rw [if_pos hl]
      have := hd_fall fb hW mb j0 (show j < j + 1 by omega) l3
      omega
    · rw [if_neg hl]; omega
  have noa : ∀ x : Int, 0 ≤ x → x < i' → ∀ k : Int, 0 ≤ k → k < 4096 → σ (a + 1) x = MW W k → noO k da := by
    intro x x0 x1 q q0 q1 q2
    by_cases hx : x < i
    · exact oa x x0 hx q q0 q1 q2
    · have hxi : x = i := by omega
      subst hxi
      have hl : hd σ a (MW W da) x = M := by
        apply Classical.byContradiction
        intro hl
        rw [if_neg hl] at hi'
        omega
      obtain ⟨l, l1, l2, l3, l4, l5, l6, l7⟩ := side_key fa hW d0 d1 i0 hl M0
      have := MW_inj l1 l2 q0 q1 (l4.symm.trans q2)
      subst this
      exact l7.mp hov
  have nob : ∀ x : Int, 0 ≤ x → x < j' → ∀ k : Int, 0 ≤ k → k < 4096 → σ (b + 1) x = MW W k → noO k db := by
    intro x x0 x1 q q0 q1 q2
    by_cases hx : x < j
    · exact ob x x0 hx q q0 q1 q2
    · have hxi : x = j := by omega
      subst hxi
      have hl : hd σ b (MW W db) x = M := by
        apply Classical.byContradiction
        intro hl
        rw [if_neg hl] at hj'
        omega
      obtain ⟨l, l1, l2, l3, l4, l5, l6, l7⟩ := side_key fb hW e0 e1 j0 hl M0
      have := MW_inj l1 l2 q0 q1 (l4.symm.trans q2)
      subst this
      exact l7.mp hov
  have ga : ∀ x : Int, 0 ≤ x → x < i' → M ≤ σ (a + 1) x + MW W da := by
    intro x x0 x1
    by_cases hx : x < i
    · have := pa' x x0 hx; omega
    · have hxi : x = i := by omega
      subst hxi
      have hl : hd σ a (MW W da) x = M := by
        apply Classical.byContradiction
        intro hl
        rw [if_neg hl] at hi'
        omega
      unfold hd at hl
      rw [if_pos (by omega)] at hl
      omega
  have gb : ∀ x : Int, 0 ≤ x → x < j' → M ≤ σ (b + 1) x + MW W db := by
    intro x x0 x1
    by_cases hx : x < j
    · have := pb' x x0 hx; omega
    · have hxi : x = j := by omega
      subst hxi
      have hl : hd σ b (MW W db) x = M := by
        apply Classical.byContradiction
        intro hl
        rw [if_neg hl] at hj'
        omega
      unfold hd at hl
      rw [if_pos (by omega)] at hl
      omega
  -- below M nothing is skipped
  have skip : ∀ q : Int, 0 ≤ q → q < 4096 → H q ≠ 0 → hd σ a (MW W da) i' < MW W q → hd σ b (MW W db) j' < MW W q → M ≤ MW W q := by
    intro q q0 q1 q2 q3 q4
    have hsrc : shf da f q ≠ 0 ∨ shf db g q ≠ 0 := by
      apply Classical.byContradiction
      intro z
      have z1 : shf da f q = 0 := Classical.byContradiction (fun y => z (Or.inl y))
      have z2 : shf db g q = 0 := Classical.byContradiction (fun y => z (Or.inr y))
      apply q2
      rw [hH]
      unfold mixF
      rw [z1, z2, Int.mul_zero, Int.mul_zero]
      exact Int.zero_emod p
    rcases hsrc with hs1 | hs1
    · obtain ⟨x, x1, x2, x3⟩ := side_src fa d0 d1 q0 q1 hs1
      by_cases hx : x < i'
      · have := ga x x1 hx; omega
      · have := hd_le fa hW ma ni.1 (show i' ≤ x by omega) x2; omega
    · obtain ⟨x, x1, x2, x3⟩ := side_src fb e0 e1 q0 q1 hs1
      by_cases hx : x < j'
      · have := gb x x1 hx; omega
      · have := hd_le fb hW mb nj.1 (show j' ≤ x by omega) x2; omega
  refine ⟨k, k0, k1, k2, hHk, ent, fun hz => ?_, fun υ hz hl f1 f2 f3 f4 => ?_⟩
  · refine ⟨ni.1, ni.2.1, nj.1, nj.2.1, fr, c0, c1, noa, nob, fun x x0 x1 => ?_, fun x x0 x1 => ?_, fun e x y => ⟨(en e x y).1, ?_, ?_⟩, fa', fun q q0 q1 q2 q3 q4 => ?_⟩
    · have := ga x x0 x1; omega
    · have := gb x x0 x1; omega
    · have := ent e x y; omega
    · have := ent e x y; omega
    · have := skip q q0 q1 q2 q3 q4
      by_cases hq : MW W q = M
      · have := MW_inj q0 q1 k0 k1 (hq.trans k2.symm)
        subst this
        exact absurd (hHk.trans hz) q2
      · exact co q q0 q1 q2 (by omega) (by omega)
  · refine ⟨ni.1, ni.2.1, nj.1, nj.2.1, f1, by omega, by omega, noa, nob, fun x x0 x1 => ?_, fun x x0 x1 => ?_, fun e x y => ?_, fun e e' x y z => ?_, fun q q0 q1 q2 q3 q4 => ?_⟩
    · have := ga x x0 x1; omega
    · have := gb x x0 x1; omega
    · rw [f3, f4]
      by_cases he : e = τ o 2
      · rw [if_pos he, if_pos he]
        exact ⟨⟨k, k0, k1, k2.symm, hHk.symm, by rw [hHk]; exact hz⟩, by omega, by omega⟩
      · rw [if_neg he, if_neg he]
        have := ent e x (by omega)
        exact ⟨(en e x (by omega)).1, by omega, by omega⟩
    · rw [f3, f3]
      by_cases he : e' = τ o 2
      · rw [if_pos he, if_neg (by omega)]
        exact ent e x (by omega)
      · rw [if_neg he, if_neg (by omega)]
        exact fa' e e' x y (by omega)
    · have := skip q q0 q1 q2 q3 q4
      by_cases hq : MW W q = M
      · exact ⟨τ o 2, c0, by omega, by rw [f3, if_pos rfl]; exact hq.symm⟩
      · obtain ⟨e, x, y, z⟩ := co q q0 q1 q2 (by omega) (by omega)
        exact ⟨e, x, by omega, by rw [f3, if_neg (by omega)]; exact z⟩
theorem frQ_row {o a : Nat} {σ τ : l2_m} (ho : isP o) (ha : isP a) (hne : o ≠ a) (h : frQ o σ τ) : (∀ j, τ a j = σ a j) ∧ (∀ j, τ (a + 1) j = σ (a + 1) j) ∧ (∀ j, τ (a + 2) j = σ (a + 2) j) := by
  obtain ⟨d1, d2, d3, d4⟩ := isP_ne ho ha
  exact ⟨fun j => h a j (by omega) (by omega) (by omega), fun j => h (a + 1) j (by omega) (by omega) (by omega), fun j => h (a + 2) j (by omega) (by omega) (by omega)⟩
theorem isP_big {o : Nat} (h : isP o) : 41 ≤ o := by
  have key : ∀ o, o < 41 → isPb o = false := by decide +kernel
  apply Classical.byContradiction
  intro hc
  have := key o (by omega)
  unfold isP at h
  rw [this] at h
  cases h
