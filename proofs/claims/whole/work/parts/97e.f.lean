/-! ===== Commons: division of grids ===== -/
theorem isDg_q {S P : Type} [Lean.Grind.CommRing S] {c : P → Nat → S} {a : P} {m n : Nat} (h : isDg c a m) (h' : isDg c a n) : m = n := by
  rcases Nat.lt_trichotomy m n with w | w | w
  · exact absurd (h.2 n (by omega)) h'.1
  · exact w
  · exact absurd (h'.2 m (by omega)) h.1
/-- if it divides, the leads fit and nothing runs over -/
theorem lex_ov {L R A : Type} [Lean.Grind.Field L] [Lean.Grind.CommRing R] [Lean.Grind.CommRing A] {c1 : R → Nat → L} {k1 : L → R} {Y : R} (H1 : IsPol c1 k1 Y) {c2 : A → Nat → R} {k2 : R → A} {X : A} (H2 : IsPol c2 k2 X) {f D q Q R' : A} {i3 j3 i5 j5 : Nat} (hf : ∀ i j : Nat, (16 ≤ i ∨ 32 ≤ j) → c1 (c2 f i) j = 0) (d1 : isDg c2 D i3) (d2 : isDg c1 (c2 D i3) j3) (hq : f = q * D) (hQ : f = Q * D + R') (r1 : isDg c2 R' i5) (r2 : isDg c1 (c2 R' i5) j5) (hz : ∀ i j : Nat, i + i3 = i5 → j + j3 = j5 → c1 (c2 Q i) j = 0) : ∃ i' j' : Nat, i' + i3 = i5 ∧ j' + j3 = j5 ∧ ∀ i j : Nat, c1 (c2 D i) j ≠ 0 → i + i' < 16 ∧ j + j' < 32 := by
  have e1 : (q - Q) * D = R' := by grind
  have n0 : q - Q ≠ 0 := fun w => by
    rw [w] at e1
    have e2 : R' = 0 := by grind
    exact r1.1 (by rw [e2, po_0 H2])
  obtain ⟨i', hi'⟩ := po_dg H2 n0
  obtain ⟨j', hj'⟩ := po_dg H1 hi'.1
  have m1 := isDg_mul H2 (po_dom H1 fld_dom) hi' d1
  have l1 := po_lead H2 hi'.2 d1.2
  rw [e1] at m1 l1
  have ei := isDg_q m1 r1
  have m2 := isDg_mul H1 fld_dom hj' d2
  rw [← l1, ei] at m2
  have ej := isDg_q m2 r2
  have nq : c1 (c2 q i') j' ≠ 0 := fun w => by
    have h1 := hj'.1
    rw [po_s H2, po_s H1, w, hz i' j' ei ej] at h1
    exact h1 (by grind)
  have q0 : q ≠ 0 := fun w => nq (by rw [w, po_0 H2, po_0 H1])
  have D0 : D ≠ 0 := fun w => d1.1 (by rw [w, po_0 H2])
  obtain ⟨dq, hdq⟩ := po_dg H2 q0
  have mf := isDg_mul H2 (po_dom H1 fld_dom) hdq d1
  rw [← hq] at mf
  have b1 : dq + i3 < 16 := by
    rcases Nat.lt_or_ge (dq + i3) 16 with w | w
    · exact w
    · exact absurd (po_ext H1 (fun j => by rw [po_0 H1]; exact hf _ j (Or.inl w))) mf.1
  obtain ⟨hq1, ht1⟩ := isHt_ex H1 H2 q0
  obtain ⟨hD1, ht2⟩ := isHt_ex H1 H2 D0
  obtain ⟨ii, hii⟩ := (isHt_mul H1 H2 ht1 ht2).2
  rw [← hq] at hii
  have b2 : hq1 + hD1 < 32 := by
    rcases Nat.lt_or_ge (hq1 + hD1) 32 with w | w
    · exact w
    · exact absurd (hf ii _ (Or.inr w)) hii
  have b3 : i' ≤ dq := by
    rcases Nat.lt_or_ge dq i' with w | w
    · exact absurd (by rw [hdq.2 i' (by omega), po_0 H1]) nq
    · exact w
  have b4 : j' ≤ hq1 := by
    rcases Nat.lt_or_ge hq1 j' with w | w
    · exact absurd (ht1.1 i' j' (by omega)) nq
    · exact w
  refine ⟨i', j', ei, ej, fun i j hij => ?_⟩
  have b5 : i ≤ i3 := by
    rcases Nat.lt_or_ge i3 i with w | w
    · exact absurd (by rw [d1.2 i (by omega), po_0 H1]) hij
    · exact w
  have b6 : j ≤ hD1 := by
    rcases Nat.lt_or_ge hD1 j with w | w
    · exact absurd (ht2.1 i j (by omega)) hij
    · exact w
  omega
theorem gpw_ld {L R A : Type} [Lean.Grind.Field L] [Lean.Grind.CommRing R] [Lean.Grind.CommRing A] {c1 : R → Nat → L} {k1 : L → R} {Y : R} (H1 : IsPol c1 k1 Y) {c2 : A → Nat → R} {p : Int} {em : Int → L} (E : isEm p em) {u : Int → Int} {a : A} (h : gpw c1 c2 em p u a) {n : Int} (n0 : 0 ≤ n) (n1 : n < 512) (hn : u n ≠ 0) (hz : ∀ m : Int, n < m → m < 512 → u m = 0) : isDg c2 a (n / 32).toNat ∧ isDg c1 (c2 a (n / 32).toNat) (n % 32).toNat := by
  have b0 := gpw_c h n0 n1
  have nz : c1 (c2 a (n / 32).toNat) (n % 32).toNat ≠ 0 := by rw [b0.2.2]; exact (em_nz E b0.1 b0.2.1).mpr hn
  have key : ∀ i j : Nat, j < 32 → n < (i : Int) * 32 + j → c1 (c2 a i) j = 0 := fun i j hj w => by
    by_cases hi : i < 16
    · rw [(h.1 i j hi hj).2.2, hz _ w (by omega), em_z E]
    · exact h.2 i j (by omega)
  refine ⟨⟨fun w => nz (by rw [w, po_0 H1]), fun i hi => po_ext H1 (fun j => ?_)⟩, nz, fun j hj => ?_⟩
  · rw [po_0 H1]
    by_cases hj : j < 32
    · exact key i j hj (by omega)
    · exact h.2 i j (by omega)
  · by_cases hj' : j < 32
    · exact key _ j hj' (by omega)
    · exact h.2 _ j (by omega)
theorem one_cc {L R A : Type} [Lean.Grind.Field L] [Lean.Grind.CommRing R] [Lean.Grind.CommRing A] {c1 : R → Nat → L} {k1 : L → R} {Y : R} (H1 : IsPol c1 k1 Y) {c2 : A → Nat → R} {k2 : R → A} {X : A} (H2 : IsPol c2 k2 X) (i j : Nat) : c1 (c2 (1 : A) i) j = if i = 0 ∧ j = 0 then 1 else 0 := by
  have e2 := po_ki H2 1 i
  rw [po_kone H2] at e2
  rw [e2]
  by_cases hi : i = 0
  · rw [if_pos hi]
    have e1 := po_ki H1 1 j
    rw [po_kone H1] at e1
    rw [e1]
    by_cases hj : j = 0
    · rw [if_pos hj, if_pos ⟨hi, hj⟩]
    · rw [if_neg hj, if_neg (fun w => hj w.2)]
  · rw [if_neg hi, if_neg (fun w => hi w.1), po_0 H1]
def u1g (n : Int) : Int := if n = 0 then 1 else 0
theorem gpw_1 {L R A : Type} [Lean.Grind.Field L] [Lean.Grind.CommRing R] [Lean.Grind.CommRing A] {c1 : R → Nat → L} {k1 : L → R} {Y : R} (H1 : IsPol c1 k1 Y) {c2 : A → Nat → R} {k2 : R → A} {X : A} (H2 : IsPol c2 k2 X) {p : Int} {em : Int → L} (E : isEm p em) : gpw c1 c2 em p u1g (1 : A) := by
  have p2 := E.1
  refine ⟨fun i j hi hj => ?_, fun i j hij => ?_⟩
  · rw [one_cc H1 H2]
    unfold u1g
    by_cases hc : i = 0 ∧ j = 0
    · rw [if_pos hc, if_pos (by omega)]
      exact ⟨by decide, by omega, E.2.2.2.2.1.symm⟩
    · rw [if_neg hc, if_neg (by omega)]
      exact ⟨by decide, by omega, (em_z E).symm⟩
  · rw [one_cc H1 H2, if_neg (by omega)]
