/-! ===== the first state ===== -/
theorem sg0_o {a : Nat} (h1 : a ≠ 32) (h2 : a ≠ 36) (h3 : a ≠ 39) (h4 : a ≠ 52) (h5 : a ≠ 74) (h6 : a ≠ 109) (h7 : a ≠ 110) (h8 : a ≠ 186) (j : Int) : sg0 a j = 0 := by
  unfold sg0
  rw [if_neg h1, if_neg (by omega), if_neg h5, if_neg h6, if_neg h7, if_neg h8]
theorem CI_sg0 : CI comF sg0 sg0 := by
  refine ⟨⟨rfl, rfl, rfl, rfl, rfl, fun i i0 i1 => ?_⟩, fun z => ?_, fun _ => ⟨rfl, fun r r0 r1 => sg0_o (by omega) (by omega) (by omega) (by omega) (by omega) (by omega) (by omega) (by omega) 2⟩, ⟨by decide, by decide, rfl, fun i i0 i1 => ?_⟩, Or.inl ⟨rfl, rfl⟩, rfl, comF_out ⟨126, 127, rfl, rfl, Or.inl ⟨rfl, rfl⟩⟩ (by decide) (fun p hp w => ?_)⟩
  · have e : sg0 186 16 = 0 := rfl
    omega
  · have e : sg0 186 14 = 0 := rfl
    omega
  · have e : sg0 186 45 = 0 := rfl
    omega
  · have e : sg0 110 3 = 0 := rfl
    have := (pr_rest _ hp).1
    omega
theorem RWF_sg0 : RWF sg0 := by
  refine ⟨Or.inl rfl, by decide, by decide, by decide, by decide, by decide, by decide, by decide, fun _ => rfl, fun z => ?_⟩
  have e : sg0 186 14 = 0 := rfl
  omega
