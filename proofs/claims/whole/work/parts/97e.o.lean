/-! ===== numbers by the prime are such a field ===== -/
theorem isEm_fp {p : Int} (hp : isPr p) : @isEm (fpT p) (FpF hp) p (fpm (pr_pos hp)) := by
  obtain ⟨p2, p97, -⟩ := pr_rest _ hp
  refine ⟨p2, p97, fun a b => ?_, fun a b => ?_, rfl, fun a => ⟨fun w => ?_, fun w => ?_⟩, fun x => ⟨x.1, x.2.1, x.2.2, fpm_v (pr_pos hp) x⟩⟩
  · show fpm (pr_pos hp) (a + b) = fpm (pr_pos hp) (a % p + b % p)
    exact Subtype.ext (Int.add_emod a b p)
  · show fpm (pr_pos hp) (a * b) = fpm (pr_pos hp) (a % p * (b % p))
    exact Subtype.ext (Int.mul_emod a b p)
  · have h1 : (fpm (pr_pos hp) a).1 = (fpm (pr_pos hp) 0).1 := congrArg Subtype.val w
    have h2 : a % p = 0 % p := h1
    rw [Int.zero_emod] at h2
    exact h2
  · show fpm (pr_pos hp) a = fpm (pr_pos hp) 0
    exact Subtype.ext (by show a % p = 0 % p; rw [w, Int.zero_emod])
