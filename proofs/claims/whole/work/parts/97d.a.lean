/-! ===== fields out of their laws; numbers by a prime ===== -/
def fdL {P : Type} (mu : P → P → P) (iv : P → P) (o e : P) : Prop := iv o = o ∧ (∀ a, a ≠ o → mu a (iv a) = e) ∧ o ≠ e
section FL
variable {P : Type} {ad mu : P → P → P} {ng iv : P → P} {o e : P}
theorem fdL_1 (h : crL ad mu ng o e) (f : fdL mu iv o e) : iv e = e := by
  have := f.2.1 e (fun w => f.2.2 w.symm)
  rw [h.2.2.2.2.2.1, h.2.2.2.2.2.2.1] at this
  exact this
theorem fdL_2 (h : crL ad mu ng o e) (f : fdL mu iv o e) (a : P) : iv (iv a) = a := by
  by_cases ha : a = o
  · rw [ha, f.1, f.1]
  · have h1 := f.2.1 a ha
    have h2 : iv a ≠ o := fun w => by
      rw [w, crL_m0 h] at h1
      exact f.2.2 h1
    have h3 := f.2.1 (iv a) h2
    have h4 : mu (mu a (iv a)) (iv (iv a)) = mu a (mu (iv a) (iv (iv a))) := h.2.2.2.2.1 _ _ _
    rw [h1, h3, h.2.2.2.2.2.1 e, h.2.2.2.2.2.2.1, h.2.2.2.2.2.2.1] at h4
    exact h4
end FL
def zpR {P : Type} (mu : P → P → P) (iv : P → P) (e a : P) : Int → P
  | .ofNat n => powR mu e a n
  | .negSucc n => iv (powR mu e a (n + 1))
theorem zpR_n {P : Type} {ad mu : P → P → P} {ng iv : P → P} {o e : P} (h : crL ad mu ng o e) (f : fdL mu iv o e) (a : P) : ∀ i : Int, zpR mu iv e a (-i) = iv (zpR mu iv e a i)
  | .ofNat 0 => (fdL_1 h f).symm
  | .ofNat (n + 1) => rfl
  | .negSucc n => (fdL_2 h f _).symm
def mkFd {P : Type} (ad mu : P → P → P) (ng iv : P → P) (o e : P) (h : crL ad mu ng o e) (f : fdL mu iv o e) : Lean.Grind.Field P :=
  { toCommRing := mkCR ad mu ng o e h
    inv := iv
    div := fun a b => mu a (iv b)
    zpow := ⟨fun a n => zpR mu iv e a n⟩
    div_eq_mul_inv := fun _ _ => rfl
    zero_ne_one := f.2.2
    inv_zero := f.1
    mul_inv_cancel := fun {a} ha => f.2.1 a ha
    zpow_zero := fun _ => rfl
    zpow_succ := fun _ _ => rfl
    zpow_neg := fun a n => zpR_n h f a n }
/-! numbers by a prime -/
abbrev fpT (p : Int) : Type := { x : Int // 0 ≤ x ∧ x < p }
section FP
variable {p : Int} (h0 : 0 < p)
def fpm (x : Int) : fpT p := ⟨x % p, Int.emod_nonneg x (by omega), Int.emod_lt_of_pos x h0⟩
theorem fpm_v (a : fpT p) : fpm h0 a.1 = a := Subtype.ext (Int.emod_eq_of_lt a.2.1 a.2.2)
theorem fpm_e {x y : Int} (h : x % p = y % p) : fpm h0 x = fpm h0 y := Subtype.ext h
def fpA (a b : fpT p) : fpT p := fpm h0 (a.1 + b.1)
def fpM (a b : fpT p) : fpT p := fpm h0 (a.1 * b.1)
def fpN (a : fpT p) : fpT p := fpm h0 (-a.1)
noncomputable def fpI (a : fpT p) : fpT p := fpm h0 (ivp p a.1)
theorem fpA_m (x y : Int) : fpA h0 (fpm h0 x) (fpm h0 y) = fpm h0 (x + y) := fpm_e h0 (by show (x % p + y % p) % p = (x + y) % p; rw [← Int.add_emod])
theorem fpM_m (x y : Int) : fpM h0 (fpm h0 x) (fpm h0 y) = fpm h0 (x * y) := fpm_e h0 (by show (x % p * (y % p)) % p = (x * y) % p; rw [← Int.mul_emod])
theorem fpN_m (x : Int) : fpN h0 (fpm h0 x) = fpm h0 (-x) := fpm_e h0 (by
  show (-(x % p)) % p = (-x) % p
  have h := Int.emod_add_mul_ediv x p
  have e : -x = -(x % p) + p * (-(x / p)) := by
    rw [Int.mul_neg]; omega
  rw [e, Int.add_mul_emod_self_left])
theorem fpL : crL (fpA h0) (fpM h0) (fpN h0) (fpm h0 0) (fpm h0 1) := by
  have ex : ∀ a : fpT p, ∃ x, a = fpm h0 x := fun a => ⟨a.1, (fpm_v h0 a).symm⟩
  refine ⟨fun a => ?_, fun a b => ?_, fun a b c => ?_, fun a => ?_, fun a b c => ?_, fun a b => ?_, fun a => ?_, fun a b c => ?_⟩
  · obtain ⟨x, rfl⟩ := ex a
    rw [fpA_m, Int.add_zero]
  · obtain ⟨x, rfl⟩ := ex a
    obtain ⟨y, rfl⟩ := ex b
    rw [fpA_m, fpA_m, Int.add_comm]
  · obtain ⟨x, rfl⟩ := ex a
    obtain ⟨y, rfl⟩ := ex b
    obtain ⟨z, rfl⟩ := ex c
    rw [fpA_m, fpA_m, fpA_m, fpA_m, Int.add_assoc]
  · obtain ⟨x, rfl⟩ := ex a
    rw [fpN_m, fpA_m]
    congr 1; omega
  · obtain ⟨x, rfl⟩ := ex a
    obtain ⟨y, rfl⟩ := ex b
    obtain ⟨z, rfl⟩ := ex c
    rw [fpM_m, fpM_m, fpM_m, fpM_m, Int.mul_assoc]
  · obtain ⟨x, rfl⟩ := ex a
    obtain ⟨y, rfl⟩ := ex b
    rw [fpM_m, fpM_m, Int.mul_comm]
  · obtain ⟨x, rfl⟩ := ex a
    rw [fpM_m, Int.mul_one]
  · obtain ⟨x, rfl⟩ := ex a
    obtain ⟨y, rfl⟩ := ex b
    obtain ⟨z, rfl⟩ := ex c
    rw [fpA_m, fpM_m, fpM_m, fpM_m, fpA_m, Int.mul_add]
end FP
theorem pr_pos {p : Int} (hp : isPr p) : 0 < p := by
  obtain ⟨p2, -, -⟩ := pr_rest _ hp
  omega
theorem fpF {p : Int} (hp : isPr p) : fdL (fpM (pr_pos hp)) (fpI (pr_pos hp)) (fpm (pr_pos hp) 0) (fpm (pr_pos hp) 1) := by
  obtain ⟨p2, p97, -⟩ := pr_rest _ hp
  refine ⟨?_, fun a ha => ?_, fun w => ?_⟩
  · refine Subtype.ext ?_
    show ivp p (0 % p) % p = 0 % p
    have e : ivp p (0 % p) = 0 := by
      refine dif_neg ?_
      rintro ⟨i, i0, i1, i2⟩
      rw [Int.zero_emod, Int.zero_mul, Int.zero_emod] at i2
      omega
    rw [e]
  · have a0 : 0 < a.1 := by
      rcases Int.lt_or_le 0 a.1 with z | z
      · exact z
      · exfalso
        have h1 := a.2.1
        refine ha (Subtype.ext ?_)
        show a.1 = 0 % p
        rw [Int.zero_emod]; omega
    obtain ⟨q0, q1, q2⟩ := ivp_ok hp a0 a.2.2
    refine Subtype.ext ?_
    show (a.1 * (ivp p a.1 % p)) % p = 1 % p
    rw [Int.emod_eq_of_lt (by omega) q1, q2, Int.emod_eq_of_lt (by omega) (by omega)]
  · have := congrArg Subtype.val w
    have e : (0 : Int) % p = 1 % p := this
    rw [Int.zero_emod, Int.emod_eq_of_lt (by omega) (by omega)] at e
    omega
noncomputable def FpF {p : Int} (hp : isPr p) : Lean.Grind.Field (fpT p) := mkFd (fpA (pr_pos hp)) (fpM (pr_pos hp)) (fpN (pr_pos hp)) (fpI (pr_pos hp)) (fpm (pr_pos hp) 0) (fpm (pr_pos hp) 1) (fpL (pr_pos hp)) (fpF hp)
