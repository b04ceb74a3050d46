/-! ===== the field of each prime; its elements' codes ===== -/
def fRow (p : Int) : Nat × Nat × Nat × List Nat := (gqTb.find? (fun r => ((r.1 : Nat) : Int) == p)).getD (0, 0, 0, [])
def fFc (p : Int) : Bool := (gqTb.find? (fun r => ((r.1 : Nat) : Int) == p)).isSome && decide (2 ≤ (fRow p).2.1 ∧ (fRow p).2.1 ≤ 9) && decide (((fRow p).1 : Int) = p) && decide (512 ≤ p ^ (fRow p).2.1 ∧ p ^ (fRow p).2.1 ≤ 9409) && decide (p ^ ((fRow p).2.1 - 1) < 500) && decide ((p ^ (fRow p).2.1 - 1) % (p - 1) = 0) && (List.range 25).all (fun i => decide (l2_PR 1 i = p → l2_PR 2 i = ((fRow p).2.2.1 : Int))) && (List.range 25).any (fun i => decide (l2_PR 1 i = p)) && (List.range 97).all (fun n => decide (0 < n → (n : Int) < p → (n : Int) ^ (p - 1).toNat % p = 1))
theorem fFc_ok : ([2, 3, 5, 7, 11, 13, 17, 19, 23, 29, 31, 37, 41, 43, 47, 53, 59, 61, 67, 71, 73, 79, 83, 89, 97] : List Int).all fFc = true := by decide +kernel
def gk (p : Int) : Nat := (fRow p).2.1
def gtl (p : Int) : Int := ((fRow p).2.2.1 : Int)
def gt (p : Int) (i : Nat) : Int := gtl p / p ^ i % p
def gQ (p : Int) : Nat := (p ^ gk p - 1).toNat
theorem gFacts {p : Int} (hp : isPr p) : (2 ≤ gk p ∧ gk p ≤ 9) ∧ (512 ≤ p ^ gk p ∧ p ^ gk p ≤ 9409) ∧ p ^ (gk p - 1) < 500 ∧ (p ^ gk p - 1) % (p - 1) = 0 ∧ (∀ i : Nat, i < 25 → l2_PR 1 i = p → l2_PR 2 i = gtl p) ∧ (∃ i : Nat, i < 25 ∧ l2_PR 1 i = p) ∧ (∀ n : Nat, n < 97 → 0 < n → (n : Int) < p → (n : Int) ^ (p - 1).toNat % p = 1) ∧ chN (fRow p) = true ∧ ((fRow p).1 : Int) = p := by
  have h := List.all_eq_true.mp fFc_ok p hp
  unfold fFc at h
  rw [Bool.and_eq_true, Bool.and_eq_true, Bool.and_eq_true, Bool.and_eq_true, Bool.and_eq_true, Bool.and_eq_true, Bool.and_eq_true, Bool.and_eq_true, List.all_eq_true, List.all_eq_true, List.any_eq_true, decide_eq_true_eq, decide_eq_true_eq, decide_eq_true_eq, decide_eq_true_eq, decide_eq_true_eq] at h
  obtain ⟨⟨⟨⟨⟨⟨⟨⟨h1, h2⟩, h3⟩, h4⟩, h5⟩, h6⟩, h7⟩, h8⟩, h9⟩ := h
  obtain ⟨r, hr⟩ := Option.isSome_iff_exists.mp h1
  have hm := List.mem_of_find?_eq_some hr
  have hrow : fRow p = r := by unfold fRow; rw [hr]; rfl
  refine ⟨h2, h4, h5, h6, fun i hi => ?_, ?_, fun n hn => ?_, ?_, h3⟩
  · have := h7 i (List.mem_range.mpr hi)
    rw [decide_eq_true_eq] at this
    exact this
  · obtain ⟨i, i1, i2⟩ := h8
    rw [decide_eq_true_eq] at i2
    exact ⟨i, List.mem_range.mp i1, i2⟩
  · have := h9 n (List.mem_range.mpr hn)
    rw [decide_eq_true_eq] at this
    exact this
  · rw [hrow]; exact List.all_eq_true.mp gqTb_ok r hm
theorem g_cyc {p : Int} (hp : isPr p) : @cyc p (pr_pos hp) (gk p) (gt p) (gQ p) ∧ ((gQ p : Nat) : Int) + 1 = p ^ gk p := by
  obtain ⟨f1, f2, f3, f4, f5, f6, f7, f8, f9⟩ := gFacts hp
  have h0 := pr_pos hp
  obtain ⟨P, hP⟩ : ∃ P : Nat, p = (P : Int) := ⟨p.toNat, by omega⟩
  subst hP
  have e1 : (fRow (P : Int)).1 = P := by omega
  have f8' : chN (P, gk P, (fRow (P : Int)).2.2.1, (fRow (P : Int)).2.2.2) = true := by
    have : fRow (P : Int) = (P, gk P, (fRow (P : Int)).2.2.1, (fRow (P : Int)).2.2.2) := Prod.ext e1 rfl
    rw [← this]; exact f8
  obtain ⟨c1', c2', c3', c4'⟩ := cyc_ok f8' h0
  have eQ : gQ (P : Int) = P ^ gk P - 1 := by
    unfold gQ
    rw [← Int.natCast_pow]
    omega
  rw [eQ]
  exact ⟨c1', c2'⟩
abbrev gE (p : Int) : Type := gqT p (gk p)
noncomputable def gFd {p : Int} (hp : isPr p) : Lean.Grind.Field (gE p) := gqF (pr_pos hp) (gt p) (g_cyc hp).1 (g_cyc hp).2
noncomputable def cod {p : Int} (hp : isPr p) (a : gE p) : Int := @ite _ (a = gqO (pr_pos hp)) (Classical.propDecidable _) ((gQ p : Nat) : Int) ((gqL (pr_pos hp) (gt p) (gQ p) a : Nat) : Int)
section CD
variable {p : Int} (hp : isPr p)
theorem cod_0 : cod hp (gqO (pr_pos hp)) = (gQ p : Int) := if_pos rfl
theorem cod_nz {a : gE p} (ha : a ≠ gqO (pr_pos hp)) : cod hp a = ((gqL (pr_pos hp) (gt p) (gQ p) a : Nat) : Int) ∧ 0 ≤ cod hp a ∧ cod hp a < (gQ p : Int) ∧ a = gqg (pr_pos hp) (gt p) (cod hp a).toNat := by
  have e : cod hp a = ((gqL (pr_pos hp) (gt p) (gQ p) a : Nat) : Int) := if_neg ha
  obtain ⟨h1, h2⟩ := gqL_ok (pr_pos hp) (gt p) (g_cyc hp).1 (g_cyc hp).2 ha
  refine ⟨e, by omega, by omega, ?_⟩
  rw [e, Int.toNat_natCast]; exact h2.symm
theorem cod_g {e : Nat} (he : e < gQ p) : cod hp (gqg (pr_pos hp) (gt p) e) = (e : Int) := by
  have e1 := (cod_nz hp (gqg_nz (pr_pos hp) (gt p) (g_cyc hp).1 e)).1
  rw [e1, gqL_g (pr_pos hp) (gt p) (g_cyc hp).1 (g_cyc hp).2 he]
theorem cod_b (a : gE p) : 0 ≤ cod hp a ∧ cod hp a ≤ (gQ p : Int) := by
  by_cases ha : a = gqO (pr_pos hp)
  · rw [ha, cod_0]; omega
  · obtain ⟨-, h1, h2, -⟩ := cod_nz hp ha; omega
theorem cod_z {a : gE p} : cod hp a = (gQ p : Int) ↔ a = gqO (pr_pos hp) := by
  constructor
  · intro h
    refine Classical.byContradiction (fun ha => ?_)
    obtain ⟨-, h1, h2, -⟩ := cod_nz hp ha
    omega
  · intro h; rw [h, cod_0]
theorem cod_inj {a b : gE p} (h : cod hp a = cod hp b) : a = b := by
  by_cases ha : a = gqO (pr_pos hp)
  · have hb := cod_0 hp
    rw [← ha, h] at hb
    rw [ha]; exact ((cod_z hp).mp hb).symm
  · by_cases hb : b = gqO (pr_pos hp)
    · rw [hb, cod_0] at h
      exact absurd ((cod_z hp).mp h) ha
    · rw [(cod_nz hp ha).2.2.2, (cod_nz hp hb).2.2.2, h]
/-- every number up to Q is a code -/
theorem cod_s {n : Int} (n0 : 0 ≤ n) (n1 : n ≤ (gQ p : Int)) : ∃ a : gE p, cod hp a = n := by
  by_cases hn : n = (gQ p : Int)
  · exact ⟨gqO (pr_pos hp), by rw [cod_0]; exact hn.symm⟩
  · exact ⟨gqg (pr_pos hp) (gt p) n.toNat, by rw [cod_g hp (by omega)]; omega⟩
theorem gqg_Q (m : Nat) : (gqg (pr_pos hp) (gt p) (gQ p + m) : gE p) = gqg (pr_pos hp) (gt p) m := by
  rw [← gqg_i, (g_cyc hp).1.2.1]; rfl
theorem cod_mul (a b : gE p) : fmul (gQ p : Int) (cod hp a) (cod hp b) = cod hp (gqP (pr_pos hp) (gt p) (gQ p) a b) := by
  unfold fmul
  by_cases ha : a = gqO (pr_pos hp)
  · rw [ha, gqP_0, cod_0, if_pos (Or.inl rfl)]
  · by_cases hb : b = gqO (pr_pos hp)
    · rw [hb, gqP_z, cod_0, if_pos (Or.inr rfl)]
    · obtain ⟨-, a1, a2, a3⟩ := cod_nz hp ha
      obtain ⟨-, b1, b2, b3⟩ := cod_nz hp hb
      rw [if_neg (by omega)]
      have e : gqP (pr_pos hp) (gt p) (gQ p) a b = gqg (pr_pos hp) (gt p) ((cod hp b).toNat + (cod hp a).toNat) := by
        have h1 : gqP (pr_pos hp) (gt p) (gQ p) a b = gqP (pr_pos hp) (gt p) (gQ p) (gqg (pr_pos hp) (gt p) (cod hp a).toNat) (gqg (pr_pos hp) (gt p) (cod hp b).toNat) := by rw [← a3, ← b3]
        rw [h1, gqP_g (pr_pos hp) (gt p) (g_cyc hp).1 (g_cyc hp).2, gqg_i]
      rw [e]
      by_cases hs : cod hp a + cod hp b < (gQ p : Int)
      · rw [if_pos hs, cod_g hp (by omega)]; omega
      · rw [if_neg hs, show (cod hp b).toNat + (cod hp a).toNat = gQ p + ((cod hp b).toNat + (cod hp a).toNat - gQ p) by omega, gqg_Q hp, cod_g hp (by omega)]; omega
theorem cod_E : cod hp (gqE (pr_pos hp)) = 0 := cod_g hp (e := 0) (g_cyc hp).1.1
theorem cod_inv (a : gE p) : finv (gQ p : Int) (cod hp a) = cod hp (gqJ (pr_pos hp) (gt p) (gQ p) a) := by
  unfold finv
  by_cases ha : a = gqO (pr_pos hp)
  · have e : gqJ (pr_pos hp) (gt p) (gQ p) a = gqO (pr_pos hp) := if_pos ha
    rw [e, ha, cod_0, if_pos (Or.inl rfl)]
  · have e : gqJ (pr_pos hp) (gt p) (gQ p) a = gqg (pr_pos hp) (gt p) (gQ p - gqL (pr_pos hp) (gt p) (gQ p) a) := if_neg ha
    obtain ⟨a0, a1, a2, a3⟩ := cod_nz hp ha
    rw [e]
    by_cases hz : cod hp a = 0
    · rw [if_pos (Or.inr hz), hz, show gQ p - gqL (pr_pos hp) (gt p) (gQ p) a = gQ p + 0 by omega, gqg_Q hp, cod_g hp (by omega)]; rfl
    · rw [if_neg (by omega), cod_g hp (by omega)]; omega
theorem cod_add {S : Int → Int} (hS : ∀ v : gE p, v ≠ gqO (pr_pos hp) → S (cod hp v) = cod hp (gqA (pr_pos hp) v (gqE (pr_pos hp)))) (a b : gE p) : fadd (gQ p : Int) S (cod hp a) (cod hp b) = cod hp (gqA (pr_pos hp) a b) := by
  have L := gqLaw (pr_pos hp) (gt p) (g_cyc hp).1 (g_cyc hp).2
  unfold fadd
  by_cases ha : a = gqO (pr_pos hp)
  · rw [ha, cod_0, if_pos rfl, gqA_c, gqA_0]
  · obtain ⟨-, a1, a2, a3⟩ := cod_nz hp ha
    rw [if_neg (by omega)]
    by_cases hb : b = gqO (pr_pos hp)
    · rw [hb, cod_0, if_pos rfl, gqA_0]
    · obtain ⟨-, b1, b2, b3⟩ := cod_nz hp hb
      rw [if_neg (by omega)]
      obtain ⟨d, hd⟩ : ∃ d : Int, d = if cod hp b < cod hp a then cod hp b - cod hp a + (gQ p : Int) else cod hp b - cod hp a := ⟨_, rfl⟩
      rw [← hd]
      have d0 : 0 ≤ d ∧ d < (gQ p : Int) := by rw [hd]; split <;> omega
      have ev : cod hp (gqg (pr_pos hp) (gt p) d.toNat) = d := by rw [cod_g hp (by omega)]; omega
      have vnz := gqg_nz (pr_pos hp) (gt p) (g_cyc hp).1 d.toNat
      have h1 := hS _ vnz
      rw [ev] at h1
      rw [h1, cod_mul]
      congr 1
      rw [L.2.2.2.2.2.2.2, L.2.2.2.2.2.2.1, gqA_c]
      congr 1
      refine cod_inj hp ?_
      rw [← cod_mul, ev]
      unfold fmul
      rw [if_neg (by omega), hd]
      by_cases hlt : cod hp b < cod hp a
      · rw [if_pos hlt, if_neg (by omega)]; omega
      · rw [if_neg hlt, if_pos (by omega)]; omega
/-- minus one -/
theorem cod_m1 : cod hp (gqN (pr_pos hp) (gqE (pr_pos hp))) = if p = 2 then 0 else (gQ p : Int) / 2 := by
  have L := gqLaw (pr_pos hp) (gt p) (g_cyc hp).1 (g_cyc hp).2
  have h0 := pr_pos hp
  obtain ⟨p2, p97, -⟩ := pr_rest _ hp
  obtain ⟨⟨k2, k9⟩, -⟩ := gFacts hp
  have hE : ∀ i, (gqE h0 : gE p).1 i = if i < gk p then (if i = 0 then 1 else 0) % p else 0 := fun i => rfl
  have hN : ∀ i, (gqN h0 (gqE h0) : gE p).1 i = if i < gk p then (-(gqE h0 : gE p).1 i) % p else 0 := fun i => rfl
  have hE0 : (gqE h0 : gE p).1 0 = 1 := by rw [hE, if_pos (by omega), if_pos rfl, Int.emod_eq_of_lt (by decide) (by omega)]
  by_cases h2 : p = 2
  · rw [if_pos h2]
    have e : gqN h0 (gqE h0 : gE p) = gqE h0 := gq_e (fun i => by
      rw [hN, hE]
      by_cases hi : i < gk p
      · rw [if_pos hi, if_pos hi, h2]
        by_cases hz : i = 0
        · rw [if_pos hz]; rfl
        · rw [if_neg hz]; rfl
      · rw [if_neg hi, if_neg hi])
    rw [e]; exact cod_E hp
  · rw [if_neg h2]
    obtain ⟨m, hm⟩ : ∃ m : gE p, m = gqN h0 (gqE h0) := ⟨_, rfl⟩
    have mm : gqP h0 (gt p) (gQ p) m m = gqE h0 := by
      rw [hm, crL_nm L, L.2.2.2.2.2.1, crL_nm L, crL_nn L, L.2.2.2.2.2.2.1]
    have m0 : m ≠ gqO h0 := fun w => by
      rw [w, gqP_0] at mm
      exact (g_cyc hp).1.2.2.2 mm.symm
    have mE : m ≠ gqE h0 := fun w => by
      have h3 : m.1 0 = (gqE h0 : gE p).1 0 := by rw [w]
      rw [hm, hN, if_pos (by omega), hE0, Int.emod_eq_add_self_emod, Int.emod_eq_of_lt (by omega) (by omega)] at h3
      omega
    obtain ⟨-, c0, c1', c3⟩ := cod_nz hp m0
    have h3 := cod_mul hp m m
    rw [mm, cod_E] at h3
    unfold fmul at h3
    rw [if_neg (by omega)] at h3
    rw [← hm]
    by_cases hs : cod hp m + cod hp m < (gQ p : Int)
    · rw [if_pos hs] at h3
      exfalso
      refine mE (cod_inj hp ?_)
      rw [cod_E]; omega
    · rw [if_neg hs] at h3
      omega
theorem cod_neg (a : gE p) : fmul (gQ p : Int) (cod hp a) (if p = 2 then 0 else (gQ p : Int) / 2) = cod hp (gqN (pr_pos hp) a) := by
  have L := gqLaw (pr_pos hp) (gt p) (g_cyc hp).1 (g_cyc hp).2
  rw [← cod_m1 hp, cod_mul, L.2.2.2.2.2.1, crL_nm L, L.2.2.2.2.2.1, L.2.2.2.2.2.2.1]
/-- codes of numbers -/
noncomputable def cdn (n : Int) : Int := cod hp (gqS (pr_pos hp) n (gqE (pr_pos hp)))
theorem gqg_pw (n : Int) (y : Nat) (hy : (gqg (pr_pos hp) (gt p) y : gE p) = gqS (pr_pos hp) n (gqE (pr_pos hp))) : ∀ m : Nat, (gqg (pr_pos hp) (gt p) (y * m) : gE p) = gqS (pr_pos hp) (n ^ m) (gqE (pr_pos hp))
  | 0 => by
    rw [Nat.mul_zero, Int.pow_zero, gqS_1]; rfl
  | m + 1 => by
    have ih := gqg_pw n y hy m
    rw [Nat.mul_succ, Nat.add_comm, ← gqg_i, ← gqP_g (pr_pos hp) (gt p) (g_cyc hp).1 (g_cyc hp).2, ih, hy, gqS_P (pr_pos hp) (gt p) (g_cyc hp).1 (g_cyc hp).2, gqS_S, gqS_m, Int.pow_succ]
theorem gqg_E {m : Nat} (h : (gqg (pr_pos hp) (gt p) m : gE p) = gqE (pr_pos hp)) : m % gQ p = 0 := by
  have hQ := (g_cyc hp).1.1
  have key : ∀ s : Nat, (gqg (pr_pos hp) (gt p) (s * gQ p + m % gQ p) : gE p) = gqg (pr_pos hp) (gt p) (m % gQ p) := by
    intro s
    induction s with
    | zero => rw [Nat.zero_mul, Nat.zero_add]
    | succ s ih => rw [Nat.succ_mul, show s * gQ p + gQ p + m % gQ p = gQ p + (s * gQ p + m % gQ p) by omega, gqg_Q hp, ih]
  have h1 := key (m / gQ p)
  rw [Nat.mul_comm, Nat.div_add_mod, h] at h1
  rcases Nat.eq_zero_or_pos (m % gQ p) with z | z
  · exact z
  · exact absurd h1.symm ((g_cyc hp).1.2.2.1 _ z (Nat.mod_lt _ hQ))
theorem cdn_st {n : Int} (n0 : 0 < n) (n1 : n < p) : 0 ≤ cdn hp n ∧ cdn hp n < (gQ p : Int) ∧ cdn hp n % ((gQ p : Int) / (p - 1)) = 0 := by
  obtain ⟨p2, p97, -⟩ := pr_rest _ hp
  obtain ⟨⟨k2, k9⟩, f2, -, f4, -, -, f7, -⟩ := gFacts hp
  have h0 := pr_pos hp
  have hc2 := (g_cyc hp).2
  have nz : gqS h0 n (gqE h0 : gE p) ≠ gqO h0 := fun w => by
    have h1 : (gqS h0 n (gqE h0 : gE p)).1 0 = (gqO h0 : gE p).1 0 := by rw [w]
    rw [gqS_i, gqO_i] at h1
    have hE0 : (gqE h0 : gE p).1 0 = 1 := by
      show (if 0 < gk p then (if 0 = 0 then 1 else 0) % p else 0) = 1
      rw [if_pos (by omega), if_pos rfl, Int.emod_eq_of_lt (by decide) (by omega)]
    rw [hE0, Int.mul_one, Int.emod_eq_of_lt (by omega) n1] at h1
    omega
  obtain ⟨-, a1, a2, a3⟩ := cod_nz hp nz
  refine ⟨a1, a2, ?_⟩
  obtain ⟨y, hy⟩ : ∃ y : Nat, y = (cdn hp n).toNat := ⟨_, rfl⟩
  have hy2 : (gqg h0 (gt p) y : gE p) = gqS h0 n (gqE h0) := by rw [hy]; exact a3.symm
  have h1 := gqg_pw hp n y hy2 (p - 1).toNat
  obtain ⟨N, hN⟩ : ∃ N : Nat, n = (N : Int) := ⟨n.toNat, by omega⟩
  have h2 := f7 N (by omega) (by omega) (by omega)
  rw [← hN] at h2
  rw [← gqS_m, h2, gqS_1] at h1
  have h3 := gqg_E hp h1
  obtain ⟨s, hs⟩ : ∃ s, y * (p - 1).toNat = gQ p * s := ⟨y * (p - 1).toNat / gQ p, by have := Nat.div_add_mod (y * (p - 1).toNat) (gQ p); omega⟩
  have eQ : (gQ p : Int) = (p - 1) * ((gQ p : Int) / (p - 1)) := by
    have h5 : (gQ p : Int) % (p - 1) = 0 := by rw [show (gQ p : Int) = p ^ gk p - 1 by omega]; exact f4
    have := Int.mul_ediv_add_emod (gQ p : Int) (p - 1)
    omega
  obtain ⟨st, est⟩ : ∃ st : Int, st = (gQ p : Int) / (p - 1) := ⟨_, rfl⟩
  rw [← est] at eQ ⊢
  have h6 : (y : Int) * (p - 1) = (p - 1) * st * s := by
    rw [← eQ]
    have : ((y * (p - 1).toNat : Nat) : Int) = ((gQ p * s : Nat) : Int) := by rw [hs]
    rw [Int.natCast_mul, Int.natCast_mul, show (((p - 1).toNat : Nat) : Int) = p - 1 by omega] at this
    exact this
  have h7 : (y : Int) = st * s := by
    have h8 : (p - 1) * (y : Int) = (p - 1) * (st * s) := by rw [Int.mul_comm, h6, Int.mul_assoc]
    exact Int.eq_of_mul_eq_mul_left (by omega) h8
  have h9 : cdn hp n = st * s := by
    have : (y : Int) = cdn hp n := by rw [hy]; have := a1; unfold cdn at *; omega
    rw [← this]; exact h7
  rw [h9, Int.mul_emod_right]
end CD
