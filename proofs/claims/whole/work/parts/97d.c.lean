/-! ===== the field of digits ===== -/
section GF
variable {p : Int} (h0 : 0 < p) {k : Nat} (t : Nat → Int) {Q : Nat}
theorem enc_nz {a : gqT p k} (ha : a ≠ gqO h0) : 0 < enc a.1 p k := by
  have hb := enc_b h0 a.2.1 k
  rcases Int.lt_or_le 0 (enc a.1 p k) with z | z
  · exact z
  · exfalso
    have e0 : enc a.1 p k = enc (gqO h0 : gqT p k).1 p k := by
      rw [enc_z (d := (gqO h0 : gqT p k).1) k (fun i _ => gqO_i h0 i)]; omega
    refine ha (gq_e (fun i => ?_))
    by_cases hi : i < k
    · exact enc_inj h0 a.2.1 (gqO h0 : gqT p k).2.1 k e0 i hi
    · rw [a.2.2 i (by omega), gqO_i]
theorem enc_eq {p : Int} (h0 : 0 < p) {k : Nat} {a b : gqT p k} (h : enc a.1 p k = enc b.1 p k) : a = b := gq_e (fun i => by
  by_cases hi : i < k
  · exact enc_inj h0 a.2.1 b.2.1 k h i hi
  · rw [a.2.2 i (by omega), b.2.2 i (by omega)])
theorem gq_log (hc : @cyc p h0 k t Q) (hQ : (Q : Int) + 1 = p ^ k) {a : gqT p k} (ha : a ≠ gqO h0) : ∃ e, e < Q ∧ gqg h0 t e = a := by
  have hb : ∀ b : gqT p k, b ≠ gqO h0 → 0 < enc b.1 p k ∧ enc b.1 p k < (Q : Int) + 1 := fun b hb => ⟨enc_nz h0 hb, by rw [hQ]; exact (enc_b h0 b.2.1 k).2⟩
  have hg := fun e => hb (gqg h0 t e) (gqg_nz h0 t hc e)
  obtain ⟨e, e1, e2⟩ := inj_surj (n := Q) (f := fun e => (enc (gqg h0 t e : gqT p k).1 p k - 1).toNat) (fun i _ => by have := hg i; show (enc (gqg h0 t i : gqT p k).1 p k - 1).toNat < Q; omega) (fun i j hi hj w => gqg_inj h0 t hc hi hj (enc_eq h0 (by
    have a1 := hg i
    have a2 := hg j
    have w' : (enc (gqg h0 t i : gqT p k).1 p k - 1).toNat = (enc (gqg h0 t j : gqT p k).1 p k - 1).toNat := w
    omega))) (y := (enc a.1 p k - 1).toNat) (by have := hb a ha; omega)
  refine ⟨e, e1, enc_eq h0 ?_⟩
  have a1 := hg e
  have a2 := hb a ha
  have w' : (enc (gqg h0 t e : gqT p k).1 p k - 1).toNat = (enc a.1 p k - 1).toNat := e2
  omega
noncomputable def gqL (Q : Nat) (a : gqT p k) : Nat := @dite Nat (∃ e, e < Q ∧ gqg h0 t e = a) (Classical.propDecidable _) (fun h => h.choose) (fun _ => 0)
noncomputable def gqP (Q : Nat) (a b : gqT p k) : gqT p k := @ite _ (a = gqO h0 ∨ b = gqO h0) (Classical.propDecidable _) (gqO h0) (gqg h0 t (gqL h0 t Q a + gqL h0 t Q b))
noncomputable def gqJ (Q : Nat) (a : gqT p k) : gqT p k := @ite _ (a = gqO h0) (Classical.propDecidable _) (gqO h0) (gqg h0 t (Q - gqL h0 t Q a))
theorem gqL_ok (hc : @cyc p h0 k t Q) (hQ : (Q : Int) + 1 = p ^ k) {a : gqT p k} (ha : a ≠ gqO h0) : gqL h0 t Q a < Q ∧ gqg h0 t (gqL h0 t Q a) = a := by
  have hx := gq_log h0 t hc hQ ha
  have e : gqL h0 t Q a = hx.choose := dif_pos hx
  rw [e]; exact hx.choose_spec
theorem gqL_g (hc : @cyc p h0 k t Q) (hQ : (Q : Int) + 1 = p ^ k) {e : Nat} (he : e < Q) : gqL h0 t Q (gqg h0 t e : gqT p k) = e := by
  obtain ⟨h1, h2⟩ := gqL_ok h0 t hc hQ (gqg_nz h0 t hc e)
  exact gqg_inj h0 t hc h1 he h2
theorem gqP_0 (b : gqT p k) : gqP h0 t Q (gqO h0) b = gqO h0 := if_pos (Or.inl rfl)
theorem gqP_z (a : gqT p k) : gqP h0 t Q a (gqO h0) = gqO h0 := if_pos (Or.inr rfl)
theorem gqP_g (hc : @cyc p h0 k t Q) (hQ : (Q : Int) + 1 = p ^ k) (i : Nat) (b : gqT p k) : gqP h0 t Q (gqg h0 t i) b = gqI h0 t b i := by
  by_cases hb : b = gqO h0
  · rw [hb, gqP_z, gqI_0]
  · have hg := gqg_nz h0 t hc i
    have e : gqP h0 t Q (gqg h0 t i) b = gqg h0 t (gqL h0 t Q (gqg h0 t i : gqT p k) + gqL h0 t Q b) := if_neg (fun w => w.elim hg hb)
    obtain ⟨-, h1⟩ := gqL_ok h0 t hc hQ hg
    obtain ⟨-, h2⟩ := gqL_ok h0 t hc hQ hb
    rw [e, ← gqg_i, h1, gqg_i, Nat.add_comm, ← gqg_i, h2]
theorem gq_form (hc : @cyc p h0 k t Q) (hQ : (Q : Int) + 1 = p ^ k) (a : gqT p k) : a = gqO h0 ∨ ∃ i, a = gqg h0 t i := by
  by_cases ha : a = gqO h0
  · exact Or.inl ha
  · obtain ⟨e, -, h⟩ := gq_log h0 t hc hQ ha
    exact Or.inr ⟨e, h.symm⟩
theorem gqLaw (hc : @cyc p h0 k t Q) (hQ : (Q : Int) + 1 = p ^ k) : crL (gqA h0) (gqP h0 t Q) (gqN h0) (gqO h0 : gqT p k) (gqE h0) := by
  have F := gq_form h0 t hc hQ
  have G := gqP_g h0 t hc hQ
  have cm : ∀ a b : gqT p k, gqP h0 t Q a b = gqP h0 t Q b a := by
    intro a b
    rcases F a with rfl | ⟨i, rfl⟩
    · rw [gqP_0, gqP_z]
    · rcases F b with rfl | ⟨j, rfl⟩
      · rw [gqP_0, gqP_z]
      · rw [G, G, gqg_i, gqg_i, Nat.add_comm]
  refine ⟨gqA_0 h0, gqA_c h0, gqA_a h0, gqA_n h0, fun a b c => ?_, cm, fun a => ?_, fun a b c => ?_⟩
  · rcases F a with rfl | ⟨i, rfl⟩
    · rw [gqP_0, gqP_0, gqP_0]
    · rw [G, G]
      rcases F b with rfl | ⟨j, rfl⟩
      · rw [gqI_0, gqP_0, gqI_0]
      · rw [gqg_i, G, G, gqI_t]
  · rcases F a with rfl | ⟨i, rfl⟩
    · rw [gqP_0]
    · rw [G]; rfl
  · rcases F a with rfl | ⟨i, rfl⟩
    · rw [gqP_0, gqP_0, gqP_0, gqA_0]
    · rw [G, G, G, gqI_a]
theorem gqFd (hc : @cyc p h0 k t Q) (hQ : (Q : Int) + 1 = p ^ k) : fdL (gqP h0 t Q) (gqJ h0 t Q) (gqO h0 : gqT p k) (gqE h0) := by
  refine ⟨if_pos rfl, fun a ha => ?_, fun w => hc.2.2.2 w.symm⟩
  obtain ⟨h1, h2⟩ := gqL_ok h0 t hc hQ ha
  have e : gqJ h0 t Q a = gqg h0 t (Q - gqL h0 t Q a) := if_neg ha
  have e2 : gqP h0 t Q a (gqJ h0 t Q a) = gqP h0 t Q (gqg h0 t (gqL h0 t Q a)) (gqg h0 t (Q - gqL h0 t Q a)) := by rw [h2, e]
  rw [e2, gqP_g h0 t hc hQ, gqg_i, show Q - gqL h0 t Q a + gqL h0 t Q a = Q by omega]
  exact hc.2.1
noncomputable def gqF (hc : @cyc p h0 k t Q) (hQ : (Q : Int) + 1 = p ^ k) : Lean.Grind.Field (gqT p k) := mkFd (gqA h0) (gqP h0 t Q) (gqN h0) (gqJ h0 t Q) (gqO h0) (gqE h0) (gqLaw h0 t hc hQ) (gqFd h0 t hc hQ)
/-- numbers by the prime lie in it -/
def gph (s : fpT p) : gqT p k := gqS h0 s.1 (gqE h0)
theorem gqS_P (hc : @cyc p h0 k t Q) (hQ : (Q : Int) + 1 = p ^ k) (s : Int) (b : gqT p k) : gqP h0 t Q (gqS h0 s (gqE h0)) b = gqS h0 s b := by
  have hz : gqS h0 s (gqO h0 : gqT p k) = gqO h0 := gq_e (fun i => by rw [gqS_i, gqO_i, Int.mul_zero, Int.zero_emod])
  rcases gq_form h0 t hc hQ b with rfl | ⟨j, rfl⟩
  · rw [gqP_z, hz]
  · have e2 : gqS h0 s (gqg h0 t j : gqT p k) = gqI h0 t (gqS h0 s (gqE h0)) j := (gqI_s h0 t s (gqE h0) j).symm
    rw [e2]
    rcases gq_form h0 t hc hQ (gqS h0 s (gqE h0)) with w | ⟨i, w⟩
    · rw [w, gqP_0, gqI_0]
    · rw [w, gqP_g h0 t hc hQ, gqg_i, gqg_i, Nat.add_comm]
theorem gqS_S (s u : Int) (a : gqT p k) : gqS h0 s (gqS h0 u a) = gqS h0 (s * u % p) a := gq_e (fun i => by
  rw [gqS_i, gqS_i, gqS_i, em_r, em_l, Int.mul_assoc])
theorem gqS_A (s u : Int) (a : gqT p k) : gqA h0 (gqS h0 s a) (gqS h0 u a) = gqS h0 ((s + u) % p) a := gq_e (fun i => by
  rw [gqA_i, gqS_i, gqS_i, gqS_i, em_l, Int.add_mul, ← Int.add_emod])
theorem gqS_1 (a : gqT p k) : gqS h0 1 a = a := gq_e (fun i => by
  rw [gqS_i, Int.one_mul]; exact Int.emod_eq_of_lt (a.2.1 i).1 (a.2.1 i).2)
theorem gqS_m (s : Int) (a : gqT p k) : gqS h0 (s % p) a = gqS h0 s a := gq_e (fun i => by rw [gqS_i, gqS_i, em_l])
end GF
theorem gph_hom {p : Int} (hp : isPr p) {k : Nat} (t : Nat → Int) {Q : Nat} (hc : @cyc p (pr_pos hp) k t Q) (hQ : (Q : Int) + 1 = p ^ k) : @isHom (fpT p) (gqT p k) (FpF hp).toCommRing (gqF (pr_pos hp) t hc hQ).toCommRing (gph (pr_pos hp)) := by
  have h0 := pr_pos hp
  refine ⟨?_, ?_, fun a b => ?_, fun a b => ?_⟩
  · show gqS h0 (0 % p) (gqE h0) = gqO h0
    rw [gqS_m, gqS_0]
  · show gqS h0 (1 % p) (gqE h0) = gqE h0
    rw [gqS_m, gqS_1]
  · show gqS h0 ((a.1 + b.1) % p) (gqE h0) = gqA h0 (gqS h0 a.1 (gqE h0)) (gqS h0 b.1 (gqE h0))
    rw [gqS_A]
  · show gqS h0 ((a.1 * b.1) % p) (gqE h0) = gqP h0 t Q (gqS h0 a.1 (gqE h0)) (gqS h0 b.1 (gqE h0))
    rw [gqS_P h0 t hc hQ, gqS_S]
