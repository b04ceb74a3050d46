/-! ===== Commons: a row is taken by another one ===== -/
theorem rpw_t32 {L R : Type} [Lean.Grind.Field L] [Lean.Grind.CommRing R] {c : R → Nat → L} {k : L → R} {Y : R} (H : IsPol c k Y) {p : Int} {em : Int → L} (E : isEm p em) {u : Int → Int} {r : R} (h : rpw c em p u 32 r) : -1 ≤ top u 32 ∧ top u 32 < 32 ∧ (top u 32 < 0 → r = 0) ∧ (0 ≤ top u 32 → isDg c r (top u 32).toNat) := rpw_top H E h
theorem c28 {L R : Type} [Lean.Grind.Field L] [Lean.Grind.CommRing R] {c : R → Nat → L} {k : L → R} {Y : R} (H : IsPol c k Y) {p : Int} {em : Int → L} (E : isEm p em) {B : va_E} {σ : l2_m} {K : Int → l2_m → Prop} {o1 : Nat} {t m : Nat} {iv : Int} {r o : R} (ho1 : l2_al o1 = some 32) (n1 : o1 ≠ 124) (hp : σ 34 0 = p) (hr : rpw c em p (σ o1) 32 r) (ho : rpw c em p (σ 124) 32 o) (hm : m < 32) (htm : t ≤ m) (dr : dlt c r (m + 1)) (dO : dlt c o (t + 1)) (i0 : 0 ≤ iv) (i1 : iv < p) (hiv : σ 124 t * iv % p = 1) (hK : ∀ (τ : l2_m) (q : R), (∀ b j, b ≠ o1 → τ b j = σ b j) → rpw c em p (τ o1) 32 (r + q * o) → dlt c (r + q * o) t → K 0 τ) : wC B 28 [vr 109, vr o1, vi (m : Int), vi (t : Int), vi iv] σ K := by
  have p2 := E.1
  have p97 := E.2.1
  refine o28 ho1 ?_
  unfold w28
  intro x5 ex5
  rw [ex5, hp]
  refine ⟨⟨by omega, by omega⟩, ?_⟩
  rw [if_neg (by omega)]
  refine ⟨⟨by omega, by omega⟩, fun _ => ⟨by omega, by omega⟩, ?_⟩
  rw [if_neg (by omega)]
  intro x6 ex6
  unfold w28_31
  refine lz2_inv (fun (x : Int) s => -1 ≤ x ∧ x + t ≤ m ∧ (∀ b j, b ≠ o1 → s b j = σ b j) ∧ ∃ q : R, rpw c em p (s o1) 32 (r + q * o) ∧ dlt c (r + q * o) (x + t + 1).toNat) (fun x _ => x + 1) ?_ ⟨by omega, by omega, fun _ _ _ => rfl, 0, ?_, ?_⟩
  rotate_left
  · have e : r + 0 * o = r := by grind
    rw [e]; exact hr
  · have e : r + 0 * o = r := by grind
    rw [e]; exact dlt_mono dr (by omega)
  intro X x s hX ⟨x0, x1, s1, q, s2, s3⟩
  refine ⟨⟨by omega, by omega⟩, ?_⟩
  by_cases hx : x < 0
  · rw [if_pos hx]
    exact hK s q s1 s2 (dlt_mono s3 (by omega))
  · rw [if_neg hx]
    obtain ⟨e, rfl⟩ : ∃ e : Nat, x = (e : Int) := ⟨x.toNat, by omega⟩
    have he : e + t < 32 := by omega
    have u0 := s2.1 (e + t) he
    rw [show ((e + t : Nat) : Int) = (e : Int) + t by omega] at u0
    have v0 := ho.1 t (by omega)
    have g1 : 0 ≤ s o1 ((e : Int) + t) * iv := Int.mul_nonneg u0.1 i0
    have g2 : s o1 ((e : Int) + t) * iv ≤ 97 * 97 := Int.mul_le_mul (by omega) (by omega) i0 (by omega)
    refine ⟨⟨by omega, by omega, ⟨by omega, by omega⟩, ⟨by omega, by omega⟩, by omega, g1⟩, ?_⟩
    intro x7 ex7
    have m0 := Int.emod_nonneg (s o1 ((e : Int) + t) * iv) (show p ≠ 0 by omega)
    have m1 := Int.emod_lt_of_pos (s o1 ((e : Int) + t) * iv) (show 0 < p by omega)
    unfold w28_56
    refine lz2_inv (fun (y : Int) z => 0 ≤ y ∧ y ≤ t + 1 ∧ (∀ b j, b ≠ o1 → z b j = σ b j) ∧ (∀ i : Nat, (i : Int) < y → z o1 ((e : Int) + i) = (s o1 ((e : Int) + i) + x7 * σ 124 i) % p) ∧ (∀ j : Int, (j < e ∨ (e : Int) + y ≤ j) → z o1 j = s o1 j)) (fun y _ => t + 1 - y) ?_ ⟨by omega, by omega, s1, fun i hi => by omega, fun _ _ => rfl⟩
    intro Z y z hZ ⟨y0, y1, z1, z2, z3⟩
    refine ⟨⟨⟨by omega, by omega⟩, ⟨by omega, by omega⟩⟩, ?_⟩
    by_cases hy : (t : Int) < y
    · rw [if_pos hy]
      have key : rpw c em p (z o1) 32 (r + q * o + k (em x7) * (Y ^ e * o)) := rpw_st H E (s := e) (m := x7) s2 ho dO he (fun i hi => by
        rw [show ((e + i : Nat) : Int) = (e : Int) + i by omega]; exact z2 i (by omega)) (fun j hj hjs => z3 j (by omega))
      have eq : r + q * o + k (em x7) * (Y ^ e * o) = r + (q + k (em x7) * Y ^ e) * o := by grind
      rw [eq] at key
      refine hX _ z ⟨by omega, by omega, z1, q + k (em x7) * Y ^ e, key, ?_⟩ (by omega)
      rw [show ((e : Int) + (-1) + t + 1).toNat = e + t by omega, ← eq]
      intro i hi
      rw [po_a H, po_km H]
      by_cases hie : i = e + t
      · have e7 : em x7 = - (em (s o1 ((e : Int) + t)) * em iv) := by rw [ex7, em_sb E, em_p E, em_md E, E.2.2.2.1]; grind
        have e8 : em (σ 124 t) * em iv = 1 := by rw [← E.2.2.2.1, ← em_md E, hiv]; exact E.2.2.2.2.1
        rw [hie, u0.2.2, show e + t = t + e by omega, po_x H, v0.2.2, e7]
        grind
      · have h1 : c (r + q * o) i = 0 := s3 i (by omega)
        have h2 : c (Y ^ e * o) i = 0 := dlt_x H e dO i (by omega)
        rw [h1, h2]; grind
    · rw [if_neg hy]
      obtain ⟨f, rfl⟩ : ∃ f : Nat, y = (f : Int) := ⟨y.toNat, by omega⟩
      have a0 := s2.1 (e + f) (by omega)
      rw [show ((e + f : Nat) : Int) = (e : Int) + f by omega] at a0
      have b0 := ho.1 f (by omega)
      have ez : z o1 ((e : Int) + f) = s o1 ((e : Int) + f) := z3 _ (by omega)
      have eo : z 124 (f : Int) = σ 124 f := z1 124 f (fun w => n1 w.symm)
      rw [ez, eo]
      have g3 : 0 ≤ x7 * σ 124 f := Int.mul_nonneg (by omega) b0.1
      have g4 : x7 * σ 124 f ≤ 97 * 97 := Int.mul_le_mul (by omega) (by omega) b0.1 (by omega)
      refine ⟨⟨by omega, by omega, by omega, by omega, ⟨by omega, by omega⟩, ⟨by omega, by omega⟩, by omega, by omega⟩, ?_⟩
      intro z' ez'
      refine hZ _ z' ⟨by omega, by omega, fun b j w => by rw [ez', l2_u_ne w]; exact z1 b j w, fun i hi => ?_, fun j hj => ?_⟩ (by omega)
      · by_cases hif : i = f
        · rw [ez', hif, l2_u_self]
        · rw [ez', l2_u_nj (by omega)]; exact z2 i (by omega)
      · rw [ez', l2_u_nj (by omega)]; exact z3 j (by omega)
