/-! ===== rows of numbers as polynomials ===== -/
/-- ints as elements of a field of numbers by p -/
def isEm {K : Type} [Lean.Grind.Field K] (p : Int) (em : Int → K) : Prop := 2 ≤ p ∧ p ≤ 97 ∧ (∀ a b, em (a + b) = em a + em b) ∧ (∀ a b, em (a * b) = em a * em b) ∧ em 1 = 1 ∧ (∀ a, em a = 0 ↔ a % p = 0) ∧ ∀ x : K, ∃ n : Int, 0 ≤ n ∧ n < p ∧ em n = x
section EMS
theorem em_z {K : Type} [Lean.Grind.Field K] {p : Int} {em : Int → K} (E : isEm p em) : em 0 = 0 := (E.2.2.2.2.2.1 0).mpr (Int.zero_emod p)
theorem em_md {K : Type} [Lean.Grind.Field K] {p : Int} {em : Int → K} (E : isEm p em) (a : Int) : em (a % p) = em a := by
  have h := Int.emod_add_mul_ediv a p
  have e1 := E.2.2.1 (a % p) (p * (a / p))
  rw [h, E.2.2.2.1, (E.2.2.2.2.2.1 p).mpr (Int.emod_self)] at e1
  grind
theorem em_ng {K : Type} [Lean.Grind.Field K] {p : Int} {em : Int → K} (E : isEm p em) (a : Int) : em (-a) = - em a := by
  have h := E.2.2.1 a (-a)
  rw [show a + -a = 0 by omega, em_z E] at h
  grind
theorem em_sb {K : Type} [Lean.Grind.Field K] {p : Int} {em : Int → K} (E : isEm p em) (a b : Int) : em (a - b) = em a - em b := by
  have h := E.2.2.1 a (-b)
  rw [em_ng E, show a + -b = a - b by omega] at h
  grind
theorem em_p {K : Type} [Lean.Grind.Field K] {p : Int} {em : Int → K} (E : isEm p em) : em p = 0 := (E.2.2.2.2.2.1 p).mpr Int.emod_self
theorem em_ij {K : Type} [Lean.Grind.Field K] {p : Int} {em : Int → K} (E : isEm p em) {a b : Int} (a0 : 0 ≤ a) (a1 : a < p) (b0 : 0 ≤ b) (b1 : b < p) (h : em a = em b) : a = b := by
  have h1 : em (a - b) = 0 := by rw [em_sb E, h]; grind
  have h2 := (E.2.2.2.2.2.1 (a - b)).mp h1
  have : (a - b) % p = 0 := h2
  rcases Int.lt_or_le a b with w | w
  · have h4 : (a - b + p) % p = 0 := by rw [Int.add_emod_right]; exact this
    rw [Int.emod_eq_of_lt (by omega) (by omega)] at h4
    omega
  · rw [Int.emod_eq_of_lt (by omega) (by omega)] at this
    omega
theorem em_nz {K : Type} [Lean.Grind.Field K] {p : Int} {em : Int → K} (E : isEm p em) {a : Int} (a0 : 0 ≤ a) (a1 : a < p) : em a ≠ 0 ↔ a ≠ 0 := by
  have h := E.2.2.2.2.2.1 a
  rw [Int.emod_eq_of_lt a0 a1] at h
  exact not_congr h
end EMS
/-- n cells hold a polynomial -/
def rpw {K R : Type} [Lean.Grind.Field K] (c : R → Nat → K) (em : Int → K) (p : Int) (u : Int → Int) (n : Nat) (r : R) : Prop := (∀ i : Nat, i < n → 0 ≤ u i ∧ u i < p ∧ c r i = em (u i)) ∧ dlt c r n
theorem rpw_ex {K R : Type} [Lean.Grind.Field K] [Lean.Grind.CommRing R] {c : R → Nat → K} {k : K → R} {Y : R} (H : IsPol c k Y) {p : Int} {em : Int → K} (E : isEm p em) {u : Int → Int} {n : Nat} (h : ∀ i : Nat, i < n → 0 ≤ u i ∧ u i < p) : ∃ r : R, rpw c em p u n r := by
  obtain ⟨r, h1, h2⟩ := po_mk H (fun i => em (u i)) n
  exact ⟨r, fun i hi => ⟨(h i hi).1, (h i hi).2, h1 i hi⟩, h2⟩
theorem rpw_u {K R : Type} [Lean.Grind.Field K] [Lean.Grind.CommRing R] {c : R → Nat → K} {k : K → R} {Y : R} (H : IsPol c k Y) {p : Int} {em : Int → K} (E : isEm p em) {u v : Int → Int} {n : Nat} {r s : R} (h : rpw c em p u n r) (h' : rpw c em p v n s) (e : ∀ i : Nat, i < n → u i = v i) : r = s := po_ext H (fun i => by
  by_cases hi : i < n
  · rw [(h.1 i hi).2.2, (h'.1 i hi).2.2, e i hi]
  · rw [h.2 i (by omega), h'.2 i (by omega)])
theorem rpw_cg {K R : Type} [Lean.Grind.Field K] {c : R → Nat → K} {em : Int → K} {p : Int} {u v : Int → Int} {n : Nat} {r : R} (h : rpw c em p u n r) (e : ∀ i : Nat, i < n → v i = u i) : rpw c em p v n r := ⟨fun i hi => by rw [e i hi]; exact h.1 i hi, h.2⟩
theorem rpw_top {K R : Type} [Lean.Grind.Field K] [Lean.Grind.CommRing R] {c : R → Nat → K} {k : K → R} {Y : R} (H : IsPol c k Y) {p : Int} {em : Int → K} (E : isEm p em) {u : Int → Int} {n : Nat} {r : R} (h : rpw c em p u n r) : -1 ≤ top u n ∧ top u n < n ∧ (top u n < 0 → r = 0) ∧ (0 ≤ top u n → isDg c r (top u n).toNat) := by
  have hs := topN_spec u n
  have e : top u n = topN u n := by unfold top; rw [Int.toNat_natCast]
  rw [e]
  refine ⟨hs.1, hs.2.1, fun w => ?_, fun w => ⟨?_, fun i hi => ?_⟩⟩
  · refine dlt_z H (fun i _ => ?_)
    by_cases hi : i < n
    · rw [(h.1 i hi).2.2, hs.2.2.1 (i : Int) (by omega) (by omega), em_z E]
    · exact h.2 i (by omega)
  · have hlt : (topN u n).toNat < n := by omega
    rw [(h.1 _ hlt).2.2]
    refine (em_nz E (h.1 _ hlt).1 (h.1 _ hlt).2.1).mpr ?_
    rw [show (((topN u n).toNat : Nat) : Int) = topN u n by omega]
    exact hs.2.2.2 w
  · by_cases hin : i < n
    · rw [(h.1 i hin).2.2, hs.2.2.1 (i : Int) (by omega) (by omega), em_z E]
    · exact h.2 i (by omega)
/-- a multiple of another row is put to a row -/
theorem rpw_st {K R : Type} [Lean.Grind.Field K] [Lean.Grind.CommRing R] {c : R → Nat → K} {k : K → R} {Y : R} (H : IsPol c k Y) {p : Int} {em : Int → K} (E : isEm p em) {u v w : Int → Int} {n t s : Nat} {m : Int} {r o : R} (hr : rpw c em p u n r) (ho : rpw c em p v n o) (hd : dlt c o (t + 1)) (hst : s + t < n) (h1 : ∀ i : Nat, i ≤ t → w ((s + i : Nat) : Int) = (u ((s + i : Nat) : Int) + m * v i) % p) (h2 : ∀ j : Nat, j < n → (j < s ∨ s + t < j) → w j = u j) : rpw c em p w n (r + k (em m) * (Y ^ s * o)) := by
  have p2 := E.1
  refine ⟨fun j hj => ?_, dlt_add H hr.2 (dlt_k H (em m) (dlt_mono (dlt_x H s hd) (by omega)))⟩
  rw [po_a H, po_km H]
  by_cases hjs : j < s ∨ s + t < j
  · rw [h2 j hj hjs]
    refine ⟨(hr.1 j hj).1, (hr.1 j hj).2.1, ?_⟩
    have : c (Y ^ s * o) j = 0 := by
      rcases hjs with w | w
      · exact po_xl H o s j w
      · exact dlt_x H s hd j (by omega)
    rw [this, (hr.1 j hj).2.2]; grind
  · obtain ⟨i, rfl⟩ : ∃ i, j = s + i := ⟨j - s, by omega⟩
    rw [h1 i (by omega)]
    refine ⟨Int.emod_nonneg _ (by omega), Int.emod_lt_of_pos _ (by omega), ?_⟩
    rw [em_md E, E.2.2.1, E.2.2.2.1, (hr.1 _ hj).2.2, show s + i = i + s by omega, po_x H, (ho.1 i (by omega)).2.2]
