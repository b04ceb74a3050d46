section S0
variable {B : va_E} {σ : l2_m} {K : Int → l2_m → Prop}
theorem md2 (m : Int) : m % 1024 = m % 32 + 32 * (m / 32 % 32) := by omega
theorem md3 (m : Int) : m % 32768 = m % 32 + 32 * (m / 32 % 1024) := by omega
theorem md4 (m : Int) : m / 32 / 32 = m / 1024 := by omega
theorem spl3 (m : Int) : m % 32768 = m % 32 + 32 * (m / 32 % 32) + 1024 * (m / 1024 % 32) := by rw [md3, md2, md4]; omega
theorem dg0 {u v w : Int} (h0 : 0 ≤ u) (h1 : u < 32) : (u + 32 * v + 1024 * w) % 32 = u := by omega
theorem dg1 {u v w : Int} (h0 : 0 ≤ u) (h1 : u < 32) (h2 : 0 ≤ v) (h3 : v < 32) : (u + 32 * v + 1024 * w) / 32 % 32 = v := by omega
theorem dg2 {u v w : Int} (h0 : 0 ≤ u) (h1 : u < 32) (h2 : 0 ≤ v) (h3 : v < 32) (h4 : 0 ≤ w) (h5 : w < 32) : (u + 32 * v + 1024 * w) / 1024 % 32 = w := by omega
def ok5 (m : Int) : Prop := 0 ≤ m ∧ m < 2147483648 ∧ e5 m 0 < 16 ∧ e5 m 1 < 16 ∧ e5 m 2 < 16
theorem ior_ov {a : Int} (h0 : 0 ≤ a) (h1 : a < 32768) (h2 : a % 32 < 16) (h3 : a / 32 % 32 < 16) (h4 : a / 1024 < 16) : ior a 16912 = a + 16912 := by
  obtain ⟨n, rfl⟩ := Int.eq_ofNat_of_zero_le h0
  have g1 : n ||| 16912 = 32 * ((n / 32) ||| 528) + ((n % 32) ||| 16) := or_spl n 16912 5
  have g2 : (n / 32) ||| 528 = 32 * ((n / 32 / 32) ||| 16) + ((n / 32 % 32) ||| 16) := or_spl (n / 32) 528 5
  rw [or_16 _ (by omega)] at g1
  rw [or_16 _ (by omega), or_16 _ (by omega)] at g2
  unfold ior
  rw [Int.toNat_natCast]
  show (((n ||| 16912 : Nat)) : Int) = _
  rw [g1, g2]
  omega
theorem s80 {b m : Int} (h1 : ok5 b) (h2 : ok5 m) (h : K (b2i (e5 b 0 ≤ e5 m 0 ∧ e5 b 1 ≤ e5 m 1 ∧ e5 b 2 ≤ e5 m 2)) σ) : wC B 80 [vi b, vi m] σ K := by
  refine o80 ?_
  unfold w80
  obtain ⟨a1, a2, a3, a4, a5⟩ := h1
  obtain ⟨c1, c2, c3, c4, c5⟩ := h2
  rw [e5_0] at a3 c3
  rw [e5_1] at a4 c4
  rw [e5_2] at a5 c5
  rw [e5_0, e5_1, e5_2, e5_0, e5_1, e5_2] at h
  clear a1 a2 c1 c2
  have hm := spl3 m
  have hb := spl3 b
  have p0 := Int.emod_nonneg m (b := 32) (by decide)
  have p1 := Int.emod_nonneg (m / 32) (b := 32) (by decide)
  have p2 := Int.emod_nonneg (m / 1024) (b := 32) (by decide)
  have q0 := Int.emod_nonneg b (b := 32) (by decide)
  have q1 := Int.emod_nonneg (b / 32) (b := 32) (by decide)
  have q2 := Int.emod_nonneg (b / 1024) (b := 32) (by decide)
  generalize m % 32 = mx at *
  generalize m / 32 % 32 = my at *
  generalize m / 1024 % 32 = mz at *
  generalize b % 32 = bx at *
  generalize b / 32 % 32 = by_ at *
  generalize b / 1024 % 32 = bz at *
  generalize m % 32768 = mm at *
  generalize b % 32768 = bb at *
  subst hm hb
  refine ⟨⟨by omega, by omega⟩, ?_⟩
  rintro x2 rfl
  rw [ior_ov (by omega) (by omega) (by rw [dg0 p0 (by omega)]; exact c3) (by rw [dg1 p0 (by omega) p1 (by omega)]; exact c4) (by omega)]
  have e : mx + 32 * my + 1024 * mz + 16912 - (bx + 32 * by_ + 1024 * bz) = (mx + 16 - bx) + 32 * (my + 16 - by_) + 1024 * (mz + 16 - bz) := by omega
  rw [e, iand_ov _ (by omega), dg0 (by omega) (by omega), dg1 (by omega) (by omega) (by omega) (by omega), dg2 (by omega) (by omega) (by omega) (by omega) (by omega) (by omega)]
  refine ⟨⟨by omega, by omega, by constructor <;> omega⟩, b2i_p ?_ h⟩
  omega
end S0
