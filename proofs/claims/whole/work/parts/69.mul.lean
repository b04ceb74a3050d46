/-! ===== products ===== -/
theorem sumN_swap (G : Int → Int → Int) (m n : Nat) : sumN (fun i => sumN (fun j => G i j) n) m = sumN (fun j => sumN (fun i => G i j) m) n := by
  induction m with
  | zero => exact (sumN_zero (fun j _ _ => rfl)).symm
  | succ m ih =>
    show sumN (fun i => sumN (fun j => G i j) n) m + sumN (fun j => G m j) n = sumN (fun j => sumN (fun i => G i j) m + G m j) n
    rw [ih, sumN_add]
theorem and_240 (k : Nat) : k &&& 240 = 16 * (k / 16 % 16) := by
  have h := and_spl k 240 4
  have e1 : (240 : Nat) / 2 ^ 4 = 2 ^ 4 - 1 := by decide
  have e2 : (240 : Nat) % 2 ^ 4 = 0 := by decide
  rw [e1, e2, Nat.and_two_pow_sub_one_eq_mod, Nat.and_zero] at h
  exact h
theorem and_3840 (k : Nat) : k &&& 3840 = 256 * (k / 256 % 16) := by
  have h := and_spl k 3840 8
  have e1 : (3840 : Nat) / 2 ^ 8 = 2 ^ 4 - 1 := by decide
  have e2 : (3840 : Nat) % 2 ^ 8 = 0 := by decide
  rw [e1, e2, Nat.and_two_pow_sub_one_eq_mod, Nat.and_zero] at h
  exact h
theorem iand_240 {m : Int} (h : 0 ≤ m) : iand m 240 = 16 * (m / 16 % 16) := by
  obtain ⟨n, rfl⟩ := Int.eq_ofNat_of_zero_le h
  unfold iand
  rw [Int.toNat_natCast]
  show (((n &&& 240 : Nat)) : Int) = _
  rw [and_240]
  omega
theorem iand_3840 {m : Int} (h : 0 ≤ m) : iand m 3840 = 256 * (m / 256 % 16) := by
  obtain ⟨n, rfl⟩ := Int.eq_ofNat_of_zero_le h
  unfold iand
  rw [Int.toNat_natCast]
  show (((n &&& 3840 : Nat)) : Int) = _
  rw [and_3840]
  omega
theorem plc {R x y z : Int} (x0 : 0 ≤ x) (x1 : x < 16) (y0 : 0 ≤ y) (y1 : y < 16) (z0 : 0 ≤ z) (z1 : z < 16) (R0 : 0 ≤ R) : ior (ior ((32768 * R + (x + 32 * y + 1024 * z)) % 16) (iand ((32768 * R + (x + 32 * y + 1024 * z)) / 2) 240)) (iand ((32768 * R + (x + 32 * y + 1024 * z)) / 4) 3840) = x + 16 * y + 256 * z ∧ iand ((32768 * R + (x + 32 * y + 1024 * z)) / 2) 240 = 16 * y ∧ iand ((32768 * R + (x + 32 * y + 1024 * z)) / 4) 3840 = 256 * z ∧ ior ((32768 * R + (x + 32 * y + 1024 * z)) % 16) (iand ((32768 * R + (x + 32 * y + 1024 * z)) / 2) 240) = x + 16 * y := by
  have e1 : (32768 * R + (x + 32 * y + 1024 * z)) % 16 = x := by omega
  have e2 : (32768 * R + (x + 32 * y + 1024 * z)) / 2 / 16 % 16 = y := by omega
  have e3 : (32768 * R + (x + 32 * y + 1024 * z)) / 4 / 256 % 16 = z := by omega
  have d2 : 0 ≤ (32768 * R + (x + 32 * y + 1024 * z)) / 2 := by omega
  have d3 : 0 ≤ (32768 * R + (x + 32 * y + 1024 * z)) / 4 := by omega
  rw [iand_240 d2, iand_3840 d3, e1, e2, e3]
  have g1 : ior x (16 * y) = x + 16 * y := by rw [Int.mul_comm 16 y, ior_16 y0 x0 x1]; omega
  have g2 : ior (x + 16 * y) (256 * z) = x + 16 * y + 256 * z := by rw [Int.mul_comm 256 z, ior_256 z0 (by omega) (by omega)]; omega
  rw [g1, g2]
  exact ⟨rfl, rfl, rfl, rfl⟩
def mulF (p : Int) (f g : Int → Int) (k : Int) : Int := sumN (fun l => g l * shf l f k) 4096 % p
def frM (o : Nat) (σ τ : l2_m) : Prop := ∀ b j, b ≠ 44 → b ≠ o → b ≠ o + 1 → b ≠ o + 2 → τ b j = σ b j
/-- what two terms give at a key -/
def prG (σ : l2_m) (a b : Nat) (k i j : Int) : Int := if kom (σ (a + 1) i) + kom (σ (b + 1) j) = k then σ (a + 2) i * σ (b + 2) j else 0
theorem prG_sum {σ : l2_m} {a b : Nat} {W f g : Int → Int} (fa : PR σ a W f) (fb : PR σ b W g) (hno : ∀ k l : Int, 0 ≤ k → k < 4096 → 0 ≤ l → l < 4096 → f k ≠ 0 → g l ≠ 0 → noO k l) {k : Int} (k0 : 0 ≤ k) (k1 : k < 4096) : sumN (fun i => sumN (fun j => prG σ a b k i j) (σ b 2).toNat) (σ a 2).toNat = sumN (fun l => g l * shf l f k) 4096 := by
  rw [sumN_swap]
  rw [← PR_sum fb (fun l c => c * shf l f k) (fun l => Int.zero_mul _)]
  refine sumN_congr (fun j j0 j1 => ?_)
  obtain ⟨l, l0, l1, l2, l3, l4⟩ := fb.2.2.1 j j0 (by have := fb.1; omega)
  have e1 : sumN (fun i => prG σ a b k i j) (σ a 2).toNat = sumN (fun x => if x + l = k then f x * g l else 0) 4096 := by
    rw [← PR_sum fa (fun x c => if x + l = k then c * g l else 0) (fun x => by split; rw [Int.zero_mul]; rfl)]
    refine sumN_congr (fun i i0 i1 => ?_)
    unfold prG
    rw [l2, kom_MW l0 l1, l3]
  rw [e1, l2, kom_MW l0 l1, l3]
  unfold shf
  by_cases hc : e4 l 0 ≤ e4 k 0 ∧ e4 l 1 ≤ e4 k 1 ∧ e4 l 2 ≤ e4 k 2
  · rw [if_pos hc]
    obtain ⟨s0, s1, -⟩ := sub_e k0 k1 l0 l1 hc
    rw [sumN_one (j := k - l) s0 (by omega) (fun i _ _ hi => if_neg (by omega)), if_pos (by omega), Int.mul_comm]
  · rw [if_neg hc, Int.mul_zero]
    refine sumN_zero (fun x x0 x1 => ?_)
    split
    · rename_i hx
      have : f x = 0 := Classical.byContradiction (fun hf => by
        have hn := hno x l x0 (by omega) l0 l1 hf l4
        obtain ⟨-, -, q0, q1, q2⟩ := add_e x0 (by omega) l0 l1 hn
        rw [hx] at q0 q1 q2
        have := e4_b x 0
        have := e4_b x 1
        have := e4_b x 2
        exact hc (by omega))
      rw [this, Int.zero_mul]
    · rfl
theorem c3 {B : va_E} {σ : l2_m} {K : Int → l2_m → Prop} {a b o : Nat} {W f g : Int → Int} {p : Int} (ha : isP a) (hb : isP b) (ho : isP o) (na : o ≠ a) (nb : o ≠ b) (ga : 44 < a) (gb : 44 < b) (go : 44 < o) (hW : okW W) (hp : σ 34 0 = p) (p2 : 2 ≤ p) (p97 : p ≤ 97) (hU : ∀ v : Int, 0 ≤ v → v < 3 → σ 37 v = UW W v) (fa : PR σ a W f) (fb : PR σ b W g) (ra : ∀ k : Int, 0 ≤ k → k < 4096 → 0 ≤ f k ∧ f k < p) (rb : ∀ k : Int, 0 ≤ k → k < 4096 → 0 ≤ g k ∧ g k < p) (h1 : ∀ τ : l2_m, frM o σ τ → (∀ k l : Int, 0 ≤ k → k < 4096 → 0 ≤ l → l < 4096 → f k ≠ 0 → g l ≠ 0 → noO k l) → PR τ o W (mulF p f g) → K 1 τ) (h0 : ∀ τ : l2_m, frM o σ τ → ((∃ k l : Int, 0 ≤ k ∧ k < 4096 ∧ 0 ≤ l ∧ l < 4096 ∧ f k ≠ 0 ∧ g l ≠ 0 ∧ ¬ noO k l) ∨ 60 < cnt (mulF p f g) 4096) → K 0 τ) : wC B 3 [vr 38, vr a, vr b, vr o] σ K := by
  have hna := fa.2.1
  have hna0 := fa.1
  have hnb := fb.2.1
  have hnb0 := fb.1
  obtain ⟨d1, d2, d3, d4⟩ := isP_ne ho ha
  obtain ⟨q1, q2, q3, q4⟩ := isP_ne ho hb
  refine o3 ha hb ho ?_
  unfold w3
  intro σ1 es σ2 es2
  have v2 : ∀ b' j, σ2 b' j = if b' = 44 ∧ 0 ≤ j ∧ j < 4096 then 0 else if b' = o ∧ j = 2 then 0 else σ b' j := fun b' j => by rw [es2, es]; rfl
  clear es es2
  have fr2 : frM o σ σ2 := fun b' j x y z w => by rw [v2, if_neg (fun q => x q.1), if_neg (fun q => y q.1)]
  have z2 : σ2 o 2 = 0 := by rw [v2, if_neg (by omega), if_pos ⟨rfl, rfl⟩]
  have s2 : ∀ k : Int, 0 ≤ k → k < 4096 → σ2 44 k = 0 := fun k x y => by rw [v2, if_pos ⟨rfl, x, y⟩]
  have rowa : ∀ τ : l2_m, frM o σ τ → (∀ j, τ a j = σ a j) ∧ (∀ j, τ (a + 1) j = σ (a + 1) j) ∧ (∀ j, τ (a + 2) j = σ (a + 2) j) := fun τ t => ⟨fun j => t a j (by omega) (by omega) (by omega) (by omega), fun j => t (a + 1) j (by omega) (by omega) (by omega) (by omega), fun j => t (a + 2) j (by omega) (by omega) (by omega) (by omega)⟩
  have rowb : ∀ τ : l2_m, frM o σ τ → (∀ j, τ b j = σ b j) ∧ (∀ j, τ (b + 1) j = σ (b + 1) j) ∧ (∀ j, τ (b + 2) j = σ (b + 2) j) := fun τ t => ⟨fun j => t b j (by omega) (by omega) (by omega) (by omega), fun j => t (b + 1) j (by omega) (by omega) (by omega) (by omega), fun j => t (b + 2) j (by omega) (by omega) (by omega) (by omega)⟩
  have coef : ∀ i j : Int, 0 ≤ i → i < σ a 2 → 0 ≤ j → j < σ b 2 → 0 ≤ σ (a + 2) i * σ (b + 2) j ∧ σ (a + 2) i * σ (b + 2) j ≤ 9409 := by
    intro i j i0 i1 j0 j1
    obtain ⟨k, k0, k1, k2, k3, k4⟩ := fa.2.2.1 i i0 i1
    obtain ⟨l, l0, l1, l2, l3, l4⟩ := fb.2.2.1 j j0 j1
    have := ra k k0 k1
    have := rb l l0 l1
    rw [k3, l3]
    have := mul_b (a := f k) (b := g l) (m := 97) (n := 97) (by omega) (by omega) (by omega) (by omega)
    omega
  have gB : ∀ k i j : Int, 0 ≤ i → i < σ a 2 → 0 ≤ j → j < σ b 2 → 0 ≤ prG σ a b k i j ∧ prG σ a b k i j ≤ 9409 := by
    intro k i j i0 i1 j0 j1
    unfold prG
    split
    · exact coef i j i0 i1 j0 j1
    · decide
  unfold w3_16
  refine lz2_inv (fun (i : Int) τ => 0 ≤ i ∧ i ≤ σ a 2 ∧ frM o σ τ ∧ τ o 2 = 0 ∧ (∀ x : Int, 0 ≤ x → x < i → ∀ y : Int, 0 ≤ y → y < σ b 2 → noO (kom (σ (a + 1) x)) (kom (σ (b + 1) y))) ∧ (∀ k : Int, 0 ≤ k → k < 4096 → τ 44 k = sumN (fun x => sumN (fun y => prG σ a b k x y) (σ b 2).toNat) i.toNat)) (fun i _ => σ a 2 - i) ?_ ⟨by omega, hna0, fr2, z2, fun x x0 x1 => by omega, fun k x y => by rw [s2 k x y]; rfl⟩
  rintro X i τ hX ⟨i1, i2, i3, i4, i5, i6⟩
  have ta := rowa τ i3
  rw [ta.1]
  refine ⟨⟨⟨by omega, by omega⟩, ⟨by omega, by omega⟩⟩, ?_⟩
  split
  · rename_i hi
    unfold w3_28
    refine lz2_inv (fun (j : Int) υ => 0 ≤ j ∧ j ≤ σ b 2 ∧ frM o σ υ ∧ υ o 2 = 0 ∧ (∀ y : Int, 0 ≤ y → y < j → noO (kom (σ (a + 1) i)) (kom (σ (b + 1) y))) ∧ (∀ k : Int, 0 ≤ k → k < 4096 → υ 44 k = sumN (fun x => sumN (fun y => prG σ a b k x y) (σ b 2).toNat) i.toNat + sumN (fun y => prG σ a b k i y) j.toNat)) (fun j _ => σ b 2 - j) ?_ ⟨by omega, hnb0, i3, i4, fun y y0 y1 => by omega, fun k x y => by rw [i6 k x y]; exact (Int.add_zero _).symm⟩
    rintro Y j υ hY ⟨j1, j2, j3, j4, j5, j6⟩
    have ua := rowa υ j3
    have ub := rowb υ j3
    rw [ub.1]
    refine ⟨⟨⟨by omega, by omega⟩, ⟨by omega, by omega⟩⟩, ?_⟩
    split
    · rename_i hj
      refine ⟨⟨i1, by omega, j1, by omega⟩, ?_⟩
      intro m hm
      rw [ua.2.1, ub.2.1] at hm
      obtain ⟨k, k0, k1, k2, k3, k4⟩ := fa.2.2.1 i i1 hi
      obtain ⟨l, l0, l1, l2, l3, l4⟩ := fb.2.2.1 j j1 hj
      rw [k2, l2] at hm
      have bk := MW_b hW k
      have bl := MW_b hW l
      have hov := MW_ov W k l (by omega)
      rw [← hm] at hov
      have m0 : 0 ≤ m := by omega
      have ri : rg (iand m 16912) := by
        rw [iand_ov _ m0]
        constructor <;> omega
      refine ⟨⟨m0, by omega, ri⟩, ?_⟩
      split
      · rename_i hz
        have hn := hov.mp hz
        obtain ⟨s0, s1, -⟩ := add_e k0 k1 l0 l1 hn
        have c0 := e4_b k 0
        have c1 := e4_b k 1
        have c2 := e4_b k 2
        have g0 := e4_b l 0
        have g1 := e4_b l 1
        have g2 := e4_b l 2
        have em : m = 32768 * (rk W k + rk W l) + ((e4 k 0 + e4 l 0) + 32 * (e4 k 1 + e4 l 1) + 1024 * (e4 k 2 + e4 l 2)) := by rw [hm]; unfold MW; omega
        have hR : 0 ≤ rk W k + rk W l := by have := rk_b hW k; have := rk_b hW l; omega
        obtain ⟨n0, n1, n2⟩ := hn
        obtain ⟨p1, p3, p4, p5⟩ := plc (R := rk W k + rk W l) (x := e4 k 0 + e4 l 0) (y := e4 k 1 + e4 l 1) (z := e4 k 2 + e4 l 2) (by omega) n0 (by omega) n1 (by omega) n2 hR
        rw [← em] at p1 p3 p4 p5
        have ek : e4 k 0 + e4 l 0 + 16 * (e4 k 1 + e4 l 1) + 256 * (e4 k 2 + e4 l 2) = k + l := by
          have := key_eq k0 k1
          have := key_eq l0 l1
          omega
        rw [ek] at p1
        rw [p1, p5, p3, p4]
        refine ⟨⟨⟨by omega, by omega⟩, by omega, by omega, by omega, by omega, by omega, by omega, by omega, by omega, by omega, by omega, by omega, by omega, s0, s1⟩, ?_⟩
        intro υ1 eu
        have w1 : ∀ b' x, υ1 b' x = if b' = 44 ∧ x = k + l then υ 44 (k + l) + σ (a + 2) i * σ (b + 2) j else υ b' x := fun b' x => by
          rw [eu, ua.2.2, ub.2.2]; rfl
        clear eu
        refine hY _ _ ⟨by omega, by omega, fun b' x y z w q => ?_, ?_, fun y y0 y1 => ?_, fun q q0 q1 => ?_⟩ (by omega)
        · rw [w1, if_neg (fun z => y z.1)]; exact j3 b' x y z w q
        · rw [w1, if_neg (by omega)]; exact j4
        · by_cases hy : y = j
          · rw [hy, k2, l2, kom_MW k0 k1, kom_MW l0 l1]; exact ⟨n0, n1, n2⟩
          · exact j5 y y0 (by omega)
        · rw [w1, sumN_step j1]
          have eG : prG σ a b q i j = if k + l = q then σ (a + 2) i * σ (b + 2) j else 0 := by unfold prG; rw [k2, l2, kom_MW k0 k1, kom_MW l0 l1]
          by_cases hq : q = k + l
          · rw [if_pos ⟨rfl, hq⟩, eG, if_pos hq.symm, ← hq, j6 q q0 q1]
            omega
          · rw [if_neg (fun z => hq z.2), eG, if_neg (fun z => hq z.symm), j6 q q0 q1]
            omega
      · rename_i hz
        exact h0 υ j3 (Or.inl ⟨k, l, k0, k1, l0, l1, k4, l4, fun z => hz (hov.mpr z)⟩)
    · rename_i hj
      have ej : j = σ b 2 := by omega
      refine hX _ _ ⟨by omega, by omega, j3, j4, fun x x0 x1 y y0 y1 => ?_, fun k k0 k1 => ?_⟩ (by omega)
      · by_cases hx : x = i
        · rw [hx]; exact j5 y y0 (by omega)
        · exact i5 x x0 (by omega) y y0 y1
      · rw [j6 k k0 k1, sumN_step i1, ej]
  · rename_i hi
    have ei : i = σ a 2 := by omega
    have hno : ∀ k l : Int, 0 ≤ k → k < 4096 → 0 ≤ l → l < 4096 → f k ≠ 0 → g l ≠ 0 → noO k l := by
      intro k l k0 k1 l0 l1 k2 l2
      obtain ⟨x, x0, x1, x2⟩ := fa.2.2.2.2 k k0 k1 k2
      obtain ⟨y, y0, y1, y2⟩ := fb.2.2.2.2 l l0 l1 l2
      have := i5 x x0 (by omega) y y0 y1
      rw [x2, y2, kom_MW k0 k1, kom_MW l0 l1] at this
      exact this
    have hS : ∀ k : Int, 0 ≤ k → k < 4096 → τ 44 k = sumN (fun l => g l * shf l f k) 4096 := fun k k0 k1 => by
      rw [i6 k k0 k1, ei]; exact prG_sum fa fb hno k0 k1
    have hSb : ∀ k : Int, 0 ≤ k → k < 4096 → 0 ≤ τ 44 k ∧ τ 44 k ≤ 100000000 := by
      intro k k0 k1
      rw [i6 k k0 k1, ei]
      refine ⟨sumN_nonneg (fun x x0 x1 => sumN_nonneg (fun y y0 y1 => (gB k x y x0 (by omega) y0 (by omega)).1)), ?_⟩
      have := sumN_bound (f := fun x => sumN (fun y => prG σ a b k x y) (σ b 2).toNat) (n := (σ a 2).toNat) (c := 600000) (fun x x0 x1 => by
        have := sumN_bound (f := fun y => prG σ a b k x y) (n := (σ b 2).toNat) (c := 9409) (fun y y0 y1 => (gB k x y x0 (by omega) y0 (by omega)).2)
        omega)
      omega
    obtain ⟨ap0, fl0⟩ := AP_0 (W := W) (H := mulF p f g) i4
    unfold w3_126
    refine lz2_inv (fun (x : Int) υ => 0 ≤ x ∧ x ≤ 4096 ∧ frQ o τ υ ∧ AP υ o W (mulF p f g) (fun k => k < x)) (fun x _ => 4096 - x) ?_ ⟨by omega, by omega, fun b' j _ _ _ => rfl, AP_skip ap0 (fun k z => z.elim) (fun k k0 _ _ z => by omega)⟩
    rintro Y x υ hY ⟨x0, x1, x2, x3⟩
    have up : υ 34 0 = p := by rw [x2 34 0 (by omega) (by omega) (by omega), ← hp]; exact i3 34 0 (by omega) (by omega) (by omega) (by omega)
    have uU : ∀ v : Int, 0 ≤ v → v < 3 → υ (36 + 1) v = UW W v := fun v v0 v1 => by rw [x2 37 v (by omega) (by omega) (by omega), ← hU v v0 v1]; exact i3 37 v (by omega) (by omega) (by omega) (by omega)
    have uS : υ 44 x = τ 44 x := x2 44 x (by omega) (by omega) (by omega)
    have frf : frM o σ υ := fun b' j y z w q => by rw [x2 b' j z w q]; exact i3 b' j y z w q
    refine ⟨⟨by omega, by omega⟩, ?_⟩
    split
    · rename_i hx
      have hb' := hSb x x0 hx
      rw [up, uS, uU 0 (by decide) (by decide), uU 1 (by decide) (by decide), uU 2 (by decide) (by decide)]
      refine ⟨⟨x0, hx, p2, p97, ⟨by omega, by omega⟩⟩, ?_⟩
      intro c hc
      have ec : mulF p f g x = c := by unfold mulF; rw [hc, hS x x0 hx]
      split
      · rename_i hz
        refine hY _ _ ⟨by omega, by omega, x2, AP_skip x3 (fun k z => by omega) (fun k k0 k1 k2 z => ?_)⟩ (by omega)
        apply Classical.byContradiction
        intro hk
        have : k = x := by omega
        rw [this, ec] at k2
        exact k2 hz
      · rename_i hz
        intro m hm
        have em : m = MW W x := by
          rw [hm, ← MW_U, e4_0, e4_1, e4_2]
          have : x / 256 % 16 = x / 256 := by omega
          rw [this]
        refine ⟨⟨x3.1, ⟨by have := x3.1; omega, by have := x3.2.1; omega⟩⟩, ?_⟩
        intro υ1 eu
        split
        · rename_i hr
          obtain ⟨t2, -, -, tf⟩ := app_row hr eu
          exact hY _ _ ⟨by omega, by omega, frQ_tr x2 tf, AP_app x3 x0 hx (Int.lt_irrefl x) em ec.symm (by rw [ec]; exact hz) hr (fun k z => by omega) (by omega) (fun k k0 k1 k2 z => by omega) eu⟩ (by omega)
        · rename_i hr
          have eu1 : υ1 = υ := by rw [eu]; unfold app; rw [if_neg hr]
          rw [eu1]
          exact h0 υ frf (Or.inr (AP_full x3 x0 hx (Int.lt_irrefl x) (by rw [ec]; exact hz) hr))
    · rename_i hx
      refine c90 ho hW (AP_UR x3 (fun k k0 k1 _ => by omega)) (fun ρ r1 r2 => h1 ρ (fun b' j y z w q => ?_) hno r2)
      rw [r1 b' j w q]; exact frf b' j y z w q
