/-! ===== Commons: grids; a multiple is taken away ===== -/
/-- 16 rows of 32 cells hold a polynomial -/
def gpw {L R A : Type} [Lean.Grind.Field L] (c1 : R → Nat → L) (c2 : A → Nat → R) (em : Int → L) (p : Int) (u : Int → Int) (a : A) : Prop := (∀ i j : Nat, i < 16 → j < 32 → 0 ≤ u ((i : Int) * 32 + j) ∧ u ((i : Int) * 32 + j) < p ∧ c1 (c2 a i) j = em (u ((i : Int) * 32 + j))) ∧ ∀ i j : Nat, (16 ≤ i ∨ 32 ≤ j) → c1 (c2 a i) j = 0
theorem gpw_c {L R A : Type} [Lean.Grind.Field L] {c1 : R → Nat → L} {c2 : A → Nat → R} {em : Int → L} {p : Int} {u : Int → Int} {a : A} (h : gpw c1 c2 em p u a) {n : Int} (n0 : 0 ≤ n) (n1 : n < 512) : 0 ≤ u n ∧ u n < p ∧ c1 (c2 a (n / 32).toNat) (n % 32).toNat = em (u n) := by
  have h1 := h.1 (n / 32).toNat (n % 32).toNat (by omega) (by omega)
  rw [show (((n / 32).toNat : Nat) : Int) * 32 + ((n % 32).toNat : Nat) = n by omega] at h1
  exact h1
theorem gpw_r {L R A : Type} [Lean.Grind.Field L] {c1 : R → Nat → L} {c2 : A → Nat → R} {em : Int → L} {p : Int} {u : Int → Int} {a : A} (h : gpw c1 c2 em p u a) (i : Nat) (hi : i < 16) : rpw c1 em p (fun j => u ((i : Int) * 32 + j)) 32 (c2 a i) := ⟨fun j hj => h.1 i j hi hj, fun j hj => h.2 i j (Or.inr hj)⟩
theorem gpw_d {L R A : Type} [Lean.Grind.Field L] [Lean.Grind.CommRing R] {c1 : R → Nat → L} {k1 : L → R} {Y : R} (H1 : IsPol c1 k1 Y) {c2 : A → Nat → R} {em : Int → L} {p : Int} {u : Int → Int} {a : A} (h : gpw c1 c2 em p u a) : dlt c2 a 16 := fun i hi => po_ext H1 (fun j => by rw [po_0 H1]; exact h.2 i j (Or.inl hi))
theorem gpw_cg {L R A : Type} [Lean.Grind.Field L] {c1 : R → Nat → L} {c2 : A → Nat → R} {em : Int → L} {p : Int} {u v : Int → Int} {a : A} (h : gpw c1 c2 em p u a) (e : ∀ n : Int, 0 ≤ n → n < 512 → v n = u n) : gpw c1 c2 em p v a := ⟨fun i j hi hj => by rw [e _ (by omega) (by omega)]; exact h.1 i j hi hj, h.2⟩
theorem gpw_0 {L R A : Type} [Lean.Grind.Field L] [Lean.Grind.CommRing R] [Lean.Grind.CommRing A] {c1 : R → Nat → L} {k1 : L → R} {Y : R} (H1 : IsPol c1 k1 Y) {c2 : A → Nat → R} {k2 : R → A} {X : A} (H2 : IsPol c2 k2 X) {p : Int} {em : Int → L} (E : isEm p em) {u : Int → Int} (h : ∀ n : Int, 0 ≤ n → n < 512 → u n = 0) : gpw c1 c2 em p u 0 := by
  have p2 := E.1
  refine ⟨fun i j hi hj => ?_, fun i j _ => by rw [po_0 H2, po_0 H1]⟩
  rw [h _ (by omega) (by omega)]
  exact ⟨by decide, by omega, by rw [po_0 H2, po_0 H1, em_z E]⟩
theorem gpw_u {L R A : Type} [Lean.Grind.Field L] [Lean.Grind.CommRing R] [Lean.Grind.CommRing A] {c1 : R → Nat → L} {k1 : L → R} {Y : R} (H1 : IsPol c1 k1 Y) {c2 : A → Nat → R} {k2 : R → A} {X : A} (H2 : IsPol c2 k2 X) {p : Int} {em : Int → L} {u : Int → Int} {a b : A} (h : gpw c1 c2 em p u a) (h' : gpw c1 c2 em p u b) : a = b := po_ext H2 (fun i => po_ext H1 (fun j => by
  by_cases hi : i < 16
  · by_cases hj : j < 32
    · rw [(h.1 i j hi hj).2.2, (h'.1 i j hi hj).2.2]
    · rw [h.2 i j (by omega), h'.2 i j (by omega)]
  · rw [h.2 i j (by omega), h'.2 i j (by omega)]))
/-- coefficients of a shifted polynomial -/
theorem mo_sh {L R A : Type} [Lean.Grind.Field L] [Lean.Grind.CommRing R] [Lean.Grind.CommRing A] {c1 : R → Nat → L} {k1 : L → R} {Y : R} (H1 : IsPol c1 k1 Y) {c2 : A → Nat → R} {k2 : R → A} {X : A} (H2 : IsPol c2 k2 X) (s : L) (i0 j0 : Nat) (d : A) (i j : Nat) : c1 (c2 (k2 (k1 s) * (k2 (Y ^ j0) * (X ^ i0 * d))) i) j = if i0 ≤ i ∧ j0 ≤ j then s * c1 (c2 d (i - i0)) (j - j0) else 0 := by
  rw [po_km H2, po_km H2, po_km H1]
  by_cases hi : i0 ≤ i
  · obtain ⟨i', rfl⟩ : ∃ i', i = i' + i0 := ⟨i - i0, by omega⟩
    rw [po_x H2, show i' + i0 - i0 = i' by omega]
    by_cases hj : j0 ≤ j
    · obtain ⟨j', rfl⟩ : ∃ j', j = j' + j0 := ⟨j - j0, by omega⟩
      rw [po_x H1, show j' + j0 - j0 = j' by omega, if_pos ⟨hi, hj⟩]
    · rw [if_neg (fun w => hj w.2), po_xl H1 _ _ _ (by omega)]; grind
  · rw [if_neg (fun w => hi w.1), po_xl H2 _ _ _ (by omega)]
    have e : Y ^ j0 * (0 : R) = 0 := by grind
    rw [e, po_0 H1]; grind
theorem gpw_st {L R A : Type} [Lean.Grind.Field L] [Lean.Grind.CommRing R] [Lean.Grind.CommRing A] {c1 : R → Nat → L} {k1 : L → R} {Y : R} (H1 : IsPol c1 k1 Y) {c2 : A → Nat → R} {k2 : R → A} {X : A} (H2 : IsPol c2 k2 X) {p : Int} {em : Int → L} (E : isEm p em) {u v w : Int → Int} {r d : A} {i0 j0 : Nat} {m : Int} (hr : gpw c1 c2 em p u r) (hd : gpw c1 c2 em p v d) (ho : ∀ i j : Nat, c1 (c2 d i) j ≠ 0 → i + i0 < 16 ∧ j + j0 < 32) (h1 : ∀ i j : Nat, i0 ≤ i → j0 ≤ j → i < 16 → j < 32 → w ((i : Int) * 32 + j) = (u ((i : Int) * 32 + j) + m * v (((i - i0 : Nat) : Int) * 32 + ((j - j0 : Nat) : Int))) % p) (h2 : ∀ i j : Nat, i < 16 → j < 32 → ¬ (i0 ≤ i ∧ j0 ≤ j) → w ((i : Int) * 32 + j) = u ((i : Int) * 32 + j)) : gpw c1 c2 em p w (r + k2 (k1 (em m)) * (k2 (Y ^ j0) * (X ^ i0 * d))) := by
  have p2 := E.1
  refine ⟨fun i j hi hj => ?_, fun i j hij => ?_⟩
  · rw [po_a H2, po_a H1, mo_sh H1 H2]
    have a0 := hr.1 i j hi hj
    by_cases hc : i0 ≤ i ∧ j0 ≤ j
    · rw [if_pos hc, h1 i j hc.1 hc.2 hi hj, a0.2.2, (hd.1 (i - i0) (j - j0) (by omega) (by omega)).2.2]
      exact ⟨Int.emod_nonneg _ (by omega), Int.emod_lt_of_pos _ (by omega), by rw [em_md E, E.2.2.1, E.2.2.2.1]⟩
    · rw [if_neg hc, h2 i j hi hj hc, a0.2.2]
      exact ⟨a0.1, a0.2.1, by grind⟩
  · rw [po_a H2, po_a H1, mo_sh H1 H2, hr.2 i j hij]
    by_cases hc : i0 ≤ i ∧ j0 ≤ j
    · rw [if_pos hc]
      by_cases hz : c1 (c2 d (i - i0)) (j - j0) = 0
      · rw [hz]; grind
      · have := ho _ _ hz
        omega
    · rw [if_neg hc]; grind
theorem c31 {L R A : Type} [Lean.Grind.Field L] [Lean.Grind.CommRing R] [Lean.Grind.CommRing A] {c1 : R → Nat → L} {k1 : L → R} {Y : R} (H1 : IsPol c1 k1 Y) {c2 : A → Nat → R} {k2 : R → A} {X : A} (H2 : IsPol c2 k2 X) {p : Int} {em : Int → L} (E : isEm p em) {B : va_E} {σ : l2_m} {K : Int → l2_m → Prop} {o1 : Nat} {x2 v : Int} {i0 j0 : Nat} {r d : A} (ho1 : l2_al o1 = some 512) (hg : o1 ≠ 117) (hp : σ 34 0 = p) (hr : gpw c1 c2 em p (σ 117) r) (hd : gpw c1 c2 em p (σ o1) d) (a0 : 0 ≤ x2) (a1 : x2 < 512) (hz : ∀ j : Int, x2 < j → j < 512 → σ o1 j = 0) (hi0 : i0 < 16) (hj0 : j0 < 32) (v0 : 0 ≤ v) (v1 : v < p) (hK1 : ∀ τ : l2_m, (∀ q j, q ≠ 117 → τ q j = σ q j) → gpw c1 c2 em p (τ 117) (r + k2 (k1 (em (p - v))) * (k2 (Y ^ j0) * (X ^ i0 * d))) → K 1 τ) (hK0 : ∀ τ : l2_m, (∀ q j, q ≠ 117 → τ q j = σ q j) → (∃ i j : Nat, c1 (c2 d i) j ≠ 0 ∧ ¬ (i + i0 < 16 ∧ j + j0 < 32)) → K 0 τ) : wC B 31 [vr 109, vr o1, vi x2, vi ((i0 : Int) * 32 + j0), vi v] σ K := by
  have p2 := E.1
  have p97 := E.2.1
  refine o31 ho1 ?_
  unfold w31
  intro x5 ex5
  rw [ex5, hp]
  refine ⟨⟨by omega, by omega⟩, ?_⟩
  rw [if_neg (by omega)]
  obtain ⟨x3, e3⟩ : ∃ x3 : Int, x3 = (i0 : Int) * 32 + j0 := ⟨_, rfl⟩
  rw [← e3]
  unfold w31_20
  refine lz2_inv (fun (y : Int) z => 0 ≤ y ∧ y ≤ x2 + 1 ∧ (∀ q j, q ≠ 117 → z q j = σ q j) ∧ (∀ m : Int, 0 ≤ m → m < y → σ o1 m ≠ 0 → m % 32 + x3 % 32 < 32 ∧ m + x3 < 512) ∧ (∀ m : Int, 0 ≤ m → m < y → m + x3 < 512 → z 117 (m + x3) = (σ 117 (m + x3) + (p - v) * σ o1 m) % p) ∧ (∀ n : Int, (n < x3 ∨ x3 + y ≤ n) → z 117 n = σ 117 n)) (fun y _ => x2 + 1 - y) ?_ ⟨by decide, by omega, fun _ _ _ => rfl, fun m _ _ => by omega, fun m _ _ => by omega, fun _ _ => rfl⟩
  intro Z y z hZ ⟨y0, y1, z0, z1, z2, z3⟩
  refine ⟨⟨⟨by omega, by omega⟩, ⟨by omega, by omega⟩⟩, ?_⟩
  by_cases hy : x2 < y
  · rw [if_pos hy, if_neg (by omega)]
    have all : ∀ m : Int, 0 ≤ m → m < 512 → σ o1 m ≠ 0 → m % 32 + x3 % 32 < 32 ∧ m + x3 < 512 := fun m m0 m1 hm => by
      rcases Int.lt_or_le m y with w | w
      · exact z1 m m0 w hm
      · exact absurd (hz m (by omega) m1) hm
    have allv : ∀ n : Int, x3 ≤ n → n < 512 → z 117 n = (σ 117 n + (p - v) * σ o1 (n - x3)) % p := fun n n0 n1 => by
      rcases Int.lt_or_le (n - x3) y with w | w
      · have := z2 (n - x3) (by omega) w (by omega)
        rw [show n - x3 + x3 = n by omega] at this
        exact this
      · have b0 := gpw_c hr (n := n) (by omega) n1
        rw [z3 n (by omega), hz (n - x3) (by omega) (by omega), Int.mul_zero, Int.add_zero, Int.emod_eq_of_lt b0.1 b0.2.1]
    refine hK1 z z0 (gpw_st H1 H2 E hr hd (fun i j hij => ?_) (fun i j hi hj hi' hj' => ?_) (fun i j hi hj hc => ?_))
    · by_cases hb : i < 16 ∧ j < 32
      · have b0 := hd.1 i j hb.1 hb.2
        have := all ((i : Int) * 32 + j) (by omega) (by omega) (fun w => hij (by rw [b0.2.2, w, em_z E]))
        omega
      · exact absurd (hd.2 i j (by omega)) hij
    · rw [allv _ (by omega) (by omega), show (i : Int) * 32 + j - x3 = ((i - i0 : Nat) : Int) * 32 + ((j - j0 : Nat) : Int) by omega]
    · rcases Int.lt_or_le ((i : Int) * 32 + j) x3 with w | w
      · exact z3 _ (Or.inl w)
      · have b0 := hr.1 i j hi hj
        have hz0 : σ o1 ((i : Int) * 32 + j - x3) = 0 := by
          by_cases h : σ o1 ((i : Int) * 32 + j - x3) = 0
          · exact h
          · have := all _ (by omega) (by omega) h
            omega
        rw [allv _ w (by omega), hz0, Int.mul_zero, Int.add_zero, Int.emod_eq_of_lt b0.1 b0.2.1]
  · rw [if_neg hy]
    have d0 := gpw_c hd y0 (show y < 512 by omega)
    rw [z0 o1 y hg]
    refine ⟨⟨by omega, by omega, ⟨by omega, by omega⟩⟩, ?_⟩
    by_cases hc : σ o1 y = 0
    · rw [if_pos hc]
      refine hZ _ z ⟨by omega, by omega, z0, fun m m0 m1 hm => ?_, fun m m0 m1 m2 => ?_, fun n hn => z3 n (by omega)⟩ (by omega)
      · by_cases hmy : m = y
        · exact absurd (by rw [hmy]; exact hc) hm
        · exact z1 m m0 (by omega) hm
      · by_cases hmy : m = y
        · have b0 := gpw_c hr (n := y + x3) (by omega) (by omega)
          rw [hmy, hc, Int.mul_zero, Int.add_zero, Int.emod_eq_of_lt b0.1 b0.2.1]
          exact z3 _ (by omega)
        · exact z2 m m0 (by omega) m2
    · rw [if_neg hc]
      refine ⟨⟨⟨by omega, by omega⟩, by omega, ⟨by omega, by omega⟩⟩, fun _ => ⟨by omega, by omega⟩, ?_⟩
      by_cases hb : y % 32 + x3 % 32 < 32 ∧ y + x3 < 512
      · rw [if_pos hb]
        refine ⟨⟨by omega, hb.2⟩, ?_⟩
        intro x7 ex7
        have b0 := gpw_c hr (n := y + x3) (by omega) hb.2
        rw [z3 (y + x3) (by omega)] at ex7
        have g3 : 0 ≤ (p - v) * σ o1 y := Int.mul_nonneg (by omega) d0.1
        have g4 : (p - v) * σ o1 y ≤ 97 * 97 := Int.mul_le_mul (by omega) (by omega) d0.1 (by omega)
        refine ⟨⟨⟨by omega, by omega⟩, ⟨by omega, by omega⟩, by omega, by omega⟩, ?_⟩
        intro z' ez'
        refine hZ _ z' ⟨by omega, by omega, fun q j w => by rw [ez', l2_u_ne w]; exact z0 q j w, fun m m0 m1 hm => ?_, fun m m0 m1 m2 => ?_, fun n hn => ?_⟩ (by omega)
        · by_cases hmy : m = y
          · rw [hmy]; exact hb
          · exact z1 m m0 (by omega) hm
        · by_cases hmy : m = y
          · rw [ez', hmy, l2_u_self, ex7]
          · have hj : m + x3 ≠ y + x3 := by omega
            rw [ez', l2_u_nj hj]; exact z2 m m0 (by omega) m2
        · have hj : n ≠ y + x3 := by omega
          rw [ez', l2_u_nj hj]; exact z3 n (by omega)
      · rw [if_neg hb]
        refine hK0 z z0 ⟨(y / 32).toNat, (y % 32).toNat, ?_, by omega⟩
        rw [d0.2.2]
        exact (em_nz E d0.1 d0.2.1).mpr hc
