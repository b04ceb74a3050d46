/-! ===== term ===== -/
/-- c rows are passed at place x of `along` -/
def tIv (mk al W : Int → Int) (n c x : Int) : Prop := ∀ i j : Int, 0 ≤ i → i < n → 0 ≤ j → j < 4096 → mk i = MW W (al j) → (i < c ↔ j < x)
theorem al_lt {al W : Int → Int} (h2 : ∀ i j : Int, 0 ≤ i → i < j → j < 4096 → MW W (al j) < MW W (al i)) {i j : Int} (i0 : 0 ≤ i) (i1 : i < 4096) (j0 : 0 ≤ j) (j1 : j < 4096) : MW W (al j) < MW W (al i) → i < j := fun h => by
  rcases Int.lt_trichotomy i j with z | z | z
  · exact z
  · rw [z] at h; omega
  · have := h2 j i j0 z i1; omega
theorem trow {σ A : l2_m} {o : Nat} {W f : Int → Int} {c x : Int} (hf : PR σ o W f) (hA : alongOK A W) (c0 : 0 ≤ c) (cn : c < σ o 2) (x0 : 0 ≤ x) (x1 : x ≤ 4096) (hI : tIv (σ (o + 1)) (A 190) W (σ o 2) c x) : x < 4096 ∧ (f (A 190 x) ≠ 0 → σ (o + 1) c = MW W (A 190 x)) := by
  obtain ⟨p1, p2, p3, p4, p5⟩ := hf
  obtain ⟨a1, a2, a3⟩ := hA
  obtain ⟨k, k0, k1, k2, k3, k4⟩ := p3 c c0 cn
  obtain ⟨j, j0, j1, j2⟩ := a3 k k0 k1
  have h1 := hI c j c0 cn j0 j1 (by rw [j2]; exact k2)
  have h2 : ¬ j < x := fun w => by have := h1.2 w; omega
  have hx : x < 4096 := by omega
  refine ⟨hx, fun hz => ?_⟩
  obtain ⟨b1, b2⟩ := a1 x x0 hx
  obtain ⟨i, i0, i1, i2⟩ := p5 _ b1 b2 hz
  have h3 := hI i x i0 i1 x0 hx i2
  have h4 : ¬ i < c := fun w => by have := h3.1 w; omega
  rcases Int.lt_trichotomy i c with z | z | z
  · exact absurd z h4
  · rw [← z]; exact i2
  · have h5 := p4 c i c0 z i1
    rw [i2, k2, ← j2] at h5
    have := al_lt (al := A 190) a2 j0 j1 x0 hx h5
    omega
theorem tIv_0 {σ A : l2_m} {o : Nat} {W f : Int → Int} {c x : Int} (hf : PR σ o W f) (hA : alongOK A W) (x0 : 0 ≤ x) (x1 : x < 4096) (hz : f (A 190 x) = 0) (hI : tIv (σ (o + 1)) (A 190) W (σ o 2) c x) : tIv (σ (o + 1)) (A 190) W (σ o 2) c (x + 1) := by
  intro i j i0 i1 j0 j1 he
  have h := hI i j i0 i1 j0 j1 he
  have hj : j ≠ x := fun w => by
    rw [w] at he
    obtain ⟨k, k0, k1, k2, k3, k4⟩ := hf.2.2.1 i i0 i1
    obtain ⟨b1, b2⟩ := hA.1 x x0 x1
    have : k = A 190 x := MW_inj k0 k1 b1 b2 (by rw [← k2]; exact he)
    rw [this] at k4
    exact k4 hz
  rw [h]; omega
theorem tIv_1 {σ A : l2_m} {o : Nat} {W f : Int → Int} {c x : Int} (hf : PR σ o W f) (hA : alongOK A W) (c0 : 0 ≤ c) (cn : c < σ o 2) (x0 : 0 ≤ x) (x1 : x < 4096) (hm : σ (o + 1) c = MW W (A 190 x)) (hI : tIv (σ (o + 1)) (A 190) W (σ o 2) c x) : tIv (σ (o + 1)) (A 190) W (σ o 2) (c + 1) (x + 1) := by
  intro i j i0 i1 j0 j1 he
  have h := hI i j i0 i1 j0 j1 he
  obtain ⟨p1, p2, p3, p4, p5⟩ := hf
  have e : i = c ↔ j = x := by
    constructor
    · intro w
      rw [w, hm] at he
      rcases Int.lt_trichotomy j x with z | z | z
      · have := hA.2.1 j x j0 z x1; omega
      · exact z
      · have := hA.2.1 x j x0 z j1; omega
    · intro w
      rw [w, ← hm] at he
      rcases Int.lt_trichotomy i c with z | z | z
      · have := p4 i c i0 z cn; omega
      · exact z
      · have := p4 c i c0 z i1; omega
  omega
theorem r208l {B : va_E} {σ υ : l2_m} {o : Nat} {W f : Int → Int} {Q : Int → l2_m → Prop} {r n t : Int} (r0 : 0 ≤ r) (r1 : r < 8) (t0 : 0 ≤ t) (t4 : t ≤ 4) (hf : PR σ o W f) (hA : alongOK υ W) (hv : ∀ j : Int, 0 ≤ j → j < 4096 → υ 187 (4096 * r + j) = f j ∧ 0 ≤ f j ∧ f j < 97) (n0 : 0 ≤ n) (n1 : n < σ o 2) (h : ∀ k : Int, 0 ≤ k → k < 4096 → σ (o + 1) n = MW W k → ∀ ω, ω = trr υ 0 → Q (if t = 0 then f k else if t = 4 then e4 k 0 + e4 k 1 + e4 k 2 else e4 k (t - 1)) ω) : w208_49 B υ r t 0 n Q := by
  have n60 := hf.2.1
  unfold w208_49
  refine lz2_inv (fun x m => 0 ≤ x ∧ x ≤ 4096 ∧ 0 ≤ m ∧ m ≤ n ∧ tIv (σ (o + 1)) (υ 190) W (σ o 2) (n - m) x) (fun x _ => 4096 - x) ?_ ⟨by decide, by decide, n0, Int.le_refl _, fun i j i0 i1 j0 j1 _ => by omega⟩
  intro X x m hX ⟨x0, x1, m0, mn, hI⟩
  obtain ⟨hx, hm⟩ := trow hf hA (by omega) (by omega) x0 x1 hI
  obtain ⟨b1, b2⟩ := hA.1 x x0 hx
  obtain ⟨v1, v2, v3⟩ := hv _ b1 b2
  refine ⟨⟨by omega, by omega⟩, ?_⟩
  rw [v1]
  refine ⟨fun _ => ⟨x0, hx, r0, r1, b1, b2, ⟨by omega, by omega⟩⟩, ?_⟩
  by_cases hc : 0 < m ∨ f (υ 190 x) = 0
  · rw [if_pos hc]
    unfold w208_69
    rw [v1]
    refine ⟨⟨x0, hx, r0, r1, b1, b2, ⟨by omega, by omega⟩⟩, ?_⟩
    by_cases hz : f (υ 190 x) = 0
    · rw [if_pos hz]
      intro m' em
      have em' : m' = m := by omega
      rw [em']
      exact hX (x + 1) m ⟨by omega, by omega, m0, mn, tIv_0 hf hA x0 hx hz hI⟩ (by omega)
    · rw [if_neg hz]
      intro m' em
      have hm0 : 0 < m := hc.resolve_right hz
      have h1 := tIv_1 hf hA (by omega) (by omega) x0 hx (hm hz) hI
      refine hX (x + 1) m' ⟨by omega, by omega, by omega, by omega, ?_⟩ (by omega)
      rw [em, show n - (m - 1) = n - m + 1 by omega]
      exact h1
  · rw [if_neg hc]
    have hz : f (υ 190 x) ≠ 0 := fun w => hc (Or.inr w)
    have hm0 : m = 0 := by
      have : ¬ 0 < m := fun w => hc (Or.inl w)
      omega
    intro k ek
    have hmk := hm hz
    rw [hm0, Int.sub_zero, ← ek] at hmk
    rw [← ek] at b1 b2 v1
    have hq := h k b1 b2 hmk
    refine ⟨⟨by omega, by omega⟩, ?_⟩
    by_cases c0 : t = 0
    · rw [if_pos c0]
      rw [if_pos c0] at hq
      refine ⟨⟨b1, b2⟩, ?_⟩
      rw [v1]
      exact hq
    · rw [if_neg c0]
      rw [if_neg c0] at hq
      by_cases c4' : t = 4
      · rw [if_pos c4']
        rw [if_pos c4'] at hq
        exact ⟨⟨by omega, by omega⟩, hq⟩
      · rw [if_neg c4']
        rw [if_neg c4'] at hq
        exact ⟨⟨⟨by omega, by omega⟩, by omega, by omega⟩, hq⟩
