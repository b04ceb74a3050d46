/-! ===== Commons: two rows are joined (Euclid) ===== -/
theorem top32 {u v : Int → Int} (h : ∀ j : Int, 0 ≤ j → j < 32 → u j = v j) : top u 32 = top v 32 := by
  obtain ⟨a, b, c, d⟩ := top_spec v (p := 32) (by decide)
  exact top_uniq (by decide) a b (fun j h1 h2 => by rw [h j (by omega) h2]; exact c j h1 h2) (fun w => by rw [h _ w b]; exact d w)
theorem rgr {L R : Type} [Lean.Grind.Field L] {c : R → Nat → L} {p : Int} {em : Int → L} (E : isEm p em) {u : Int → Int} {n : Nat} {v : R} (h : rpw c em p u n v) {j : Int} (j0 : 0 ≤ j) (j1 : j < n) : 0 ≤ u j ∧ u j < p ∧ rg (u j) := by
  have h1 := h.1 j.toNat (by omega)
  have h2 := E.2.1
  rw [show ((j.toNat : Nat) : Int) = j by omega] at h1
  exact ⟨h1.1, h1.2.1, by omega, by omega⟩
theorem c27 {L R : Type} [Lean.Grind.Field L] [Lean.Grind.CommRing R] {c : R → Nat → L} {k : L → R} {Y : R} (H : IsPol c k Y) {p : Int} {em : Int → L} (E : isEm p em) {B : va_E} {σ : l2_m} {K : Int → l2_m → Prop} {o1 o2 n2 : Nat} {x3 : Int} {r b : R} (ho1 : l2_al o1 = some 32) (ho2 : l2_al o2 = some n2) (hg : 113 < o1) (n1 : o1 ≠ 124) (x0 : 0 ≤ x3) (x1 : x3 + 32 ≤ (n2 : Int)) (hp : σ 34 0 = p) (hI : invOK σ 34 p) (hr : rpw c em p (σ o1) 32 r) (hb : rpw c em p (fun j => σ o2 (x3 + j)) 32 b) (hK : ∀ (τ : l2_m) (r' : R), (∀ q j, q ≠ o1 → q ≠ 124 → τ q j = σ q j) → rpw c em p (τ o1) 32 r' → (∀ d, dv d r' ↔ (dv d r ∧ dv d b)) → K 0 τ) : wC B 27 [vr 109, vr o1, vr o2, vi x3] σ K := by
  have p2 := E.1
  have p97 := E.2.1
  refine o27 ho1 ho2 ?_
  unfold w27
  refine ⟨⟨x0, x1⟩, ?_⟩
  intro s1 es1
  have f1 : ∀ q j, q ≠ 124 → s1 q j = σ q j := fun q j w => by rw [es1]; unfold l2_cpy; rw [if_neg (fun h => w h.1)]
  have z1 : ∀ u : Int → Int, (fun j => u (0 + j)) = u := fun u => funext (fun j => by rw [Int.zero_add])
  have hr1 : rpw c em p (s1 o1) 32 r := rpw_cg hr (fun i _ => f1 o1 i n1)
  have hb1 : rpw c em p (s1 124) 32 b := rpw_cg hb (fun i hi => by rw [es1]; unfold l2_cpy; rw [if_pos ⟨rfl, by omega, by omega⟩, Int.sub_zero])
  refine ⟨⟨by decide, fun j j0 j1 => by rw [Int.zero_add]; exact (rgr E hr1 j0 j1).2.2⟩, ?_⟩
  intro x4 ex4
  refine ⟨fun j j0 j1 => by rw [Int.zero_add]; exact (rgr E hb1 j0 j1).2.2, ?_⟩
  intro x5 ex5
  rw [z1 (s1 o1)] at ex4
  rw [z1 (s1 124)] at ex5
  have U4 := rpw_t32 H E hr1
  have U5 := rpw_t32 H E hb1
  unfold w27_36
  refine lz4_inv (fun (x4 x5 x6 : Int) s => 0 ≤ x6 ∧ (x4 < x5 → x6 + 2 * x5 + 1 ≤ 64) ∧ (¬ x4 < x5 → x6 + 2 * x5 + 2 ≤ 64) ∧ (∀ q j, q ≠ o1 → q ≠ 124 → s q j = σ q j) ∧ ∃ r' b' : R, rpw c em p (s o1) 32 r' ∧ rpw c em p (s 124) 32 b' ∧ x4 = top (s o1) 32 ∧ x5 = top (s 124) 32 ∧ ∀ d, (dv d r' ∧ dv d b') ↔ (dv d r ∧ dv d b)) (fun _ _ x6 _ => 65 - x6) ?_ ⟨by decide, fun w => by omega, fun w => by omega, fun q j _ w => f1 q j w, r, b, hr1, hb1, ex4, ex5, fun d => Iff.rfl⟩
  intro X x4 x5 x6 s hX ⟨a0, a1, a2, s2, r', b', h1, h2, e4, e5, hd⟩
  have T4 := rpw_t32 H E h1
  have T5 := rpw_t32 H E h2
  rw [← e4] at T4
  rw [← e5] at T5
  refine ⟨⟨by omega, by omega⟩, fun _ => ⟨by omega, by omega⟩, ?_⟩
  by_cases hx : x5 < 0
  · rw [if_pos (Or.inr hx)]
    refine hK s r' s2 h1 (fun d => ?_)
    rw [← hd d, T5.2.2.1 hx]
    exact ⟨fun w => ⟨w, dv_0 d⟩, fun w => w.1⟩
  · rw [if_neg (by omega)]
    refine ⟨⟨by omega, by omega⟩, ?_⟩
    by_cases hs : x4 < x5
    · rw [if_pos hs]
      unfold w27_58
      refine lz2_inv (fun (y : Int) z => 0 ≤ y ∧ y ≤ 32 ∧ (∀ q j, q ≠ o1 → q ≠ 124 → z q j = σ q j) ∧ (∀ j : Int, 0 ≤ j → j < y → z o1 j = s 124 j ∧ z 124 j = s o1 j) ∧ (∀ j : Int, y ≤ j → z o1 j = s o1 j ∧ z 124 j = s 124 j)) (fun y _ => 32 - y) ?_ ⟨by decide, by decide, s2, fun j _ _ => by omega, fun _ _ => ⟨rfl, rfl⟩⟩
      intro Z y z hZ ⟨y0, y1, z0, z2, z3⟩
      refine ⟨⟨by omega, by omega⟩, ?_⟩
      by_cases hy : y < 32
      · rw [if_pos hy]
        refine ⟨⟨y0, hy⟩, ?_⟩
        intro x8 e8 t1 et1 t2 et2
        refine hZ _ t2 ⟨by omega, by omega, fun q j w w' => by rw [et2, l2_u_ne w', et1, l2_u_ne w]; exact z0 q j w w', fun j j0 j1 => ?_, fun j j1 => ?_⟩ (by omega)
        · by_cases hj : j = y
          · rw [hj, et2]
            refine ⟨?_, ?_⟩
            · rw [l2_u_ne n1, et1, l2_u_self]; exact (z3 y (by omega)).2
            · rw [l2_u_self, e8]; exact (z3 y (by omega)).1
          · rw [et2, l2_u_nj hj, l2_u_nj hj, et1, l2_u_nj hj, l2_u_nj hj]; exact z2 j j0 (by omega)
        · have hj : j ≠ y := by omega
          rw [et2, l2_u_nj hj, l2_u_nj hj, et1, l2_u_nj hj, l2_u_nj hj]; exact z3 j (by omega)
      · rw [if_neg hy]
        have g1 : rpw c em p (z o1) 32 b' := rpw_cg h2 (fun i hi => (z2 i (by omega) (by omega)).1)
        have g2 : rpw c em p (z 124) 32 r' := rpw_cg h1 (fun i hi => (z2 i (by omega) (by omega)).2)
        refine hX _ _ _ z ⟨by omega, fun w => by omega, fun w => by omega, z0, b', r', g1, g2, ?_, ?_, fun d => ?_⟩ (by omega)
        · rw [e5]; exact (top32 (fun j j0 j1 => (z2 j j0 (by omega)).1)).symm
        · rw [e4]; exact (top32 (fun j j0 j1 => (z2 j j0 (by omega)).2)).symm
        · rw [← hd d]; exact ⟨fun w => ⟨w.2, w.1⟩, fun w => ⟨w.2, w.1⟩⟩
    · rw [if_neg hs]
      have D4 := T4.2.2.2 (by omega)
      have D5 := T5.2.2.2 (by omega)
      have es : s 34 0 = p := (s2 34 0 (by omega) (by decide)).trans hp
      obtain ⟨m, rfl⟩ : ∃ m : Nat, x4 = (m : Int) := ⟨x4.toNat, by omega⟩
      obtain ⟨t, rfl⟩ : ∃ t : Nat, x5 = (t : Int) := ⟨x5.toNat, by omega⟩
      rw [Int.toNat_natCast] at D4 D5
      have v0 := h2.1 t (by omega)
      have v1 : s 124 (t : Int) ≠ 0 := fun w => D5.1 (by rw [v0.2.2, w]; exact em_z E)
      have I0 := hI (s 124 (t : Int)) (by omega) (by omega)
      have iv : invO s 34 (s 124 (t : Int)) = σ 35 (s 124 (t : Int)) := by
        unfold invO
        rw [if_pos ⟨by omega, by omega⟩]
        exact s2 35 _ (by omega) (by decide)
      refine ⟨⟨by omega, by omega, by omega, by omega, ⟨by omega, by omega⟩⟩, ?_⟩
      rw [iv]
      refine c28 H E ho1 n1 es h1 h2 (by omega) (by omega) D4.2 D5.2 (Int.le_of_lt I0.1) I0.2.1 I0.2.2 (fun τ q f g gd => ?_)
      refine ⟨⟨by decide, fun j j0 j1 => by rw [Int.zero_add]; exact (rgr E g j0 j1).2.2⟩, ?_⟩
      intro x4' ex4'
      rw [z1 (τ o1)] at ex4'
      have T := rpw_t32 H E g
      rw [← ex4'] at T
      have lt4 : x4' < t := by
        rcases Int.lt_or_le x4' t with w | w
        · exact w
        · exact absurd (gd x4'.toNat (by omega)) (T.2.2.2 (by omega)).1
      refine hX _ _ _ τ ⟨by omega, fun w => by omega, fun w => by omega, fun q j w w' => by rw [f q j w]; exact s2 q j w w', r' + q * b', b', g, rpw_cg h2 (fun i _ => by rw [f 124 i (Ne.symm n1)]), ex4', ?_, fun d => ?_⟩ (by omega)
      · rw [e5]; exact (top32 (fun j _ _ => f 124 j (Ne.symm n1))).symm
      · rw [← hd d]
        refine ⟨fun w => ⟨?_, w.2⟩, fun w => ⟨dv_add w.1 (dv_mul q w.2), w.2⟩⟩
        have h3 := dv_sub w.1 (dv_mul q w.2)
        have e : r' + q * b' - q * b' = r' := by grind
        rw [e] at h3; exact h3
