/-! ===== the reference: rows ===== -/
theorem rpw_t23 {K1 R : Type} [Lean.Grind.Field K1] [Lean.Grind.CommRing R] {c1 : R → Nat → K1} {k1 : K1 → R} {Y : R} (H1 : IsPol c1 k1 Y) {p : Int} {em : Int → K1} (E : isEm p em) {u : Int → Int} {r : R} (h : rpw c1 em p u 2304 r) : -1 ≤ top u 2304 ∧ top u 2304 < 2304 ∧ (top u 2304 < 0 → r = 0) ∧ (0 ≤ top u 2304 → isDg c1 r (top u 2304).toNat) := rpw_top H1 E h
theorem topU {K1 R : Type} [Lean.Grind.Field K1] [Lean.Grind.CommRing R] {c1 : R → Nat → K1} {k1 : K1 → R} {Y : R} (H1 : IsPol c1 k1 Y) {p : Int} {em : Int → K1} (E : isEm p em) {u : Int → Int} {r : R} {y : Int} (h : rpw c1 em p u 2304 r) (y0 : -1 ≤ y) (h1 : y < 0 → r = 0) (h2 : 0 ≤ y → isDg c1 r y.toNat) : y = top u 2304 := by
  obtain ⟨a1, a2, a3, a4⟩ := rpw_t23 H1 E h
  rcases Int.lt_or_le y 0 with w | w
  · rcases Int.lt_or_le (top u 2304) 0 with v | v
    · omega
    · exact absurd (h1 w) (isDg_nz H1 (a4 v))
  · rcases Int.lt_or_le (top u 2304) 0 with v | v
    · exact absurd (a3 v) (isDg_nz H1 (h2 w))
    · have := isDg_u (a4 v) (h2 w); omega
theorem r257 {K1 R : Type} [Lean.Grind.Field K1] [Lean.Grind.CommRing R] {c1 : R → Nat → K1} {k1 : K1 → R} {Y : R} (H1 : IsPol c1 k1 Y) {p : Int} {em : Int → K1} (E : isEm p em) {B : va_E} {σ : l2_m} {K : Int → l2_m → Prop} (hp : isPr p) {o1 o3 : Nat} (ho1 : l2_al o1 = some 2304) (ho3 : l2_al o3 = some 2304) (n1 : o1 ≠ o3) (g1 : 186 < o1) (h5 : σ 186 5 = p) {r o : R} {x2 : Int} {t : Nat} (hr : rpw c1 em p (σ o1) 2304 r) (ho : rpw c1 em p (σ o3) 2304 o) (hx0 : -1 ≤ x2) (hx1 : x2 < 2304) (dr : dlt c1 r (x2 + 1).toNat) (dO : isDg c1 o t) (hK : ∀ (y : Int) (τ : l2_m) (q : R), (∀ b j, b ≠ o1 → τ b j = σ b j) → rpw c1 em p (τ o1) 2304 (r + q * o) → -1 ≤ y → y < t → (y < 0 → r + q * o = 0) → (0 ≤ y → isDg c1 (r + q * o) y.toNat) → K y τ) : wC B 257 [vr 186, vr o1, vi x2, vr o3, vi (t : Int)] σ K := by
  have p2 := E.1
  have p97 := E.2.1
  have t23 := isDg_lt dO ho.2
  have v0 := ho.1 t t23
  have v1 : σ o3 (t : Int) ≠ 0 := fun w => dO.1 (by rw [v0.2.2, w]; exact em_z E)
  obtain ⟨i0, i1, i2⟩ := ivp_ok hp (c := σ o3 (t : Int)) (by omega) v0.2.1
  refine o257 ho1 ho3 ?_
  unfold w257
  refine ⟨⟨by omega, by omega⟩, ?_⟩
  refine r226 h5 hp (by omega) v0.2.1 ?_
  obtain ⟨iv, eiv⟩ : ∃ iv : Int, iv = ivp p (σ o3 (t : Int)) := ⟨_, rfl⟩
  rw [← eiv] at i0 i1 i2 ⊢
  have e8 : em (σ o3 t) * em iv = 1 := by rw [← E.2.2.2.1, ← em_md E, i2]; exact E.2.2.2.2.1
  unfold w257_13
  refine lz2_inv (fun (x : Int) s => -1 ≤ x ∧ x ≤ x2 ∧ ((t : Int) - 1 ≤ x ∨ x = x2) ∧ (∀ b j, b ≠ o1 → s b j = σ b j) ∧ ∃ q : R, rpw c1 em p (s o1) 2304 (r + q * o) ∧ dlt c1 (r + q * o) (x + 1).toNat) (fun x _ => x + 1) ?_ ⟨hx0, by omega, Or.inr rfl, fun _ _ _ => rfl, 0, ?_, ?_⟩
  rotate_left
  · rw [show r + 0 * o = r by grind]; exact hr
  · rw [show r + 0 * o = r by grind]; exact dr
  intro X' x s hX ⟨x0, x1, xt, s1, q, s2, s3⟩
  refine ⟨⟨⟨by omega, by omega⟩, ⟨by omega, by omega⟩⟩, ?_⟩
  have s5 : s 186 5 = p := (s1 186 5 (by omega)).trans h5
  by_cases hx : x < t
  · rw [if_pos hx]
    have fin : ∀ x6 : Int, x6 = x → w257_118 B s o1 x6 K := fun x6 e6 => by
      unfold w257_118
      refine lz1_inv (fun (y : Int) => -1 ≤ y ∧ y < t ∧ dlt c1 (r + q * o) (y + 1).toNat) (fun y => y + 1) ?_ ⟨by omega, by omega, by rw [e6]; exact s3⟩
      intro Z y hZ ⟨y1, y2, y3⟩
      refine ⟨⟨by omega, by omega⟩, ?_⟩
      by_cases hy : y < 0
      · rw [if_pos (Or.inl hy)]
        exact ⟨fun w => absurd hy w, hK y s q s1 s2 y1 y2 (fun _ => dlt_z H1 (dlt_mono y3 (by omega))) (fun w => by omega)⟩
      · obtain ⟨e, rfl⟩ : ∃ e : Nat, y = (e : Int) := ⟨y.toNat, by omega⟩
        have u0 := s2.1 e (by omega)
        refine ⟨fun _ => ⟨by omega, by omega, ⟨by omega, by omega⟩⟩, ?_⟩
        by_cases he : s o1 (e : Int) = 0
        · rw [if_neg (by rintro (w | w); exact hy w; exact w he)]
          refine hZ _ ⟨by omega, by omega, fun i hi => ?_⟩ (by omega)
          by_cases hie : i = e
          · rw [hie, u0.2.2, he]; exact em_z E
          · exact y3 i (by omega)
        · rw [if_pos (Or.inr he)]
          refine hK (e : Int) s q s1 s2 y1 y2 (fun w => absurd w hy) (fun _ => ?_)
          rw [Int.toNat_natCast]
          exact ⟨by rw [u0.2.2]; exact (em_nz E u0.1 u0.2.1).mpr he, fun i hi => y3 i (by omega)⟩
    refine ⟨⟨by omega, by omega⟩, ?_⟩
    by_cases hc : x2 < t
    · rw [if_pos hc]
      exact fin x2 (by omega)
    · rw [if_neg hc]
      intro x6 e6
      exact fin x6 (by omega)
  · rw [if_neg hx]
    obtain ⟨X0, rfl⟩ : ∃ X0 : Nat, x = (X0 : Int) := ⟨x.toNat, by omega⟩
    obtain ⟨e, rfl⟩ : ∃ e : Nat, X0 = e + t := ⟨X0 - t, by omega⟩
    have u0 := s2.1 (e + t) (by omega)
    have g2 : 0 ≤ s o1 ((e + t : Nat) : Int) * iv := Int.mul_nonneg u0.1 (by omega)
    have g3 : s o1 ((e + t : Nat) : Int) * iv ≤ 97 * 97 := Int.mul_le_mul (by omega) (by omega) (by omega) (by omega)
    rw [s5]
    refine ⟨⟨by omega, by omega, ⟨by omega, by omega⟩, ⟨by omega, by omega⟩, by omega, g2⟩, ?_⟩
    intro x7 ex7
    have m0 := Int.emod_nonneg (s o1 ((e + t : Nat) : Int) * iv) (show p ≠ 0 by omega)
    have m1 := Int.emod_lt_of_pos (s o1 ((e + t : Nat) : Int) * iv) (show 0 < p by omega)
    have e7 : em x7 = c1 (r + q * o) (e + t) * em iv := by rw [ex7, em_md E, E.2.2.2.1, u0.2.2]
    refine ⟨⟨by omega, by omega⟩, ?_⟩
    by_cases h7 : x7 = 0
    · rw [if_pos h7]
      refine hX _ s ⟨by omega, by omega, Or.inl (by omega), s1, q, s2, fun i hi => ?_⟩ (by omega)
      by_cases hie : i = e + t
      · rw [hie]
        rw [h7, em_z E] at e7
        have : em (σ o3 t) ≠ 0 := fun w => dO.1 (by rw [v0.2.2]; exact w)
        grind
      · exact s3 i (by omega)
    · rw [if_neg h7]
      unfold w257_45
      refine lz2_inv (fun (y : Int) z => 0 ≤ y ∧ y ≤ t + 1 ∧ (∀ b j, b ≠ o1 → z b j = σ b j) ∧ (∀ i : Nat, (i : Int) < y → z o1 ((e : Int) + i) = (s o1 ((e : Int) + i) + (p - x7) * σ o3 i) % p) ∧ (∀ j : Int, (j < e ∨ (e : Int) + y ≤ j) → z o1 j = s o1 j)) (fun y _ => t + 1 - y) ?_ ⟨by omega, by omega, s1, fun i hi => by omega, fun _ _ => rfl⟩
      intro Z y z hZ ⟨y0, y1, z1, z2, z3⟩
      refine ⟨⟨⟨by omega, by omega⟩, ⟨by omega, by omega⟩⟩, ?_⟩
      by_cases hy : (t : Int) < y
      · rw [if_pos hy]
        have key : rpw c1 em p (z o1) 2304 (r + q * o + k1 (em (p - x7)) * (Y ^ e * o)) := rpw_st H1 E (s := e) (m := p - x7) s2 ho dO.2 (by omega) (fun i hi => by
          rw [show ((e + i : Nat) : Int) = (e : Int) + i by omega]; exact z2 i (by omega)) (fun j hj hjs => z3 j (by omega))
        have eq : r + q * o + k1 (em (p - x7)) * (Y ^ e * o) = r + (q + k1 (em (p - x7)) * Y ^ e) * o := by grind
        refine hX _ z ⟨by omega, by omega, Or.inl (by omega), z1, q + k1 (em (p - x7)) * Y ^ e, by rw [← eq]; exact key, ?_⟩ (by omega)
        rw [← eq]
        intro i hi
        rw [po_a H1, po_km H1]
        by_cases hie : i = e + t
        · rw [hie, show c1 (Y ^ e * o) (e + t) = c1 o t by rw [show e + t = t + e by omega, po_x H1], em_sb E, em_p E, e7, v0.2.2]
          grind
        · have h1 : c1 (r + q * o) i = 0 := s3 i (by omega)
          have h2 : c1 (Y ^ e * o) i = 0 := dlt_x H1 e dO.2 i (by omega)
          rw [h1, h2]; grind
      · rw [if_neg hy]
        obtain ⟨f, rfl⟩ : ∃ f : Nat, y = (f : Int) := ⟨y.toNat, by omega⟩
        have a0 := s2.1 (e + f) (by omega)
        rw [show ((e + f : Nat) : Int) = (e : Int) + f by omega] at a0
        have b0 := ho.1 f (by omega)
        have ez : z o1 ((e : Int) + f) = s o1 ((e : Int) + f) := z3 _ (by omega)
        have eo : z o3 (f : Int) = σ o3 f := z1 o3 f (fun w => n1 w.symm)
        have z5 : z 186 5 = p := (z1 186 5 (by omega)).trans h5
        rw [show ((e + t : Nat) : Int) - t + f = (e : Int) + f by omega, ez, eo, z5]
        have g4 : 0 ≤ (p - x7) * σ o3 f := Int.mul_nonneg (by omega) b0.1
        have g5 : (p - x7) * σ o3 f ≤ 97 * 97 := Int.mul_le_mul (by omega) (by omega) b0.1 (by omega)
        refine ⟨⟨by omega, by omega, by omega, by omega, ⟨by omega, by omega⟩, ⟨by omega, by omega⟩, by omega, by omega⟩, ?_⟩
        intro z' ez'
        refine hZ _ z' ⟨by omega, by omega, fun b j w => by rw [ez', l2_u_ne w]; exact z1 b j w, fun i hi => ?_, fun j hj => ?_⟩ (by omega)
        · by_cases hif : i = f
          · rw [ez', hif, l2_u_self]
          · rw [ez', l2_u_nj (by omega)]; exact z2 i (by omega)
        · rw [ez', l2_u_nj (by omega)]; exact z3 j (by omega)
theorem r259 {K1 R : Type} [Lean.Grind.Field K1] [Lean.Grind.CommRing R] {c1 : R → Nat → K1} {k1 : K1 → R} {Y : R} (H1 : IsPol c1 k1 Y) {p : Int} {em : Int → K1} (E : isEm p em) {B : va_E} {σ : l2_m} {K : Int → l2_m → Prop} (hp : isPr p) {o1 : Nat} (ho1 : l2_al o1 = some 2304) (g1 : 186 < o1) (h5 : σ 186 5 = p) {r : R} (hr : rpw c1 em p (σ o1) 2304 r) (hK : ∀ (τ : l2_m) (r' : R), (∀ b j, b ≠ o1 → τ b j = σ b j) → rpw c1 em p (τ o1) 2304 r' → (∀ d, dv d r' ↔ dv d r) → isMo c1 r' → K 0 τ) : wC B 259 [vr 186, vr o1] σ K := by
  have p2 := E.1
  have p97 := E.2.1
  have z1 : ∀ u : Int → Int, (fun j => u (0 + j)) = u := fun u => funext (fun j => by rw [Int.zero_add])
  refine o259 ho1 ?_
  unfold w259
  refine ⟨⟨by decide, fun j j0 j1 => by rw [Int.zero_add]; exact (rgr E hr j0 j1).2.2⟩, ?_⟩
  intro x2 ex2
  rw [z1 (σ o1)] at ex2
  have T := rpw_t23 H1 E hr
  rw [← ex2] at T
  refine ⟨⟨by omega, by omega⟩, ?_⟩
  by_cases hx : x2 = -1
  · rw [if_pos hx]
    exact hK σ r (fun _ _ _ => rfl) hr (fun d => Iff.rfl) (Or.inl (T.2.2.1 (by omega)))
  · rw [if_neg hx]
    refine ⟨⟨by omega, by omega⟩, ?_⟩
    obtain ⟨t, rfl⟩ : ∃ t : Nat, x2 = (t : Int) := ⟨x2.toNat, by omega⟩
    have D := T.2.2.2 (by omega)
    rw [Int.toNat_natCast] at D
    have v0 := hr.1 t (by omega)
    have v1 : σ o1 (t : Int) ≠ 0 := fun w => D.1 (by rw [v0.2.2, w]; exact em_z E)
    obtain ⟨i0, i1, i2⟩ := ivp_ok hp (c := σ o1 (t : Int)) (by omega) v0.2.1
    refine r226 h5 hp (by omega) v0.2.1 ?_
    obtain ⟨iv, eiv⟩ : ∃ iv : Int, iv = ivp p (σ o1 (t : Int)) := ⟨_, rfl⟩
    rw [← eiv] at i0 i1 i2 ⊢
    have e8 : em (σ o1 t) * em iv = 1 := by rw [← E.2.2.2.1, ← em_md E, i2]; exact E.2.2.2.2.1
    unfold w259_23
    refine lz2_inv (fun (y : Int) z => 0 ≤ y ∧ y ≤ t + 1 ∧ (∀ b j, b ≠ o1 → z b j = σ b j) ∧ (∀ j : Int, 0 ≤ j → j < y → z o1 j = σ o1 j * iv % p) ∧ (∀ j : Int, y ≤ j → z o1 j = σ o1 j)) (fun y _ => t + 1 - y) ?_ ⟨by omega, by omega, fun _ _ _ => rfl, fun i _ hi => by omega, fun _ _ => rfl⟩
    intro Z y z hZ ⟨y0, y1, z1', z2, z3⟩
    refine ⟨⟨⟨by omega, by omega⟩, ⟨by omega, by omega⟩⟩, ?_⟩
    by_cases hy : (t : Int) < y
    · rw [if_pos hy]
      have iv0 : em iv ≠ 0 := fun w => by
        rw [w] at e8
        exact one_ne (L := K1) (by rw [← e8]; grind)
      have key : rpw c1 em p (z o1) 2304 (k1 (em iv) * r) := by
        refine ⟨fun i hi => ?_, dlt_k H1 _ hr.2⟩
        rw [po_km H1]
        have a0 := hr.1 i hi
        by_cases hit : i ≤ t
        · rw [z2 i (by omega) (by omega)]
          exact ⟨Int.emod_nonneg _ (by omega), Int.emod_lt_of_pos _ (by omega), by rw [em_md E, E.2.2.2.1, a0.2.2]; grind⟩
        · have hz := D.2 i (by omega)
          rw [z3 i (by omega)]
          refine ⟨a0.1, a0.2.1, ?_⟩
          rw [← a0.2.2, hz]; grind
      have ek : k1 (em (σ o1 t)) * k1 (em iv) = 1 := by rw [← po_kmul H1, e8, po_kone H1]
      refine hK z _ z1' key (fun d => ⟨fun w => ?_, fun w => dv_mul _ w⟩) (Or.inr ⟨t, ⟨?_, dlt_k H1 _ D.2⟩, ?_⟩)
      · have := dv_mul (k1 (em (σ o1 t))) w
        rw [show k1 (em (σ o1 t)) * (k1 (em iv) * r) = r by grind] at this
        exact this
      · rw [po_km H1, v0.2.2]
        intro w
        exact one_ne (L := K1) (by rw [← e8, ← w]; grind)
      · rw [po_km H1, v0.2.2, ← e8]; grind
    · rw [if_neg hy]
      have a0 := rgr E hr y0 (show y < ((2304 : Nat) : Int) by omega)
      have ez : z o1 y = σ o1 y := z3 y (by omega)
      have z5 : z 186 5 = p := (z1' 186 5 (by omega)).trans h5
      rw [ez, z5]
      have g4 : 0 ≤ σ o1 y * iv := Int.mul_nonneg a0.1 (by omega)
      have g5 : σ o1 y * iv ≤ 97 * 97 := Int.mul_le_mul (by omega) (by omega) (by omega) (by omega)
      refine ⟨⟨by omega, by omega, ⟨by omega, by omega⟩, ⟨by omega, by omega⟩, by omega, by omega⟩, ?_⟩
      intro z' ez'
      refine hZ _ z' ⟨by omega, by omega, fun b j w => by rw [ez', l2_u_ne w]; exact z1' b j w, fun i i0' i1' => ?_, fun j hj => ?_⟩ (by omega)
      · by_cases hif : i = y
        · rw [ez', hif, l2_u_self]
        · rw [ez', l2_u_nj hif]; exact z2 i i0' (by omega)
      · rw [ez', l2_u_nj (by omega)]; exact z3 j (by omega)
theorem r260 {K1 R : Type} [Lean.Grind.Field K1] [Lean.Grind.CommRing R] {c1 : R → Nat → K1} {k1 : K1 → R} {Y : R} (H1 : IsPol c1 k1 Y) {p : Int} {em : Int → K1} (E : isEm p em) {B : va_E} {σ : l2_m} {K : Int → l2_m → Prop} (hp : isPr p) {o1 o2 : Nat} (ho1 : l2_al o1 = some 2304) (ho2 : l2_al o2 = some 2304) (n1 : o1 ≠ o2) (g1 : 186 < o1) (g2 : 186 < o2) (h5 : σ 186 5 = p) {r b : R} (hr : rpw c1 em p (σ o1) 2304 r) (hb : rpw c1 em p (σ o2) 2304 b) (hK : ∀ (τ : l2_m) (r' : R), (∀ q j, q ≠ o1 → q ≠ o2 → τ q j = σ q j) → rpw c1 em p (τ o1) 2304 r' → (∀ d, dv d r' ↔ (dv d r ∧ dv d b)) → isMo c1 r' → K 0 τ) : wC B 260 [vr 186, vr o1, vr o2] σ K := by
  have p2 := E.1
  have p97 := E.2.1
  have z1 : ∀ u : Int → Int, (fun j => u (0 + j)) = u := fun u => funext (fun j => by rw [Int.zero_add])
  refine o260 ho1 ho2 ?_
  unfold w260
  refine ⟨⟨by decide, fun j j0 j1 => by rw [Int.zero_add]; exact (rgr E hr j0 j1).2.2⟩, ?_⟩
  intro x5 ex5
  refine ⟨fun j j0 j1 => by rw [Int.zero_add]; exact (rgr E hb j0 j1).2.2, ?_⟩
  intro x6 ex6
  rw [z1 (σ o1)] at ex5
  rw [z1 (σ o2)] at ex6
  have T5 := rpw_t23 H1 E hr
  have T6 := rpw_t23 H1 E hb
  rw [← ex5] at T5
  rw [← ex6] at T6
  unfold w260_20
  refine lz5_inv (fun (o3 o4 : Nat) (x5 x6 : Int) s => ((o3 = o1 ∧ o4 = o2) ∨ (o3 = o2 ∧ o4 = o1)) ∧ (∀ q j, q ≠ o1 → q ≠ o2 → s q j = σ q j) ∧ ∃ a' b' : R, rpw c1 em p (s o3) 2304 a' ∧ rpw c1 em p (s o4) 2304 b' ∧ (-1 ≤ x5 ∧ x5 < 2304 ∧ (x5 < 0 → a' = 0) ∧ (0 ≤ x5 → isDg c1 a' x5.toNat)) ∧ (-1 ≤ x6 ∧ x6 < 2304 ∧ (x6 < 0 → b' = 0) ∧ (0 ≤ x6 → isDg c1 b' x6.toNat)) ∧ ∀ d, (dv d a' ∧ dv d b') ↔ (dv d r ∧ dv d b)) (fun _ _ _ x6 _ => x6 + 1) ?_ ⟨Or.inl ⟨rfl, rfl⟩, fun _ _ _ _ => rfl, r, b, hr, hb, T5, T6, fun d => Iff.rfl⟩
  intro X' o3 o4 x5 x6 s hX ⟨ho, s1, a', b', h1, h2, D5, D6, hd⟩
  refine ⟨⟨by omega, by omega⟩, ?_⟩
  have s5 : s 186 5 = p := (s1 186 5 (by omega) (by omega)).trans h5
  by_cases hx : x6 = -1
  · rw [if_pos hx]
    have b0 := D6.2.2.1 (by omega)
    have hd' : ∀ d, dv d a' ↔ (dv d r ∧ dv d b) := fun d => by
      rw [← hd d, b0]
      exact ⟨fun w => ⟨w, dv_0 d⟩, fun w => w.1⟩
    have last : ∀ s2 : l2_m, (∀ q j, q ≠ o1 → q ≠ o2 → s2 q j = σ q j) → rpw c1 em p (s2 o1) 2304 a' → w260_90 B s2 o1 K := fun s2 f2 r2 => by
      unfold w260_90
      refine r259 H1 E hp ho1 g1 ((f2 186 5 (by omega) (by omega)).trans h5) r2 (fun τ r' t1 t2 t3 t4 => ?_)
      exact hK τ r' (fun q j w w' => by rw [t1 q j w]; exact f2 q j w w') t2 (fun d => by rw [t3 d]; exact hd' d) t4
    unfold w260_63
    refine lz2_inv (fun (y : Int) z => 0 ≤ y ∧ y ≤ 2304 ∧ (∀ q j, q ≠ o1 → q ≠ o2 → z q j = σ q j) ∧ (∀ j, z o3 j = s o3 j) ∧ (o3 ≠ o1 → ∀ j : Int, 0 ≤ j → j < y → z o1 j = s o3 j)) (fun y _ => 2304 - y) ?_ ⟨by decide, by decide, s1, fun _ => rfl, fun _ j _ _ => by omega⟩
    intro Z y z hZ ⟨y0, y1, z1', z2, z3⟩
    refine ⟨fun _ => ⟨by omega, by omega⟩, ?_⟩
    by_cases ho3 : o3 = o1
    · rw [if_pos (Or.inl ho3)]
      exact last z z1' (rpw_cg h1 (fun i _ => by rw [← ho3]; exact z2 _))
    · by_cases hy : y < 2304
      · rw [if_neg (by rintro (w | w); exact ho3 w; exact w hy)]
        refine ⟨⟨y0, hy⟩, ?_⟩
        intro z' ez'
        refine hZ _ z' ⟨by omega, by omega, fun q j w w' => by rw [ez', l2_u_ne w]; exact z1' q j w w', fun j => by rw [ez', l2_u_ne ho3]; exact z2 j, fun _ j j0 j1 => ?_⟩ (by omega)
        by_cases hj : j = y
        · rw [ez', hj, l2_u_self]; exact z2 y
        · rw [ez', l2_u_nj hj]; exact z3 ho3 j j0 (by omega)
      · rw [if_pos (Or.inr hy)]
        exact last z z1' (rpw_cg h1 (fun i hi => z3 ho3 i (by omega) (by omega)))
  · rw [if_neg hx]
    obtain ⟨t, rfl⟩ : ∃ t : Nat, x6 = (t : Int) := ⟨x6.toNat, by omega⟩
    have Dt := D6.2.2.2 (by omega)
    rw [Int.toNat_natCast] at Dt
    have da : dlt c1 a' (x5 + 1).toNat := by
      rcases Int.lt_or_le x5 0 with w | w
      · rw [D5.2.2.1 w]; exact dlt_0 H1 _
      · exact dlt_mono (D5.2.2.2 w).2 (by omega)
    have al3 : l2_al o3 = some 2304 := by
      rcases ho with w | w
      · rw [w.1]; exact ho1
      · rw [w.1]; exact ho2
    have al4 : l2_al o4 = some 2304 := by
      rcases ho with w | w
      · rw [w.2]; exact ho2
      · rw [w.2]; exact ho1
    refine r257 H1 E hp al3 al4 (by omega) (by omega) s5 h1 h2 D5.1 D5.2.1 da Dt (fun y τ q f1 f2 y0 y1 y2 y3 => ?_)
    refine hX _ _ _ _ τ ⟨by omega, fun q j w w' => by rw [f1 q j (by omega)]; exact s1 q j w w', b', a' + q * b', rpw_cg h2 (fun i _ => f1 o4 i (by omega)), f2, D6, ⟨y0, by omega, y2, y3⟩, fun d => ?_⟩ (by omega)
    rw [← hd d]
    refine ⟨fun w => ⟨?_, w.1⟩, fun w => ⟨w.2, dv_add w.1 (dv_mul q w.2)⟩⟩
    have h3 := dv_sub w.2 (dv_mul q w.1)
    rw [show a' + q * b' - q * b' = a' by grind] at h3
    exact h3
