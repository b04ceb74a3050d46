/-! ===== one step of the division, told in polynomials ===== -/
theorem hlt_x {K1 R A : Type} [Lean.Grind.Field K1] [Lean.Grind.CommRing R] [Lean.Grind.CommRing A] {c1 : R → Nat → K1} {k1 : K1 → R} {Y : R} (H1 : IsPol c1 k1 Y) {c2 : A → Nat → R} {k2 : R → A} {X : A} (H2 : IsPol c2 k2 X) {b : A} {n : Nat} (k : Nat) (h : hlt c1 c2 b n) : hlt c1 c2 (X ^ k * b) n := fun i => by
  by_cases hi : i < k
  · rw [po_xl H2 b k i hi]; exact dlt_0 H1 n
  · obtain ⟨l, rfl⟩ : ∃ l, i = l + k := ⟨i - k, by omega⟩
    rw [po_x H2]; exact h l
theorem hlt_sub {K1 R A : Type} [Lean.Grind.Field K1] [Lean.Grind.CommRing R] [Lean.Grind.CommRing A] {c1 : R → Nat → K1} {k1 : K1 → R} {Y : R} (H1 : IsPol c1 k1 Y) {c2 : A → Nat → R} {k2 : R → A} {X : A} (H2 : IsPol c2 k2 X) {a b : A} {n : Nat} (ha : hlt c1 c2 a n) (hb : hlt c1 c2 b n) : hlt c1 c2 (a - b) n := fun i => by
  rw [po_s H2]; exact dlt_sub H1 (ha i) (hb i)
theorem eu_id {A : Type} [Lean.Grind.CommRing A] {C a' S b T P ca a UA f VA g cb UB VB : A} (ec : C * a' = S * a - T * (P * b)) (ea : ca * a = UA * f + VA * g) (eb : cb * b = UB * f + VB * g) : C * (ca * cb) * a' = (S * cb * UA - T * ca * (P * UB)) * f + (S * cb * VA - T * ca * (P * VB)) * g := by
  have h : C * (ca * cb) * a' = (ca * cb) * (C * a') := by grind
  rw [h, ec]
  grind
theorem eu_dt {A : Type} [Lean.Grind.CommRing A] {S T P ca UA VA cb UB VB d : A} (ed : d = UA * VB - UB * VA) : S * cb * d = (S * cb * UA - T * ca * (P * UB)) * VB - UB * (S * cb * VA - T * ca * (P * VB)) := by grind
theorem eu_st {K1 R A : Type} [Lean.Grind.Field K1] [Lean.Grind.CommRing R] [Lean.Grind.CommRing A] {c1 : R → Nat → K1} {k1 : K1 → R} {Y : R} (H1 : IsPol c1 k1 Y) {c2 : A → Nat → R} {k2 : R → A} {X : A} (H2 : IsPol c2 k2 X) {a b a' f g UA VA UB VB : A} {ca cb δ : R} {d e ha hb u v : Nat} (dA : isDg c2 a d) (dB : isDg c2 b e) (hde : e ≤ d) (h0 : k2 (c2 b e) * a - k2 (c2 a d) * (X ^ (d - e) * b) = 0 → a' = 0) (h1 : k2 (c2 b e) * a - k2 (c2 a d) * (X ^ (d - e) * b) ≠ 0 → ∃ c, c ≠ 0 ∧ k2 (c2 b e) * a - k2 (c2 a d) * (X ^ (d - e) * b) = k2 c * a' ∧ prim c2 a') (ya : hlt c1 c2 a (ha + 1)) (yb : hlt c1 c2 b (hb + 1)) (ca0 : ca ≠ 0) (cb0 : cb ≠ 0) (δ0 : δ ≠ 0) (ea : k2 ca * a = UA * f + VA * g) (eb : k2 cb * b = UB * f + VB * g) (ed : k2 δ = UA * VB - UB * VA) (dU : dlt c2 UA u) (dV : dlt c2 VA v) (dUB : dlt c2 (X ^ (d - e) * UB) u) (dVB : dlt c2 (X ^ (d - e) * VB) v) : (a' = 0 ∨ prim c2 a') ∧ dlt c2 a' d ∧ hlt c1 c2 a' (ha + hb + 1) ∧ (∃ (U V : A) (c δ' : R), c ≠ 0 ∧ δ' ≠ 0 ∧ k2 c * a' = U * f + V * g ∧ k2 δ' = U * VB - UB * V ∧ dlt c2 U u ∧ dlt c2 V v) ∧ ∀ D, prim c2 D → ((dv D a' ∧ dv D b) ↔ (dv D a ∧ dv D b)) := by
  have D1 := po_dom H1 fld_dom
  have D2 := po_dom H2 D1
  have mn : ∀ x y : R, x ≠ 0 → y ≠ 0 → x * y ≠ 0 := fun x y hx hy w => by
    rcases D1 _ _ w with w | w
    · exact hx w
    · exact hy w
  have kn : ∀ s : R, s ≠ 0 → k2 s ≠ 0 := fun s hs w => hs (po_kinj H2 (by rw [w, po_kz H2]))
  obtain ⟨m, em⟩ : ∃ m : A, m = k2 (c2 b e) * a - k2 (c2 a d) * (X ^ (d - e) * b) := ⟨_, rfl⟩
  rw [← em] at h0 h1
  obtain ⟨c, c0, ec, pc⟩ : ∃ c : R, c ≠ 0 ∧ m = k2 c * a' ∧ (a' = 0 ∨ prim c2 a') := by
    by_cases hm : m = 0
    · exact ⟨1, po_one H1, by rw [h0 hm, hm]; grind, Or.inl (h0 hm)⟩
    · obtain ⟨c, q1, q2, q3⟩ := h1 hm
      exact ⟨c, q1, q2, Or.inr q3⟩
  have ec' : k2 c * a' = k2 (c2 b e) * a - k2 (c2 a d) * (X ^ (d - e) * b) := by rw [← ec, em]
  have dm : dlt c2 m d := fun i hi => by
    rw [em, po_s H2, po_km H2, po_km H2]
    by_cases hid : i = d
    · have : c2 (X ^ (d - e) * b) d = c2 b e := by
        have := po_x H2 b (d - e) e
        rw [show e + (d - e) = d by omega] at this
        exact this
      rw [hid, this]; grind
    · have h2 : c2 (X ^ (d - e) * b) i = 0 := dlt_x H2 (d - e) dB.2 i (by omega)
      rw [dA.2 i (by omega), h2]; grind
  have yk : ∀ {x : R} {n : Nat}, dlt c1 x n → hlt c1 c2 (k2 x) n := fun hx => k2_h H1 H2 hx
  have ym : hlt c1 c2 m (ha + hb + 1) := by
    rw [em]
    have q1 := hlt_m H1 H2 (yk (yb e)) ya
    have q2 := hlt_m H1 H2 (yk (ya d)) (hlt_x H1 H2 (d - e) yb)
    exact hlt_sub H1 H2 (fun i => dlt_mono (q1 i) (by omega)) (fun i => dlt_mono (q2 i) (by omega))
  refine ⟨pc, fun i hi => ?_, ?_, ⟨k2 (c2 b e) * k2 cb * UA - k2 (c2 a d) * k2 ca * (X ^ (d - e) * UB), k2 (c2 b e) * k2 cb * VA - k2 (c2 a d) * k2 ca * (X ^ (d - e) * VB), c * (ca * cb), c2 b e * cb * δ, mn _ _ c0 (mn _ _ ca0 cb0), mn _ _ (mn _ _ dB.1 cb0) δ0, ?_, ?_, ?_, ?_⟩, fun D pD => ⟨fun w => ⟨?_, w.2⟩, fun w => ⟨?_, w.2⟩⟩⟩
  · have h2 := dm i hi
    rw [ec, po_km H2] at h2
    rcases D1 _ _ h2 with w | w
    · exact absurd w c0
    · exact w
  · refine hlt_fac H1 H2 (b := k2 c) ?_ (kn c c0)
    rw [show a' * k2 c = m by rw [ec]; grind]; exact ym
  · rw [po_kmul H2, po_kmul H2]
    exact eu_id ec' ea eb
  · rw [po_kmul H2, po_kmul H2]
    exact eu_dt ed
  · rw [← po_kmul H2, ← po_kmul H2]
    exact dlt_sub H2 (dlt_k H2 _ dU) (dlt_k H2 _ dUB)
  · rw [← po_kmul H2, ← po_kmul H2]
    exact dlt_sub H2 (dlt_k H2 _ dV) (dlt_k H2 _ dVB)
  · refine gauss_dv H1 H2 pD dB.1 ?_
    have e1 : k2 (c2 b e) * a = k2 c * a' + k2 (c2 a d) * (X ^ (d - e) * b) := by rw [ec']; grind
    rw [e1]
    exact dv_add (dv_mul _ w.1) (dv_mul _ (dv_mul _ w.2))
  · refine gauss_dv H1 H2 pD c0 ?_
    rw [ec']
    exact dv_sub (dv_mul _ w.1) (dv_mul _ (dv_mul _ w.2))
