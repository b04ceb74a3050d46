/-! ===== values; heights of products ===== -/
theorem po_X {S P : Type} [Lean.Grind.CommRing S] [Lean.Grind.CommRing P] {c : P → Nat → S} {k : S → P} {X : P} (H : IsPol c k X) (i : Nat) : c X i = if i = 1 then 1 else 0 := by
  have h := po_mo H 1 1 i
  rw [po_kone H, show (1 : P) * X ^ 1 = X by grind] at h
  exact h
theorem lin_dg {K R : Type} [Lean.Grind.Field K] [Lean.Grind.CommRing R] {c : R → Nat → K} {k : K → R} {Y : R} (H : IsPol c k Y) (α : K) : isDg c (Y - k α) 1 := by
  refine ⟨?_, fun i hi => ?_⟩
  · rw [po_s H, po_X H, if_pos rfl, po_k1 H]
    intro w
    exact Lean.Grind.Field.zero_ne_one (α := K) (by grind)
  · obtain ⟨j, rfl⟩ : ∃ j, i = j + 1 := ⟨i - 1, by omega⟩
    rw [po_s H, po_X H, if_neg (by omega), po_k1 H]; grind
theorem ev_ex {K R : Type} [Lean.Grind.Field K] [Lean.Grind.CommRing R] {c : R → Nat → K} {k : K → R} {Y : R} (H : IsPol c k Y) (α : K) (r : R) : ∃ (v : K) (q : R), r = q * (Y - k α) + k v := by
  obtain ⟨q, y, e, h⟩ := fe_dv H (lin_dg H α) r
  refine ⟨c y 0, q, ?_⟩
  have : y = k (c y 0) := po_ext H (fun i => by
    rw [po_ki H]
    by_cases hi : i = 0
    · rw [if_pos hi, hi]
    · rw [if_neg hi]; exact h i (by omega))
  rw [← this]; exact e
noncomputable def ev {K R : Type} [Lean.Grind.Field K] [Lean.Grind.CommRing R] (k : K → R) (Y : R) (α : K) (r : R) : K := @dite K (∃ (v : K) (q : R), r = q * (Y - k α) + k v) (Classical.propDecidable _) (fun h => h.choose) (fun _ => 0)
theorem ev_un {K R : Type} [Lean.Grind.Field K] [Lean.Grind.CommRing R] {c : R → Nat → K} {k : K → R} {Y : R} (H : IsPol c k Y) {α v w : K} {q x : R} (h : q * (Y - k α) + k v = x * (Y - k α) + k w) : v = w := by
  by_cases hv : v = w
  · exact hv
  · exfalso
    have e : (q - x) * (Y - k α) = k (w - v) := by
      have : k (w - v) = k w - k v := by
        have := po_kadd H (w - v) v
        rw [show w - v + v = w by grind] at this
        grind
      rw [this]; grind
    have hn : q - x ≠ 0 := fun z => by
      rw [z] at e
      have h2 : k (w - v) = k 0 := by rw [po_kz H]; grind
      have h3 := po_kinj H h2
      exact hv (by grind)
    obtain ⟨d, hd⟩ := po_dg H hn
    have h1 := isDg_mul H fld_dom hd (lin_dg H α)
    rw [e] at h1
    have h2 := isDg_lt h1 (n := 1) (fun i hi => by
      obtain ⟨j, rfl⟩ : ∃ j, i = j + 1 := ⟨i - 1, by omega⟩
      exact po_k1 H _ j)
    omega
theorem ev_u {K R : Type} [Lean.Grind.Field K] [Lean.Grind.CommRing R] {c : R → Nat → K} {k : K → R} {Y : R} (H : IsPol c k Y) {α v : K} {r q : R} (h : r = q * (Y - k α) + k v) : ev k Y α r = v := by
  have hx : ∃ (v : K) (q : R), r = q * (Y - k α) + k v := ⟨v, q, h⟩
  have e : ev k Y α r = hx.choose := dif_pos hx
  obtain ⟨x, hq⟩ := hx.choose_spec
  rw [e]
  exact ev_un H (hq.symm.trans h)
theorem ev_q {K R : Type} [Lean.Grind.Field K] [Lean.Grind.CommRing R] {c : R → Nat → K} {k : K → R} {Y : R} (H : IsPol c k Y) (α : K) (r : R) : ∃ q : R, r = q * (Y - k α) + k (ev k Y α r) := by
  obtain ⟨v, q, h⟩ := ev_ex H α r
  exact ⟨q, by rw [ev_u H h]; exact h⟩
theorem ev_k {K R : Type} [Lean.Grind.Field K] [Lean.Grind.CommRing R] {c : R → Nat → K} {k : K → R} {Y : R} (H : IsPol c k Y) (α s : K) : ev k Y α (k s) = s := ev_u H (q := 0) (by grind)
theorem ev_add {K R : Type} [Lean.Grind.Field K] [Lean.Grind.CommRing R] {c : R → Nat → K} {k : K → R} {Y : R} (H : IsPol c k Y) (α : K) (a b : R) : ev k Y α (a + b) = ev k Y α a + ev k Y α b := by
  obtain ⟨q, h1⟩ := ev_q H α a
  obtain ⟨x, h2⟩ := ev_q H α b
  refine ev_u H (q := q + x) ?_
  rw [po_kadd H]; grind
theorem ev_mul {K R : Type} [Lean.Grind.Field K] [Lean.Grind.CommRing R] {c : R → Nat → K} {k : K → R} {Y : R} (H : IsPol c k Y) (α : K) (a b : R) : ev k Y α (a * b) = ev k Y α a * ev k Y α b := by
  obtain ⟨q, h1⟩ := ev_q H α a
  obtain ⟨x, h2⟩ := ev_q H α b
  refine ev_u H (q := q * b + k (ev k Y α a) * x) ?_
  rw [po_kmul H]; grind
theorem ev_Y {K R : Type} [Lean.Grind.Field K] [Lean.Grind.CommRing R] {c : R → Nat → K} {k : K → R} {Y : R} (H : IsPol c k Y) (α : K) : ev k Y α Y = α := ev_u H (q := 1) (by grind)
theorem ev_0 {K R : Type} [Lean.Grind.Field K] [Lean.Grind.CommRing R] {c : R → Nat → K} {k : K → R} {Y : R} (H : IsPol c k Y) (α : K) : ev k Y α (0 : R) = 0 := ev_u H (q := 0) (by rw [po_kz H]; grind)
theorem ev_1 {K R : Type} [Lean.Grind.Field K] [Lean.Grind.CommRing R] {c : R → Nat → K} {k : K → R} {Y : R} (H : IsPol c k Y) (α : K) : ev k Y α (1 : R) = 1 := ev_u H (q := 0) (by rw [po_kone H]; grind)
theorem ev_sub {K R : Type} [Lean.Grind.Field K] [Lean.Grind.CommRing R] {c : R → Nat → K} {k : K → R} {Y : R} (H : IsPol c k Y) (α : K) (a b : R) : ev k Y α (a - b) = ev k Y α a - ev k Y α b := by
  have h := ev_add H α (a - b) b
  rw [show a - b + b = a by grind] at h
  grind
theorem ev_root {K R : Type} [Lean.Grind.Field K] [Lean.Grind.CommRing R] {c : R → Nat → K} {k : K → R} {Y : R} (H : IsPol c k Y) {α : K} {r : R} (h : ev k Y α r = 0) : dv (Y - k α) r := by
  obtain ⟨q, e⟩ := ev_q H α r
  rw [h, po_kz H] at e
  exact ⟨q, by grind⟩
theorem roots_le {K R : Type} [Lean.Grind.Field K] [Lean.Grind.CommRing R] {c : R → Nat → K} {k : K → R} {Y : R} (H : IsPol c k Y) : ∀ (n d : Nat) (r : R) (a : Nat → K), isDg c r d → (∀ i j, i < n → j < n → a i = a j → i = j) → (∀ i, i < n → ev k Y (a i) r = 0) → n ≤ d
  | 0, d, r, a, _, _, _ => Nat.zero_le d
  | n + 1, d, r, a, hr, hi, hz => by
    obtain ⟨q, e⟩ := ev_root H (hz n (by omega))
    have q0 : q ≠ 0 := fun w => isDg_nz H hr (by rw [e, w]; grind)
    obtain ⟨b, hb⟩ := po_dg H q0
    have h1 := isDg_mul H fld_dom (lin_dg H (a n)) hb
    rw [← e] at h1
    have h2 := isDg_u h1 hr
    have h3 := roots_le H n b q a hb (fun i j x y w => hi i j (by omega) (by omega) w) (fun i hin => by
      have h4 := hz i (by omega)
      rw [e, ev_mul H, ev_sub H, ev_Y H, ev_k H] at h4
      rcases fld_dom _ _ h4 with w | w
      · exfalso
        have := hi i n (by omega) (by omega) (by grind)
        omega
      · exact w)
    omega
theorem interp {K R : Type} [Lean.Grind.Field K] [Lean.Grind.CommRing R] {c : R → Nat → K} {k : K → R} {Y : R} (H : IsPol c k Y) {n : Nat} {r s : R} {a : Nat → K} (hr : dlt c r n) (hs : dlt c s n) (hi : ∀ i j, i < n → j < n → a i = a j → i = j) (h : ∀ i, i < n → ev k Y (a i) r = ev k Y (a i) s) : r = s := by
  by_cases hz : r - s = 0
  · grind
  · exfalso
    obtain ⟨d, hd⟩ := po_dg H hz
    have h1 := roots_le H n d (r - s) a hd hi (fun i hin => by rw [ev_sub H, h i hin]; grind)
    have h2 := isDg_lt hd (dlt_sub H hr hs)
    omega
/-- the rows in x where y is an element: again polynomials in one unknown -/
theorem eA_ex {K R A : Type} [Lean.Grind.Field K] [Lean.Grind.CommRing R] [Lean.Grind.CommRing A] {c1 : R → Nat → K} {k1 : K → R} {Y : R} (H1 : IsPol c1 k1 Y) {c2 : A → Nat → R} {k2 : R → A} {X : A} (H2 : IsPol c2 k2 X) (α : K) (a : A) : ∃ b : R, ∀ i, c1 b i = ev k1 Y α (c2 a i) := by
  obtain ⟨n, hn⟩ := H2.2.2.2.2.2.2.2 a
  obtain ⟨b, h1, h2⟩ := po_mk H1 (fun i => ev k1 Y α (c2 a i)) n
  refine ⟨b, fun i => ?_⟩
  by_cases hi : i < n
  · exact h1 i hi
  · rw [h2 i (by omega), hn i (by omega), ev_0 H1]
noncomputable def eA {K R A : Type} [Lean.Grind.Field K] [Lean.Grind.CommRing R] (c1 : R → Nat → K) (k1 : K → R) (Y : R) (c2 : A → Nat → R) (α : K) (a : A) : R := @dite R (∃ b : R, ∀ i, c1 b i = ev k1 Y α (c2 a i)) (Classical.propDecidable _) (fun h => h.choose) (fun _ => 0)
theorem eA_c {K R A : Type} [Lean.Grind.Field K] [Lean.Grind.CommRing R] [Lean.Grind.CommRing A] {c1 : R → Nat → K} {k1 : K → R} {Y : R} (H1 : IsPol c1 k1 Y) {c2 : A → Nat → R} {k2 : R → A} {X : A} (H2 : IsPol c2 k2 X) (α : K) (a : A) (i : Nat) : c1 (eA c1 k1 Y c2 α a) i = ev k1 Y α (c2 a i) := by
  have hx := eA_ex H1 H2 α a
  have e : eA c1 k1 Y c2 α a = hx.choose := dif_pos hx
  rw [e]; exact hx.choose_spec i
theorem eA_add {K R A : Type} [Lean.Grind.Field K] [Lean.Grind.CommRing R] [Lean.Grind.CommRing A] {c1 : R → Nat → K} {k1 : K → R} {Y : R} (H1 : IsPol c1 k1 Y) {c2 : A → Nat → R} {k2 : R → A} {X : A} (H2 : IsPol c2 k2 X) (α : K) (a b : A) : eA c1 k1 Y c2 α (a + b) = eA c1 k1 Y c2 α a + eA c1 k1 Y c2 α b := po_ext H1 (fun i => by
  rw [po_a H1, eA_c H1 H2, eA_c H1 H2, eA_c H1 H2, po_a H2, ev_add H1])
theorem eA_k {K R A : Type} [Lean.Grind.Field K] [Lean.Grind.CommRing R] [Lean.Grind.CommRing A] {c1 : R → Nat → K} {k1 : K → R} {Y : R} (H1 : IsPol c1 k1 Y) {c2 : A → Nat → R} {k2 : R → A} {X : A} (H2 : IsPol c2 k2 X) (α : K) (r : R) (a : A) : eA c1 k1 Y c2 α (k2 r * a) = k1 (ev k1 Y α r) * eA c1 k1 Y c2 α a := po_ext H1 (fun i => by
  rw [po_km H1, eA_c H1 H2, eA_c H1 H2, po_km H2, ev_mul H1])
theorem eA_x {K R A : Type} [Lean.Grind.Field K] [Lean.Grind.CommRing R] [Lean.Grind.CommRing A] {c1 : R → Nat → K} {k1 : K → R} {Y : R} (H1 : IsPol c1 k1 Y) {c2 : A → Nat → R} {k2 : R → A} {X : A} (H2 : IsPol c2 k2 X) (α : K) (a : A) (n : Nat) : eA c1 k1 Y c2 α (X ^ n * a) = Y ^ n * eA c1 k1 Y c2 α a := po_ext H1 (fun i => by
  by_cases hi : i < n
  · rw [po_xl H1 _ n i hi, eA_c H1 H2, po_xl H2 _ n i hi, ev_0 H1]
  · obtain ⟨j, rfl⟩ : ∃ j, i = j + n := ⟨i - n, by omega⟩
    rw [po_x H1, eA_c H1 H2, eA_c H1 H2, po_x H2])
theorem eA_0 {K R A : Type} [Lean.Grind.Field K] [Lean.Grind.CommRing R] [Lean.Grind.CommRing A] {c1 : R → Nat → K} {k1 : K → R} {Y : R} (H1 : IsPol c1 k1 Y) {c2 : A → Nat → R} {k2 : R → A} {X : A} (H2 : IsPol c2 k2 X) (α : K) : eA c1 k1 Y c2 α (0 : A) = 0 := po_ext H1 (fun i => by rw [eA_c H1 H2, po_0 H2, ev_0 H1, po_0 H1])
theorem eA_muln {K R A : Type} [Lean.Grind.Field K] [Lean.Grind.CommRing R] [Lean.Grind.CommRing A] {c1 : R → Nat → K} {k1 : K → R} {Y : R} (H1 : IsPol c1 k1 Y) {c2 : A → Nat → R} {k2 : R → A} {X : A} (H2 : IsPol c2 k2 X) (α : K) (b : A) : ∀ (n : Nat) (a : A), dlt c2 a n → eA c1 k1 Y c2 α (a * b) = eA c1 k1 Y c2 α a * eA c1 k1 Y c2 α b
  | 0, a, ha => by rw [dlt_z H2 ha, show (0 : A) * b = 0 by grind, eA_0 H1 H2]; grind
  | n + 1, a, ha => by
    obtain ⟨a', e, h1, -⟩ := po_dec H2 ha
    have e2 : a * b = a' * b + X ^ n * (k2 (c2 a n) * b) := by grind
    have e3 : eA c1 k1 Y c2 α a = eA c1 k1 Y c2 α a' + Y ^ n * k1 (ev k1 Y α (c2 a n)) := by
      have h3 : a = a' + X ^ n * (k2 (c2 a n) * 1) := by grind
      have h4 : eA c1 k1 Y c2 α a = eA c1 k1 Y c2 α (a' + X ^ n * (k2 (c2 a n) * 1)) := congrArg _ h3
      have h5 : eA c1 k1 Y c2 α (1 : A) = 1 := po_ext H1 (fun i => by
        rw [eA_c H1 H2]
        cases i with
        | zero => rw [H2.2.2.2.2.2.2.1, H1.2.2.2.2.2.2.1, ev_1 H1]
        | succ i => rw [H2.2.2.2.2.2.1, H1.2.2.2.2.2.1, ev_0 H1])
      rw [h4, eA_add H1 H2, eA_x H1 H2, eA_k H1 H2, h5]; grind
    rw [e2, eA_add H1 H2, eA_muln H1 H2 α b n a' h1, eA_x H1 H2, eA_k H1 H2, e3]
    grind
theorem eA_mul {K R A : Type} [Lean.Grind.Field K] [Lean.Grind.CommRing R] [Lean.Grind.CommRing A] {c1 : R → Nat → K} {k1 : K → R} {Y : R} (H1 : IsPol c1 k1 Y) {c2 : A → Nat → R} {k2 : R → A} {X : A} (H2 : IsPol c2 k2 X) (α : K) (a b : A) : eA c1 k1 Y c2 α (a * b) = eA c1 k1 Y c2 α a * eA c1 k1 Y c2 α b := by
  obtain ⟨n, hn⟩ := H2.2.2.2.2.2.2.2 a
  exact eA_muln H1 H2 α b n a hn
theorem eA_k2 {K R A : Type} [Lean.Grind.Field K] [Lean.Grind.CommRing R] [Lean.Grind.CommRing A] {c1 : R → Nat → K} {k1 : K → R} {Y : R} (H1 : IsPol c1 k1 Y) {c2 : A → Nat → R} {k2 : R → A} {X : A} (H2 : IsPol c2 k2 X) (α : K) (r : R) : eA c1 k1 Y c2 α (k2 r) = k1 (ev k1 Y α r) := po_ext H1 (fun i => by
  rw [eA_c H1 H2, po_ki H2, po_ki H1]
  split
  · rfl
  · exact ev_0 H1 α)
theorem eA_dg {K R A : Type} [Lean.Grind.Field K] [Lean.Grind.CommRing R] [Lean.Grind.CommRing A] {c1 : R → Nat → K} {k1 : K → R} {Y : R} (H1 : IsPol c1 k1 Y) {c2 : A → Nat → R} {k2 : R → A} {X : A} (H2 : IsPol c2 k2 X) {α : K} {a : A} {d : Nat} (ha : isDg c2 a d) (h : ev k1 Y α (c2 a d) ≠ 0) : isDg c1 (eA c1 k1 Y c2 α a) d := ⟨by rw [eA_c H1 H2]; exact h, fun i hi => by rw [eA_c H1 H2, ha.2 i hi, ev_0 H1]⟩
/-! the height of a product -/
def isHt {K R A : Type} [Lean.Grind.Field K] (c1 : R → Nat → K) (c2 : A → Nat → R) (a : A) (h : Nat) : Prop := hlt c1 c2 a (h + 1) ∧ ∃ i, c1 (c2 a i) h ≠ 0
theorem ht_bd {K R A : Type} [Lean.Grind.Field K] [Lean.Grind.CommRing R] [Lean.Grind.CommRing A] {c1 : R → Nat → K} {k1 : K → R} {Y : R} (H1 : IsPol c1 k1 Y) {c2 : A → Nat → R} {k2 : R → A} {X : A} (H2 : IsPol c2 k2 X) (a : A) : ∃ h, hlt c1 c2 a h := by
  obtain ⟨n, hn⟩ := H2.2.2.2.2.2.2.2 a
  have : ∀ m : Nat, ∃ h, ∀ i, i < m → dlt c1 (c2 a i) h := by
    intro m
    induction m with
    | zero => exact ⟨0, fun i hi => absurd hi (by omega)⟩
    | succ m ih =>
      obtain ⟨h, h1⟩ := ih
      obtain ⟨l, h2⟩ := H1.2.2.2.2.2.2.2 (c2 a m)
      refine ⟨h + l, fun i hi => ?_⟩
      by_cases him : i = m
      · rw [him]; exact dlt_mono h2 (by omega)
      · exact dlt_mono (h1 i (by omega)) (by omega)
  obtain ⟨h, h1⟩ := this n
  refine ⟨h, fun i => ?_⟩
  by_cases hi : i < n
  · exact h1 i hi
  · rw [hn i (by omega)]; exact dlt_0 H1 h
theorem isHt_ex {K R A : Type} [Lean.Grind.Field K] [Lean.Grind.CommRing R] [Lean.Grind.CommRing A] {c1 : R → Nat → K} {k1 : K → R} {Y : R} (H1 : IsPol c1 k1 Y) {c2 : A → Nat → R} {k2 : R → A} {X : A} (H2 : IsPol c2 k2 X) {a : A} (ha : a ≠ 0) : ∃ h, isHt c1 c2 a h := by
  obtain ⟨l, hl⟩ := ht_bd H1 H2 a
  obtain ⟨m, hm, hmin⟩ := least (Q := fun h => hlt c1 c2 a h) l hl
  have m0 : m ≠ 0 := fun w => ha (po_ext H2 (fun i => by rw [w] at hm; rw [dlt_z H1 (hm i), po_0 H2]))
  obtain ⟨h, rfl⟩ : ∃ h, m = h + 1 := ⟨m - 1, by omega⟩
  refine ⟨h, hm, ?_⟩
  refine Classical.byContradiction (fun w => hmin h (by omega) (fun i j hj => ?_))
  by_cases hjh : j = h
  · rw [hjh]
    exact Classical.byContradiction (fun z => w ⟨i, z⟩)
  · exact hm i j (by omega)
/-- the part up to the highest place in x that has the height -/
theorem ht_cut {K R A : Type} [Lean.Grind.Field K] [Lean.Grind.CommRing R] [Lean.Grind.CommRing A] {c1 : R → Nat → K} {k1 : K → R} {Y : R} (H1 : IsPol c1 k1 Y) {c2 : A → Nat → R} {k2 : R → A} {X : A} (H2 : IsPol c2 k2 X) {a : A} {h : Nat} (ha : isHt c1 c2 a h) : ∃ (i : Nat) (a1 a2 : A), a = a1 + a2 ∧ dlt c2 a1 (i + 1) ∧ hlt c1 c2 a1 (h + 1) ∧ hlt c1 c2 a2 h ∧ c1 (c2 a1 i) h ≠ 0 := by
  obtain ⟨n, hn⟩ := H2.2.2.2.2.2.2.2 a
  obtain ⟨j, hj⟩ := ha.2
  have key : ∀ (m : Nat) (a : A), dlt c2 a m → hlt c1 c2 a (h + 1) → (∃ j, c1 (c2 a j) h ≠ 0) → ∃ (i : Nat) (a1 a2 : A), a = a1 + a2 ∧ dlt c2 a1 (i + 1) ∧ hlt c1 c2 a1 (h + 1) ∧ hlt c1 c2 a2 h ∧ c1 (c2 a1 i) h ≠ 0 := by
    intro m
    induction m with
    | zero =>
      intro a hd _ ⟨j, hj⟩
      rw [dlt_z H2 hd, po_0 H2, po_0 H1] at hj
      exact absurd rfl hj
    | succ m ih =>
      intro a hd hh ⟨j, hj⟩
      by_cases hm : c1 (c2 a m) h = 0
      · obtain ⟨a', e, h1, h2⟩ := po_dec H2 hd
        have hh' : hlt c1 c2 a' (h + 1) := fun i => by
          by_cases hi : i < m
          · rw [h2 i hi]; exact hh i
          · rw [h1 i (by omega)]; exact dlt_0 H1 _
        have hjm : j < m := by
          rcases Nat.lt_or_ge j m with w | w
          · exact w
          · by_cases hjm : j = m
            · rw [hjm] at hj; exact absurd hm hj
            · rw [hd j (by omega), po_0 H1] at hj; exact absurd rfl hj
        obtain ⟨i, a1, a2, e2, q1, q2, q3, q4⟩ := ih a' h1 hh' ⟨j, by rw [h2 j hjm]; exact hj⟩
        refine ⟨i, a1, a2 + k2 (c2 a m) * X ^ m, by grind, q1, q2, hlt_add H1 H2 q3 (fun l => ?_), q4⟩
        rw [po_mo H2]
        by_cases hl : l = m
        · rw [if_pos hl]
          intro x hx
          by_cases hxh : x = h
          · rw [hxh]; exact hm
          · exact hh m x (by omega)
        · rw [if_neg hl]; exact dlt_0 H1 _
      · exact ⟨m, a, 0, by grind, hd, hh, fun l => by rw [po_0 H2]; exact dlt_0 H1 _, hm⟩
  exact key n a hn ha.1 ⟨j, hj⟩
theorem isHt_mul {K R A : Type} [Lean.Grind.Field K] [Lean.Grind.CommRing R] [Lean.Grind.CommRing A] {c1 : R → Nat → K} {k1 : K → R} {Y : R} (H1 : IsPol c1 k1 Y) {c2 : A → Nat → R} {k2 : R → A} {X : A} (H2 : IsPol c2 k2 X) {a b : A} {h l : Nat} (ha : isHt c1 c2 a h) (hb : isHt c1 c2 b l) : isHt c1 c2 (a * b) (h + l) := by
  refine ⟨fun i => dlt_mono (hlt_m H1 H2 ha.1 hb.1 i) (by omega), ?_⟩
  obtain ⟨i, a1, a2, e, q1, q2, q3, q4⟩ := ht_cut H1 H2 ha
  obtain ⟨j, b1, b2, e', p1, p2, p3, p4⟩ := ht_cut H1 H2 hb
  refine ⟨i + j, ?_⟩
  have e2 : a * b = a1 * b1 + (b2 * a1 + a2 * b) := by grind
  have h1 : c1 (c2 (b2 * a1) (i + j)) (h + l) = 0 := hlt_m H1 H2 p3 q2 (i + j) (h + l) (by omega)
  have h2 : c1 (c2 (a2 * b) (i + j)) (h + l) = 0 := hlt_m H1 H2 q3 hb.1 (i + j) (h + l) (by omega)
  rw [e2, two_a H1 H2, two_a H1 H2, h1, h2, po_lead H2 q1 p1, po_lead H1 (q2 i) (p2 j)]
  intro w
  have w' : c1 (c2 a1 i) h * c1 (c2 b1 j) l = 0 := by grind
  rcases fld_dom _ _ w' with z | z
  · exact q4 z
  · exact p4 z
theorem hlt_fac {K R A : Type} [Lean.Grind.Field K] [Lean.Grind.CommRing R] [Lean.Grind.CommRing A] {c1 : R → Nat → K} {k1 : K → R} {Y : R} (H1 : IsPol c1 k1 Y) {c2 : A → Nat → R} {k2 : R → A} {X : A} (H2 : IsPol c2 k2 X) {a b : A} {n : Nat} (h : hlt c1 c2 (a * b) n) (hb : b ≠ 0) : hlt c1 c2 a n := by
  by_cases ha : a = 0
  · intro i; rw [ha, po_0 H2]; exact dlt_0 H1 n
  · obtain ⟨x, hx⟩ := isHt_ex H1 H2 ha
    obtain ⟨y, hy⟩ := isHt_ex H1 H2 hb
    obtain ⟨-, i, hi⟩ := isHt_mul H1 H2 hx hy
    have : x + y < n := by
      rcases Nat.lt_or_ge (x + y) n with w | w
      · exact w
      · exact absurd (h i (x + y) w) hi
    exact fun j => dlt_mono (hx.1 j) (by omega)
