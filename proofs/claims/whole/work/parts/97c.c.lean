/-! ===== polynomials in x over polynomials in y: Gauss ===== -/
def prim {R A : Type} [Lean.Grind.CommRing R] (c2 : A → Nat → R) (a : A) : Prop := ∀ e : R, (∀ i, dv e (c2 a i)) → unt e
def irr {R : Type} [Lean.Grind.CommRing R] (a : R) : Prop := ¬ unt a ∧ a ≠ 0 ∧ ∀ x y : R, a = x * y → unt x ∨ unt y
theorem po_one {K R : Type} [Lean.Grind.Field K] [Lean.Grind.CommRing R] {c : R → Nat → K} {k : K → R} {Y : R} (H : IsPol c k Y) : (1 : R) ≠ 0 := fun w => by
  have := H.2.2.2.2.2.2.1
  rw [w, po_0 H] at this
  exact Lean.Grind.Field.zero_ne_one this
theorem irr_ex {K R : Type} [Lean.Grind.Field K] [Lean.Grind.CommRing R] {c : R → Nat → K} {k : K → R} {Y : R} (H : IsPol c k Y) : ∀ (n d : Nat) (r : R), d < n → isDg c r d → ¬ unt r → ∃ q, irr q ∧ dv q r
  | 0, d, r, hd, _, _ => absurd hd (by omega)
  | n + 1, d, r, hd, hr, hu => by
    by_cases hi : ∀ x y : R, r = x * y → unt x ∨ unt y
    · exact ⟨r, ⟨hu, isDg_nz H hr, hi⟩, dv_refl r⟩
    · obtain ⟨x, hx⟩ := Classical.not_forall.mp hi
      obtain ⟨y, hy⟩ := Classical.not_forall.mp hx
      obtain ⟨e, hxy⟩ := Classical.not_imp.mp hy
      have nx : ¬ unt x := fun w => hxy (Or.inl w)
      have ny : ¬ unt y := fun w => hxy (Or.inr w)
      have r0 := isDg_nz H hr
      have x0 : x ≠ 0 := fun w => r0 (by rw [e, w]; grind)
      have y0 : y ≠ 0 := fun w => r0 (by rw [e, w]; grind)
      obtain ⟨a, ha⟩ := po_dg H x0
      obtain ⟨b, hb⟩ := po_dg H y0
      have hm := isDg_mul H fld_dom ha hb
      rw [← e] at hm
      have hab := isDg_u hm hr
      have b1 : b ≠ 0 := fun w => ny (by rw [w] at hb; exact fe_unt H hb)
      obtain ⟨q, q1, q2⟩ := irr_ex H n a x (by omega) ha nx
      exact ⟨q, q1, dv_tr q2 ⟨y, e⟩⟩
theorem irr_pr {K R : Type} [Lean.Grind.Field K] [Lean.Grind.CommRing R] {c : R → Nat → K} {k : K → R} {Y : R} (H : IsPol c k Y) {q a b : R} (hq : irr q) (h : dv q (a * b)) : dv q a ∨ dv q b := by
  obtain ⟨g, s, t, e, g1, g2⟩ := fe_bz H q a
  obtain ⟨x, hx⟩ := g1
  rcases hq.2.2 g x hx with w | w
  · obtain ⟨u, hu⟩ := w
    obtain ⟨z, hz⟩ := h
    exact Or.inr ⟨u * (s * b + t * z), by grind⟩
  · obtain ⟨u, hu⟩ := w
    refine Or.inl (dv_tr ⟨u, ?_⟩ g2)
    grind
theorem dv_cf {S P : Type} [Lean.Grind.CommRing S] [Lean.Grind.CommRing P] {c : P → Nat → S} {k : S → P} {X : P} (H : IsPol c k X) {a : P} {r : S} (h : ∀ i, dv r (c a i)) : ∃ a', a = k r * a' := by
  obtain ⟨n, hn⟩ := H.2.2.2.2.2.2.2 a
  obtain ⟨a', h1, h2⟩ := po_mk H (fun i => (h i).choose) n
  refine ⟨a', po_ext H (fun i => ?_)⟩
  rw [po_km H]
  by_cases hi : i < n
  · rw [h1 i hi]; exact (h i).choose_spec
  · rw [h2 i (by omega), hn i (by omega)]; grind
theorem cf_dv {S P : Type} [Lean.Grind.CommRing S] [Lean.Grind.CommRing P] {c : P → Nat → S} {k : S → P} {X : P} (H : IsPol c k X) {a b : P} {r : S} (h : a = k r * b) (i : Nat) : dv r (c a i) := ⟨c b i, by rw [h, po_km H]⟩
theorem ga_de {S P : Type} [Lean.Grind.CommRing S] [Lean.Grind.CommRing P] {c : P → Nat → S} {k : S → P} {X : P} (H : IsPol c k X) (q : S) : ∀ (n : Nat) (a : P), dlt c a n → (∃ a', a = k q * a') ∨ ∃ i a1 a2, a = a1 + k q * a2 ∧ dlt c a1 (i + 1) ∧ ¬ dv q (c a1 i)
  | 0, a, ha => Or.inl ⟨0, by rw [dlt_z H ha]; grind⟩
  | n + 1, a, ha => by
    by_cases hs : dv q (c a n)
    · obtain ⟨s, es⟩ := hs
      obtain ⟨b, e, h1, -⟩ := po_dec H ha
      rw [es, po_kmul H] at e
      rcases ga_de H q n b h1 with ⟨b', hb⟩ | ⟨i, a1, a2, e2, h2, h3⟩
      · exact Or.inl ⟨b' + k s * X ^ n, by grind⟩
      · exact Or.inr ⟨i, a1, a2 + k s * X ^ n, by grind, h2, h3⟩
    · exact Or.inr ⟨n, a, 0, by grind, ha, hs⟩
theorem ga_0 {K R A : Type} [Lean.Grind.Field K] [Lean.Grind.CommRing R] [Lean.Grind.CommRing A] {c1 : R → Nat → K} {k1 : K → R} {Y : R} (H1 : IsPol c1 k1 Y) {c2 : A → Nat → R} {k2 : R → A} {X : A} (H2 : IsPol c2 k2 X) {q : R} (hq : irr q) {p h : A} (hd : dv (k2 q) (p * h)) : (∃ p', p = k2 q * p') ∨ ∃ h', h = k2 q * h' := by
  obtain ⟨n, hn⟩ := H2.2.2.2.2.2.2.2 p
  obtain ⟨m, hm⟩ := H2.2.2.2.2.2.2.2 h
  rcases ga_de H2 q n p hn with w | ⟨i, a1, a2, e, h1, h2⟩
  · exact Or.inl w
  · rcases ga_de H2 q m h hm with w | ⟨j, b1, b2, e', h1', h2'⟩
    · exact Or.inr w
    · exfalso
      obtain ⟨z, hz⟩ := hd
      have e3 : a1 * b1 = k2 q * (z - a1 * b2 - a2 * b1 - k2 q * (a2 * b2)) := by grind
      have h3 := cf_dv H2 e3 (i + j)
      rw [po_lead H2 h1 h1'] at h3
      rcases irr_pr H1 hq h3 with w | w
      · exact h2 w
      · exact h2' w
theorem ga_1 {K R A : Type} [Lean.Grind.Field K] [Lean.Grind.CommRing R] [Lean.Grind.CommRing A] {c1 : R → Nat → K} {k1 : K → R} {Y : R} (H1 : IsPol c1 k1 Y) {c2 : A → Nat → R} {k2 : R → A} {X : A} (H2 : IsPol c2 k2 X) {p : A} (hp : prim c2 p) : ∀ (n d : Nat) (r : R) (h : A), d < n → isDg c1 r d → dv (k2 r) (p * h) → dv (k2 r) h
  | 0, d, r, h, hd, _, _ => absurd hd (by omega)
  | n + 1, d, r, h, hd, hr, hh => by
    have D1 := po_dom H1 fld_dom
    have D2 := po_dom H2 D1
    by_cases hu : unt r
    · obtain ⟨u, hu⟩ := hu
      exact unt_dv ⟨k2 u, by rw [← po_kmul H2, hu, po_kone H2]⟩ h
    · obtain ⟨q, q1, x, hx⟩ := irr_ex H1 (d + 1) d r (by omega) hr hu
      obtain ⟨z, hz⟩ := hh
      rw [hx, po_kmul H2] at hz
      have kq : k2 q ≠ 0 := fun w => q1.2.1 (po_kinj H2 (by rw [w, po_kz H2]))
      rcases ga_0 H1 H2 q1 (p := p) (h := h) ⟨k2 x * z, by grind⟩ with ⟨p', hp'⟩ | ⟨h', hh'⟩
      · exact absurd (hp q (cf_dv H2 hp')) q1.1
      · have e1 : k2 q * (p * h') = k2 q * (k2 x * z) := by grind
        have e2 := dom_can D2 kq e1
        have r0 := isDg_nz H1 hr
        have x0 : x ≠ 0 := fun w => r0 (by rw [hx, w]; grind)
        obtain ⟨a, ha⟩ := po_dg H1 q1.2.1
        obtain ⟨b, hb⟩ := po_dg H1 x0
        have hm := isDg_mul H1 fld_dom ha hb
        rw [← hx] at hm
        have hab := isDg_u hm hr
        have a1 : a ≠ 0 := fun w => q1.1 (by rw [w] at ha; exact fe_unt H1 ha)
        obtain ⟨w, hw⟩ := ga_1 H1 H2 hp n b x h' (by omega) hb ⟨z, e2⟩
        exact ⟨w, by rw [hx, po_kmul H2]; grind⟩
/-- Gauss -/
theorem gauss {K R A : Type} [Lean.Grind.Field K] [Lean.Grind.CommRing R] [Lean.Grind.CommRing A] {c1 : R → Nat → K} {k1 : K → R} {Y : R} (H1 : IsPol c1 k1 Y) {c2 : A → Nat → R} {k2 : R → A} {X : A} (H2 : IsPol c2 k2 X) {p h : A} {r : R} (hp : prim c2 p) (hr : r ≠ 0) (hd : dv (k2 r) (p * h)) : dv (k2 r) h := by
  obtain ⟨d, hd1⟩ := po_dg H1 hr
  exact ga_1 H1 H2 hp (d + 1) d r h (by omega) hd1 hd
theorem gauss_dv {K R A : Type} [Lean.Grind.Field K] [Lean.Grind.CommRing R] [Lean.Grind.CommRing A] {c1 : R → Nat → K} {k1 : K → R} {Y : R} (H1 : IsPol c1 k1 Y) {c2 : A → Nat → R} {k2 : R → A} {X : A} (H2 : IsPol c2 k2 X) {g f : A} {l : R} (hg : prim c2 g) (hl : l ≠ 0) (h : dv g (k2 l * f)) : dv g f := by
  obtain ⟨q, hq⟩ := h
  have D2 := po_dom H2 (po_dom H1 fld_dom)
  have kl : k2 l ≠ 0 := fun w => hl (po_kinj H2 (by rw [w, po_kz H2]))
  obtain ⟨q', hq'⟩ := gauss H1 H2 hg hl (h := q) ⟨f, hq.symm⟩
  refine ⟨q', dom_can D2 kl ?_⟩
  rw [hq, hq']; grind
theorem prim_dv {K R A : Type} [Lean.Grind.Field K] [Lean.Grind.CommRing R] [Lean.Grind.CommRing A] {c1 : R → Nat → K} {k1 : K → R} {Y : R} (H1 : IsPol c1 k1 Y) {c2 : A → Nat → R} {k2 : R → A} {X : A} (H2 : IsPol c2 k2 X) {b : A} {e s : R} (hb : prim c2 b) (he : e ≠ 0) (h : ∀ i, dv e (s * c2 b i)) : dv e s := by
  obtain ⟨a', ha⟩ := dv_cf H2 (a := k2 s * b) (r := e) (fun i => by rw [po_km H2]; exact h i)
  obtain ⟨w, hw⟩ := gauss H1 H2 hb he (h := k2 s) ⟨a', by rw [← ha]; grind⟩
  have := cf_dv H2 hw 0
  rw [po_k0 H2] at this
  exact this
/-- contents -/
theorem cont_ex {K R A : Type} [Lean.Grind.Field K] [Lean.Grind.CommRing R] [Lean.Grind.CommRing A] {c1 : R → Nat → K} {k1 : K → R} {Y : R} (H1 : IsPol c1 k1 Y) {c2 : A → Nat → R} {k2 : R → A} {X : A} (H2 : IsPol c2 k2 X) (a : A) : ∀ n : Nat, ∃ d : R, (∀ i, i < n → dv d (c2 a i)) ∧ ∀ e, (∀ i, i < n → dv e (c2 a i)) → dv e d
  | 0 => ⟨0, fun i h => absurd h (by omega), fun e _ => dv_0 e⟩
  | n + 1 => by
    obtain ⟨d, h1, h2⟩ := cont_ex H1 H2 a n
    obtain ⟨g, s, t, e, g1, g2⟩ := fe_bz H1 d (c2 a n)
    refine ⟨g, fun i hi => ?_, fun x hx => ?_⟩
    · by_cases hin : i = n
      · rw [hin]; exact g2
      · exact dv_tr g1 (h1 i (by omega))
    · rw [e]
      exact dv_add (dv_mul s (h2 x (fun i hi => hx i (by omega)))) (dv_mul t (hx n (by omega)))
/-- d is the content of a -/
def isCt {R A : Type} [Lean.Grind.CommRing R] (c2 : A → Nat → R) (a : A) (d : R) : Prop := (∀ i, dv d (c2 a i)) ∧ ∀ e, (∀ i, dv e (c2 a i)) → dv e d
theorem ct_ex {K R A : Type} [Lean.Grind.Field K] [Lean.Grind.CommRing R] [Lean.Grind.CommRing A] {c1 : R → Nat → K} {k1 : K → R} {Y : R} (H1 : IsPol c1 k1 Y) {c2 : A → Nat → R} {k2 : R → A} {X : A} (H2 : IsPol c2 k2 X) (a : A) : ∃ d : R, isCt c2 a d := by
  obtain ⟨n, hn⟩ := H2.2.2.2.2.2.2.2 a
  obtain ⟨d, h1, h2⟩ := cont_ex H1 H2 a n
  refine ⟨d, fun i => ?_, fun e he => h2 e (fun i _ => he i)⟩
  by_cases hi : i < n
  · exact h1 i hi
  · rw [hn i (by omega)]; exact dv_0 d
theorem ct_pp {K R A : Type} [Lean.Grind.Field K] [Lean.Grind.CommRing R] [Lean.Grind.CommRing A] {c1 : R → Nat → K} {k1 : K → R} {Y : R} (H1 : IsPol c1 k1 Y) {c2 : A → Nat → R} {k2 : R → A} {X : A} (H2 : IsPol c2 k2 X) {a : A} {d : R} (ha : a ≠ 0) (hd : isCt c2 a d) : d ≠ 0 ∧ ∃ a', a = k2 d * a' ∧ prim c2 a' := by
  have d0 : d ≠ 0 := fun w => ha (po_ext H2 (fun i => by
    have := hd.1 i
    rw [w] at this
    rw [dv_z this, po_0 H2]))
  obtain ⟨a', e⟩ := dv_cf H2 hd.1
  refine ⟨d0, a', e, fun x hx => ?_⟩
  have h1 : dv (d * x) d := hd.2 (d * x) (fun i => by
    obtain ⟨y, hy⟩ := hx i
    exact ⟨y, by rw [e, po_km H2, hy]; grind⟩)
  obtain ⟨y, hy⟩ := h1
  exact ⟨y, dom_can (po_dom H1 fld_dom) d0 (by grind)⟩
theorem pp_ct {K R A : Type} [Lean.Grind.Field K] [Lean.Grind.CommRing R] [Lean.Grind.CommRing A] {c1 : R → Nat → K} {k1 : K → R} {Y : R} (H1 : IsPol c1 k1 Y) {c2 : A → Nat → R} {k2 : R → A} {X : A} (H2 : IsPol c2 k2 X) {a b : A} {d : R} (hd : d ≠ 0) (e : a = k2 d * b) (hb : prim c2 b) : isCt c2 a d := by
  refine ⟨cf_dv H2 e, fun x hx => ?_⟩
  by_cases x0 : x = 0
  · exfalso
    have : a = 0 := po_ext H2 (fun i => by
      have := hx i
      rw [x0] at this
      rw [dv_z this, po_0 H2])
    have b0 : b = 0 := by
      have kd : k2 d ≠ 0 := fun w => hd (po_kinj H2 (by rw [w, po_kz H2]))
      exact dom_can (po_dom H2 (po_dom H1 fld_dom)) kd (by rw [← e, this]; grind)
    obtain ⟨y, hy⟩ := hb 0 (fun i => by rw [b0, po_0 H2]; exact dv_0 0)
    exact po_one H1 (by rw [← hy]; grind)
  · exact prim_dv H1 H2 hb x0 (fun i => by have := hx i; rw [e, po_km H2] at this; exact this)
theorem prim_nz {K R A : Type} [Lean.Grind.Field K] [Lean.Grind.CommRing R] [Lean.Grind.CommRing A] {c1 : R → Nat → K} {k1 : K → R} {Y : R} (H1 : IsPol c1 k1 Y) {c2 : A → Nat → R} {k2 : R → A} {X : A} (H2 : IsPol c2 k2 X) {b : A} (hb : prim c2 b) : b ≠ 0 := fun w => by
  obtain ⟨y, hy⟩ := hb 0 (fun i => by rw [w, po_0 H2]; exact dv_0 0)
  exact po_one H1 (by rw [← hy]; grind)
theorem pp_ex {K R A : Type} [Lean.Grind.Field K] [Lean.Grind.CommRing R] [Lean.Grind.CommRing A] {c1 : R → Nat → K} {k1 : K → R} {Y : R} (H1 : IsPol c1 k1 Y) {c2 : A → Nat → R} {k2 : R → A} {X : A} (H2 : IsPol c2 k2 X) {a : A} (ha : a ≠ 0) : ∃ d a', d ≠ 0 ∧ a = k2 d * a' ∧ prim c2 a' := by
  obtain ⟨d, hd⟩ := ct_ex H1 H2 a
  obtain ⟨d0, a', e, h⟩ := ct_pp H1 H2 ha hd
  exact ⟨d, a', d0, e, h⟩
/-- pseudo-division -/
theorem pdiv {S P : Type} [Lean.Grind.CommRing S] [Lean.Grind.CommRing P] {c : P → Nat → S} {k : S → P} {X : P} (H : IsPol c k X) (D : domn S) {b : P} {d : Nat} (hb : isDg c b d) : ∀ (n : Nat) (a : P), dlt c a n → ∃ l q r, l ≠ 0 ∧ k l * a = q * b + r ∧ dlt c r d
  | 0, a, ha => ⟨c b d, 0, 0, hb.1, by rw [dlt_z H ha]; grind, dlt_0 H d⟩
  | n + 1, a, ha => by
    by_cases hn : n < d
    · exact ⟨c b d, 0, k (c b d) * a, hb.1, by grind, dlt_k H _ (dlt_mono ha (by omega))⟩
    · have h1 : dlt c (k (c b d) * a - X ^ (n - d) * (k (c a n) * b)) n := fun i hi => by
        rw [po_s H, po_km H]
        by_cases hin : i = n
        · have : c (X ^ (n - d) * (k (c a n) * b)) (d + (n - d)) = c (k (c a n) * b) d := po_x H _ (n - d) d
          rw [show d + (n - d) = n by omega, po_km H] at this
          rw [hin, this]
          grind
        · have : dlt c (X ^ (n - d) * (k (c a n) * b)) (d + 1 + (n - d)) := dlt_x H (n - d) (dlt_k H _ hb.2)
          rw [ha i (by omega), this i (by omega)]
          grind
      obtain ⟨l, q, r, l0, e, h2⟩ := pdiv H D hb n _ h1
      refine ⟨l * c b d, q + k l * X ^ (n - d) * k (c a n), r, fun w => ?_, by rw [po_kmul H]; grind, h2⟩
      rcases D _ _ w with z | z
      · exact l0 z
      · exact hb.1 z
theorem pdv {S P : Type} [Lean.Grind.CommRing S] [Lean.Grind.CommRing P] {c : P → Nat → S} {k : S → P} {X : P} (H : IsPol c k X) (D : domn S) {b : P} {d : Nat} (hb : isDg c b d) (a : P) : ∃ l q r, l ≠ 0 ∧ k l * a = q * b + r ∧ dlt c r d := by
  obtain ⟨n, hn⟩ := H.2.2.2.2.2.2.2 a
  exact pdiv H D hb n a hn
theorem least {Q : Nat → Prop} : ∀ n, Q n → ∃ d, Q d ∧ ∀ e, e < d → ¬ Q e := by
  intro n
  induction n using Nat.strongRecOn with
  | _ n ih =>
    intro hn
    by_cases h : ∃ e, e < n ∧ Q e
    · obtain ⟨e, e1, e2⟩ := h
      exact ih e e1 e2
    · exact ⟨n, hn, fun e he w => h ⟨e, he, w⟩⟩
/-- what two have in common, with its combination -/
theorem gcd_ex {K R A : Type} [Lean.Grind.Field K] [Lean.Grind.CommRing R] [Lean.Grind.CommRing A] {c1 : R → Nat → K} {k1 : K → R} {Y : R} (H1 : IsPol c1 k1 Y) {c2 : A → Nat → R} {k2 : R → A} {X : A} (H2 : IsPol c2 k2 X) {f : A} (g : A) (hf : f ≠ 0) : ∃ (G U V : A) (r : R), prim c2 G ∧ r ≠ 0 ∧ k2 r * G = U * f + V * g ∧ dv G f ∧ dv G g := by
  have D1 := po_dom H1 fld_dom
  have D2 := po_dom H2 D1
  obtain ⟨n, hn⟩ := po_dg H2 hf
  obtain ⟨d, ⟨U, V, hd⟩, hmin⟩ := least (Q := fun d => ∃ U V : A, isDg c2 (U * f + V * g) d) n ⟨1, 0, by rw [show (1 : A) * f + 0 * g = f by grind]; exact hn⟩
  obtain ⟨r, G, r0, e, hG⟩ := pp_ex H1 H2 (isDg_nz H2 hd)
  have G0 := prim_nz H1 H2 hG
  obtain ⟨dG, hdG⟩ := po_dg H2 G0
  have kr : ∀ s : R, s ≠ 0 → k2 s ≠ 0 := fun s hs w => hs (po_kinj H2 (by rw [w, po_kz H2]))
  have krd : ∀ (s : R) (a : A) (m : Nat), s ≠ 0 → isDg c2 a m → isDg c2 (k2 s * a) m := fun s a m hs ha => ⟨fun w => by
    rw [po_km H2] at w
    rcases D1 _ _ w with z | z
    · exact hs z
    · exact ha.1 z, dlt_k H2 s ha.2⟩
  have edG : dG = d := by
    have := krd r G dG r0 hdG
    rw [← e] at this
    exact isDg_u this hd
  rw [edG] at hdG
  have key : ∀ x : A, (∃ U' V' : A, x = U' * f + V' * g) → dv G x := by
    rintro x ⟨U', V', ex⟩
    obtain ⟨l, q, y, l0, e2, hy⟩ := pdv H2 D1 hdG x
    by_cases y0 : y = 0
    · exact gauss_dv H1 H2 hG l0 ⟨q, by rw [e2, y0]; grind⟩
    · exfalso
      obtain ⟨m, hm⟩ := po_dg H2 y0
      have h1 := krd r y m r0 hm
      refine hmin m (isDg_lt hm hy) ⟨k2 r * k2 l * U' - q * U, k2 r * k2 l * V' - q * V, ?_⟩
      have : (k2 r * k2 l * U' - q * U) * f + (k2 r * k2 l * V' - q * V) * g = k2 r * y := by grind
      rw [this]; exact h1
  exact ⟨G, U, V, r, hG, r0, e.symm, key f ⟨1, 0, by grind⟩, key g ⟨0, 1, by grind⟩⟩
/-- a greatest common divisor -/
def isGD {A : Type} [Lean.Grind.CommRing A] (f g C : A) : Prop := dv C f ∧ dv C g ∧ ∀ D, dv D f → dv D g → dv D C
theorem gd_mul {K R A : Type} [Lean.Grind.Field K] [Lean.Grind.CommRing R] [Lean.Grind.CommRing A] {c1 : R → Nat → K} {k1 : K → R} {Y : R} (H1 : IsPol c1 k1 Y) {c2 : A → Nat → R} {k2 : R → A} {X : A} (H2 : IsPol c2 k2 X) {f g f1 g1 G1 : A} {a b e : R} (ha : a ≠ 0) (hb : b ≠ 0) (ef : f = k2 a * f1) (eg : g = k2 b * g1) (pf : prim c2 f1) (pg : prim c2 g1) (h1 : dv e a) (h2 : dv e b) (h3 : ∀ x, dv x a → dv x b → dv x e) (q1 : dv G1 f1) (q2 : dv G1 g1) (q3 : ∀ D, prim c2 D → dv D f1 → dv D g1 → dv D G1) : isGD f g (k2 e * G1) := by
  have D2 := po_dom H2 (po_dom H1 fld_dom)
  have f0 : f ≠ 0 := fun w => prim_nz H1 H2 pf (dom_can D2 (d := k2 a) (fun w => ha (po_kinj H2 (by rw [w, po_kz H2]))) (by rw [← ef, w]; grind))
  refine ⟨?_, ?_, fun D d1 d2 => ?_⟩
  · obtain ⟨x, hx⟩ := h1
    obtain ⟨y, hy⟩ := q1
    exact ⟨k2 x * y, by rw [ef, hx, hy, po_kmul H2]; grind⟩
  · obtain ⟨x, hx⟩ := h2
    obtain ⟨y, hy⟩ := q2
    exact ⟨k2 x * y, by rw [eg, hx, hy, po_kmul H2]; grind⟩
  · have D0 : D ≠ 0 := fun w => f0 (by obtain ⟨x, hx⟩ := d1; rw [hx, w]; grind)
    obtain ⟨d, E, d0, eD, pE⟩ := pp_ex H1 H2 D0
    have da : dv d a := by
      obtain ⟨x, hx⟩ := d1
      refine prim_dv H1 H2 pf d0 (fun i => ?_)
      have := cf_dv H2 (a := f) (b := E * x) (r := d) (by rw [hx, eD]; grind) i
      rw [ef, po_km H2] at this
      exact this
    have db : dv d b := by
      obtain ⟨x, hx⟩ := d2
      refine prim_dv H1 H2 pg d0 (fun i => ?_)
      have := cf_dv H2 (a := g) (b := E * x) (r := d) (by rw [hx, eD]; grind) i
      rw [eg, po_km H2] at this
      exact this
    have E1 : dv E f1 := gauss_dv H1 H2 pE ha (by
      obtain ⟨x, hx⟩ := d1
      exact ⟨k2 d * x, by rw [← ef, hx, eD]; grind⟩)
    have E2 : dv E g1 := gauss_dv H1 H2 pE hb (by
      obtain ⟨x, hx⟩ := d2
      exact ⟨k2 d * x, by rw [← eg, hx, eD]; grind⟩)
    obtain ⟨x, hx⟩ := h3 d da db
    obtain ⟨y, hy⟩ := q3 E pE E1 E2
    exact ⟨k2 x * y, by rw [eD, hx, hy, po_kmul H2]; grind⟩
/-- units are numbers -/
theorem un_num {K R A : Type} [Lean.Grind.Field K] [Lean.Grind.CommRing R] [Lean.Grind.CommRing A] {c1 : R → Nat → K} {k1 : K → R} {Y : R} (H1 : IsPol c1 k1 Y) {c2 : A → Nat → R} {k2 : R → A} {X : A} (H2 : IsPol c2 k2 X) {u : A} (h : unt u) : ∃ s : K, s ≠ 0 ∧ u = k2 (k1 s) := by
  have D1 := po_dom H1 fld_dom
  obtain ⟨v, hv⟩ := h
  have one : (1 : A) ≠ 0 := fun w => by
    have := H2.2.2.2.2.2.2.1
    rw [w, po_0 H2] at this
    exact po_one H1 this.symm
  have u0 : u ≠ 0 := fun w => one (by rw [← hv, w]; grind)
  have v0 : v ≠ 0 := fun w => one (by rw [← hv, w]; grind)
  obtain ⟨m, hm⟩ := po_dg H2 u0
  obtain ⟨l, hl⟩ := po_dg H2 v0
  have h1 := isDg_mul H2 D1 hm hl
  rw [hv] at h1
  have h2 := isDg_lt h1 (n := 1) (fun i hi => by
    obtain ⟨j, rfl⟩ : ∃ j, i = j + 1 := ⟨i - 1, by omega⟩
    exact H2.2.2.2.2.2.1 j)
  have m0 : m = 0 := by omega
  have l0 : l = 0 := by omega
  rw [m0] at hm
  rw [l0] at hl
  have eu : u = k2 (c2 u 0) := po_ext H2 (fun i => by
    rw [po_ki H2]
    by_cases hi : i = 0
    · rw [if_pos hi, hi]
    · rw [if_neg hi]; exact hm.2 i (by omega))
  have hun : unt (c2 u 0) := by
    refine ⟨c2 v 0, ?_⟩
    have := po_lead H2 hm.2 hl.2
    rw [hv, H2.2.2.2.2.2.2.1] at this
    exact this.symm
  have hd := fe_untd H1 hun
  refine ⟨c1 (c2 u 0) 0, hd.1, ?_⟩
  have e1 : c2 u 0 = k1 (c1 (c2 u 0) 0) := po_ext H1 (fun i => by
    rw [po_ki H1]
    by_cases hi : i = 0
    · rw [if_pos hi, hi]
    · rw [if_neg hi]; exact hd.2 i (by omega))
  rw [← e1]; exact eu
theorem gd_uniq {K R A : Type} [Lean.Grind.Field K] [Lean.Grind.CommRing R] [Lean.Grind.CommRing A] {c1 : R → Nat → K} {k1 : K → R} {Y : R} (H1 : IsPol c1 k1 Y) {c2 : A → Nat → R} {k2 : R → A} {X : A} (H2 : IsPol c2 k2 X) {f g C C' : A} (hf : f ≠ 0) (h : isGD f g C) (h' : isGD f g C') : ∃ s : K, s ≠ 0 ∧ C' = k2 (k1 s) * C := by
  have D2 := po_dom H2 (po_dom H1 fld_dom)
  obtain ⟨x, hx⟩ := h.2.2 C' h'.1 h'.2.1
  obtain ⟨y, hy⟩ := h'.2.2 C h.1 h.2.1
  have C0 : C ≠ 0 := fun w => hf (by obtain ⟨z, hz⟩ := h.1; rw [hz, w]; grind)
  obtain ⟨s, s0, es⟩ := un_num H1 H2 (u := y) ⟨x, dom_can D2 C0 (by grind)⟩
  exact ⟨s, s0, by rw [hy, es]; grind⟩
