/-! ===== coefficients by another ring's; what two rows have in common where y is an element ===== -/
def isHom {S S2 : Type} [Lean.Grind.CommRing S] [Lean.Grind.CommRing S2] (φ : S → S2) : Prop := φ 0 = 0 ∧ φ 1 = 1 ∧ (∀ a b, φ (a + b) = φ a + φ b) ∧ ∀ a b, φ (a * b) = φ a * φ b
theorem cmp_ex {S P S2 P2 : Type} [Lean.Grind.CommRing S] [Lean.Grind.CommRing P] [Lean.Grind.CommRing S2] [Lean.Grind.CommRing P2] {c : P → Nat → S} {k : S → P} {X : P} (H : IsPol c k X) {d : P2 → Nat → S2} {j : S2 → P2} {Z : P2} (J : IsPol d j Z) {φ : S → S2} (hφ : isHom φ) (a : P) : ∃ b : P2, ∀ i, d b i = φ (c a i) := by
  obtain ⟨n, hn⟩ := H.2.2.2.2.2.2.2 a
  obtain ⟨b, h1, h2⟩ := po_mk J (fun i => φ (c a i)) n
  refine ⟨b, fun i => ?_⟩
  by_cases hi : i < n
  · exact h1 i hi
  · rw [h2 i (by omega), hn i (by omega), hφ.1]
noncomputable def cmf {S P S2 P2 : Type} [Lean.Grind.CommRing P2] (c : P → Nat → S) (d : P2 → Nat → S2) (φ : S → S2) (a : P) : P2 := @dite P2 (∃ b : P2, ∀ i, d b i = φ (c a i)) (Classical.propDecidable _) (fun h => h.choose) (fun _ => 0)
theorem cmp_c {S P S2 P2 : Type} [Lean.Grind.CommRing S] [Lean.Grind.CommRing P] [Lean.Grind.CommRing S2] [Lean.Grind.CommRing P2] {c : P → Nat → S} {k : S → P} {X : P} (H : IsPol c k X) {d : P2 → Nat → S2} {j : S2 → P2} {Z : P2} (J : IsPol d j Z) {φ : S → S2} (hφ : isHom φ) (a : P) (i : Nat) : d (cmf c d φ a) i = φ (c a i) := by
  have hx := cmp_ex H J hφ a
  have e : cmf c d φ a = hx.choose := dif_pos hx
  rw [e]; exact hx.choose_spec i
theorem cmp_add {S P S2 P2 : Type} [Lean.Grind.CommRing S] [Lean.Grind.CommRing P] [Lean.Grind.CommRing S2] [Lean.Grind.CommRing P2] {c : P → Nat → S} {k : S → P} {X : P} (H : IsPol c k X) {d : P2 → Nat → S2} {j : S2 → P2} {Z : P2} (J : IsPol d j Z) {φ : S → S2} (hφ : isHom φ) (a b : P) : cmf c d φ (a + b) = cmf c d φ a + cmf c d φ b := po_ext J (fun i => by
  rw [po_a J, cmp_c H J hφ, cmp_c H J hφ, cmp_c H J hφ, po_a H, hφ.2.2.1])
theorem cmp_k {S P S2 P2 : Type} [Lean.Grind.CommRing S] [Lean.Grind.CommRing P] [Lean.Grind.CommRing S2] [Lean.Grind.CommRing P2] {c : P → Nat → S} {k : S → P} {X : P} (H : IsPol c k X) {d : P2 → Nat → S2} {j : S2 → P2} {Z : P2} (J : IsPol d j Z) {φ : S → S2} (hφ : isHom φ) (r : S) (a : P) : cmf c d φ (k r * a) = j (φ r) * cmf c d φ a := po_ext J (fun i => by
  rw [po_km J, cmp_c H J hφ, cmp_c H J hφ, po_km H, hφ.2.2.2])
theorem cmp_x {S P S2 P2 : Type} [Lean.Grind.CommRing S] [Lean.Grind.CommRing P] [Lean.Grind.CommRing S2] [Lean.Grind.CommRing P2] {c : P → Nat → S} {k : S → P} {X : P} (H : IsPol c k X) {d : P2 → Nat → S2} {j : S2 → P2} {Z : P2} (J : IsPol d j Z) {φ : S → S2} (hφ : isHom φ) (a : P) (n : Nat) : cmf c d φ (X ^ n * a) = Z ^ n * cmf c d φ a := po_ext J (fun i => by
  by_cases hi : i < n
  · rw [po_xl J _ n i hi, cmp_c H J hφ, po_xl H _ n i hi, hφ.1]
  · obtain ⟨l, rfl⟩ : ∃ l, i = l + n := ⟨i - n, by omega⟩
    rw [po_x J, cmp_c H J hφ, cmp_c H J hφ, po_x H])
theorem cmp_0 {S P S2 P2 : Type} [Lean.Grind.CommRing S] [Lean.Grind.CommRing P] [Lean.Grind.CommRing S2] [Lean.Grind.CommRing P2] {c : P → Nat → S} {k : S → P} {X : P} (H : IsPol c k X) {d : P2 → Nat → S2} {j : S2 → P2} {Z : P2} (J : IsPol d j Z) {φ : S → S2} (hφ : isHom φ) : cmf c d φ (0 : P) = 0 := po_ext J (fun i => by rw [cmp_c H J hφ, po_0 H, hφ.1, po_0 J])
theorem cmp_kk {S P S2 P2 : Type} [Lean.Grind.CommRing S] [Lean.Grind.CommRing P] [Lean.Grind.CommRing S2] [Lean.Grind.CommRing P2] {c : P → Nat → S} {k : S → P} {X : P} (H : IsPol c k X) {d : P2 → Nat → S2} {j : S2 → P2} {Z : P2} (J : IsPol d j Z) {φ : S → S2} (hφ : isHom φ) (r : S) : cmf c d φ (k r) = j (φ r) := po_ext J (fun i => by
  rw [cmp_c H J hφ, po_ki H, po_ki J]
  split
  · rfl
  · exact hφ.1)
theorem cmp_1 {S P S2 P2 : Type} [Lean.Grind.CommRing S] [Lean.Grind.CommRing P] [Lean.Grind.CommRing S2] [Lean.Grind.CommRing P2] {c : P → Nat → S} {k : S → P} {X : P} (H : IsPol c k X) {d : P2 → Nat → S2} {j : S2 → P2} {Z : P2} (J : IsPol d j Z) {φ : S → S2} (hφ : isHom φ) : cmf c d φ (1 : P) = 1 := by
  have := cmp_kk H J hφ 1
  rw [po_kone H, hφ.2.1, po_kone J] at this
  exact this
theorem cmp_muln {S P S2 P2 : Type} [Lean.Grind.CommRing S] [Lean.Grind.CommRing P] [Lean.Grind.CommRing S2] [Lean.Grind.CommRing P2] {c : P → Nat → S} {k : S → P} {X : P} (H : IsPol c k X) {d : P2 → Nat → S2} {j : S2 → P2} {Z : P2} (J : IsPol d j Z) {φ : S → S2} (hφ : isHom φ) (b : P) : ∀ (n : Nat) (a : P), dlt c a n → cmf c d φ (a * b) = cmf c d φ a * cmf c d φ b
  | 0, a, ha => by rw [dlt_z H ha, show (0 : P) * b = 0 by grind, cmp_0 H J hφ]; grind
  | n + 1, a, ha => by
    obtain ⟨a', e, h1, -⟩ := po_dec H ha
    have e2 : a * b = a' * b + X ^ n * (k (c a n) * b) := by grind
    have e3 : cmf c d φ a = cmf c d φ a' + Z ^ n * j (φ (c a n)) := by
      have h3 : a = a' + X ^ n * (k (c a n) * 1) := by grind
      have h4 : cmf c d φ a = cmf c d φ (a' + X ^ n * (k (c a n) * 1)) := congrArg _ h3
      rw [h4, cmp_add H J hφ, cmp_x H J hφ, cmp_k H J hφ, cmp_1 H J hφ]; grind
    rw [e2, cmp_add H J hφ, cmp_muln H J hφ b n a' h1, cmp_x H J hφ, cmp_k H J hφ, e3]
    grind
theorem cmp_mul {S P S2 P2 : Type} [Lean.Grind.CommRing S] [Lean.Grind.CommRing P] [Lean.Grind.CommRing S2] [Lean.Grind.CommRing P2] {c : P → Nat → S} {k : S → P} {X : P} (H : IsPol c k X) {d : P2 → Nat → S2} {j : S2 → P2} {Z : P2} (J : IsPol d j Z) {φ : S → S2} (hφ : isHom φ) (a b : P) : cmf c d φ (a * b) = cmf c d φ a * cmf c d φ b := by
  obtain ⟨n, hn⟩ := H.2.2.2.2.2.2.2 a
  exact cmp_muln H J hφ b n a hn
theorem cmp_hom {S P S2 P2 : Type} [Lean.Grind.CommRing S] [Lean.Grind.CommRing P] [Lean.Grind.CommRing S2] [Lean.Grind.CommRing P2] {c : P → Nat → S} {k : S → P} {X : P} (H : IsPol c k X) {d : P2 → Nat → S2} {j : S2 → P2} {Z : P2} (J : IsPol d j Z) {φ : S → S2} (hφ : isHom φ) : isHom (cmf c d φ : P → P2) := ⟨cmp_0 H J hφ, cmp_1 H J hφ, cmp_add H J hφ, cmp_mul H J hφ⟩
theorem cmp_dg {S P S2 P2 : Type} [Lean.Grind.CommRing S] [Lean.Grind.CommRing P] [Lean.Grind.CommRing S2] [Lean.Grind.CommRing P2] {c : P → Nat → S} {k : S → P} {X : P} (H : IsPol c k X) {d : P2 → Nat → S2} {j : S2 → P2} {Z : P2} (J : IsPol d j Z) {φ : S → S2} (hφ : isHom φ) {a : P} {m : Nat} (ha : isDg c a m) (h : φ (c a m) ≠ 0) : isDg d (cmf c d φ a) m := ⟨by rw [cmp_c H J hφ]; exact h, fun i hi => by rw [cmp_c H J hφ, ha.2 i hi, hφ.1]⟩
theorem hom_dv {S S2 : Type} [Lean.Grind.CommRing S] [Lean.Grind.CommRing S2] {φ : S → S2} (hφ : isHom φ) {a b : S} (h : dv a b) : dv (φ a) (φ b) := by
  obtain ⟨x, rfl⟩ := h
  exact ⟨φ x, hφ.2.2.2 a x⟩
theorem hom_cmp {S S2 S3 : Type} [Lean.Grind.CommRing S] [Lean.Grind.CommRing S2] [Lean.Grind.CommRing S3] {φ : S → S2} {ψ : S2 → S3} (h : isHom φ) (h' : isHom ψ) : isHom (fun x => ψ (φ x)) := ⟨by show ψ (φ 0) = 0; rw [h.1, h'.1], by show ψ (φ 1) = 1; rw [h.2.1, h'.2.1], fun a b => by show ψ (φ (a + b)) = ψ (φ a) + ψ (φ b); rw [h.2.2.1, h'.2.2.1], fun a b => by show ψ (φ (a * b)) = ψ (φ a) * ψ (φ b); rw [h.2.2.2, h'.2.2.2]⟩
theorem ev_hom {K R : Type} [Lean.Grind.Field K] [Lean.Grind.CommRing R] {c : R → Nat → K} {k : K → R} {Y : R} (H : IsPol c k Y) (α : K) : isHom (fun r : R => ev k Y α r) := ⟨ev_0 H α, ev_1 H α, ev_add H α, ev_mul H α⟩
/-- where neither lead vanishes, the rows have no less in common -/
theorem mo_1 {K R A L Q : Type} [Lean.Grind.Field K] [Lean.Grind.CommRing R] [Lean.Grind.CommRing A] [Lean.Grind.Field L] [Lean.Grind.CommRing Q] {c1 : R → Nat → K} {k1 : K → R} {Y : R} (H1 : IsPol c1 k1 Y) {c2 : A → Nat → R} {k2 : R → A} {X : A} (H2 : IsPol c2 k2 X) {cq : Q → Nat → L} {kq : L → Q} {Z : Q} (HQ : IsPol cq kq Z) {η : R → L} (hη : isHom η) {f g G : A} {n d t : Nat} {D : Q} (hf : isDg c2 f n) (h1 : dv G f) (h2 : dv G g) (hG : isDg c2 G d) (hl : η (c2 f n) ≠ 0) (d3 : ∀ e, dv e (cmf c2 cq η f) → dv e (cmf c2 cq η g) → dv e D) (hD : isDg cq D t) : isDg cq (cmf c2 cq η G) d ∧ d ≤ t ∧ dv (cmf c2 cq η G) D ∧ (t = d → ∃ s : L, s ≠ 0 ∧ D = kq s * cmf c2 cq η G) := by
  have D1 := po_dom H1 fld_dom
  obtain ⟨f', ef⟩ := h1
  have f0 := isDg_nz H2 hf
  have f'0 : f' ≠ 0 := fun w => f0 (by rw [ef, w]; grind)
  obtain ⟨n', hn'⟩ := po_dg H2 f'0
  have hm := isDg_mul H2 D1 hG hn'
  rw [← ef] at hm
  have en := isDg_u hm hf
  have ll : c2 f n = c2 G d * c2 f' n' := by rw [← en, ef]; exact po_lead H2 hG.2 hn'.2
  have lG : η (c2 G d) ≠ 0 := fun w => hl (by rw [ll, hη.2.2.2, w]; grind)
  have hg := cmp_dg H2 HQ hη hG lG
  have hdv := d3 _ (hom_dv (cmp_hom H2 HQ hη) (a := G) (b := f) ⟨f', ef⟩) (hom_dv (cmp_hom H2 HQ hη) h2)
  obtain ⟨z, ez⟩ := hdv
  have z0 : z ≠ 0 := fun w => isDg_nz HQ hD (by rw [ez, w]; grind)
  obtain ⟨m, hz⟩ := po_dg HQ z0
  have h3 := isDg_mul HQ fld_dom hg hz
  rw [← ez] at h3
  have h4 := isDg_u h3 hD
  refine ⟨hg, by omega, ⟨z, ez⟩, fun w => ?_⟩
  have m0 : m = 0 := by omega
  rw [m0] at hz
  refine ⟨cq z 0, hz.1, ?_⟩
  have e2 : z = kq (cq z 0) := po_ext HQ (fun i => by
    rw [po_ki HQ]
    by_cases hi : i = 0
    · rw [if_pos hi, hi]
    · rw [if_neg hi]; exact hz.2 i (by omega))
  rw [← e2, ez]; grind
/-- where the resultant doesn't vanish either, no more -/
theorem mo_2 {K R A L Q : Type} [Lean.Grind.Field K] [Lean.Grind.CommRing R] [Lean.Grind.CommRing A] [Lean.Grind.Field L] [Lean.Grind.CommRing Q] {c1 : R → Nat → K} {k1 : K → R} {Y : R} (H1 : IsPol c1 k1 Y) {c2 : A → Nat → R} {k2 : R → A} {X : A} (H2 : IsPol c2 k2 X) {cq : Q → Nat → L} {kq : L → Q} {Z : Q} (HQ : IsPol cq kq Z) {η : R → L} (hη : isHom η) {f g G f' g' U V : A} {ρ : R} {n d t : Nat} {D : Q} (hf : isDg c2 f n) (ef : f = G * f') (eg : g = G * g') (hG : isDg c2 G d) (hl : η (c2 f n) ≠ 0) (hr : k2 ρ = U * f' + V * g') (hρ : η ρ ≠ 0) (d1 : dv D (cmf c2 cq η f)) (d2 : dv D (cmf c2 cq η g)) (d3 : ∀ e, dv e (cmf c2 cq η f) → dv e (cmf c2 cq η g) → dv e D) (hD : isDg cq D t) : t = d := by
  obtain ⟨q1, q2, ⟨z, ez⟩, -⟩ := mo_1 H1 H2 HQ hη hf ⟨f', ef⟩ ⟨g', eg⟩ hG hl d3 hD
  have DQ := po_dom HQ fld_dom
  have G0 := isDg_nz HQ q1
  obtain ⟨x, hx⟩ := d1
  obtain ⟨y, hy⟩ := d2
  have hom := cmp_hom H2 HQ hη
  have e1 : cmf c2 cq η f' = z * x := dom_can DQ G0 (by rw [← hom.2.2.2, ← ef, hx, ez]; grind)
  have e2 : cmf c2 cq η g' = z * y := dom_can DQ G0 (by rw [← hom.2.2.2, ← eg, hy, ez]; grind)
  have e3 : kq (η ρ) = z * (cmf c2 cq η U * x + cmf c2 cq η V * y) := by
    rw [← cmp_kk H2 HQ hη, hr, hom.2.2.1, hom.2.2.2, hom.2.2.2, e1, e2]; grind
  have hu : unt z := by
    have hk : isDg cq (kq (η ρ)) 0 := ⟨by rw [po_k0 HQ]; exact hρ, fun i hi => by
      obtain ⟨l, rfl⟩ : ∃ l, i = l + 1 := ⟨i - 1, by omega⟩
      exact po_k1 HQ _ l⟩
    obtain ⟨w, hw⟩ := fe_unt HQ hk
    exact ⟨(cmf c2 cq η U * x + cmf c2 cq η V * y) * w, by rw [← hw, e3]; grind⟩
  have h3 := isDg_mul HQ fld_dom q1 (fe_untd HQ hu)
  rw [← ez] at h3
  exact (isDg_u h3 hD).symm
/-- all that is needed of two primitive ones -/
theorem mod_G {K R A : Type} [Lean.Grind.Field K] [Lean.Grind.CommRing R] [Lean.Grind.CommRing A] {c1 : R → Nat → K} {k1 : K → R} {Y : R} (H1 : IsPol c1 k1 Y) {c2 : A → Nat → R} {k2 : R → A} {X : A} (H2 : IsPol c2 k2 X) {f g : A} {n m : Nat} (pf : prim c2 f) (pg : prim c2 g) (hf : isDg c2 f n) (hg : isDg c2 g m) (n15 : n ≤ 15) (m15 : m ≤ 15) (yf : hlt c1 c2 f 16) (yg : hlt c1 c2 g 16) : ∃ (G f' g' U V : A) (ρ : R) (d : Nat), prim c2 G ∧ f = G * f' ∧ g = G * g' ∧ isDg c2 G d ∧ ρ ≠ 0 ∧ k2 ρ = U * f' + V * g' ∧ dlt c1 ρ 451 ∧ (∀ D, prim c2 D → dv D f → dv D g → dv D G) := by
  have D1 := po_dom H1 fld_dom
  have D2 := po_dom H2 D1
  have f0 := isDg_nz H2 hf
  have g0 := isDg_nz H2 hg
  obtain ⟨G, U, V, r, pG, r0, e, ⟨f', ef⟩, ⟨g', eg⟩⟩ := gcd_ex H1 H2 g f0
  have G0 := prim_nz H1 H2 pG
  obtain ⟨d, hG⟩ := po_dg H2 G0
  have f'0 : f' ≠ 0 := fun w => f0 (by rw [ef, w]; grind)
  have g'0 : g' ≠ 0 := fun w => g0 (by rw [eg, w]; grind)
  obtain ⟨n', hn'⟩ := po_dg H2 f'0
  obtain ⟨m', hm'⟩ := po_dg H2 g'0
  have en := isDg_mul H2 D1 hG hn'
  rw [← ef] at en
  have en := isDg_u en hf
  have em := isDg_mul H2 D1 hG hm'
  rw [← eg] at em
  have em := isDg_u em hg
  have e0 : k2 r = U * f' + V * g' := dom_can D2 G0 (by grind)
  have yf' : hlt c1 c2 f' 16 := hlt_fac H1 H2 (b := G) (by rw [show f' * G = f by rw [ef]; grind]; exact yf) G0
  have yg' : hlt c1 c2 g' 16 := hlt_fac H1 H2 (b := G) (by rw [show g' * G = g by rw [eg]; grind]; exact yg) G0
  have last : ∀ D, prim c2 D → dv D f → dv D g → dv D G := fun D pD h1 h2 => gauss_dv H1 H2 pD r0 (by rw [e]; exact dv_add (dv_mul U h1) (dv_mul V h2))
  have cst : ∀ (a b : A) (l : Nat), a = G * b → prim c2 a → isDg c2 b l → l = 0 → ∃ w : R, b = k2 w ∧ isDg c1 w 0 := by
    intro a b l ea pa hb hl
    rw [hl] at hb
    have eb : b = k2 (c2 b 0) := po_ext H2 (fun i => by
      rw [po_ki H2]
      by_cases hi : i = 0
      · rw [if_pos hi, hi]
      · rw [if_neg hi]; exact hb.2 i (by omega))
    refine ⟨c2 b 0, eb, fe_untd H1 (pa _ (cf_dv H2 (b := G) ?_))⟩
    rw [← eb, ea]; grind
  by_cases hn0 : n' = 0
  · obtain ⟨w, ew, hw⟩ := cst f f' n' ef pf hn' hn0
    exact ⟨G, f', g', 1, 0, w, d, pG, ef, eg, hG, isDg_nz H1 hw, by rw [ew]; grind, dlt_mono hw.2 (by omega), last⟩
  · by_cases hm0 : m' = 0
    · obtain ⟨w, ew, hw⟩ := cst g g' m' eg pg hm' hm0
      exact ⟨G, f', g', 0, 1, w, d, pG, ef, eg, hG, isDg_nz H1 hw, by rw [ew]; grind, dlt_mono hw.2 (by omega), last⟩
    · obtain ⟨U', V', ρ, ρ0, eρ, hρ⟩ := res_ex H1 H2 (h := 15) hn' hm' yf' yg' (by omega) (by omega) r0 e0
      refine ⟨G, f', g', U', V', ρ, d, pG, ef, eg, hG, ρ0, eρ, dlt_mono hρ ?_, last⟩
      have : n' + m' ≤ 30 := by omega
      omega
/-- one that divides both, with no less in x than the rows have in common where y is an element -/
theorem mo_f {K R A : Type} [Lean.Grind.Field K] [Lean.Grind.CommRing R] [Lean.Grind.CommRing A] {c1 : R → Nat → K} {k1 : K → R} {Y : R} (H1 : IsPol c1 k1 Y) {c2 : A → Nat → R} {k2 : R → A} {X : A} (H2 : IsPol c2 k2 X) {f g G F : A} {d t : Nat} (pG : prim c2 G) (pF : prim c2 F) (hG : isDg c2 G d) (hF : isDg c2 F t) (h1 : dv F f) (h2 : dv F g) (hdt : d ≤ t) (last : ∀ D, prim c2 D → dv D f → dv D g → dv D G) (D : A) (pD : prim c2 D) (h3 : dv D f) (h4 : dv D g) : dv D F := by
  have D1 := po_dom H1 fld_dom
  obtain ⟨z, ez⟩ := last F pF h1 h2
  have z0 : z ≠ 0 := fun w => isDg_nz H2 hG (by rw [ez, w]; grind)
  obtain ⟨m, hm⟩ := po_dg H2 z0
  have h5 := isDg_mul H2 D1 hF hm
  rw [← ez] at h5
  have h6 := isDg_u h5 hG
  have m0 : m = 0 := by omega
  rw [m0] at hm
  have e2 : z = k2 (c2 z 0) := po_ext H2 (fun i => by
    rw [po_ki H2]
    by_cases hi : i = 0
    · rw [if_pos hi, hi]
    · rw [if_neg hi]; exact hm.2 i (by omega))
  refine gauss_dv H1 H2 pD (l := c2 z 0) hm.1 ?_
  rw [show k2 (c2 z 0) * F = G by rw [← e2, ez]; grind]
  exact last D pD h3 h4
