/-! ===== Commons: what two grids have in common: the algebra ===== -/
theorem cmf_nz {K1 L R RL : Type} [Lean.Grind.Field K1] [Lean.Grind.Field L] [Lean.Grind.CommRing R] [Lean.Grind.CommRing RL] {c1 : R → Nat → K1} {k1 : K1 → R} {Y : R} (H1 : IsPol c1 k1 Y) {d1 : RL → Nat → L} {j1 : L → RL} {W : RL} (HL : IsPol d1 j1 W) {φ : K1 → L} (hφ : isHom φ) {a : R} (h : a ≠ 0) : cmf c1 d1 φ a ≠ 0 := fun w => h (cmf_inj H1 HL hφ (by rw [w, cmp_0 H1 HL hφ]))
theorem cmf_dl {K1 L R RL : Type} [Lean.Grind.Field K1] [Lean.Grind.Field L] [Lean.Grind.CommRing R] [Lean.Grind.CommRing RL] {c1 : R → Nat → K1} {k1 : K1 → R} {Y : R} (H1 : IsPol c1 k1 Y) {d1 : RL → Nat → L} {j1 : L → RL} {W : RL} (HL : IsPol d1 j1 W) {φ : K1 → L} (hφ : isHom φ) {a : R} {n : Nat} (h : dlt c1 a n) : dlt d1 (cmf c1 d1 φ a) n := fun i hi => by rw [cmp_c H1 HL hφ, h i hi, hφ.1]
def atE {K1 L R RL A Q : Type} [Lean.Grind.Field L] [Lean.Grind.CommRing RL] [Lean.Grind.CommRing Q] (c1 : R → Nat → K1) (d1 : RL → Nat → L) (j1 : L → RL) (W : RL) (φ : K1 → L) (c2 : A → Nat → R) (cq : Q → Nat → L) (f g : A) (n m : Nat) (β : L) (t : Nat) (D : Q) : Prop := evx c1 d1 j1 W φ β (c2 f n) ≠ 0 ∧ evx c1 d1 j1 W φ β (c2 g m) ≠ 0 ∧ isDg cq D t ∧ ∀ e, dv e D ↔ (dv e (cmf c2 cq (evx c1 d1 j1 W φ β) f) ∧ dv e (cmf c2 cq (evx c1 d1 j1 W φ β) g))
theorem fc_cnt {K1 L R RL : Type} [Lean.Grind.Field K1] [Lean.Grind.Field L] [Lean.Grind.CommRing R] [Lean.Grind.CommRing RL] {c1 : R → Nat → K1} {k1 : K1 → R} {Y : R} (H1 : IsPol c1 k1 Y) {d1 : RL → Nat → L} {j1 : L → RL} {W : RL} (HL : IsPol d1 j1 W) {φ : K1 → L} (hφ : isHom φ) {lf lg ρ : R} {z : Nat} (el : Nat → L) (hi : ∀ i j, i < z → j < z → el i = el j → i = j) (z511 : 511 ≤ z) (f0 : lf ≠ 0) (g0 : lg ≠ 0) (ρ0 : ρ ≠ 0) (df : dlt c1 lf 16) (dg : dlt c1 lg 16) (dρ : dlt c1 ρ 451) : 31 ≤ cnp (fun i => evx c1 d1 j1 W φ (el i) lf ≠ 0 ∧ evx c1 d1 j1 W φ (el i) lg ≠ 0 ∧ evx c1 d1 j1 W φ (el i) ρ ≠ 0) z := by
  have h1 := cnp_rt HL (P := fun i => evx c1 d1 j1 W φ (el i) lf = 0) (n := z) (m := 15) el hi (cmf_nz H1 HL hφ f0) (cmf_dl H1 HL hφ df) (fun i _ w => w)
  have h2 := cnp_rt HL (P := fun i => evx c1 d1 j1 W φ (el i) lg = 0) (n := z) (m := 15) el hi (cmf_nz H1 HL hφ g0) (cmf_dl H1 HL hφ dg) (fun i _ w => w)
  have h3 := cnp_rt HL (P := fun i => evx c1 d1 j1 W φ (el i) ρ = 0) (n := z) (m := 450) el hi (cmf_nz H1 HL hφ ρ0) (cmf_dl H1 HL hφ dρ) (fun i _ w => w)
  have h4 := cnp_cov (P := fun i => evx c1 d1 j1 W φ (el i) lf ≠ 0 ∧ evx c1 d1 j1 W φ (el i) lg ≠ 0 ∧ evx c1 d1 j1 W φ (el i) ρ ≠ 0) (Q1 := fun i => evx c1 d1 j1 W φ (el i) lf = 0) (Q2 := fun i => evx c1 d1 j1 W φ (el i) lg = 0) (Q3 := fun i => evx c1 d1 j1 W φ (el i) ρ = 0) z (fun i _ => by
    rcases Classical.em (evx c1 d1 j1 W φ (el i) lf = 0) with w1 | w1
    · exact Or.inr (Or.inl w1)
    · rcases Classical.em (evx c1 d1 j1 W φ (el i) lg = 0) with w2 | w2
      · exact Or.inr (Or.inr (Or.inl w2))
      · rcases Classical.em (evx c1 d1 j1 W φ (el i) ρ = 0) with w3 | w3
        · exact Or.inr (Or.inr (Or.inr w3))
        · exact Or.inl ⟨w1, w2, w3⟩)
  omega
theorem fc_due {K1 L R RL A Q : Type} [Lean.Grind.Field K1] [Lean.Grind.Field L] [Lean.Grind.CommRing R] [Lean.Grind.CommRing RL] [Lean.Grind.CommRing A] [Lean.Grind.CommRing Q] {c1 : R → Nat → K1} {k1 : K1 → R} {Y : R} (H1 : IsPol c1 k1 Y) {c2 : A → Nat → R} {k2 : R → A} {X : A} (H2 : IsPol c2 k2 X) {d1 : RL → Nat → L} {j1 : L → RL} {W : RL} (HL : IsPol d1 j1 W) {cq : Q → Nat → L} {kq : L → Q} {Z : Q} (HQ : IsPol cq kq Z) {φ : K1 → L} (hφ : isHom φ) {f g G : A} {l w : R} {n m d : Nat} {β : L} {D : Q} (hf : isDg c2 f n) (h1 : dv G f) (h2 : dv G g) (hG : isDg c2 G d) (el : l = c2 G d * w) (h : atE c1 d1 j1 W φ c2 cq f g n m β d D) (x : Nat) : cq D x * (evx c1 d1 j1 W φ β l * (cq D d)⁻¹) = evx c1 d1 j1 W φ β (c2 (k2 w * G) x) := by
  have hη := evx_hom H1 HL hφ β
  obtain ⟨q1, -, -, q4⟩ := mo_1 H1 H2 HQ hη hf h1 h2 hG h.1 (fun e e1 e2 => (h.2.2.2 e).mpr ⟨e1, e2⟩) h.2.2.1
  obtain ⟨s, s0, es⟩ := q4 rfl
  have l0 : evx c1 d1 j1 W φ β (c2 G d) ≠ 0 := by
    have := q1.1
    rw [cmp_c H2 HQ hη] at this; exact this
  rw [es, po_km HQ, po_km HQ, cmp_c H2 HQ hη, cmp_c H2 HQ hη, el, po_km H2, hη.2.2.2, hη.2.2.2]
  have e1 : (s * evx c1 d1 j1 W φ β (c2 G d))⁻¹ * (s * evx c1 d1 j1 W φ β (c2 G d)) = 1 := by
    have : s * evx c1 d1 j1 W φ β (c2 G d) ≠ 0 := fun w => by
      rcases fld_dom _ _ w with w | w
      · exact s0 w
      · exact l0 w
    grind
  grind
theorem fc_all {K1 L R RL A Q : Type} [Lean.Grind.Field K1] [Lean.Grind.Field L] [Lean.Grind.CommRing R] [Lean.Grind.CommRing RL] [Lean.Grind.CommRing A] [Lean.Grind.CommRing Q] {c1 : R → Nat → K1} {k1 : K1 → R} {Y : R} (H1 : IsPol c1 k1 Y) {c2 : A → Nat → R} {k2 : R → A} {X : A} (H2 : IsPol c2 k2 X) {d1 : RL → Nat → L} {j1 : L → RL} {W : RL} (HL : IsPol d1 j1 W) {cq : Q → Nat → L} {kq : L → Q} {Z : Q} (HQ : IsPol cq kq Z) {φ : K1 → L} (hφ : isHom φ) {f g G : A} {l w : R} {n m d nd T : Nat} (hf : isDg c2 f n) (h1 : dv G f) (h2 : dv G g) (hG : isDg c2 G d) (el : l = c2 G d * w) (hnd : ∀ x, dlt c1 (c2 (k2 w * G) x) nd) (hT : nd ≤ T) {cd : L → Int} {x5 : Int} {s : l2_m} {b : Nat → RL} {a : Nat → L} {M : RL} (h : bld d1 j1 W cq cd (fun β => evx c1 d1 j1 W φ β l) (atE c1 d1 j1 W φ c2 cq f g n m) d x5 s T b a M) (x : Nat) (hx : x < 16) : b x = cmf c1 d1 φ (c2 (k2 w * G) x) := by
  obtain ⟨-, q2, -, -, -, -, q7, -, q9⟩ := h
  by_cases hxd : x ≤ d
  · refine interp HL (n := T) (a := a) (q2 x hx).2.1 (dlt_mono (cmf_dl H1 HL hφ (hnd x)) hT) q7 (fun i hi => ?_)
    obtain ⟨D, hD, hv⟩ := q9 i hi
    rw [hv x hxd]
    exact fc_due H1 H2 HL HQ hφ hf h1 h2 hG el hD x
  · rw [(q2 x hx).2.2 (by omega), po_km H2, hG.2 x (by omega), show w * (0 : R) = 0 by grind, cmp_0 H1 HL hφ]
theorem fc_nz {K1 L R RL A Q : Type} [Lean.Grind.Field K1] [Lean.Grind.Field L] [Lean.Grind.CommRing R] [Lean.Grind.CommRing RL] [Lean.Grind.CommRing A] [Lean.Grind.CommRing Q] {c1 : R → Nat → K1} {k1 : K1 → R} {Y : R} (H1 : IsPol c1 k1 Y) {c2 : A → Nat → R} {k2 : R → A} {X : A} (H2 : IsPol c2 k2 X) {d1 : RL → Nat → L} {j1 : L → RL} {W : RL} (HL : IsPol d1 j1 W) {φ : K1 → L} (hφ : isHom φ) {cq : Q → Nat → L} {f g : A} {l : R} {n m t T : Nat} (hl : dv l (c2 f n)) (hT : 1 ≤ T) {cd : L → Int} {x5 : Int} {s : l2_m} {b : Nat → RL} {a : Nat → L} {M : RL} (h : bld d1 j1 W cq cd (fun β => evx c1 d1 j1 W φ β l) (atE c1 d1 j1 W φ c2 cq f g n m) t x5 s T b a M) : b t ≠ 0 := by
  obtain ⟨-, -, -, -, -, -, -, -, q9⟩ := h
  obtain ⟨D, hD, hv⟩ := q9 0 hT
  have hη := evx_hom H1 HL hφ (a 0)
  have l0 : evx c1 d1 j1 W φ (a 0) l ≠ 0 := fun w => by
    obtain ⟨y, ey⟩ := hl
    refine hD.1 ?_
    rw [ey, hη.2.2.2, w]; grind
  have D0 := hD.2.2.1.1
  intro w
  have h1 := hv t (Nat.le_refl t)
  rw [w, ev_0 HL] at h1
  have h2 : cq D t * (evx c1 d1 j1 W φ (a 0) l * (cq D t)⁻¹) = evx c1 d1 j1 W φ (a 0) l := by grind
  exact l0 (by rw [← h2]; exact h1.symm)
theorem fc_deg {K1 L R RL A Q : Type} [Lean.Grind.Field K1] [Lean.Grind.Field L] [Lean.Grind.CommRing R] [Lean.Grind.CommRing RL] [Lean.Grind.CommRing A] [Lean.Grind.CommRing Q] {c1 : R → Nat → K1} {k1 : K1 → R} {Y : R} (H1 : IsPol c1 k1 Y) {c2 : A → Nat → R} {k2 : R → A} {X : A} (H2 : IsPol c2 k2 X) {d1 : RL → Nat → L} {j1 : L → RL} {W : RL} (HL : IsPol d1 j1 W) {φ : K1 → L} (hφ : isHom φ) {cq : Q → Nat → L} {f g N D : A} {l e : R} {n m t T : Nat} (t16 : t < 16) (hl : dv l (c2 f n)) (hT : 1 ≤ T) {cd : L → Int} {x5 : Int} {s : l2_m} {b : Nat → RL} {a : Nat → L} {M : RL} (h : bld d1 j1 W cq cd (fun β => evx c1 d1 j1 W φ β l) (atE c1 d1 j1 W φ c2 cq f g n m) t x5 s T b a M) (dN : dlt c2 N 16) (hb : ∀ x, x < 16 → b x = cmf c1 d1 φ (c2 N x)) (eN : N = k2 e * D) (e0 : e ≠ 0) : isDg c2 D t := by
  have h1 := fc_nz H1 H2 HL hφ hl hT h
  obtain ⟨-, q2, -⟩ := h
  have hD : ∀ x, e * c2 D x = c2 N x := fun x => by rw [eN, po_km H2]
  have dom := po_dom H1 fld_dom
  refine ⟨fun w => h1 ?_, fun x hx => ?_⟩
  · rw [hb t t16, ← hD t, w, show e * (0 : R) = 0 by grind, cmp_0 H1 HL hφ]
  · have h3 : e * c2 D x = 0 := by
      rw [hD x]
      by_cases h16 : x < 16
      · refine cmf_inj H1 HL hφ ?_
        rw [← hb x h16, (q2 x h16).2.2 (by omega), cmp_0 H1 HL hφ]
      · exact dN x (by omega)
    rcases dom _ _ h3 with w | w
    · exact absurd w e0
    · exact w
theorem fc_one {K1 R A : Type} [Lean.Grind.Field K1] [Lean.Grind.CommRing R] [Lean.Grind.CommRing A] {c1 : R → Nat → K1} {k1 : K1 → R} {Y : R} (H1 : IsPol c1 k1 Y) {c2 : A → Nat → R} {k2 : R → A} {X : A} (H2 : IsPol c2 k2 X) {f g G : A} (pG : prim c2 G) (hG : isDg c2 G 0) (last : ∀ D, prim c2 D → dv D f → dv D g → dv D G) (D : A) (pD : prim c2 D) (h1 : dv D f) (h2 : dv D g) : dv D 1 := by
  have e2 : G = k2 (c2 G 0) := po_ext H2 (fun i => by
    rw [po_ki H2]
    by_cases hi : i = 0
    · rw [if_pos hi, hi]
    · rw [if_neg hi]; exact hG.2 i (by omega))
  have hu := pG (c2 G 0) (fun i => cf_dv H2 (b := 1) (by rw [← e2]; grind) i)
  obtain ⟨y, ey⟩ := hu
  refine dv_tr (last D pD h1 h2) ⟨k2 y, ?_⟩
  rw [e2, ← po_kmul H2, ey, po_kone H2]
