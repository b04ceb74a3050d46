/-! ===== Commons: values at an element, over any field that the tables tell ===== -/
def isFi {K1 L : Type} [Lean.Grind.Field K1] [Lean.Grind.Field L] (p : Int) (em : Int → K1) (φ : K1 → L) (cd : L → Int) (σ : l2_m) : Prop := isEm p em ∧ isHom φ ∧ isCk σ cd ∧ σ 110 3 = p ∧ (∀ n : Int, 0 ≤ n → n < p → fofn σ n = cd (φ (em n))) ∧ (∀ a : L, (∃ n : Int, 0 ≤ n ∧ n < p ∧ a = φ (em n) ∧ fnum σ (cd a) = n) ∨ (fnum σ (cd a) = -1 ∧ ∀ b : K1, a ≠ φ b)) ∧ (∀ e : Int, 0 ≤ e → e < σ 110 7 → ∃ α : L, cd α = e) ∧ 511 ≤ σ 110 7 ∧ 1 ≤ σ 110 6 ∧ σ 110 7 < 98 * σ 110 6 ∧ σ 110 6 ≤ 10000
theorem isFi_cg {K1 L : Type} [Lean.Grind.Field K1] [Lean.Grind.Field L] {σ τ : l2_m} {p : Int} {em : Int → K1} {φ : K1 → L} {cd : L → Int} (h : isFi p em φ cd σ) (e : ∀ b j, 110 ≤ b → b ≤ 113 → τ b j = σ b j) : isFi p em φ cd τ := by
  obtain ⟨h1, h2, h3, h4, h5, h6, h7, h8, h9⟩ := h
  have e3 : τ 110 3 = σ 110 3 := e 110 3 (by decide) (by decide)
  have e6 : τ 110 6 = σ 110 6 := e 110 6 (by decide) (by decide)
  have e7 : τ 110 7 = σ 110 7 := e 110 7 (by decide) (by decide)
  have f1 : ∀ n, fofn τ n = fofn σ n := fun n => by
    unfold fofn
    rw [e3, e7, e 111 n (by decide) (by decide)]
  have f2 : ∀ n, fnum τ n = fnum σ n := fun n => by
    unfold fnum
    rw [e6, e7, e 113 _ (by decide) (by decide)]
  refine ⟨h1, h2, isCk_cg h3 e, by rw [e3]; exact h4, fun n n0 n1 => by rw [f1]; exact h5 n n0 n1, fun a => by rw [f2]; exact h6 a, fun x x0 x1 => h7 x x0 (by rw [← e7]; exact x1), by rw [e7]; exact h8, by rw [e6, e7]; exact h9⟩
theorem cd_0 {L : Type} [Lean.Grind.Field L] {z m1 : Int} {S : Int → Int} {cd : L → Int} (C : isCo z S m1 cd) : cd 0 = z := (C.2.2.2.2.1 0).mpr rfl
theorem hnr_all {L R : Type} [Lean.Grind.Field L] [Lean.Grind.CommRing R] {c : R → Nat → L} {k : L → R} {Y : R} (H : IsPol c k Y) (α : L) {r : R} {N : Nat} (hd : dlt c r N) : hnr (fun a b => a + b) (fun a b => a * b) 0 (c r) α N N = ev k Y α r := hnr_ev H α (c r) N N r (Nat.le_refl N) (fun i _ => by rw [Nat.sub_self, Nat.zero_add]) hd
theorem c42g {L R : Type} [Lean.Grind.Field L] [Lean.Grind.CommRing R] {c : R → Nat → L} {k : L → R} {Y : R} (H : IsPol c k Y) {B : va_E} {σ : l2_m} {K : Int → l2_m → Prop} {cd : L → Int} (C : isCk σ cd) {o1 n1 : Nat} {x2 : Int} (ho1 : l2_al o1 = some n1) (x0 : 0 ≤ x2) (x1 : x2 + 32 ≤ (n1 : Int)) {r : R} (hv : cpw c cd (fun j => σ o1 (x2 + j)) 32 r) (α : L) (hK : K (cd (ev k Y α r)) σ) : wC B 42 [vr 109, vr o1, vi x2, vi (cd α)] σ K := by
  obtain ⟨C0, C1, C2, C3, C4⟩ := id C
  obtain ⟨k1, k2, k3, k4, k5, k6, k7⟩ := id C0
  rw [← hnr_all H α hv.2] at hK
  refine o42 ho1 ?_
  unfold w42
  intro x4 ex4
  unfold w42_13
  refine lz2_inv (fun (x y : Int) => -1 ≤ y ∧ y ≤ 31 ∧ x = cd (hnr (fun a b => a + b) (fun a b => a * b) 0 (c r) α 32 (31 - y).toNat)) (fun _ y => y + 1) ?_ ⟨by decide, by decide, by rw [ex4]; exact (cd_0 C0).symm⟩
  intro X x y hX ⟨y0, y1, ex⟩
  refine ⟨⟨by omega, by omega⟩, ?_⟩
  by_cases hy : y < 0
  · rw [if_pos hy, ex, show (31 - y).toNat = 32 by omega]
    exact hK
  · rw [if_neg hy]
    obtain ⟨s, es⟩ : ∃ s : L, s = hnr (fun a b => a + b) (fun a b => a * b) 0 (c r) α 32 (31 - y).toNat := ⟨_, rfl⟩
    rw [← es] at ex
    have b1 := k6 s
    have b2 := k6 α
    have b3 := k6 (c r y.toNat)
    have b4 := k6 (s * α)
    have e1 : σ o1 (x2 + y) = cd (c r y.toNat) := by
      have := hv.1 y.toNat (by omega)
      rw [show ((y.toNat : Nat) : Int) = y by omega] at this
      exact this
    rw [e1, ex, k1]
    refine ⟨⟨b1.1, b1.2, b2.1, b2.2, by omega, by omega, by omega, b4.1, b4.2, b3.1, b3.2, C1, C4⟩, ?_⟩
    intro x' ex'
    rw [k2] at ex'
    refine hX _ _ ⟨by omega, by omega, ?_⟩ (by omega)
    rw [ex', show (31 - (y + -1)).toNat = (31 - y).toNat + 1 by omega, hnr_s, ← es, show 32 - 1 - (31 - y).toNat = y.toNat by omega]
theorem c41g {K1 L R RL : Type} [Lean.Grind.Field K1] [Lean.Grind.Field L] [Lean.Grind.CommRing R] [Lean.Grind.CommRing RL] {c1 : R → Nat → K1} {k1 : K1 → R} {Y : R} (H1 : IsPol c1 k1 Y) {d1 : RL → Nat → L} {j1 : L → RL} {W : RL} (HL : IsPol d1 j1 W) {B : va_E} {σ : l2_m} {K : Int → l2_m → Prop} {p : Int} {em : Int → K1} {φ : K1 → L} {cd : L → Int} (F : isFi p em φ cd σ) {l : R} (hl : rpw c1 em p (σ 123) 32 l) (α : L) (hK : K (cd (ev j1 W α (cmf c1 d1 φ l))) σ) : wC B 41 [vr 109, vi (cd α)] σ K := by
  obtain ⟨E, hφ, ⟨C0, C1, C2, C3, C4⟩, h3, hof, -⟩ := id F
  obtain ⟨k1', k2, k3, k4, k5, k6, k7⟩ := id C0
  have p2 := E.1
  have p97 := E.2.1
  have dl : dlt d1 (cmf c1 d1 φ l) 32 := fun i hi => by rw [cmp_c H1 HL hφ, hl.2 i hi, hφ.1]
  rw [← hnr_all HL α dl] at hK
  refine o41 ?_
  unfold w41
  intro x4 ex4
  unfold w41_11
  refine lz2_inv (fun (x y : Int) => -1 ≤ y ∧ y ≤ 31 ∧ x = cd (hnr (fun a b => a + b) (fun a b => a * b) 0 (d1 (cmf c1 d1 φ l)) α 32 (31 - y).toNat)) (fun _ y => y + 1) ?_ ⟨by decide, by decide, by rw [ex4]; exact (cd_0 C0).symm⟩
  intro X x y hX ⟨y0, y1, ex⟩
  refine ⟨⟨by omega, by omega⟩, ?_⟩
  by_cases hy : y < 0
  · rw [if_pos hy, ex, show (31 - y).toNat = 32 by omega]
    exact hK
  · rw [if_neg hy]
    obtain ⟨s, es⟩ : ∃ s : L, s = hnr (fun a b => a + b) (fun a b => a * b) 0 (d1 (cmf c1 d1 φ l)) α 32 (31 - y).toNat := ⟨_, rfl⟩
    rw [← es] at ex
    have b1 := k6 s
    have b2 := k6 α
    have b3 := k6 (d1 (cmf c1 d1 φ l) y.toNat)
    have b4 := k6 (s * α)
    have v0 := hl.1 y.toNat (by omega)
    rw [show ((y.toNat : Nat) : Int) = y by omega] at v0
    have e1 : fofn σ (σ 123 y) = cd (d1 (cmf c1 d1 φ l) y.toNat) := by rw [hof _ v0.1 v0.2.1, cmp_c H1 HL hφ, v0.2.2]
    rw [e1, ex, k1']
    refine ⟨⟨b1.1, b1.2, b2.1, b2.2, by omega, by omega, by omega, ⟨by omega, by omega⟩, by omega, by omega, b4.1, b4.2, b3.1, b3.2, C1, C4⟩, ?_⟩
    intro x' ex'
    rw [k2] at ex'
    refine hX _ _ ⟨by omega, by omega, ?_⟩ (by omega)
    rw [ex', show (31 - (y + -1)).toNat = (31 - y).toNat + 1 by omega, hnr_s, ← es, show 32 - 1 - (31 - y).toNat = y.toNat by omega]
noncomputable def evx {K1 L R RL : Type} [Lean.Grind.Field L] [Lean.Grind.CommRing RL] (c1 : R → Nat → K1) (d1 : RL → Nat → L) (j1 : L → RL) (W : RL) (φ : K1 → L) (α : L) (r : R) : L := ev j1 W α (cmf c1 d1 φ r)
theorem evx_hom {K1 L R RL : Type} [Lean.Grind.Field K1] [Lean.Grind.Field L] [Lean.Grind.CommRing R] [Lean.Grind.CommRing RL] {c1 : R → Nat → K1} {k1 : K1 → R} {Y : R} (H1 : IsPol c1 k1 Y) {d1 : RL → Nat → L} {j1 : L → RL} {W : RL} (HL : IsPol d1 j1 W) {φ : K1 → L} (hφ : isHom φ) (α : L) : isHom (evx c1 d1 j1 W φ α) := hom_cmp (φ := cmf c1 d1 φ) (ψ := fun r : RL => ev j1 W α r) (cmp_hom H1 HL hφ) (ev_hom HL α)
theorem c37g {K1 L R RL A Q : Type} [Lean.Grind.Field K1] [Lean.Grind.Field L] [Lean.Grind.CommRing R] [Lean.Grind.CommRing RL] [Lean.Grind.CommRing A] [Lean.Grind.CommRing Q] {c1 : R → Nat → K1} {k1 : K1 → R} {Y : R} (H1 : IsPol c1 k1 Y) {c2 : A → Nat → R} {k2 : R → A} {X : A} (H2 : IsPol c2 k2 X) {d1 : RL → Nat → L} {j1 : L → RL} {W : RL} (HL : IsPol d1 j1 W) {cq : Q → Nat → L} {kq : L → Q} {Z : Q} (HQ : IsPol cq kq Z) {B : va_E} {σ : l2_m} {K : Int → l2_m → Prop} {p : Int} {em : Int → K1} {φ : K1 → L} {cd : L → Int} (F : isFi p em φ cd σ) {o1 o3 : Nat} (ho1 : l2_al o1 = some 512) (ho3 : l2_al o3 = some 16) (n1 : o1 ≠ o3) (n3 : 113 < o3) {f : A} (hf : gpw c1 c2 em p (σ o1) f) (yf : hlt c1 c2 f 16) (α : L) (hK : ∀ τ : l2_m, (∀ b j, b ≠ o3 → τ b j = σ b j) → cpw cq cd (τ o3) 16 (cmf c2 cq (evx c1 d1 j1 W φ α) f) → K 0 τ) : wC B 37 [vr 109, vr o1, vi (cd α), vr o3] σ K := by
  obtain ⟨E, hφ, C, h3, hof, -⟩ := id F
  obtain ⟨C0, C1, C2, C3, C4⟩ := id C
  have p2 := E.1
  have p97 := E.2.1
  have hη := evx_hom H1 HL hφ α
  refine o37 ho1 ho3 ?_
  unfold w37 w37_3
  refine lz2_inv (fun (x : Int) s => 0 ≤ x ∧ x ≤ 16 ∧ (∀ b j, b ≠ o3 → s b j = σ b j) ∧ (∀ i : Nat, (i : Int) < x → s o3 i = cd (ev j1 W α (cmf c1 d1 φ (c2 f i))))) (fun x _ => 16 - x) ?_ ⟨by decide, by decide, fun _ _ _ => rfl, fun i _ => by omega⟩
  intro Z' x s hZ ⟨x0, x1, s0, s1⟩
  refine ⟨⟨by omega, by omega⟩, ?_⟩
  by_cases hx : x < 16
  · rw [if_pos hx]
    obtain ⟨i, rfl⟩ : ∃ i : Nat, x = (i : Int) := ⟨x.toNat, by omega⟩
    intro x5 ex5
    obtain ⟨-, -, ⟨D0, D1, D2, D3, D4⟩, g3, gof, -⟩ := isFi_cg F (τ := s) (fun b j _ _ => s0 b j (by omega))
    obtain ⟨k1', k2', k3, k4, k5, k6, k7⟩ := id D0
    have dl : dlt d1 (cmf c1 d1 φ (c2 f i)) 16 := fun j hj => by rw [cmp_c H1 HL hφ, yf i j hj, hφ.1]
    unfold w37_23
    refine lz2_inv (fun (w y : Int) => -1 ≤ y ∧ y ≤ 15 ∧ w = cd (hnr (fun a b => a + b) (fun a b => a * b) 0 (d1 (cmf c1 d1 φ (c2 f i))) α 16 (15 - y).toNat)) (fun _ y => y + 1) ?_ ⟨by decide, by decide, by rw [ex5]; exact (cd_0 D0).symm⟩
    intro X' w y hX ⟨y0, y1, ex⟩
    refine ⟨⟨by omega, by omega⟩, ?_⟩
    by_cases hy : y < 0
    · rw [if_pos hy]
      refine ⟨⟨x0, hx⟩, ?_⟩
      intro z ez
      refine hZ _ z ⟨by omega, by omega, fun b j h => by rw [ez, l2_u_ne h]; exact s0 b j h, fun j j1' => ?_⟩ (by omega)
      by_cases hi : j = i
      · rw [ez, hi, l2_u_self, ex, show (15 - y).toNat = 16 by omega, hnr_all HL α dl]
      · rw [ez, l2_u_nj (by omega)]; exact s1 j (by omega)
    · rw [if_neg hy]
      obtain ⟨sm, es⟩ : ∃ sm : L, sm = hnr (fun a b => a + b) (fun a b => a * b) 0 (d1 (cmf c1 d1 φ (c2 f i))) α 16 (15 - y).toNat := ⟨_, rfl⟩
      rw [← es] at ex
      have b1 := k6 sm
      have b2 := k6 α
      have b3 := k6 (d1 (cmf c1 d1 φ (c2 f i)) y.toNat)
      have b4 := k6 (sm * α)
      have v0 := hf.1 i y.toNat (by omega) (by omega)
      rw [show ((y.toNat : Nat) : Int) = y by omega] at v0
      have e1 : fofn s (σ o1 ((i : Int) * 32 + y)) = cd (d1 (cmf c1 d1 φ (c2 f i)) y.toNat) := by rw [gof _ v0.1 v0.2.1, cmp_c H1 HL hφ, v0.2.2]
      rw [s0 o1 _ n1, e1, g3]
      refine ⟨⟨by omega, by omega, ⟨by omega, by omega⟩, by omega, by omega⟩, ?_⟩
      intro x7 ex7
      rw [ex7, ex, k1']
      refine ⟨⟨b1.1, b1.2, b2.1, b2.2, by omega, b4.1, b4.2, b3.1, b3.2, D1, D4⟩, ?_⟩
      intro w' ew'
      rw [k2'] at ew'
      refine hX _ _ ⟨by omega, by omega, ?_⟩ (by omega)
      rw [ew', show (15 - (y + -1)).toNat = (15 - y).toNat + 1 by omega, hnr_s, ← es, show 16 - 1 - (15 - y).toNat = y.toNat by omega]
  · rw [if_neg hx]
    refine hK s s0 ⟨fun i hi => ?_, fun i hi => ?_⟩
    · rw [cmp_c H2 HQ hη]; exact s1 i (by omega)
    · rw [cmp_c H2 HQ hη, gpw_d H1 hf i hi]; exact hη.1
