/-! ===== rows of codes as polynomials ===== -/
/-- the field's tables are those of a field L, by its codes -/
def isCk {L : Type} [Lean.Grind.Field L] (σ : l2_m) (cd : L → Int) : Prop := isCo (σ 110 7) (σ 112) (σ 110 5) cd ∧ σ 110 7 ≤ 9408 ∧ 0 ≤ σ 110 5 ∧ σ 110 5 ≤ σ 110 7 ∧ ∀ e : Int, 0 ≤ e → e < σ 110 7 → 0 ≤ σ 112 e ∧ σ 112 e ≤ σ 110 7
theorem isCk_cg {L : Type} [Lean.Grind.Field L] {σ τ : l2_m} {cd : L → Int} (h : isCk σ cd) (e : ∀ b j, 110 ≤ b → b ≤ 113 → τ b j = σ b j) : isCk τ cd := by
  have e12 : τ 112 = σ 112 := funext (fun j => e 112 j (by decide) (by decide))
  unfold isCk
  rw [e12, e 110 7 (by decide) (by decide), e 110 5 (by decide) (by decide)]
  exact h
theorem isCk_gE {p : Int} (hp : isPr p) {σ : l2_m} (hF : FOK hp σ) : @isCk (gE p) (gFd hp) σ (cod hp) := by
  have h := isCo_gE hp hF
  obtain ⟨h7, q9, hr⟩ := FOK_r hF
  have h5 : 0 ≤ σ 110 5 ∧ σ 110 5 ≤ σ 110 7 := by
    rw [hF.2.2.1, h7]
    split <;> omega
  exact ⟨h, by omega, h5.1, h5.2, hr⟩
/-- n cells hold a polynomial, by codes -/
def cpw {L R : Type} [Lean.Grind.Field L] (c : R → Nat → L) (cd : L → Int) (u : Int → Int) (n : Nat) (r : R) : Prop := (∀ i : Nat, i < n → u i = cd (c r i)) ∧ dlt c r n
theorem cpw_cg {L R : Type} [Lean.Grind.Field L] {c : R → Nat → L} {cd : L → Int} {u v : Int → Int} {n : Nat} {r : R} (h : cpw c cd u n r) (e : ∀ i : Nat, i < n → v i = u i) : cpw c cd v n r := ⟨fun i hi => by rw [e i hi]; exact h.1 i hi, h.2⟩
theorem cpw_st {L R : Type} [Lean.Grind.Field L] [Lean.Grind.CommRing R] {c : R → Nat → L} {k : L → R} {Y : R} (H : IsPol c k Y) {z m1 : Int} {S : Int → Int} {cd : L → Int} (C : isCo z S m1 cd) {u v w : Int → Int} {n t s : Nat} {m : L} {r o : R} (hr : cpw c cd u n r) (ho : cpw c cd v n o) (hd : dlt c o (t + 1)) (hst : s + t < n) (h1 : ∀ i : Nat, i ≤ t → w ((s + i : Nat) : Int) = fadd z S (u ((s + i : Nat) : Int)) (fmul z (cd m) (v i))) (h2 : ∀ j : Nat, j < n → (j < s ∨ s + t < j) → w j = u j) : cpw c cd w n (r + k m * (Y ^ s * o)) := by
  refine ⟨fun j hj => ?_, dlt_add H hr.2 (dlt_k H m (dlt_mono (dlt_x H s hd) (by omega)))⟩
  rw [po_a H, po_km H]
  by_cases hjs : j < s ∨ s + t < j
  · rw [h2 j hj hjs]
    have : c (Y ^ s * o) j = 0 := by
      rcases hjs with w | w
      · exact po_xl H o s j w
      · exact dlt_x H s hd j (by omega)
    rw [this, hr.1 j hj]
    have e : c r j + m * 0 = c r j := by grind
    rw [e]
  · obtain ⟨i, rfl⟩ : ∃ i, j = s + i := ⟨j - s, by omega⟩
    rw [h1 i (by omega), hr.1 _ hj, ho.1 i (by omega), C.1, C.2.1, show s + i = i + s by omega, po_x H]
theorem c38 {L R : Type} [Lean.Grind.Field L] [Lean.Grind.CommRing R] {c : R → Nat → L} {k : L → R} {Y : R} (H : IsPol c k Y) {B : va_E} {σ : l2_m} {K : Int → l2_m → Prop} {cd : L → Int} (C : isCk σ cd) {U V : Nat} {t m : Nat} {r o : R} (hU : l2_al U = some 16) (hV : l2_al V = some 16) (gU : 113 < U) (n1 : U ≠ V) (eU : σ 109 15 = (U : Int)) (eV : σ 109 16 = (V : Int)) (hr : cpw c cd (σ U) 16 r) (ho : cpw c cd (σ V) 16 o) (hm : m < 16) (htm : t ≤ m) (dr : dlt c r (m + 1)) (dO : isDg c o t) (hK : ∀ (y : Int) (τ : l2_m) (q : R), (∀ b j, b ≠ U → τ b j = σ b j) → cpw c cd (τ U) 16 (r + q * o) → -1 ≤ y → y < t → (y < 0 → r + q * o = 0) → (0 ≤ y → isDg c (r + q * o) y.toNat) → K y τ) : wC B 38 [vr 109, vi (m : Int), vi (t : Int)] σ K := by
  obtain ⟨C0, C1, C2, C3, C4⟩ := id C
  obtain ⟨k1, k2, k3, k4, k5, k6, k7⟩ := id C0
  refine o38 ?_
  unfold w38
  have tV : Int.toNat (σ 109 16) = V := by rw [eV]; exact Int.toNat_natCast V
  rw [tV, ho.1 t (by omega), k3]
  have b1 := k6 (c o t)
  have b2 := k6 (c o t)⁻¹
  refine ⟨⟨hV, by omega, by omega, b1.1, b1.2, by omega, b2.1, b2.2, C2, C3⟩, ?_⟩
  intro x3 ex3 x4 ex4
  rw [k4] at ex3
  have b3 := k6 (-(c o t)⁻¹)
  unfold w38_26
  refine lz2_inv (fun (x : Int) s => -1 ≤ x ∧ x + t ≤ m ∧ (∀ b j, b ≠ U → s b j = σ b j) ∧ ∃ q : R, cpw c cd (s U) 16 (r + q * o) ∧ dlt c (r + q * o) (x + t + 1).toNat) (fun x _ => x + 1) ?_ ⟨by omega, by omega, fun _ _ _ => rfl, 0, ?_, ?_⟩
  rotate_left
  · have e : r + 0 * o = r := by grind
    rw [e]; exact hr
  · have e : r + 0 * o = r := by grind
    rw [e]; exact dlt_mono dr (by omega)
  intro X x s hX ⟨x0, x1, s1, q, s2, s3⟩
  have gs : ∀ b j, 110 ≤ b → b ≤ 113 → s b j = σ b j := fun b j _ _ => s1 b j (by omega)
  obtain ⟨D0, D1, D2, D3, D4⟩ := isCk_cg C gs
  obtain ⟨l1, l2, l3, l4, l5, l6, l7⟩ := id D0
  have tU : Int.toNat (s 109 15) = U := by rw [s1 109 15 (by omega), eU]; exact Int.toNat_natCast U
  refine ⟨⟨by omega, by omega⟩, ?_⟩
  by_cases hx : x < 0
  · rw [if_pos hx]
    intro y0 ey0
    unfold w38_123
    have dd : dlt c (r + q * o) t := dlt_mono s3 (by omega)
    refine lz1_inv (fun (y : Int) => -1 ≤ y ∧ y < t ∧ dlt c (r + q * o) (y + 1).toNat) (fun y => y + 1) ?_ ⟨by omega, by omega, dlt_mono dd (by omega)⟩
    intro Z y hZ ⟨y1, y2, y3⟩
    rw [tU]
    refine ⟨⟨by omega, by omega⟩, ?_⟩
    by_cases hy : y < 0
    · rw [if_pos (Or.inl hy)]
      refine ⟨fun w => absurd hy w, ?_⟩
      exact hK y s q s1 s2 y1 y2 (fun _ => dlt_z H (dlt_mono y3 (by omega))) (fun w => by omega)
    · obtain ⟨e, rfl⟩ : ∃ e : Nat, y = (e : Int) := ⟨y.toNat, by omega⟩
      rw [s2.1 e (by omega)]
      have b4 := l6 (c (r + q * o) e)
      refine ⟨fun _ => ⟨hU, by omega, by omega, ⟨by omega, by omega⟩, ⟨by omega, by omega⟩⟩, ?_⟩
      by_cases he : c (r + q * o) e = 0
      · rw [if_neg (by rw [l5]; rintro (w | w); exact hy w; exact w he)]
        refine hZ _ ⟨by omega, by omega, fun i hi => ?_⟩ (by omega)
        by_cases hie : i = e
        · rw [hie]; exact he
        · exact y3 i (by omega)
      · rw [if_pos (Or.inr (by rw [l5]; exact he))]
        exact hK (e : Int) s q s1 s2 y1 y2 (fun w => absurd w hy) (fun _ => by rw [Int.toNat_natCast]; exact ⟨he, fun i hi => y3 i (by omega)⟩)
  · rw [if_neg hx]
    obtain ⟨e, rfl⟩ : ∃ e : Nat, x = (e : Int) := ⟨x.toNat, by omega⟩
    have he : e + t < 16 := by omega
    have u0 := s2.1 (e + t) he
    rw [show ((e + t : Nat) : Int) = (e : Int) + t by omega] at u0
    rw [tU, u0, ex3]
    have b5 := l6 (c (r + q * o) (e + t))
    have z7 : s 110 7 = σ 110 7 := gs 110 7 (by decide) (by decide)
    refine ⟨⟨hU, by omega, by omega, b5.1, b5.2, b3.1, by rw [z7]; exact b3.2, by omega⟩, ?_⟩
    intro x5 ex5
    rw [l1] at ex5
    have b6 := l6 (c (r + q * o) (e + t) * -(c o t)⁻¹)
    unfold w38_53
    refine lz2_inv (fun (y : Int) z => 0 ≤ y ∧ y ≤ t + 1 ∧ (∀ b j, b ≠ U → z b j = σ b j) ∧ (∀ i : Nat, (i : Int) < y → z U ((e : Int) + i) = fadd (σ 110 7) (σ 112) (s U ((e : Int) + i)) (fmul (σ 110 7) x5 (σ V i))) ∧ (∀ j : Int, (j < e ∨ (e : Int) + y ≤ j) → z U j = s U j)) (fun y _ => t + 1 - y) ?_ ⟨by omega, by omega, s1, fun i hi => by omega, fun _ _ => rfl⟩
    intro Z y z hZ ⟨y0, y1, z1, z2, z3⟩
    refine ⟨⟨⟨by omega, by omega⟩, ⟨by omega, by omega⟩⟩, ?_⟩
    by_cases hy : (t : Int) < y
    · rw [if_pos hy]
      have key : cpw c cd (z U) 16 (r + q * o + k (c (r + q * o) (e + t) * -(c o t)⁻¹) * (Y ^ e * o)) := cpw_st H C0 (s := e) s2 ho dO.2 he (fun i hi => by
        rw [show ((e + i : Nat) : Int) = (e : Int) + i by omega, ← ex5]; exact z2 i (by omega)) (fun j hj hjs => z3 j (by omega))
      have eq : r + q * o + k (c (r + q * o) (e + t) * -(c o t)⁻¹) * (Y ^ e * o) = r + (q + k (c (r + q * o) (e + t) * -(c o t)⁻¹) * Y ^ e) * o := by grind
      refine hX _ z ⟨by omega, by omega, z1, q + k (c (r + q * o) (e + t) * -(c o t)⁻¹) * Y ^ e, by rw [← eq]; exact key, ?_⟩ (by omega)
      rw [show ((e : Int) + (-1) + t + 1).toNat = e + t by omega, ← eq]
      intro i hi
      rw [po_a H, po_km H]
      by_cases hie : i = e + t
      · rw [hie, show c (Y ^ e * o) (e + t) = c o t by rw [show e + t = t + e by omega, po_x H]]
        have := dO.1
        grind
      · have h1 : c (r + q * o) i = 0 := s3 i (by omega)
        have h2 : c (Y ^ e * o) i = 0 := dlt_x H e dO.2 i (by omega)
        rw [h1, h2]; grind
    · rw [if_neg hy]
      obtain ⟨f, rfl⟩ : ∃ f : Nat, y = (f : Int) := ⟨y.toNat, by omega⟩
      have a0 := s2.1 (e + f) (by omega)
      rw [show ((e + f : Nat) : Int) = (e : Int) + f by omega] at a0
      have v0 := ho.1 f (by omega)
      have ez : z U ((e : Int) + f) = s U ((e : Int) + f) := z3 _ (by omega)
      have eo : z V (f : Int) = σ V f := z1 V f (fun w => n1 w.symm)
      have gz : ∀ b j, 110 ≤ b → b ≤ 113 → z b j = σ b j := fun b j _ _ => z1 b j (by omega)
      obtain ⟨G0, G1, G2, G3, G4⟩ := isCk_cg C gz
      have tU' : Int.toNat (z 109 15) = U := by rw [z1 109 15 (by omega), eU]; exact Int.toNat_natCast U
      have tV' : Int.toNat (z 109 16) = V := by rw [z1 109 16 (by omega), eV]; exact Int.toNat_natCast V
      have z7' : z 110 7 = σ 110 7 := gz 110 7 (by decide) (by decide)
      have z12 : z 112 = σ 112 := funext (fun j => gz 112 j (by decide) (by decide))
      rw [tU', tV', ez, eo, v0, z7', z12, ex5, k1]
      rw [z7', z12] at G4
      have b7 := k6 (c o f)
      have b8 := k6 (c (r + q * o) (e + t) * -(c o t)⁻¹ * c o f)
      have b9 := k6 (c (r + q * o) (e + f))
      have b10 := k6 (c (r + q * o) (e + t) * -(c o t)⁻¹)
      refine ⟨⟨hV, by omega, by omega, b10.1, b10.2, b7.1, b7.2, by omega⟩, ?_⟩
      intro x7 ex7
      rw [a0, ex7]
      refine ⟨⟨hU, by omega, by omega, b9.1, b9.2, b8.1, b8.2, C1, C4⟩, ?_⟩
      intro z' ez'
      refine hZ _ z' ⟨by omega, by omega, fun b j w => by rw [ez', l2_u_ne w]; exact z1 b j w, fun i hi => ?_, fun j hj => ?_⟩ (by omega)
      · by_cases hif : i = f
        · rw [ez', hif, l2_u_self, a0, v0, ex5, k1]
        · rw [ez', l2_u_nj (by omega)]; exact z2 i (by omega)
      · rw [ez', l2_u_nj (by omega)]; exact z3 j (by omega)
