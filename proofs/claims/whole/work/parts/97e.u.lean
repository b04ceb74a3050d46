/-! ===== Commons: one element more ===== -/
theorem cpw_lin {L R : Type} [Lean.Grind.Field L] [Lean.Grind.CommRing R] {c : R → Nat → L} {k : L → R} {Y : R} (H : IsPol c k Y) {z m1 : Int} {S : Int → Int} {cd : L → Int} (C : isCo z S m1 cd) {u w : Int → Int} {T : Nat} {r : R} {α : L} (hr : cpw c cd u 32 r) (dr : dlt c r (T + 1)) (hT : T ≤ 30) (h0 : w 0 = fadd z S z (fmul z (cd (-α)) (u 0))) (h1 : ∀ i : Nat, i + 1 < 32 → w ((i : Int) + 1) = fadd z S (u i) (fmul z (cd (-α)) (u ((i : Int) + 1)))) : cpw c cd w 32 ((Y - k α) * r) ∧ dlt c ((Y - k α) * r) (T + 2) := by
  have e : (Y - k α) * r = Y ^ 1 * r + k (-α) * r := by rw [po_kneg H]; grind
  have hd : dlt c ((Y - k α) * r) (T + 2) := by
    rw [e]
    exact dlt_add H (dlt_x H 1 dr) (dlt_k H _ (dlt_mono dr (by omega)))
  refine ⟨⟨fun i hi => ?_, dlt_mono hd (by omega)⟩, hd⟩
  rw [e, po_a H, po_km H]
  cases i with
  | zero =>
    have := hr.1 0 (by omega)
    rw [po_xl H _ _ _ (by omega)]
    rw [show ((0 : Nat) : Int) = 0 by rfl] at this ⊢
    rw [h0, this, C.1]
    have h2 := C.2.1 0 (-α * c r 0)
    rw [cd_0 C] at h2
    exact h2
  | succ i =>
    have h2 := hr.1 i (by omega)
    have h3 := hr.1 (i + 1) hi
    rw [show ((i + 1 : Nat) : Int) = (i : Int) + 1 by omega] at h3 ⊢
    rw [h1 i hi, h2, h3, C.1, C.2.1, po_x H]
theorem c40m {L RL : Type} [Lean.Grind.Field L] [Lean.Grind.CommRing RL] {d1 : RL → Nat → L} {j1 : L → RL} {W : RL} (HL : IsPol d1 j1 W) {B : va_E} {σ : l2_m} {K : Int → l2_m → Prop} {cd : L → Int} (C : isCk σ cd) {T : Nat} {α : L} {M : RL} (hM : cpw d1 cd (σ 125) 32 M) (dM : dlt d1 M (T + 1)) (hT : σ 109 17 = (T : Int)) (T30 : T ≤ 30) (hK : ∀ τ : l2_m, (∀ b j, b ≠ 125 → ¬ (b = 109 ∧ j = 17) → τ b j = σ b j) → cpw d1 cd (τ 125) 32 ((W - j1 α) * M) → τ 109 17 = (T : Int) + 1 → K 0 τ) : w40_208 B σ (cd (-α)) 31 K := by
  obtain ⟨C0, C1, C2, C3, C4⟩ := id C
  obtain ⟨k1, k2, k3, k4, k5, k6, k7⟩ := id C0
  unfold w40_208
  refine lz2_inv (fun (x : Int) s => -1 ≤ x ∧ x ≤ 31 ∧ (∀ b j, b ≠ 125 → s b j = σ b j) ∧ (∀ j : Int, j ≤ x → s 125 j = σ 125 j) ∧ (x < 0 → s 125 0 = fadd (σ 110 7) (σ 112) (σ 110 7) (fmul (σ 110 7) (cd (-α)) (σ 125 0))) ∧ (∀ i : Nat, i + 1 < 32 → x < (i : Int) + 1 → s 125 ((i : Int) + 1) = fadd (σ 110 7) (σ 112) (σ 125 i) (fmul (σ 110 7) (cd (-α)) (σ 125 ((i : Int) + 1))))) (fun x _ => x + 1) ?_ ⟨by decide, by decide, fun _ _ _ => rfl, fun _ _ => rfl, fun w => by omega, fun i _ _ => by omega⟩
  intro X x s hX ⟨x0, x1, s1, s2, s3, s4⟩
  refine ⟨⟨by omega, by omega⟩, ?_⟩
  by_cases hx : x < 0
  · rw [if_pos hx]
    intro t et
    have e1 : ∀ b j, ¬ (b = 109 ∧ j = 17) → t b j = s b j := fun b j w => by
      rw [et]
      unfold l2_u
      rw [if_neg w]
    have hl := cpw_lin HL C0 (w := t 125) hM dM T30 (by rw [e1 125 0 (fun w => absurd w.1 (by decide))]; exact s3 hx) (fun i hi => by rw [e1 125 _ (fun w => absurd w.1 (by decide))]; exact s4 i hi (by omega))
    refine hK t (fun b j w w' => by rw [e1 b j w']; exact s1 b j w) hl.1 ?_
    rw [et, l2_u_self, s1 109 17 (by decide), hT]
  · rw [if_neg hx]
    obtain ⟨e, rfl⟩ : ∃ e : Nat, x = (e : Int) := ⟨x.toNat, by omega⟩
    have m0 := hM.1 e (by omega)
    have b1 := k6 (-α)
    have b2 := k6 (d1 M e)
    have b3 := k6 (-α * d1 M e)
    have z7 : s 110 7 = σ 110 7 := s1 110 7 (by decide)
    have z12 : s 112 = σ 112 := funext (fun j => s1 112 j (by decide))
    have ee : s 125 (e : Int) = σ 125 e := s2 _ (by omega)
    by_cases he : (0 : Int) < e
    · rw [if_pos he]
      obtain ⟨g, rfl⟩ : ∃ g : Nat, e = g + 1 := ⟨e - 1, by omega⟩
      have eg : s 125 (((g + 1 : Nat) : Int) - 1) = cd (d1 M g) := by
        rw [s2 _ (by omega), show ((g + 1 : Nat) : Int) - 1 = (g : Int) by omega]; exact hM.1 g (by omega)
      have b4 := k6 (d1 M g)
      refine ⟨⟨by omega, by omega⟩, ?_⟩
      unfold w40_237
      rw [z7, z12, ee, eg, m0, k1]
      refine ⟨⟨by omega, by omega, b1.1, b1.2, b2.1, b2.2, by omega, b4.1, b4.2, b3.1, b3.2, C1, C4⟩, ?_⟩
      intro t et
      refine hX _ t ⟨by omega, by omega, fun b j w => by rw [et, l2_u_ne w]; exact s1 b j w, fun j hj => by rw [et, l2_u_nj (by omega)]; exact s2 j (by omega), fun w => by omega, fun i hi hi' => ?_⟩ (by omega)
      by_cases hig : i = g
      · rw [et, hig, show (g : Int) + 1 = ((g + 1 : Nat) : Int) by omega, l2_u_self, m0, k1, hM.1 g (by omega)]
      · rw [et, l2_u_nj (by omega)]; exact s4 i hi (by omega)
    · rw [if_neg he]
      have e0 : e = 0 := by omega
      rw [e0] at m0 b2 b3 ee ⊢
      rw [show ((0 : Nat) : Int) = 0 by rfl] at m0 ee ⊢
      unfold w40_237
      rw [z7, z12, ee, m0, k1]
      have z0 := k6 0
      rw [cd_0 C0] at z0
      refine ⟨⟨by omega, by omega, b1.1, b1.2, b2.1, b2.2, by omega, z0.1, z0.2, b3.1, b3.2, C1, C4⟩, ?_⟩
      intro t et
      refine hX _ t ⟨by omega, by omega, fun b j w => by rw [et, l2_u_ne w]; exact s1 b j w, fun j hj => by rw [et, l2_u_nj (by omega)]; exact s2 j (by omega), fun _ => by rw [et, l2_u_self, m0, k1], fun i hi hi' => ?_⟩ (by omega)
      rw [et, l2_u_nj (by omega)]; exact s4 i hi (by omega)
theorem c40 {K1 L R RL Q : Type} [Lean.Grind.Field K1] [Lean.Grind.Field L] [Lean.Grind.CommRing R] [Lean.Grind.CommRing RL] [Lean.Grind.CommRing Q] {c1 : R → Nat → K1} {k1 : K1 → R} {Y : R} (H1 : IsPol c1 k1 Y) {d1 : RL → Nat → L} {j1 : L → RL} {W : RL} (HL : IsPol d1 j1 W) {cq : Q → Nat → L} {kq : L → Q} {Z : Q} (HQ : IsPol cq kq Z) {B : va_E} {σ : l2_m} {K : Int → l2_m → Prop} {p : Int} {em : Int → K1} {φ : K1 → L} {cd : L → Int} (F : isFi p em φ cd σ) {U V : Nat} (hUV : ulr σ U V) {D : Q} {t T : Nat} (hD : cpw cq cd (σ U) 16 D) (t16 : t < 16) {l : R} (hl : rpw c1 em p (σ 123) 32 l) {b : Nat → RL} (hb : ∀ x : Nat, x < 16 → cpw d1 cd (fun j => σ 120 ((x : Int) * 32 + j)) 32 (b x)) {M : RL} (hM : cpw d1 cd (σ 125) 32 M) (dM : dlt d1 M (T + 1)) (hT : σ 109 17 = (T : Int)) (T30 : T ≤ 30) (α : L) (hK : ∀ (τ : l2_m) (b' : Nat → RL), (∀ q j, q ≠ 120 → q ≠ 125 → ¬ (q = 109 ∧ j = 17) → τ q j = σ q j) → (∀ x : Nat, x < 16 → cpw d1 cd (fun j => τ 120 ((x : Int) * 32 + j)) 32 (b' x)) → (∀ x, x ≤ t → b' x = b x + j1 ((cq D x * (evx c1 d1 j1 W φ α l * (cq D t)⁻¹) + -(ev j1 W α (b x))) * (ev j1 W α M)⁻¹) * M) → (∀ x, t < x → b' x = b x) → cpw d1 cd (τ 125) 32 ((W - j1 α) * M) → τ 109 17 = (T : Int) + 1 → K 0 τ) : wC B 40 [vr 109, vi (cd α), vi (t : Int)] σ K := by
  obtain ⟨aU, aV, gU, gV, nUV, iU, iV, tU, tV⟩ := ulr_f hUV
  have C := F.2.2.1
  obtain ⟨C0, C1, C2, C3, C4⟩ := id C
  obtain ⟨k1', k2, k3, k4, k5, k6, k7⟩ := id C0
  obtain ⟨b', eb⟩ : ∃ b' : Nat → RL, b' = fun x => if x ≤ t then b x + j1 ((cq D x * (evx c1 d1 j1 W φ α l * (cq D t)⁻¹) + -(ev j1 W α (b x))) * (ev j1 W α M)⁻¹) * M else b x := ⟨_, rfl⟩
  have eb1 : ∀ x, x ≤ t → b' x = b x + j1 ((cq D x * (evx c1 d1 j1 W φ α l * (cq D t)⁻¹) + -(ev j1 W α (b x))) * (ev j1 W α M)⁻¹) * M := fun x hx => by rw [eb]; exact if_pos hx
  have eb2 : ∀ x, t < x → b' x = b x := fun x hx => by rw [eb]; exact if_neg (by omega)
  refine o40 ?_
  unfold w40
  refine c41g H1 HL F hl α ?_
  rw [tU, hD.1 t t16, k3]
  have b1 := k6 (cq D t)
  have b2 := k6 (cq D t)⁻¹
  have b3 := k6 (ev j1 W α (cmf c1 d1 φ l))
  refine ⟨⟨aU, by omega, by omega, b1.1, b1.2, by omega, b3.1, b3.2, b2.1, b2.2⟩, ?_⟩
  intro x3 ex3
  rw [k1'] at ex3
  have hM' : cpw d1 cd (fun j => σ 125 (0 + j)) 32 M := cpw_cg hM (fun i _ => by rw [Int.zero_add])
  refine c42g HL C rfl (by decide) (by decide) hM' α ?_
  have b4 := k6 (ev j1 W α M)
  refine ⟨⟨b4.1, b4.2, by omega⟩, ?_⟩
  intro x4 ex4
  rw [k3] at ex4
  have b5 := k6 (ev j1 W α (cmf c1 d1 φ l) * (cq D t)⁻¹)
  have b6 := k6 (ev j1 W α M)⁻¹
  unfold w40_48
  refine lz2_inv (fun (x : Int) s => 0 ≤ x ∧ x ≤ t + 1 ∧ (∀ q j, q ≠ 120 → s q j = σ q j) ∧ (∀ n : Int, 32 * x ≤ n → s 120 n = σ 120 n) ∧ (∀ i : Nat, (i : Int) < x → cpw d1 cd (fun j => s 120 ((i : Int) * 32 + j)) 32 (b' i))) (fun x _ => t + 1 - x) ?_ ⟨by decide, by omega, fun _ _ _ => rfl, fun _ _ => rfl, fun i hi => by omega⟩
  intro X x s hX ⟨x0, x1, s1, s2, s3⟩
  have Cs : isCk s cd := isCk_cg C (fun q j _ _ => s1 q j (by omega))
  have z7 : s 110 7 = σ 110 7 := s1 110 7 (by decide)
  have z5 : s 110 5 = σ 110 5 := s1 110 5 (by decide)
  have z12 : s 112 = σ 112 := funext (fun j => s1 112 j (by decide))
  refine ⟨⟨⟨by omega, by omega⟩, ⟨by omega, by omega⟩⟩, ?_⟩
  by_cases hx : (t : Int) < x
  · rw [if_pos hx, z7, z5, k4]
    have b7 := k6 α
    refine ⟨⟨b7.1, b7.2, C2, C3, by omega⟩, ?_⟩
    intro x5 ex5
    rw [ex5]
    refine c40m HL Cs (cpw_cg hM (fun i _ => s1 125 i (by decide))) dM ((s1 109 17 (by decide)).trans hT) T30 (fun τ f1 f2 f3 => ?_)
    refine hK τ b' (fun q j w w' w'' => by rw [f1 q j w' w'']; exact s1 q j w) (fun i hi => ?_) eb1 eb2 f2 f3
    have e1 : ∀ n, τ 120 n = s 120 n := fun n => f1 120 n (by decide) (fun w => absurd w.1 (by decide))
    by_cases hit : i ≤ t
    · exact cpw_cg (s3 i (by omega)) (fun j _ => e1 _)
    · rw [eb2 i (by omega)]
      exact cpw_cg (hb i hi) (fun j _ => (e1 _).trans (s2 _ (by omega)))
  · rw [if_neg hx]
    obtain ⟨e, rfl⟩ : ∃ e : Nat, x = (e : Int) := ⟨x.toNat, by omega⟩
    have he : e < 16 := by omega
    have hbe : cpw d1 cd (fun j => s 120 ((e : Int) * 32 + j)) 32 (b e) := cpw_cg (hb e he) (fun j _ => s2 _ (by omega))
    refine c42g HL Cs rfl (by omega) (by omega) hbe α ?_
    have tUs : Int.toNat (s 109 15) = U := by rw [s1 109 15 (by decide)]; exact tU
    have sU : ∀ j, s U j = σ U j := fun j => s1 U j (by omega)
    rw [tUs, sU, hD.1 e he, z7, z5, z12, ex3]
    have b8 := k6 (cq D e)
    refine ⟨⟨aU, by omega, by omega, b8.1, b8.2, b5.1, b5.2, by omega⟩, ?_⟩
    intro x7 ex7
    rw [k1'] at ex7
    have b9 := k6 (ev j1 W α (b e))
    have b10 := k6 (-(ev j1 W α (b e)))
    have b11 := k6 (cq D e * (ev j1 W α (cmf c1 d1 φ l) * (cq D t)⁻¹))
    have b12 := k6 (cq D e * (ev j1 W α (cmf c1 d1 φ l) * (cq D t)⁻¹) + -(ev j1 W α (b e)))
    rw [ex7, ex4, k4, k2]
    refine ⟨⟨b9.1, b9.2, C2, C3, b11.1, b11.2, b10.1, b10.2, C1, C4, b12.1, b12.2, b6.1, b6.2⟩, ?_⟩
    intro x8 ex8
    rw [k1'] at ex8
    obtain ⟨μ, eμ⟩ : ∃ μ : L, μ = (cq D e * (ev j1 W α (cmf c1 d1 φ l) * (cq D t)⁻¹) + -(ev j1 W α (b e))) * (ev j1 W α M)⁻¹ := ⟨_, rfl⟩
    rw [← eμ] at ex8
    have b13 := k6 μ
    unfold w40_119
    refine lz2_inv (fun (y : Int) z => 0 ≤ y ∧ y ≤ T + 1 ∧ (∀ q j, q ≠ 120 → z q j = σ q j) ∧ (∀ i : Nat, (i : Int) < y → z 120 ((e : Int) * 32 + i) = fadd (σ 110 7) (σ 112) (s 120 ((e : Int) * 32 + i)) (fmul (σ 110 7) x8 (σ 125 i))) ∧ (∀ n : Int, (n < (e : Int) * 32 ∨ (e : Int) * 32 + y ≤ n) → z 120 n = s 120 n)) (fun y _ => T + 1 - y) ?_ ⟨by decide, by omega, s1, fun i hi => by omega, fun _ _ => rfl⟩
    intro Y' y z hY ⟨y0, y1, z1, z2, z3⟩
    have hTz : z 109 17 = (T : Int) := (z1 109 17 (by decide)).trans hT
    rw [hTz]
    refine ⟨⟨⟨by omega, by omega⟩, ⟨by omega, by omega⟩⟩, ?_⟩
    by_cases hy : (T : Int) < y
    · rw [if_pos (Or.inl hy)]
      have key := cpw_st HL C0 (w := fun j => z 120 ((e : Int) * 32 + j)) (s := 0) (m := μ) hbe hM dM (by omega) (fun i hi => by
        show z 120 ((e : Int) * 32 + ((0 + i : Nat) : Int)) = fadd (σ 110 7) (σ 112) (s 120 ((e : Int) * 32 + ((0 + i : Nat) : Int))) _
        rw [Nat.zero_add, ← ex8]; exact z2 i (by omega)) (fun j hj hjs => z3 _ (by omega))
      have e0 : W ^ 0 * M = M := by grind
      rw [e0, eμ] at key
      refine hX _ z ⟨by omega, by omega, z1, fun n hn => by rw [z3 n (by omega)]; exact s2 n (by omega), fun i hi => ?_⟩ (by omega)
      by_cases hie : i = e
      · rw [hie, eb1 e (by omega)]; exact key
      · exact cpw_cg (s3 i (by omega)) (fun j hj => z3 _ (by omega))
    · rw [if_neg (by omega)]
      obtain ⟨f, rfl⟩ : ∃ f : Nat, y = (f : Int) := ⟨y.toNat, by omega⟩
      intro x10 ex10
      have v0 := hbe.1 f (by omega)
      have v1 : s 120 ((e : Int) * 32 + f) = cd (d1 (b e) f) := v0
      have v2 := hM.1 f (by omega)
      have b14 := k6 (d1 (b e) f)
      have b15 := k6 (d1 M f)
      have b16 := k6 (μ * d1 M f)
      rw [ex10, z3 _ (by omega), v1, z1 125 f (by decide), v2, z1 110 7 (by decide), show z 112 = σ 112 from funext (fun j => z1 112 j (by decide)), ex8, k1']
      refine ⟨⟨by omega, by omega, by omega, by omega, b13.1, b13.2, b15.1, b15.2, by omega, b14.1, b14.2, b16.1, b16.2, C1, C4⟩, ?_⟩
      intro z' ez'
      refine hY _ z' ⟨by omega, by omega, fun q j w => by rw [ez', l2_u_ne w]; exact z1 q j w, fun i hi => ?_, fun n hn => ?_⟩ (by omega)
      · by_cases hif : i = f
        · rw [ez', hif, l2_u_self, v1, v2, ex8, k1']
        · rw [ez', l2_u_nj (by omega)]; exact z2 i (by omega)
      · rw [ez', l2_u_nj (by omega)]; exact z3 n (by omega)
