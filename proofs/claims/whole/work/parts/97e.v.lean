/-! ===== Commons: makeOne, isFound ===== -/
theorem c35 {B : va_E} {σ : l2_m} {K : Int → l2_m → Prop} {o0 : Nat} (ho0 : l2_al o0 = some 512) (hK : ∀ τ : l2_m, (∀ b j, b ≠ o0 → τ b j = σ b j) → (∀ n : Int, 0 ≤ n → n < 512 → τ o0 n = u1g n) → K 0 τ) : wC B 35 [vr o0] σ K := by
  refine o35 ho0 ?_
  unfold w35
  intro s1 es1
  rw [if_pos (by decide)]
  intro s2 es2
  refine hK s2 (fun b j w => ?_) (fun n n0 n1 => ?_)
  · rw [es2, l2_u_ne w, es1]; unfold fil; rw [if_neg (fun h => w h.1)]
  · unfold u1g
    by_cases hn : n = 0
    · rw [if_pos hn, es2, hn, l2_u_self]
    · rw [if_neg hn, es2, l2_u_nj hn, es1]; unfold fil; rw [if_pos ⟨rfl, by omega, by omega⟩]
theorem invOK_cg {σ τ : l2_m} {p : Int} (h : invOK σ 34 p) (e : ∀ j, τ 35 j = σ 35 j) : invOK τ 34 p := fun y h1 h2 => by
  show 0 < τ 35 y ∧ τ 35 y < p ∧ y * τ 35 y % p = 1
  rw [e y]; exact h y h1 h2
theorem fld_inj {K1 L : Type} [Lean.Grind.Field K1] [Lean.Grind.Field L] {φ : K1 → L} (hφ : isHom φ) {a b : K1} (h : φ a = φ b) : a = b := by
  by_cases hab : a - b = 0
  · grind
  · have h1 : (a - b) * (a - b)⁻¹ = 1 := by grind
    have h2 := hφ.2.2.2 (a - b) (a - b)⁻¹
    have h3 := hφ.2.2.1 (a - b) b
    rw [show a - b + b = a by grind, h] at h3
    have h4 : φ (a - b) = 0 := by grind
    rw [h1, hφ.2.1, h4] at h2
    have h5 : (1 : L) ≠ 0 := fun w => by
      have := Lean.Grind.Field.zero_ne_one (α := L)
      exact this w.symm
    exact absurd (show (1 : L) = 0 by rw [h2]; grind) h5
theorem cmf_inj {K1 L R RL : Type} [Lean.Grind.Field K1] [Lean.Grind.Field L] [Lean.Grind.CommRing R] [Lean.Grind.CommRing RL] {c1 : R → Nat → K1} {k1 : K1 → R} {Y : R} (H1 : IsPol c1 k1 Y) {d1 : RL → Nat → L} {j1 : L → RL} {W : RL} (HL : IsPol d1 j1 W) {φ : K1 → L} (hφ : isHom φ) {a b : R} (h : cmf c1 d1 φ a = cmf c1 d1 φ b) : a = b := po_ext H1 (fun i => fld_inj hφ (by rw [← cmp_c H1 HL hφ, ← cmp_c H1 HL hφ, h]))
theorem gpw_ex {K1 R A : Type} [Lean.Grind.Field K1] [Lean.Grind.CommRing R] [Lean.Grind.CommRing A] {c1 : R → Nat → K1} {k1 : K1 → R} {Y : R} (H1 : IsPol c1 k1 Y) {c2 : A → Nat → R} {k2 : R → A} {X : A} (H2 : IsPol c2 k2 X) {p : Int} {em : Int → K1} {u : Int → Int} (h : ∀ n : Int, 0 ≤ n → n < 512 → 0 ≤ u n ∧ u n < p) : ∃ a : A, gpw c1 c2 em p u a := by
  obtain ⟨a, ha⟩ := mkA_ex H1 H2 (fun i j => em (u ((i : Int) * 32 + j))) 16 32
  refine ⟨a, fun i j hi hj => ?_, fun i j hij => ?_⟩
  · have := h ((i : Int) * 32 + j) (by omega) (by omega)
    exact ⟨this.1, this.2, by rw [ha i j, if_pos ⟨hi, hj⟩]⟩
  · rw [ha i j, if_neg (by omega)]
def frd (σ τ : l2_m) : Prop := ∀ q j, q ≠ 116 → q ≠ 117 → q ≠ 118 → q ≠ 119 → q ≠ 122 → q ≠ 124 → τ q j = σ q j
theorem c43 {K1 L R RL A : Type} [Lean.Grind.Field K1] [Lean.Grind.Field L] [Lean.Grind.CommRing R] [Lean.Grind.CommRing RL] [Lean.Grind.CommRing A] {c1 : R → Nat → K1} {k1 : K1 → R} {Y : R} (H1 : IsPol c1 k1 Y) {c2 : A → Nat → R} {k2 : R → A} {X : A} (H2 : IsPol c2 k2 X) {d1 : RL → Nat → L} {j1 : L → RL} {W : RL} (HL : IsPol d1 j1 W) {B : va_E} {σ : l2_m} {K : Int → l2_m → Prop} {p : Int} {em : Int → K1} {φ : K1 → L} {cd : L → Int} (F : isFi p em φ cd σ) {f g : A} (hp : σ 34 0 = p) (hI : invOK σ 34 p) (hf : gpw c1 c2 em p (σ 114) f) (hg : gpw c1 c2 em p (σ 115) g) {b : Nat → RL} (hb : ∀ x : Nat, x < 16 → cpw d1 cd (fun j => σ 120 ((x : Int) * 32 + j)) 32 (b x)) (hnz : ∃ x, x < 16 ∧ b x ≠ 0) (hK1 : ∀ (τ : l2_m) (N D : A) (e : R), frd σ τ → gpw c1 c2 em p (τ 116) D → dlt c2 N 16 → (∀ x, x < 16 → b x = cmf c1 d1 φ (c2 N x)) → N = k2 e * D → e ≠ 0 → prim c2 D → dv D f → dv D g → K 1 τ) (hK0 : ∀ τ : l2_m, frd σ τ → gpw c1 c2 em p (τ 116) 1 → (∀ (N D : A) (e : R), dlt c2 N 16 → (∀ x, x < 16 → b x = cmf c1 d1 φ (c2 N x)) → N = k2 e * D → e ≠ 0 → prim c2 D → ¬ (dv D f ∧ dv D g)) → K 0 τ) : wC B 43 [vr 109] σ K := by
  obtain ⟨E, hφ, ⟨C0, C1, C2, C3, C4⟩, h3, hof, hnu, hsu, z511, y1, y2, y3⟩ := id F
  obtain ⟨k1', k2', k3, k4, k5, k6, k7⟩ := id C0
  have p2 := E.1
  have p97 := E.2.1
  have cell : ∀ n : Int, 0 ≤ n → n < 512 → σ 120 n = cd (d1 (b (n / 32).toNat) (n % 32).toNat) := fun n n0 n1 => by
    have h := (hb (n / 32).toNat (by omega)).1 (n % 32).toNat (by omega)
    have h' : σ 120 ((((n / 32).toNat : Nat) : Int) * 32 + (((n % 32).toNat : Nat) : Int)) = cd (d1 (b (n / 32).toNat) (n % 32).toNat) := h
    rw [show (((n / 32).toNat : Nat) : Int) * 32 + (((n % 32).toNat : Nat) : Int) = n by omega] at h'
    exact h'
  have one : ∀ (s : l2_m), frd σ s → (∀ (N D : A) (e : R), dlt c2 N 16 → (∀ x, x < 16 → b x = cmf c1 d1 φ (c2 N x)) → N = k2 e * D → e ≠ 0 → prim c2 D → ¬ (dv D f ∧ dv D g)) → w43_116 B s K := fun s fs hs => by
    unfold w43_116
    refine c35 rfl (fun τ e1 e2 => ?_)
    exact hK0 τ (fun q j q1 q2 q3 q4 q5 q6 => by rw [e1 q j q1]; exact fs q j q1 q2 q3 q4 q5 q6) (gpw_cg (gpw_1 H1 H2 E) e2) hs
  refine o43 ?_
  unfold w43 w43_4
  refine lz3_inv (fun (x1 x2 : Int) s => 0 ≤ x2 ∧ x2 ≤ 512 ∧ (∀ q j, q ≠ 116 → s q j = σ q j) ∧ ((x1 = 1 ∧ ∀ n : Int, 0 ≤ n → n < x2 → s 116 n = fnum σ (σ 120 n) ∧ fnum σ (σ 120 n) ≠ -1) ∨ (x1 = 0 ∧ ∃ n : Int, 0 ≤ n ∧ n < 512 ∧ fnum σ (σ 120 n) = -1))) (fun _ x2 _ => 512 - x2) ?_ ⟨by decide, by decide, fun _ _ _ => rfl, Or.inl ⟨rfl, fun n _ _ => by omega⟩⟩
  intro X' x1 x2 s hX ⟨a0, a1, s1, s2⟩
  have rx1 : rg x1 := by
    rcases s2 with ⟨w, -⟩ | ⟨w, -⟩
    · rw [w]; exact ⟨by decide, by decide⟩
    · rw [w]; exact ⟨by decide, by decide⟩
  refine ⟨⟨by omega, by omega⟩, ?_⟩
  by_cases hx : x2 < 512
  · rw [if_pos hx]
    have fn : fnum s (s 120 x2) = fnum σ (σ 120 x2) := by
      rw [s1 120 x2 (by decide)]
      unfold fnum
      rw [s1 110 7 (by decide), s1 110 6 (by decide), s1 113 _ (by decide)]
    have rf : rg (fnum σ (σ 120 x2)) := by
      rw [cell x2 a0 hx]
      rcases hnu (d1 (b (x2 / 32).toNat) (x2 % 32).toNat) with ⟨n, n0, n1, -, w⟩ | ⟨w, -⟩
      · rw [w]; exact ⟨by omega, by omega⟩
      · rw [w]; exact ⟨by decide, by decide⟩
    have b1 := k6 (d1 (b (x2 / 32).toNat) (x2 % 32).toNat)
    rw [← cell x2 a0 hx] at b1
    refine ⟨⟨a0, hx, by rw [s1 120 x2 (by decide)]; exact b1.1, by rw [s1 120 x2 (by decide), s1 110 7 (by decide)]; exact b1.2, by rw [s1 110 6 (by decide)]; exact y1, by rw [s1 110 7 (by decide), s1 110 6 (by decide)]; exact y2, by rw [s1 110 7 (by decide)]; omega, by rw [s1 110 6 (by decide)]; exact y3⟩, ?_⟩
    intro t et
    rw [fn] at et
    have t0 : ∀ q j, q ≠ 116 → t q j = σ q j := fun q j w => by rw [et, l2_u_ne w]; exact s1 q j w
    have t1 : t 116 x2 = fnum σ (σ 120 x2) := by rw [et, l2_u_self]
    rw [t1]
    refine ⟨rx1, fun _ => rf, ?_⟩
    rcases s2 with ⟨w1, w2⟩ | ⟨w1, w2⟩
    · by_cases hm : fnum σ (σ 120 x2) = -1
      · rw [if_pos (Or.inr hm)]
        exact hX _ _ t ⟨by omega, by omega, t0, Or.inr ⟨rfl, x2, a0, hx, hm⟩⟩ (by omega)
      · rw [if_neg (by rw [w1]; rintro (w | w); exact absurd w (by decide); exact hm w)]
        refine hX _ _ t ⟨by omega, by omega, t0, Or.inl ⟨rfl, fun n n0 n1 => ?_⟩⟩ (by omega)
        by_cases hn : n = x2
        · rw [hn]; exact ⟨t1, hm⟩
        · rw [et, l2_u_nj hn]; exact w2 n n0 (by omega)
    · rw [if_pos (Or.inl w1)]
      exact hX _ _ t ⟨by omega, by omega, t0, Or.inr ⟨rfl, w2⟩⟩ (by omega)
  · rw [if_neg hx]
    refine ⟨rx1, ?_⟩
    rcases s2 with ⟨w1, w2⟩ | ⟨w1, n, n0, n1, w2⟩
    · rw [if_neg (by rw [w1]; decide)]
      have num : ∀ n : Int, 0 ≤ n → n < 512 → 0 ≤ s 116 n ∧ s 116 n < p ∧ d1 (b (n / 32).toNat) (n % 32).toNat = φ (em (s 116 n)) := fun n n0 n1 => by
        have h := w2 n n0 (by omega)
        rw [h.1]
        have h2 := h.2
        rw [cell n n0 n1] at h2 ⊢
        rcases hnu (d1 (b (n / 32).toNat) (n % 32).toNat) with ⟨m, m0, m1, m2, m3⟩ | ⟨w, -⟩
        · rw [m3]; exact ⟨m0, m1, m2⟩
        · exact absurd w h2
      obtain ⟨N, hN⟩ := gpw_ex (c1 := c1) (em := em) H1 H2 (fun n n0 n1 => ⟨(num n n0 n1).1, (num n n0 n1).2.1⟩)
      have dN := gpw_d H1 hN
      have eN : ∀ x, x < 16 → b x = cmf c1 d1 φ (c2 N x) := fun x hx => po_ext HL (fun j => by
        rw [cmp_c H1 HL hφ]
        by_cases hj : j < 32
        · have h := (num ((x : Int) * 32 + j) (by omega) (by omega)).2.2
          rw [show (((x : Int) * 32 + j) / 32).toNat = x by omega, show (((x : Int) * 32 + j) % 32).toNat = j by omega] at h
          rw [h, (hN.1 x j hx hj).2.2]
        · rw [(hb x hx).2 j (by omega), hN.2 x j (Or.inr (by omega)), hφ.1])
      have N0 : N ≠ 0 := fun w => by
        obtain ⟨x, hx, hbx⟩ := hnz
        refine hbx ?_
        rw [eN x hx, w, po_0 H2, cmp_0 H1 HL hφ]
      have uniq : ∀ N' : A, dlt c2 N' 16 → (∀ x, x < 16 → b x = cmf c1 d1 φ (c2 N' x)) → N' = N := fun N' dN' eN' => po_ext H2 (fun x => by
        by_cases hx : x < 16
        · exact cmf_inj H1 HL hφ (by rw [← eN' x hx, ← eN x hx])
        · rw [dN' x (by omega), dN x (by omega)])
      refine c26 H1 E rfl rfl (by decide) (by decide) (by decide) (by decide) ((s1 34 0 (by decide)).trans hp) (invOK_cg hI (fun j => s1 35 j (by decide))) (fun i hi => gpw_r hN i hi) (fun t1 d f1 r1 hd _ => ?_)
      have ct : isCt c2 N d := by
        refine ⟨fun i => ?_, fun e he => (hd e).mpr (fun i _ => he i)⟩
        by_cases hi : i < 16
        · exact (hd d).mp (dv_refl d) i hi
        · rw [dN i (by omega)]; exact dv_0 d
      obtain ⟨d0, a', ea, pa⟩ := ct_pp H1 H2 N0 ct
      have g1 : ∀ q j, q ≠ 116 → q ≠ 122 → q ≠ 124 → t1 q j = σ q j := fun q j w w' w'' => by rw [f1 q j w' w'']; exact s1 q j w
      refine c29 H1 H2 E rfl rfl (by decide) (by decide) ((g1 34 0 (by decide) (by decide) (by decide)).trans hp) (invOK_cg hI (fun j => g1 35 j (by decide) (by decide) (by decide))) (gpw_cg hN (fun n _ _ => f1 116 n (by decide) (by decide))) r1 d0 ⟨a', ea⟩ (fun t2 D f2 r2 eD => ?_)
      have D2 := po_dom H2 (po_dom H1 fld_dom)
      have kd0 : k2 d ≠ 0 := fun w => d0 (po_kinj H2 (by rw [w, po_kz H2]))
      have eDa : D = a' := dom_can D2 kd0 (by rw [← ea, eD]; grind)
      have pD : prim c2 D := by rw [eDa]; exact pa
      have eD' : N = k2 d * D := by rw [eDa]; exact ea
      have D0 := prim_nz H1 H2 pD
      have g2 : frd σ t2 := fun q j q1 q2 q3 q4 q5 q6 => by rw [f2 q j q1 q2 q3 q4]; exact g1 q j q1 q5 q6
      have no : ¬ (dv D f ∧ dv D g) → ∀ (N' D' : A) (e : R), dlt c2 N' 16 → (∀ x, x < 16 → b x = cmf c1 d1 φ (c2 N' x)) → N' = k2 e * D' → e ≠ 0 → prim c2 D' → ¬ (dv D' f ∧ dv D' g) := fun hno N' D' e h1 h2 h3 h4 h5 h6 => by
        have e1 := uniq N' h1 h2
        have h7 : dv D (k2 e * D') := ⟨k2 d, by rw [← h3, e1, eD']; grind⟩
        have h8 := gauss_dv H1 H2 pD h4 h7
        exact hno ⟨dv_tr h8 h6.1, dv_tr h8 h6.2⟩
      refine c30 H1 H2 E rfl rfl (by decide) (by decide) ((g2 34 0 (by decide) (by decide) (by decide) (by decide) (by decide) (by decide)).trans hp) (invOK_cg hI (fun j => g2 35 j (by decide) (by decide) (by decide) (by decide) (by decide) (by decide))) (gpw_cg hf (fun n _ _ => g2 114 n (by decide) (by decide) (by decide) (by decide) (by decide) (by decide))) r2 D0 (fun t3 q3 f3 r3 e3 => ?_) (fun t3 f3 nd => ?_)
      · refine ⟨⟨by decide, by decide⟩, ?_⟩
        rw [if_neg (by decide)]
        have g3 : frd σ t3 := fun q j q1 q2 q3 q4 q5 q6 => by rw [f3 q j q2 q4]; exact g2 q j q1 q2 q3 q4 q5 q6
        refine c30 H1 H2 E rfl rfl (by decide) (by decide) ((g3 34 0 (by decide) (by decide) (by decide) (by decide) (by decide) (by decide)).trans hp) (invOK_cg hI (fun j => g3 35 j (by decide) (by decide) (by decide) (by decide) (by decide) (by decide))) (gpw_cg hg (fun n _ _ => g3 115 n (by decide) (by decide) (by decide) (by decide) (by decide) (by decide))) (gpw_cg r2 (fun n _ _ => f3 116 n (by decide) (by decide))) D0 (fun t4 q4 f4 r4 e4 => ?_) (fun t4 f4 nd => ?_)
        · refine ⟨⟨by decide, by decide⟩, ?_⟩
          rw [if_neg (by decide)]
          refine hK1 t4 N D d (fun q j q1 q2 q3 q4 q5 q6 => by rw [f4 q j q2 q4]; exact g3 q j q1 q2 q3 q4 q5 q6) (gpw_cg r2 (fun n _ _ => by rw [f4 116 n (by decide) (by decide), f3 116 n (by decide) (by decide)])) dN eN eD' d0 pD ⟨q3, by rw [e3]; grind⟩ ⟨q4, by rw [e4]; grind⟩
        · refine ⟨⟨by decide, by decide⟩, ?_⟩
          rw [if_pos rfl]
          exact one t4 (fun q j q1 q2 q3 q4 q5 q6 => by rw [f4 q j q2 q4]; exact g3 q j q1 q2 q3 q4 q5 q6) (no (fun w => nd w.2))
      · refine ⟨⟨by decide, by decide⟩, ?_⟩
        rw [if_pos rfl]
        exact one t3 (fun q j q1 q2 q3 q4 q5 q6 => by rw [f3 q j q2 q4]; exact g2 q j q1 q2 q3 q4 q5 q6) (no (fun w => nd w.1))
    · rw [if_pos w1]
      refine one s (fun q j q1 _ _ _ _ _ => s1 q j q1) (fun N D e dN eN _ _ _ _ => ?_)
      rw [cell n n0 n1] at w2
      rcases hnu (d1 (b (n / 32).toNat) (n % 32).toNat) with ⟨m, m0, m1, m2, m3⟩ | ⟨-, w⟩
      · rw [m3] at w2; omega
      · refine w (c1 (c2 N (n / 32).toNat) (n % 32).toNat) ?_
        rw [eN _ (by omega), cmp_c H1 HL hφ]
