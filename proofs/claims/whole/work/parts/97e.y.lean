/-! ===== Commons: findCommon, the loop ===== -/
def frm (σ τ : l2_m) : Prop := ∀ q j, (q < 116 ∨ 127 < q ∨ q = 121 ∨ q = 123) → ¬ (q = 109 ∧ 15 ≤ j ∧ j ≤ 17) → τ q j = σ q j
theorem frm_tr {σ τ υ : l2_m} (h : frm σ τ) (h' : frm τ υ) : frm σ υ := fun q j a b => by rw [h' q j a b]; exact h q j a b
theorem frm_c {σ τ : l2_m} (h : frc σ τ) : frm σ τ := fun q j a b => h q j (by omega) (by omega) (fun w => b ⟨w.1, by omega, by omega⟩)
theorem frm_d {σ τ : l2_m} (h : frd σ τ) : frm σ τ := fun q j a b => h q j (by omega) (by omega) (by omega) (by omega) (by omega) (by omega)
theorem frm_b {σ τ : l2_m} (h : ∀ q j, q ≠ 120 → q ≠ 125 → ¬ (q = 109 ∧ j = 17) → τ q j = σ q j) : frm σ τ := fun q j a b => h q j (by omega) (by omega) (fun w => b ⟨w.1, by omega, by omega⟩)
theorem c34l {K1 L R RL A Q : Type} [Lean.Grind.Field K1] [Lean.Grind.Field L] [Lean.Grind.CommRing R] [Lean.Grind.CommRing RL] [Lean.Grind.CommRing A] [Lean.Grind.CommRing Q] {c1 : R → Nat → K1} {k1 : K1 → R} {Y : R} (H1 : IsPol c1 k1 Y) {c2 : A → Nat → R} {k2 : R → A} {X : A} (H2 : IsPol c2 k2 X) {d1 : RL → Nat → L} {j1 : L → RL} {W : RL} (HL : IsPol d1 j1 W) {cq : Q → Nat → L} {kq : L → Q} {Z : Q} (HQ : IsPol cq kq Z) {B : va_E} {σ : l2_m} {K : Int → l2_m → Prop} {p : Int} {em : Int → K1} {φ : K1 → L} {cd : L → Int} (F : isFi p em φ cd σ) {f g G f' g' U' V' : A} {ρ l w : R} {n m d nd : Nat} {U V : Nat} (hUV : ulr σ U V) (hp : σ 34 0 = p) (hI : invOK σ 34 p) (hf : gpw c1 c2 em p (σ 114) f) (hg : gpw c1 c2 em p (σ 115) g) (yf : hlt c1 c2 f 16) (yg : hlt c1 c2 g 16) (hn : isDg c2 f n) (hm : isDg c2 g m) (pG : prim c2 G) (ef : f = G * f') (eg : g = G * g') (hG : isDg c2 G d) (ρ0 : ρ ≠ 0) (hr : k2 ρ = U' * f' + V' * g') (dρ : dlt c1 ρ 451) (last : ∀ D, prim c2 D → dv D f → dv D g → dv D G) (hl : rpw c1 em p (σ 123) 32 l) (hlf : dv l (c2 f n)) (el : l = c2 G d * w) (hnd : ∀ x, dlt c1 (c2 (k2 w * G) x) nd) (n31 : nd ≤ 31) (n1 : 1 ≤ nd) (h116 : gpw c1 c2 em p (σ 116) 1) {t0 : Nat} (t15 : t0 ≤ 15) (d0 : d ≤ t0) (h120 : ∀ n : Int, 0 ≤ n → n < 512 → σ 120 n = cd 0) (h125 : σ 125 0 = cd 1) (h125' : ∀ n : Int, 0 < n → n < 32 → σ 125 n = cd 0) (h17 : σ 109 17 = 0) (hK : ∀ (τ : l2_m) (U V : Nat) (D : A), frm σ τ → ulr τ U V → gpw c1 c2 em p (τ 116) D → prim c2 D → dv D f → dv D g → (∀ E, prim c2 E → dv E f → dv E g → dv E D) → K 0 τ) : w34_139 B σ (n : Int) (m : Int) (nd : Int) (t0 : Int) 0 K := by
  obtain ⟨E, hφ, hCk, h3, hof, hnu, hsu, z511, -⟩ := id F
  have C1 := hCk.2.1
  have n16 := isDg_lt hn (gpw_d H1 hf)
  have m16 := isDg_lt hm (gpw_d H1 hg)
  obtain ⟨z, ez⟩ : ∃ z : Nat, σ 110 7 = (z : Int) := ⟨(σ 110 7).toNat, by omega⟩
  have hex : ∀ i : Nat, ∃ α : L, i < z → cd α = (i : Int) := fun i => by
    by_cases hi : i < z
    · obtain ⟨α, hα⟩ := hsu i (by omega) (by omega)
      exact ⟨α, fun _ => hα⟩
    · exact ⟨0, fun h => absurd h hi⟩
  obtain ⟨le, hle⟩ : ∃ le : Nat → L, ∀ i, i < z → cd (le i) = (i : Int) := ⟨fun i => (hex i).choose, fun i => (hex i).choose_spec⟩
  have inj : ∀ i j, i < z → j < z → le i = le j → i = j := fun i j hi hj hij => by
    have h1 := hle i hi
    rw [hij, hle j hj] at h1; omega
  obtain ⟨gd, egd⟩ : ∃ gd : Nat → Prop, gd = fun i => evx c1 d1 j1 W φ (le i) (c2 f n) ≠ 0 ∧ evx c1 d1 j1 W φ (le i) (c2 g m) ≠ 0 ∧ evx c1 d1 j1 W φ (le i) ρ ≠ 0 := ⟨_, rfl⟩
  have cnt : 31 ≤ cnp gd z := by
    rw [egd]
    exact fc_cnt H1 HL hφ le inj (by omega) hn.1 hm.1 ρ0 (yf n) (yg m) dρ
  have p1 : prim c2 (1 : A) := fun e he => by
    have h1 := he 0
    rw [show c2 (1 : A) 0 = 1 by rw [← po_kone H2, po_k0 H2]] at h1
    obtain ⟨y, ey⟩ := h1
    exact ⟨y, ey.symm⟩
  have dv1 : ∀ a : A, dv 1 a := fun a => ⟨a, by grind⟩
  have one : d = 0 → ∀ D, prim c2 D → dv D f → dv D g → dv D 1 := fun w D pD h1 h2 => fc_one H1 H2 pG (by rw [← w]; exact hG) last D pD h1 h2
  have fin1 : ∀ (s : l2_m) (U V : Nat), frm σ s → ulr s U V → gpw c1 c2 em p (s 116) 1 → d = 0 → K 0 s := fun s U V h1 h2 h3 h4 => hK s U V 1 h1 h2 h3 p1 (dv1 f) (dv1 g) (one h4)
  have b0 := bld_0 (t := t0) (x5 := 0) (lv := fun β => evx c1 d1 j1 W φ β l) (At := atE c1 d1 j1 W φ c2 cq f g n m) (cq := cq) HL h120 h125 h125' h17
  unfold w34_139
  refine lz3_inv (fun (x4 x5 : Int) s => ∃ (t e T : Nat) (b : Nat → RL) (a : Nat → L) (M : RL) (U V : Nat), x4 = (t : Int) ∧ x5 = (e : Int) ∧ t ≤ 15 ∧ d ≤ t ∧ e ≤ z ∧ frm σ s ∧ ulr s U V ∧ gpw c1 c2 em p (s 116) 1 ∧ T < nd ∧ bld d1 j1 W cq cd (fun β => evx c1 d1 j1 W φ β l) (atE c1 d1 j1 W φ c2 cq f g n m) t x5 s T b a M ∧ (t = d → cnp gd e ≤ T) ∧ (t ≠ d → cnp gd e = 0)) (fun _ x5 _ => z - x5) ?_ ⟨t0, 0, 0, _, _, _, U, V, rfl, rfl, t15, d0, by omega, fun _ _ _ _ => rfl, hUV, h116, by omega, b0, fun _ => Nat.le_refl 0, fun _ => rfl⟩
  rintro X' x4 x5 s hX ⟨t, e, T, b, a, M, U, V, rfl, rfl, t15, dt, ez', fs, hu, g116, hT, hbd, c1', c2'⟩
  have Fs : isFi p em φ cd s := isFi_cg F (fun q j _ _ => fs q j (Or.inl (by omega)) (fun w => by omega))
  have s7 : s 110 7 = (z : Int) := (fs 110 7 (Or.inl (by decide)) (fun w => by omega)).trans ez
  rw [s7]
  refine ⟨⟨⟨by omega, by omega⟩, ⟨by omega, by omega⟩⟩, ?_⟩
  by_cases hz : (e : Int) < z
  · rw [if_pos hz]
    have cα := hle e (by omega)
    obtain ⟨α, eα⟩ : ∃ α : L, α = le e := ⟨_, rfl⟩
    rw [← eα] at cα
    have hη := evx_hom H1 HL hφ α
    have k114 : gpw c1 c2 em p (s 114) f := gpw_cg hf (fun n _ _ => fs 114 n (Or.inl (by decide)) (fun w => by omega))
    have k115 : gpw c1 c2 em p (s 115) g := gpw_cg hg (fun n _ _ => fs 115 n (Or.inl (by decide)) (fun w => by omega))
    rw [← cα]
    refine c36 H1 H2 HL HQ Fs hu k114 k115 yf yg hn hm α (fun s1 U V f1 u1 hz1 => ?_) (fun s1 U V D t1 f1 u1 r1 dD t16 z1 z2 hD => ?_)
    · -- a lead vanishes
      refine ⟨⟨by decide, by decide⟩, ?_⟩
      rw [if_neg (by decide)]
      refine ⟨fun w => absurd w (by decide), ?_⟩
      rw [if_neg (fun w => absurd w.1 (by decide)), cα]
      have ng : ¬ gd e := by
        rw [egd]
        rintro ⟨w1, w2, -⟩
        rw [← eα] at w1 w2
        rcases hz1 with w | w
        · exact w1 w
        · exact w2 w
      have e1 : ∀ q j, q ≠ 126 → q ≠ 127 → ¬ (q = 109 ∧ (j = 15 ∨ j = 16)) → s1 q j = s q j := f1
      refine hX _ _ s1 ⟨t, e + 1, T, b, a, M, U, V, rfl, by omega, t15, dt, by omega, frm_tr fs (frm_c f1), u1, gpw_cg g116 (fun n _ _ => e1 116 n (by decide) (by decide) (fun w => by omega)), hT, bld_mono hbd (by omega) (e1 109 17 (by decide) (by decide) (fun w => by omega)) (fun j => e1 120 j (by decide) (by decide) (fun w => by omega)) (fun j => e1 125 j (by decide) (by decide) (fun w => by omega)), fun w => by rw [cnp_f ng]; exact c1' w, fun w => by rw [cnp_f ng]; exact c2' w⟩ (by omega)
    · have e1 : ∀ q j, q ≠ 126 → q ≠ 127 → ¬ (q = 109 ∧ (j = 15 ∨ j = 16)) → s1 q j = s q j := f1
      have fs1 := frm_tr fs (frm_c f1)
      have g1 : gpw c1 c2 em p (s1 116) 1 := gpw_cg g116 (fun n _ _ => e1 116 n (by decide) (by decide) (fun w => by omega))
      have F1 : isFi p em φ cd s1 := isFi_cg F (fun q j _ _ => fs1 q j (Or.inl (by omega)) (fun w => by omega))
      have hAt : atE c1 d1 j1 W φ c2 cq f g n m α t1 D := ⟨z1, z2, dD, hD⟩
      have hmo := mo_1 H1 H2 HQ hη hn ⟨f', ef⟩ ⟨g', eg⟩ hG z1 (fun e e1 e2 => (hD e).mpr ⟨e1, e2⟩) dD
      have dt1 : d ≤ t1 := hmo.2.1
      have gdt : gd e → t1 = d := fun w => by
        rw [egd] at w
        have w3 := w.2.2
        rw [← eα] at w3
        have hDD := (hD D).mp (dv_refl D)
        exact mo_2 H1 H2 HQ hη hn ef eg hG z1 hr w3 hDD.1 hDD.2 (fun e e1 e2 => (hD e).mpr ⟨e1, e2⟩) dD
      refine ⟨⟨by omega, by omega⟩, ?_⟩
      by_cases h0 : (t1 : Int) = 0
      · rw [if_pos h0]
        exact fin1 s1 U V fs1 u1 g1 (by omega)
      · rw [if_neg h0]
        refine ⟨fun _ => ⟨by omega, by omega⟩, ?_⟩
        by_cases hle1 : t1 ≤ t
        · rw [if_pos ⟨by omega, by omega⟩]
          -- the common part
          have main : ∀ (s2 : l2_m) (T2 : Nat) (b2 : Nat → RL) (a2 : Nat → L) (M2 : RL), frm σ s2 → ulr s2 U V → gpw c1 c2 em p (s2 116) 1 → cpw cq cd (s2 U) 16 D → T2 < nd → bld d1 j1 W cq cd (fun β => evx c1 d1 j1 W φ β l) (atE c1 d1 j1 W φ c2 cq f g n m) t1 (e : Int) s2 T2 b2 a2 M2 → (t1 = d → cnp gd e ≤ T2) → (t1 ≠ d → cnp gd e = 0) → w34_194 B s2 (n : Int) (m : Int) (nd : Int) (t1 : Int) (cd α) (t1 : Int) X' K := by
            intro s2 T2 b2 a2 M2 fs2 u2 g2 r2 hT2 hb2 cc1 cc2
            have F2 : isFi p em φ cd s2 := isFi_cg F (fun q j _ _ => fs2 q j (Or.inl (by omega)) (fun w => by omega))
            obtain ⟨v1, v2, v3, v4, -⟩ := id hb2
            unfold w34_194
            refine c40 H1 HL HQ F2 u2 r2 (by omega) (rpw_cg hl (fun i _ => fs2 123 i (Or.inr (Or.inr (Or.inr rfl))) (fun w => by omega))) (fun x hx => (v2 x hx).1) v3 v4 v1 (by omega) α (fun s3 b3 f3 q1 q2 q3 q4 q5 => ?_)
            have hb3 := bld_s (D := D) (τ := s3) (b' := b3) HL hb2 (by omega) cα hAt q1 q2 q3 q4 q5
            have fs3 := frm_tr fs2 (frm_b f3)
            have u3 : ulr s3 U V := ⟨by rw [f3 109 15 (by decide) (by decide) (fun w => absurd w.2 (by decide))]; exact u2.1, by rw [f3 109 16 (by decide) (by decide) (fun w => absurd w.2 (by decide))]; exact u2.2.1, u2.2.2⟩
            have g3 : gpw c1 c2 em p (s3 116) 1 := gpw_cg g2 (fun n _ _ => f3 116 n (by decide) (by decide) (fun w => absurd w.1 (by decide)))
            have F3 : isFi p em φ cd s3 := isFi_cg F (fun q j _ _ => fs3 q j (Or.inl (by omega)) (fun w => by omega))
            have cd1 : t1 = d → cnp gd (e + 1) ≤ T2 + 1 := fun w => by
              have h1 := cc1 w
              rcases Classical.em (gd e) with w1 | w1
              · rw [cnp_t w1]; omega
              · rw [cnp_f w1]; omega
            have cd2 : t1 ≠ d → cnp gd (e + 1) = 0 := fun w => by
              rw [cnp_f (fun w1 => w (gdt w1))]; exact cc2 w
            rw [q5]
            refine ⟨⟨⟨by omega, by omega⟩, ⟨by omega, by omega⟩⟩, ?_⟩
            by_cases hlt : (T2 : Int) + 1 < nd
            · rw [if_pos hlt, cα]
              exact hX _ _ s3 ⟨t1, e + 1, T2 + 1, b3, _, _, U, V, rfl, by omega, by omega, dt1, by omega, fs3, u3, g3, by omega, by rw [← cα] at hb3 ⊢; exact hb3, cd1, cd2⟩ (by omega)
            · rw [if_neg hlt]
              have nz := fc_nz H1 H2 HL hφ hlf (by omega) hb3
              refine c43 H1 H2 HL F3 ((fs3 34 0 (Or.inl (by decide)) (fun w => by omega)).trans hp) (invOK_cg hI (fun j => fs3 35 j (Or.inl (by decide)) (fun w => by omega))) (gpw_cg hf (fun n _ _ => fs3 114 n (Or.inl (by decide)) (fun w => by omega))) (gpw_cg hg (fun n _ _ => fs3 115 n (Or.inl (by decide)) (fun w => by omega))) q1 ⟨t1, by omega, nz⟩ (fun s4 N D4 e4 f4 r4 dN bN eN e40 pD4 h5 h6 => ?_) (fun s4 f4 r4 hno => ?_)
              · refine ⟨⟨by decide, by decide⟩, ?_⟩
                rw [if_neg (by decide)]
                have hD4 := fc_deg H1 H2 HL hφ (by omega) hlf (by omega) hb3 dN bN eN e40
                have u4 : ulr s4 U V := ⟨by rw [f4 109 15 (by decide) (by decide) (by decide) (by decide) (by decide) (by decide)]; exact u3.1, by rw [f4 109 16 (by decide) (by decide) (by decide) (by decide) (by decide) (by decide)]; exact u3.2.1, u3.2.2⟩
                exact hK s4 U V D4 (frm_tr fs3 (frm_d f4)) u4 r4 pD4 h5 h6 (fun E pE h7 h8 => mo_f H1 H2 pG pD4 hG hD4 h5 h6 dt1 last E pE h7 h8)
              · refine ⟨⟨by decide, by decide⟩, ?_⟩
                rw [if_pos rfl]
                have fs4 := frm_tr fs3 (frm_d f4)
                have u4 : ulr s4 U V := ⟨by rw [f4 109 15 (by decide) (by decide) (by decide) (by decide) (by decide) (by decide)]; exact u3.1, by rw [f4 109 16 (by decide) (by decide) (by decide) (by decide) (by decide) (by decide)]; exact u3.2.1, u3.2.2⟩
                have F4 : isFi p em φ cd s4 := isFi_cg F (fun q j _ _ => fs4 q j (Or.inl (by omega)) (fun w => by omega))
                have l0 : l ≠ 0 := fun w0 => by
                  obtain ⟨y, ey⟩ := hlf
                  exact hn.1 (by rw [ey, w0]; grind)
                have w0 : w ≠ 0 := fun hw => l0 (by rw [el, hw]; grind)
                have ntd : t1 ≠ d := fun htd => by
                  rw [htd] at hb3
                  refine hno (k2 w * G) G w (fun x hx => ?_) (fun x hx => fc_all H1 H2 HL HQ hφ hn ⟨f', ef⟩ ⟨g', eg⟩ hG el hnd (by omega) hb3 x hx) rfl w0 pG ⟨⟨f', ef⟩, ⟨g', eg⟩⟩
                  rw [po_km H2, hG.2 x (by omega)]; grind
                intro x4' ex4'
                refine c39g F4 (fun s5 f5 i1 i2 i3 i4 => ?_)
                have fs5 := frm_tr fs4 (frm_b f5)
                have u5 : ulr s5 U V := ⟨by rw [f5 109 15 (by decide) (by decide) (fun w => absurd w.2 (by decide))]; exact u4.1, by rw [f5 109 16 (by decide) (by decide) (fun w => absurd w.2 (by decide))]; exact u4.2.1, u4.2.2⟩
                have g5 : gpw c1 c2 em p (s5 116) 1 := gpw_cg r4 (fun n _ _ => f5 116 n (by decide) (by decide) (fun w => absurd w.1 (by decide)))
                rw [cα]
                exact hX _ _ s5 ⟨t1 - 1, e + 1, 0, _, _, _, U, V, by omega, by omega, by omega, by omega, by omega, fs5, u5, g5, by omega, bld_0 (cq := cq) HL i1 i2 i3 i4, fun _ => by rw [cd2 ntd]; omega, fun _ => cd2 ntd⟩ (by omega)
          by_cases hlt1 : t1 < t
          · rw [if_pos (by omega)]
            refine c39g F1 (fun s2 f2 i1 i2 i3 i4 => ?_)
            have u2 : ulr s2 U V := ⟨by rw [f2 109 15 (by decide) (by decide) (fun w => absurd w.2 (by decide))]; exact u1.1, by rw [f2 109 16 (by decide) (by decide) (fun w => absurd w.2 (by decide))]; exact u1.2.1, u1.2.2⟩
            have z0 := c2' (by omega)
            have aU := (ulr_f u1).2.2.2.2.2.1
            exact main s2 0 _ _ _ (frm_tr fs1 (frm_b f2)) u2 (gpw_cg g1 (fun n _ _ => f2 116 n (by decide) (by decide) (fun w => absurd w.1 (by decide)))) (cpw_cg r1 (fun i _ => f2 U i (by omega) (by omega) (fun w => by omega))) (by omega) (bld_0 (cq := cq) HL i1 i2 i3 i4) (fun _ => by omega) (fun _ => z0)
          · rw [if_neg (by omega)]
            have tt : t1 = t := by omega
            have hb1 := bld_mono hbd (Int.le_refl (e : Int)) (e1 109 17 (by decide) (by decide) (fun w => by omega)) (fun j => e1 120 j (by decide) (by decide) (fun w => by omega)) (fun j => e1 125 j (by decide) (by decide) (fun w => by omega))
            rw [← tt] at hb1 c1' c2' ⊢
            exact main s1 T b a M fs1 u1 g1 r1 hT hb1 c1' c2'
        · rw [if_neg (fun w => by omega), cα]
          have ng : ¬ gd e := fun w => by
            have := gdt w; omega
          refine hX _ _ s1 ⟨t, e + 1, T, b, a, M, U, V, rfl, by omega, t15, dt, by omega, fs1, u1, g1, hT, bld_mono hbd (by omega) (e1 109 17 (by decide) (by decide) (fun w => by omega)) (fun j => e1 120 j (by decide) (by decide) (fun w => by omega)) (fun j => e1 125 j (by decide) (by decide) (fun w => by omega)), fun w => by rw [cnp_f ng]; exact c1' w, fun w => by rw [cnp_f ng]; exact c2' w⟩ (by omega)
  · rw [if_neg hz]
    have eez : e = z := by omega
    rw [eez] at c1' c2'
    by_cases hd0 : t = d
    · have := c1' hd0; omega
    · have := c2' hd0; omega
