/-! ===== Commons: findCommon ===== -/
theorem gpw_top {K1 R A : Type} [Lean.Grind.Field K1] [Lean.Grind.CommRing R] [Lean.Grind.CommRing A] {c1 : R → Nat → K1} {k1 : K1 → R} {Y : R} (H1 : IsPol c1 k1 Y) {c2 : A → Nat → R} {k2 : R → A} {X : A} (H2 : IsPol c2 k2 X) {p : Int} {em : Int → K1} (E : isEm p em) {u : Int → Int} {a : A} (h : gpw c1 c2 em p u a) (a0 : a ≠ 0) : 0 ≤ top u 512 ∧ top u 512 < 512 ∧ isDg c2 a (top u 512 / 32).toNat ∧ u (top u 512) ≠ 0 := by
  obtain ⟨t1, t2, t3, t4⟩ := top_spec u (p := 512) (by decide)
  have h0 : 0 ≤ top u 512 := by
    rcases Int.lt_or_le (top u 512) 0 with w | w
    · exact absurd (gpw_u H1 H2 (gpw_cg h (fun n _ _ => rfl)) (gpw_0 H1 H2 E (fun n n0 n1 => t3 n (by omega) n1))) a0
    · exact w
  exact ⟨h0, t2, (gpw_ld H1 E h h0 t2 (t4 h0) t3).1, t4 h0⟩
theorem gpw_h {K1 R A : Type} [Lean.Grind.Field K1] [Lean.Grind.CommRing R] [Lean.Grind.CommRing A] {c1 : R → Nat → K1} {k1 : K1 → R} {Y : R} (H1 : IsPol c1 k1 Y) {p : Int} {em : Int → K1} (E : isEm p em) {c2 : A → Nat → R} {u : Int → Int} {a : A} {h : Int} (hg : gpw c1 c2 em p u a) (h0 : 0 ≤ h) (hh : ∀ n : Int, 0 ≤ n → n < 512 → u n ≠ 0 → n % 32 ≤ h) : hlt c1 c2 a (h.toNat + 1) := fun i j hj => by
  by_cases hij : i < 16 ∧ j < 32
  · have h1 := hg.1 i j hij.1 hij.2
    by_cases hz : u ((i : Int) * 32 + j) = 0
    · rw [h1.2.2, hz]; exact em_z E
    · have := hh _ (by omega) (by omega) hz
      omega
  · exact hg.2 i j (by omega)
theorem gpw_h16 {K1 R A : Type} [Lean.Grind.Field K1] [Lean.Grind.CommRing R] [Lean.Grind.CommRing A] {c1 : R → Nat → K1} {p : Int} {em : Int → K1} (E : isEm p em) {c2 : A → Nat → R} {u : Int → Int} {a : A} {n : Int} (hg : gpw c1 c2 em p u a) (hy : hlt c1 c2 a 16) (n0 : 0 ≤ n) (n1 : n < 512) (hn : u n ≠ 0) : n % 32 < 16 := by
  have h1 := gpw_c hg n0 n1
  rcases Int.lt_or_le (n % 32) 16 with w | w
  · exact w
  · have h2 := hy (n / 32).toNat (n % 32).toNat (by omega)
    rw [h1.2.2] at h2
    exact absurd h2 ((em_nz E h1.1 h1.2.1).mpr hn)
theorem u1_rg {K1 R A : Type} [Lean.Grind.Field K1] [Lean.Grind.CommRing R] [Lean.Grind.CommRing A] {c1 : R → Nat → K1} {p : Int} {em : Int → K1} (E : isEm p em) {c2 : A → Nat → R} {u : Int → Int} {a : A} (hg : gpw c1 c2 em p u a) (n : Int) (n0 : 0 ≤ n) (n1 : n < 512) : rg (u n) := by
  have h1 := gpw_c hg n0 n1
  have := E.2.1
  exact ⟨by omega, by omega⟩
def frn (σ τ : l2_m) : Prop := ∀ q j, (q < 110 ∨ 127 < q ∨ q = 114 ∨ q = 115 ∨ q = 121) → ¬ (q = 109 ∧ 15 ≤ j ∧ j ≤ 17) → τ q j = σ q j
theorem c34 {K1 L R RL A Q : Type} [Lean.Grind.Field K1] [Lean.Grind.Field L] [Lean.Grind.CommRing R] [Lean.Grind.CommRing RL] [Lean.Grind.CommRing A] [Lean.Grind.CommRing Q] {c1 : R → Nat → K1} {k1 : K1 → R} {Y : R} (H1 : IsPol c1 k1 Y) {c2 : A → Nat → R} {k2 : R → A} {X : A} (H2 : IsPol c2 k2 X) {d1 : RL → Nat → L} {j1 : L → RL} {W : RL} (HL : IsPol d1 j1 W) {cq : Q → Nat → L} {kq : L → Q} {Z : Q} (HQ : IsPol cq kq Z) {B : va_E} {σ : l2_m} {K : Int → l2_m → Prop} {p : Int} {em : Int → K1} (E : isEm p em) {φ : K1 → L} {cd : L → Int} (hp : isPr p) (hFi : ∀ τ : l2_m, FOK hp τ → isFi p em φ cd τ) (hF3 : rg (σ 110 3)) (hFO : σ 110 3 = p → FOK hp σ) {f g : A} {U V : Nat} (hUV : ulr σ U V) (h34 : σ 34 0 = p) (hI : invOK σ 34 p) (hf : gpw c1 c2 em p (σ 114) f) (hg : gpw c1 c2 em p (σ 115) g) (pf : prim c2 f) (pg : prim c2 g) (yf : hlt c1 c2 f 16) (yg : hlt c1 c2 g 16) (hK : ∀ (τ : l2_m) (U V : Nat) (D : A), frn σ τ → ulr τ U V → ((∀ b j, 110 ≤ b → b ≤ 113 → τ b j = σ b j) ∨ FOK hp τ) → gpw c1 c2 em p (τ 116) D → prim c2 D → dv D f → dv D g → (∀ E, prim c2 E → dv E f → dv E g → dv E D) → K 0 τ) : wC B 34 [vr 109] σ K := by
  have p2 := E.1
  have p97 := E.2.1
  have f0 := prim_nz H1 H2 pf
  have g0 := prim_nz H1 H2 pg
  have D1 := po_dom H1 fld_dom
  have z1 : ∀ u : Int → Int, (fun j => u (0 + j)) = u := fun u => funext (fun j => by rw [Int.zero_add])
  refine o34 ?_
  unfold w34
  refine c35 rfl (fun s1 f1 o1 => ?_)
  have k114 : gpw c1 c2 em p (s1 114) f := gpw_cg hf (fun n _ _ => f1 114 n (by decide))
  have k115 : gpw c1 c2 em p (s1 115) g := gpw_cg hg (fun n _ _ => f1 115 n (by decide))
  have g116 : gpw c1 c2 em p (s1 116) 1 := gpw_cg (gpw_1 H1 H2 E) o1
  obtain ⟨a1, a2, a3, -⟩ := gpw_top H1 H2 E k114 f0
  obtain ⟨b1, b2, b3, -⟩ := gpw_top H1 H2 E k115 g0
  rw [z1 (s1 114), z1 (s1 115)]
  refine ⟨⟨by decide, fun j j0 j1 => by rw [Int.zero_add]; exact u1_rg E k114 j j0 j1, ⟨by omega, by omega⟩, a1⟩, ?_⟩
  intro x1 ex1
  refine ⟨⟨fun j j0 j1 => by rw [Int.zero_add]; exact u1_rg E k115 j j0 j1, ⟨by omega, by omega⟩, b1⟩, ?_⟩
  intro x2 ex2
  refine ⟨⟨by omega, by omega⟩, fun _ => ⟨by omega, by omega⟩, ?_⟩
  obtain ⟨n, hn⟩ : ∃ n : Nat, x1 = (n : Int) := ⟨x1.toNat, by omega⟩
  obtain ⟨m, hm⟩ : ∃ m : Nat, x2 = (m : Int) := ⟨x2.toNat, by omega⟩
  rw [← ex1, hn, Int.toNat_natCast] at a3
  rw [← ex2, hm, Int.toNat_natCast] at b3
  have n16 : n < 16 := by omega
  have m16 : m < 16 := by omega
  rw [hn, hm]
  by_cases hc : (0 : Int) < n ∧ (0 : Int) < m
  · rw [if_pos hc]
    rw [show s1 34 0 = p from (f1 34 0 (by decide)).trans h34]
    refine c51 hp (by rw [f1 110 3 (by decide)]; exact hF3) (fun w => FOK_cg (hFO (by rw [← f1 110 3 (by decide)]; exact w)) (fun b j b0 b1 => f1 b j (by omega))) (fun s2 f2 hFs => ?_)
    refine ⟨⟨by omega, by omega⟩, ?_⟩
    intro s3 es3
    have f3 : ∀ q j, q ≠ 123 → s3 q j = s2 q j := fun q j w => by rw [es3]; unfold l2_cpy; rw [if_neg (fun h => w h.1)]
    have g3 : ∀ q j, q ≠ 116 → q ≠ 123 → (q < 110 ∨ 113 < q) → s3 q j = σ q j := fun q j w w' w'' => by rw [f3 q j w', f2 q j w'', f1 q j w]
    have r3 : rpw c1 em p (s3 123) 32 (c2 f n) := rpw_cg (gpw_r hf n n16) (fun i hi => by
      rw [es3]; unfold l2_cpy; rw [if_pos ⟨rfl, by omega, by omega⟩, Int.sub_zero, f2 114 _ (by omega), f1 114 _ (by decide)])
    refine c27 H1 E rfl rfl (by decide) (by decide) (by omega) (by omega) ((g3 34 0 (by decide) (by decide) (by omega)).trans h34) (invOK_cg hI (fun j => g3 35 j (by decide) (by decide) (by omega))) r3 (rpw_cg (gpw_r hg m m16) (fun i _ => g3 115 _ (by decide) (by decide) (by omega))) (fun s4 l f4 r4 hl => ?_)
    have g4 : ∀ q j, q ≠ 116 → q ≠ 123 → q ≠ 124 → (q < 110 ∨ 113 < q) → s4 q j = σ q j := fun q j w w' w'' w3 => by rw [f4 q j w' w'']; exact g3 q j w w' w3
    have F4 : FOK hp s4 := FOK_cg hFs (fun b j b0 b1 => by rw [f4 b j (by omega) (by omega), f3 b j (by omega)])
    refine ⟨⟨by decide, fun j j0 j1 => by rw [Int.zero_add]; exact (rgr E r4 j0 j1).2.2⟩, ?_⟩
    have v114 : gpw c1 c2 em p (s4 114) f := gpw_cg hf (fun n _ _ => g4 114 n (by decide) (by decide) (by decide) (by omega))
    have v115 : gpw c1 c2 em p (s4 115) g := gpw_cg hg (fun n _ _ => g4 115 n (by decide) (by decide) (by decide) (by omega))
    refine c33 rfl (fun n n0 n1 => u1_rg E v114 n n0 n1) (fun h1 h10 h11 h12 h13 => ?_)
    refine c33 rfl (fun n n0 n1 => u1_rg E v115 n n0 n1) (fun h2 h20 h21 h22 h23 => ?_)
    have h1b : h1 < 16 := by
      rcases h13 with w | ⟨n, n0, n1, n2, n3⟩
      · omega
      · have := gpw_h16 E v114 yf n0 n1 n2; omega
    have h2b : h2 < 16 := by
      rcases h23 with w | ⟨n, n0, n1, n2, n3⟩
      · omega
      · have := gpw_h16 E v115 yg n0 n1 n2; omega
    have y1 := gpw_h H1 E v114 h10 h12
    have y2 := gpw_h H1 E v115 h20 h22
    refine ⟨⟨⟨by omega, by omega⟩, ⟨by omega, by omega⟩⟩, ?_⟩
    rw [z1 (s4 123)]
    have T := rpw_t32 H1 E r4
    have hll := (hl l).mp (dv_refl l)
    have l0 : l ≠ 0 := fun w => by
      have h := hll.1
      rw [w] at h
      exact a3.1 (dv_z h)
    have t0 : 0 ≤ top (s4 123) 32 := by
      rcases Int.lt_or_le (top (s4 123) 32) 0 with w | w
      · exact absurd (T.2.2.1 w) l0
      · exact w
    obtain ⟨dl, edl⟩ : ∃ dl : Nat, top (s4 123) 32 = (dl : Int) := ⟨(top (s4 123) 32).toNat, by omega⟩
    have hdl := T.2.2.2 t0
    rw [edl, Int.toNat_natCast] at hdl
    have dl15 : dl ≤ 15 := by
      obtain ⟨y, ey⟩ := hll.1
      have y0 : y ≠ 0 := fun w => a3.1 (by rw [ey, w]; grind)
      obtain ⟨dy, hy⟩ := po_dg H1 y0
      have h := isDg_mul H1 fld_dom hdl hy
      rw [← ey] at h
      have := isDg_lt h (yf n)
      omega
    intro x3 ex3
    refine ⟨⟨⟨by omega, by omega⟩, ⟨by omega, by omega⟩⟩, ?_⟩
    intro x4 ex4
    obtain ⟨hh, ehh⟩ : ∃ hh : Nat, (hh : Int) = min h1 h2 := ⟨(min h1 h2).toNat, by omega⟩
    obtain ⟨t0', et0⟩ : ∃ t0' : Nat, x4 = (t0' : Int) := ⟨x4.toNat, by omega⟩
    rw [edl, ← ehh] at ex3
    have ex3' : x3 = ((dl + hh + 1 : Nat) : Int) := by omega
    rw [ex3', et0]
    refine c39g (hFi s4 F4) (fun s5 f5 i1 i2 i3 i4 => ?_)
    have g5 : ∀ q j, q ≠ 116 → q ≠ 120 → q ≠ 123 → q ≠ 124 → q ≠ 125 → (q < 110 ∨ 113 < q) → ¬ (q = 109 ∧ j = 17) → s5 q j = σ q j := fun q j w1 w2 w3 w4 w5 w6 w7 => by rw [f5 q j w2 w5 w7]; exact g4 q j w1 w3 w4 w6
    have F5 : FOK hp s5 := FOK_cg F4 (fun b j b0 b1 => f5 b j (by omega) (by omega) (fun w => by omega))
    have u5 : ulr s5 U V := ⟨by rw [g5 109 15 (by decide) (by decide) (by decide) (by decide) (by decide) (by omega) (fun w => absurd w.2 (by decide))]; exact hUV.1, by rw [g5 109 16 (by decide) (by decide) (by decide) (by decide) (by decide) (by omega) (fun w => absurd w.2 (by decide))]; exact hUV.2.1, hUV.2.2⟩
    have ne : ∀ q : Nat, q ≠ 109 → ∀ j : Int, ¬ (q = 109 ∧ j = 17) := fun q w j w' => w w'.1
    obtain ⟨G, f', g', U', V', ρ, d, pG, ef, eg, hG, ρ0, hr, dρ, last⟩ := mod_G H1 H2 pf pg a3 b3 (by omega) (by omega) yf yg
    have f'0 : f' ≠ 0 := fun w => f0 (by rw [ef, w]; grind)
    have g'0 : g' ≠ 0 := fun w => g0 (by rw [eg, w]; grind)
    obtain ⟨n', hn'⟩ := po_dg H2 f'0
    obtain ⟨m', hm'⟩ := po_dg H2 g'0
    have en := isDg_mul H2 D1 hG hn'
    rw [← ef] at en
    have en := isDg_u en a3
    have em' := isDg_mul H2 D1 hG hm'
    rw [← eg] at em'
    have em' := isDg_u em' b3
    have lf : c2 f n = c2 G d * c2 f' n' := by rw [← en, ef]; exact po_lead H2 hG.2 hn'.2
    have lg : c2 g m = c2 G d * c2 g' m' := by rw [← em', eg]; exact po_lead H2 hG.2 hm'.2
    obtain ⟨w, ew⟩ := (hl (c2 G d)).mpr ⟨⟨_, lf⟩, ⟨_, lg⟩⟩
    have w0 : w ≠ 0 := fun hw => l0 (by rw [ew, hw]; grind)
    obtain ⟨dw, hdw⟩ := po_dg H1 w0
    obtain ⟨dG, hdG⟩ := po_dg H1 hG.1
    have edw := isDg_mul H1 fld_dom hdG hdw
    rw [← ew] at edw
    have edw := isDg_u edw hdl
    have yG1 : hlt c1 c2 G (h1.toNat + 1) := hlt_fac H1 H2 (b := f') (by rw [← ef]; exact y1) f'0
    have yG2 : hlt c1 c2 G (h2.toNat + 1) := hlt_fac H1 H2 (b := g') (by rw [← eg]; exact y2) g'0
    have yG : hlt c1 c2 G (hh + 1) := fun i => by
      rcases Int.le_total h1 h2 with w | w
      · exact dlt_mono (yG1 i) (by omega)
      · exact dlt_mono (yG2 i) (by omega)
    have hnd : ∀ x, dlt c1 (c2 (k2 w * G) x) (dl + hh + 1) := fun x => by
      rw [po_km H2]
      exact dlt_mono (po_mul H1 (yG x) (dl + 1) w (dlt_mono hdw.2 (by omega))) (by omega)
    refine c34l H1 H2 HL HQ (hFi s5 F5) u5 ((g5 34 0 (by decide) (by decide) (by decide) (by decide) (by decide) (by omega) (ne 34 (by decide) 0)).trans h34) (invOK_cg hI (fun j => g5 35 j (by decide) (by decide) (by decide) (by decide) (by decide) (by omega) (ne 35 (by decide) j))) (gpw_cg hf (fun n _ _ => g5 114 n (by decide) (by decide) (by decide) (by decide) (by decide) (by omega) (ne 114 (by decide) n))) (gpw_cg hg (fun n _ _ => g5 115 n (by decide) (by decide) (by decide) (by decide) (by decide) (by omega) (ne 115 (by decide) n))) yf yg a3 b3 pG ef eg hG ρ0 hr dρ last (rpw_cg r4 (fun i _ => f5 123 i (by decide) (by decide) (ne 123 (by decide) i))) hll.1 ew hnd (by omega) (by omega) (gpw_cg g116 (fun n _ _ => by rw [f5 116 n (by decide) (by decide) (ne 116 (by decide) n), f4 116 n (by decide) (by decide), f3 116 n (by decide), f2 116 n (by omega)])) (by omega) (by omega) i1 i2 i3 i4 (fun τ U V D h1 h2 h3 h4 h5 h6 h7 => ?_)
    refine hK τ U V D (fun q j w w' => ?_) h2 (Or.inr (FOK_cg F5 (fun b j b0 b1 => h1 b j (Or.inl (by omega)) (fun w => by omega)))) h3 h4 h5 h6 h7
    rw [h1 q j (by omega) w']
    exact g5 q j (by omega) (by omega) (by omega) (by omega) (by omega) (by omega) (fun w2 => w' ⟨w2.1, by omega, by omega⟩)
  · rw [if_neg hc]
    have p1 : prim c2 (1 : A) := fun e he => by
      have h1 := he 0
      rw [show c2 (1 : A) 0 = 1 by rw [← po_kone H2, po_k0 H2]] at h1
      obtain ⟨y, ey⟩ := h1
      exact ⟨y, ey.symm⟩
    have dv1 : ∀ a : A, dv 1 a := fun a => ⟨a, by grind⟩
    refine hK s1 U V 1 (fun q j w _ => f1 q j (by omega)) ⟨by rw [f1 109 15 (by decide)]; exact hUV.1, by rw [f1 109 16 (by decide)]; exact hUV.2.1, hUV.2.2⟩ (Or.inl (fun b j _ _ => f1 b j (by omega))) g116 p1 (dv1 f) (dv1 g) (fun D pD h1 h2 => ?_)
    by_cases hn0 : n = 0
    · rw [hn0] at a3
      exact fc_one H1 H2 (g := g) pf a3 (fun D _ h _ => h) D pD h1 h2
    · have hm0 : m = 0 := by omega
      rw [hm0] at b3
      exact fc_one H1 H2 (f := f) pg b3 (fun D _ _ h => h) D pD h1 h2
