/-! ===== common ===== -/
theorem gd_two {K1 R A : Type} [Lean.Grind.Field K1] [Lean.Grind.CommRing R] [Lean.Grind.CommRing A] {c1 : R → Nat → K1} {k1 : K1 → R} {Y : R} (H1 : IsPol c1 k1 Y) {c2 : A → Nat → R} {k2 : R → A} {X : A} (H2 : IsPol c2 k2 X) {a b C C' : A} (h : isGD a b C) (h' : isGD a b C') : ∃ s : K1, s ≠ 0 ∧ C' = k2 (k1 s) * C := by
  by_cases a0 : a = 0
  · by_cases b0 : b = 0
    · have z : ∀ D, isGD a b D → D = 0 := fun D hD => dv_z (hD.2.2 0 (by rw [a0]; exact dv_0 0) (by rw [b0]; exact dv_0 0))
      exact ⟨1, one_ne, by rw [z C h, z C' h']; grind⟩
    · exact gd_uniq H1 H2 b0 (f := b) (g := a) ⟨h.2.1, h.1, fun D x y => h.2.2 D y x⟩ ⟨h'.2.1, h'.1, fun D x y => h'.2.2 D y x⟩
  · exact gd_uniq H1 H2 a0 h h'
theorem em_iv {K1 : Type} [Lean.Grind.Field K1] {p : Int} {em : Int → K1} (E : isEm p em) (hp : isPr p) {x : Int} (x0 : 0 < x) (x1 : x < p) : em x * em (ivp p x) = 1 := by
  obtain ⟨-, -, i2⟩ := ivp_ok hp x0 x1
  rw [← E.2.2.2.1, ← em_md E, i2]; exact E.2.2.2.2.1
theorem fld_3 {K1 : Type} [Lean.Grind.Field K1] {s x u v w : K1} (h1 : x * u = 1) (h2 : s * x * v = 1) : s * w * v = w * u := by grind
theorem cnt_nz {f g : Int → Int} (h : ∀ k : Int, 0 ≤ k → k < 4096 → (f k = 0 ↔ g k = 0)) : cnt f 4096 = cnt g 4096 := by
  rw [cnt_def, cnt_def]
  refine sumN_congr (fun j j0 j1 => ?_)
  have j1' : j < 4096 := j1
  by_cases hf : f j = 0
  · rw [if_pos hf, if_pos ((h j j0 j1').mp hf)]
  · rw [if_neg hf, if_neg (fun w => hf ((h j j0 j1').mpr w))]
theorem mon_z {K1 : Type} [Lean.Grind.Field K1] {p : Int} {em : Int → K1} (E : isEm p em) (hp : isPr p) {W h h' : Int → Int} (hr : ∀ k : Int, 0 ≤ k → k < 4096 → 0 ≤ h k ∧ h k < p) (m : isMon W p h h') (k : Int) (k0 : 0 ≤ k) (k1 : k < 4096) : (0 ≤ h' k ∧ h' k < p) ∧ (h' k = 0 ↔ h k = 0) := by
  have p2 := E.1
  rcases m with ⟨m1, m2⟩ | ⟨l, l0, l1, l2, l3, m2⟩
  · rw [m2]; exact ⟨hr k k0 k1, Iff.rfl⟩
  · have rl := hr l l0 l1
    have rk := hr k k0 k1
    have e1 := em_iv E hp (x := h l) (by omega) rl.2
    have q0 : 0 ≤ h k * ivp p (h l) % p := Int.emod_nonneg _ (by omega)
    have q1 : h k * ivp p (h l) % p < p := Int.emod_lt_of_pos _ (by omega)
    rw [m2]
    refine ⟨⟨q0, q1⟩, ?_⟩
    show h k * ivp p (h l) % p = 0 ↔ h k = 0
    refine ⟨fun w => ?_, fun w => by rw [w, Int.zero_mul, Int.zero_emod]⟩
    have e2 : em (h k) * em (ivp p (h l)) = 0 := by rw [← E.2.2.2.1, ← em_md E, w]; exact em_z E
    refine Classical.byContradiction (fun v => ?_)
    rcases fld_dom _ _ e2 with z | z
    · exact (em_nz E rk.1 rk.2).mpr v z
    · rw [z] at e1
      exact one_ne (L := K1) (by rw [← e1]; grind)
theorem mon_u {K1 R A : Type} [Lean.Grind.Field K1] [Lean.Grind.CommRing R] [Lean.Grind.CommRing A] {c1 : R → Nat → K1} {k1 : K1 → R} {Y : R} (H1 : IsPol c1 k1 Y) {c2 : A → Nat → R} {k2 : R → A} {X : A} (H2 : IsPol c2 k2 X) {p : Int} {em : Int → K1} (E : isEm p em) (hp : isPr p) {W h h' g g' : Int → Int} {a b C C' : A} (hC : isGD a b C) (hC' : isGD a b C') (p1 : pA c1 c2 em p h C) (p3 : pA c1 c2 em p g C') (m1 : isMon W p h h') (m2 : isMon W p g g') : (∀ k : Int, 0 ≤ k → k < 4096 → g' k = h' k) ∧ cnt g' 4096 = cnt h 4096 := by
  have p2 := E.1
  obtain ⟨s, s0, es⟩ := gd_two H1 H2 hC hC'
  have rh := fun k k0 k1 => pA_r E p1 k k0 k1
  have rgg := fun k k0 k1 => pA_r E p3 k k0 k1
  have key : ∀ k : Int, 0 ≤ k → k < 4096 → em (g k) = s * em (h k) := fun k k0 k1 => by
    by_cases hk : k < 256
    · have e1 := p1.1 (k % 16).toNat (k / 16).toNat (by omega) (by omega)
      have e2 := p3.1 (k % 16).toNat (k / 16).toNat (by omega) (by omega)
      rw [show (((k % 16).toNat : Nat) : Int) + 16 * (((k / 16).toNat : Nat) : Int) = k by omega] at e1 e2
      rw [← e2.2.2, ← e1.2.2, es, two_k H1 H2]
    · rw [p1.2.2 k (by omega) k1, p3.2.2 k (by omega) k1, em_z E]; grind
  have nz : ∀ k : Int, 0 ≤ k → k < 4096 → (g k = 0 ↔ h k = 0) := fun k k0 k1 => by
    have a1 := em_nz E (rh k k0 k1).1 (rh k k0 k1).2
    have a2 := em_nz E (rgg k k0 k1).1 (rgg k k0 k1).2
    have a3 := key k k0 k1
    refine ⟨fun w => Classical.byContradiction (fun v => ?_), fun w => Classical.byContradiction (fun v => ?_)⟩
    · have := a1.mpr v
      rw [w, em_z E] at a3
      rcases fld_dom _ _ a3.symm with z | z
      · exact s0 z
      · exact this z
    · refine a2.mpr v ?_
      rw [a3, w, em_z E]; grind
  refine ⟨fun k k0 k1 => ?_, ?_⟩
  · have z1 := mon_z E hp rh m1 k k0 k1
    have z2 := mon_z E hp rgg m2 k k0 k1
    rcases m1 with ⟨q1, q2⟩ | ⟨l, l0, l1, l2, l3, q2⟩
    · rw [z2.2.mpr ((nz k k0 k1).mpr (q1 k k0 k1)), q2, q1 k k0 k1]
    · rcases m2 with ⟨v1, v2⟩ | ⟨m, n0, n1, n2, n3, v2⟩
      · exact absurd ((nz l l0 l1).mp (v1 l l0 l1)) l2
      · have w1 := n3 l l0 l1 (fun z => l2 ((nz l l0 l1).mp z))
        have w2 := l3 m n0 n1 (fun z => n2 ((nz m n0 n1).mpr z))
        have ml : m = l := MW_inj n0 n1 l0 l1 (Int.le_antisymm w2 w1)
        rw [ml] at v2 n2
        refine em_ij E z2.1.1 z2.1.2 z1.1.1 z1.1.2 ?_
        have rl := rh l l0 l1
        have rl' := rgg l l0 l1
        have e1 := em_iv E hp (x := h l) (by omega) rl.2
        have e2 := em_iv E hp (x := g l) (by omega) rl'.2
        rw [key l l0 l1] at e2
        rw [q2, v2]
        show em (g k * ivp p (g l) % p) = em (h k * ivp p (h l) % p)
        rw [em_md E, em_md E, E.2.2.2.1, E.2.2.2.1, key k k0 k1]
        exact fld_3 e1 e2
  · refine cnt_nz (fun k k0 k1 => ?_)
    rw [(mon_z E hp rgg m2 k k0 k1).2]; exact nz k k0 k1
theorem ref268 {K1 R A : Type} [Lean.Grind.Field K1] [Lean.Grind.CommRing R] [Lean.Grind.CommRing A] {c1 : R → Nat → K1} {k1 : K1 → R} {Y : R} (H1 : IsPol c1 k1 Y) {c2 : A → Nat → R} {k2 : R → A} {X : A} (H2 : IsPol c2 k2 X) {p : Int} {em : Int → K1} (E : isEm p em) {B : va_E} {σ : l2_m} {r q k : Int} {W : Int → Int} (hp : isPr p) (h5 : σ 186 5 = p) (h14 : σ 186 14 = 1) (hr : rngR σ p) (hal : alongOK σ W) (r0 : 0 ≤ r) (r1 : r < 8) (q0 : 0 ≤ q) (q1 : q < 8) (k0 : 0 ≤ k) (k8 : k < 8) {a b : A} (h3 : ∀ k : Int, 0 ≤ k → k < 4096 → regR σ r k ≠ 0 → e4 k 2 = 0) (h3' : ∀ k : Int, 0 ≤ k → k < 4096 → regR σ q k ≠ 0 → e4 k 2 = 0) (ha : pA c1 c2 em p (regR σ r) a) (hb : pA c1 c2 em p (regR σ q) b) : RefG B σ 268 [vr 186, vi r, vi q, vi k] k (fun s => s 186 29 = 1 ∧ ∃ (C : A) (g g' : Int → Int), isGD a b C ∧ pA c1 c2 em p g C ∧ isMon W p g g' ∧ ∀ j : Int, 0 ≤ j → j < 4096 → s 192 j = g' j) := by
  intro τ Q kt hQ
  have p2 := E.1
  have p97 := E.2.1
  refine o268 ?_
  unfold w268
  intro υ eu
  have e : ∀ b j, 186 ≤ b → ¬ (b = 186 ∧ j = 0) → υ b j = σ b j := fun b j z w => by rw [eu]; unfold l2_u; rw [if_neg w]; exact kt b j z
  have e0 : ∀ b j, ¬ (b = 186 ∧ j = 0) → υ b j = τ b j := fun b j w => by rw [eu]; unfold l2_u; rw [if_neg w]
  have e187 : ∀ j, υ 187 j = σ 187 j := fun j => e 187 j (by decide) (by omega)
  rw [e 186 14 (by decide) (by omega), h14]
  refine ⟨⟨⟨by omega, by omega⟩, ⟨by omega, by omega⟩, ⟨by omega, by omega⟩, Or.inr rfl⟩, ?_⟩
  rw [if_pos ⟨rfl, ⟨r0, r1⟩, ⟨q0, q1⟩, ⟨k0, k8⟩⟩]
  refine r267 p97 r0 r1 (rng_cg hr e187) (fun w => ?_) (fun _ => ?_)
  · rw [reg_cg r e187] at w
    obtain ⟨l, l0, l1, l2, l3⟩ := w
    have := h3 l l0 l1 l2
    omega
  · refine ⟨⟨by decide, by decide⟩, ?_⟩
    rw [if_pos rfl]
    refine r267 p97 q0 q1 (rng_cg hr e187) (fun w => ?_) (fun _ => ?_)
    · rw [reg_cg q e187] at w
      obtain ⟨l, l0, l1, l2, l3⟩ := w
      have := h3' l l0 l1 l2
      omega
    · refine ⟨⟨by decide, by decide⟩, ?_⟩
      rw [if_pos rfl]
      refine r255 H1 E rfl (by decide) r0 r1 (by rw [reg_cg r e187]; exact ha) (fun s1 f1 g1 => ?_)
      have e187' : ∀ j, s1 187 j = σ 187 j := fun j => by rw [f1 187 j (by decide)]; exact e187 j
      refine r255 H1 E rfl (by decide) q0 q1 (by rw [reg_cg q e187']; exact hb) (fun s2 f2 g2 => ?_)
      refine r264 H1 H2 E hp (by rw [f2 186 5 (by decide), f1 186 5 (by decide), e 186 5 (by decide) (by omega)]; exact h5) (rgw_cg g1 (fun n _ _ => f2 204 n (by decide))) g2 (pA_h ha) (pA_h hb) (fun s3 C f3 g3 gd yC => ?_)
      refine r265 H1 E rfl (by decide) g3 yC (fun s4 f4 h29 g4 => ?_)
      have fr : ∀ b j, (b < 204 ∨ 210 < b) → b ≠ 192 → ¬ (b = 186 ∧ j = 29) → s4 b j = υ b j := fun b j z z1 z2 => by rw [f4 b j z1 z2, f3 b j z, f2 b j (by omega), f1 b j (by omega)]
      have e190 : ∀ j, s4 190 j = σ 190 j := fun j => by rw [fr 190 j (by omega) (by decide) (by omega)]; exact e 190 j (by decide) (by omega)
      refine r266 (W := W) hp (by rw [fr 186 5 (by omega) (by decide) (by omega), e 186 5 (by decide) (by omega)]; exact h5) ⟨fun i x0 x1 => by rw [e190]; exact hal.1 i x0 x1, fun i j x0 x1 x2 => by rw [e190, e190]; exact hal.2.1 i j x0 x1 x2, fun j x0 x1 => by obtain ⟨i, y0, y1, y2⟩ := hal.2.2 j x0 x1; exact ⟨i, y0, y1, by rw [e190]; exact y2⟩⟩ (fun k k0 k1 => pA_r E g4 k k0 k1) (fun s5 h' f5 m5 v5 => ?_)
      refine hQ s5 (fun b j z z1 z2 => ?_) ⟨by rw [f5 186 29 (by decide)]; exact h29, C, s4 192, h', gd, g4, m5, v5⟩
      rw [f5 b j z1, fr b j z z1 (by omega)]
      exact e0 b j (by omega)
theorem act_common {K1 L R RL A Q : Type} [Lean.Grind.Field K1] [Lean.Grind.Field L] [Lean.Grind.CommRing R] [Lean.Grind.CommRing RL] [Lean.Grind.CommRing A] [Lean.Grind.CommRing Q] {c1 : R → Nat → K1} {k1 : K1 → R} {Y : R} (H1 : IsPol c1 k1 Y) {c2 : A → Nat → R} {k2 : R → A} {X : A} (H2 : IsPol c2 k2 X) {d1 : RL → Nat → L} {j1 : L → RL} {W : RL} (HL : IsPol d1 j1 W) {cq : Q → Nat → L} {kq : L → Q} {Z : Q} (HQ : IsPol cq kq Z) {p : Int} {em : Int → K1} (E : isEm p em) {φ : K1 → L} {cd : L → Int} {B : va_E} {σ : l2_m} {r q k : Int} (hp : isPr p) (hFi : ∀ τ : l2_m, FOK hp τ → isFi p em φ cd τ) (hC : CI comF σ σ) (hR : RWF σ) (h5 : σ 186 5 = p) (h14 : σ 186 14 = 1) (r0 : 0 ≤ r) (r1 : r < 8) (q0 : 0 ≤ q) (q1 : q < 8) (k0 : 0 ≤ k) (k8 : k < 8) (h3 : ∀ k : Int, 0 ≤ k → k < 4096 → regR σ r k ≠ 0 → e4 k 2 = 0) (h3' : ∀ k : Int, 0 ≤ k → k < 4096 → regR σ q k ≠ 0 → e4 k 2 = 0) : wC B 20 [vr 109, vr (162 + 3 * Int.toNat r), vr (162 + 3 * Int.toNat q), vr 159] σ (fun y' σ1 => wC B 163 [vr 32, vi y', vi k] σ1 (fun x τ => wC B 268 [vr 186, vi r, vi q, vi k] τ (fun y υ => x = y ∧ CI comF υ υ ∧ RWF υ))) := by
  obtain ⟨b1, b2, b3, b4, b5, b6⟩ := hR.2.2.2.2.2.2.2.2.2 h14
  obtain ⟨D1, D2, D3, D4, D5, D6, D7, D8⟩ := hC.2.1 h14
  rw [h5] at b1 b3 D1 D2
  have p2 := E.1
  have p97 := E.2.1
  obtain ⟨a, ha⟩ := pA_ex (c1 := c1) (em := em) H1 H2 (fun l l0 l1 => b3 r l r0 r1 l0 l1) (third_z h3)
  obtain ⟨b, hb⟩ := pA_ex (c1 := c1) (em := em) H1 H2 (fun l l0 l1 => b3 q l q0 q1 l0 l1) (third_z h3')
  have hA := ref268 (B := B) (k := k) H1 H2 E b1 h5 h14 b3 b5 r0 r1 q0 q1 k0 k8 h3 h3' ha hb
  obtain ⟨⟨U, V, hUV⟩, hF3, hFO⟩ := comF_in hC.2.2.2.2.2.2
  refine c20 H1 H2 HL HQ E hp hFi hF3 (hFO p hp) hUV (wt_ok _ _ _) (isP_reg r0 r1) (isP_reg q0 q1) (show isPb 159 = true from rfl) (by omega) (by omega) (by decide) (by omega) (by omega) D1 D2 D7 (D8 r r0 r1) (D8 q q0 q1) ha hb (fun σ1 U' V' C h h' y t1 t2 t3 t4 t5 t6 t7 => ?_)
  have q1' : ∀ b j, (b < 109 ∨ 127 < b) → b ≠ 44 → b ≠ 159 → b ≠ 160 → b ≠ 161 → σ1 b j = σ b j := fun b j z z1 z2 z3 z4 => t1 b j (by omega) (by omega) z2 z3 z4
  have q2' : comF (cgm σ1) := by
    refine comF_out ⟨U', V', t2⟩ ?_ (fun p' hp' w => ?_)
    · rcases t3 with v | v
      · rw [v 110 3 (by decide) (by decide)]; exact hF3
      · rw [v.1]; exact ⟨by omega, by omega⟩
    · rcases t3 with v | v
      · exact FOK_cg (hFO p' hp' (by rw [← v 110 3 (by decide) (by decide)]; exact w)) v
      · have e : p = p' := v.1.symm.trans w
        subst e
        exact v
  have rh := fun j j0 j1 => (mon_z E b1 (fun k k0 k1 => pA_r E t5 k k0 k1) t6 j j0 j1).1
  refine o163 ?_
  unfold w163
  rcases t7 with ⟨rfl, t7⟩ | ⟨rfl, t7⟩
  · refine ⟨by decide, ?_⟩
    rw [if_neg (by decide)]
    refine com_yes hC hR h14 ⟨k0, k8⟩ q1' q2' t7 (fun j j0 j1 => by rw [h5]; exact rh j j0 j1) hA (fun s ⟨g1, C', g, g', g2, g3, g4, g5⟩ => ⟨g1, fun j j0 j1 => ?_⟩)
    rw [g5 j j0 j1]
    exact (mon_u H1 H2 E b1 t4 g2 t5 g3 t6 g4).1 j j0 j1
  · refine ⟨by decide, ?_⟩
    rw [if_pos rfl]
    intro τ et
    refine com_no hC hR h14 ⟨k0, k8⟩ q1' q2' hA (fun s ⟨g1, C', g, g', g2, g3, g4, g5⟩ => ?_) τ et
    have mm := mon_u H1 H2 E b1 t4 g2 t5 g3 t6 g4
    refine ⟨Or.inr g1, fun j j0 j1 => ?_, Or.inr ?_⟩
    · have := rh j j0 j1
      rw [g5 j j0 j1, mm.1 j j0 j1]; omega
    · rw [cnt_congr (fun j j0 j1 => g5 j j0 j1), mm.2]; exact t7
