/-! ===== content, primitive ===== -/
theorem third_z {f : Int → Int} (h : ∀ k : Int, 0 ≤ k → k < 4096 → f k ≠ 0 → e4 k 2 = 0) (k : Int) (k0 : 256 ≤ k) (k1 : k < 4096) : f k = 0 := by
  rcases Classical.em (f k = 0) with w | w
  · exact w
  · have := h k (by omega) k1 w
    rw [e4_2] at this
    omega
theorem rng_cg {σ υ : l2_m} {p : Int} (h : rngR σ p) (e : ∀ j, υ 187 j = σ 187 j) : rngR υ p := fun r k r0 r1 k0 k1 => by rw [e]; exact h r k r0 r1 k0 k1
theorem reg_cg {σ υ : l2_m} (r : Int) (e : ∀ j, υ 187 j = σ 187 j) : regR υ r = regR σ r := funext (fun k => e _)
theorem ref269 {K1 R A : Type} [Lean.Grind.Field K1] [Lean.Grind.CommRing R] [Lean.Grind.CommRing A] {c1 : R → Nat → K1} {k1 : K1 → R} {Y : R} (H1 : IsPol c1 k1 Y) {c2 : A → Nat → R} {k2 : R → A} {X : A} (H2 : IsPol c2 k2 X) {p : Int} {em : Int → K1} (E : isEm p em) {B : va_E} {σ : l2_m} {r k : Int} (hp : isPr p) (h5 : σ 186 5 = p) (h14 : σ 186 14 = 1) (hr : rngR σ p) (r0 : 0 ≤ r) (r1 : r < 8) (k0 : 0 ≤ k) (k8 : k < 8) {a : A} (h3 : ∀ k : Int, 0 ≤ k → k < 4096 → regR σ r k ≠ 0 → e4 k 2 = 0) (ha : pA c1 c2 em p (regR σ r) a) : RefG B σ 269 [vr 186, vi r, vi k] k (fun s => s 186 29 = 1 ∧ ∃ d, isCt c2 a d ∧ isMo c1 d ∧ pA c1 c2 em p (s 192) (k2 d)) := by
  intro τ Q kt hQ
  have p2 := E.1
  have p97 := E.2.1
  refine o269 ?_
  unfold w269
  intro υ eu
  have e : ∀ b j, 186 ≤ b → ¬ (b = 186 ∧ j = 0) → υ b j = σ b j := fun b j z w => by rw [eu]; unfold l2_u; rw [if_neg w]; exact kt b j z
  have e0 : ∀ b j, ¬ (b = 186 ∧ j = 0) → υ b j = τ b j := fun b j w => by rw [eu]; unfold l2_u; rw [if_neg w]
  have e187 : ∀ j, υ 187 j = σ 187 j := fun j => e 187 j (by decide) (by omega)
  rw [e 186 14 (by decide) (by omega), h14]
  refine ⟨⟨⟨by omega, by omega⟩, Or.inr rfl⟩, ?_⟩
  rw [if_pos ⟨rfl, r0, r1⟩]
  refine ⟨⟨by omega, by omega⟩, ?_⟩
  rw [if_pos ⟨rfl, k0, k8⟩]
  refine r267 p97 r0 r1 (rng_cg hr e187) (fun w => ?_) (fun _ => ?_)
  · rw [reg_cg r e187] at w
    obtain ⟨l, l0, l1, l2, l3⟩ := w
    have := h3 l l0 l1 l2
    omega
  · refine ⟨⟨by decide, by decide⟩, ?_⟩
    rw [if_pos rfl]
    refine r255 H1 E rfl (by decide) r0 r1 (by rw [reg_cg r e187]; exact ha) (fun s1 f1 g1 => ?_)
    refine r261 H1 E hp rfl rfl (by decide) (by decide) (by decide) (by decide) (by rw [f1 186 5 (by decide), e 186 5 (by decide) (by omega)]; exact h5) g1 (fun s2 d f2 g2 ct mo => ?_)
    have dd := ct_h H1 (pA_h ha) ct
    intro s3 es3
    have f3 : ∀ q j, q ≠ 192 → ¬ (q = 186 ∧ j = 29) → s3 q j = s2 q j := fun q j w w' => by
      rw [es3]; unfold l2_u; rw [if_neg w']; unfold fil; rw [if_neg (fun h => w h.1)]
    have h29 : s3 186 29 = 1 := by rw [es3, l2_u_self]
    have hz : ∀ j : Int, 0 ≤ j → j < 4096 → s3 192 j = 0 := fun j j0 j1 => by
      rw [es3, l2_u_ne (by decide)]; unfold fil; rw [if_pos ⟨rfl, j0, j1⟩]
    have g3 : rpw c1 em p (s3 207) 2304 d := rpw_cg g2 (fun i _ => f3 207 i (by decide) (by omega))
    unfold w269_68
    refine lz2_inv (fun (x : Int) t => 0 ≤ x ∧ x ≤ 16 ∧ (∀ q j, q ≠ 192 → t q j = s3 q j) ∧ (∀ l : Int, 0 ≤ l → l < 4096 → t 192 l = if l % 16 = 0 ∧ l / 16 < x then s3 207 (l / 16) else 0)) (fun x _ => 16 - x) ?_ ⟨by decide, by decide, fun _ _ _ => rfl, fun l l0 l1 => by rw [hz l l0 l1, if_neg (by omega)]⟩
    intro X' x t hX ⟨x0, x1, t1, t2⟩
    refine ⟨⟨by omega, by omega⟩, ?_⟩
    by_cases hx : x < 16
    · rw [if_pos hx]
      refine ⟨⟨x0, hx, by omega, by omega, by omega⟩, ?_⟩
      intro t' et'
      refine hX _ t' ⟨by omega, by omega, fun q j w => by rw [et', l2_u_ne w]; exact t1 q j w, fun l l0 l1 => ?_⟩ (by omega)
      by_cases hl : l = 0 + 16 * x + 256 * 0
      · rw [et', hl, l2_u_self, if_pos (by omega), t1 207 _ (by decide), show (0 + 16 * x + 256 * 0) / 16 = x by omega]
      · rw [et', l2_u_nj hl, t2 l l0 l1]
        by_cases h : l % 16 = 0 ∧ l / 16 < x
        · rw [if_pos h, if_pos (by omega)]
        · rw [if_neg h, if_neg (by omega)]
    · rw [if_neg hx]
      refine hQ t (fun b j z z1 z2 => ?_) ⟨by rw [t1 186 29 (by decide)]; exact h29, d, ct, mo, ⟨fun i j hi hj => ?_, fun i j hij => ?_, fun l l0 l1 => by rw [t2 l (by omega) l1, if_neg (by omega)]⟩⟩
      · rw [t1 b j z1, f3 b j z1 (by omega), f2 b j (by omega) (by omega), f1 b j (by omega)]
        exact e0 b j (by omega)
      · rw [t2 _ (by omega) (by omega), po_ki H2]
        by_cases hi0 : i = 0
        · rw [if_pos (by omega), if_pos hi0, show ((i : Int) + 16 * j) / 16 = j by omega]
          exact g3.1 j (by omega)
        · rw [if_neg (by omega), if_neg hi0, po_0 H1, em_z E]; exact ⟨by omega, by omega, rfl⟩
      · rw [po_ki H2]
        by_cases hi0 : i = 0
        · rw [if_pos hi0]; exact dd j (by omega)
        · rw [if_neg hi0]; exact po_0 H1 j
theorem act_content {K1 R A : Type} [Lean.Grind.Field K1] [Lean.Grind.CommRing R] [Lean.Grind.CommRing A] {c1 : R → Nat → K1} {k1 : K1 → R} {Y : R} (H1 : IsPol c1 k1 Y) {c2 : A → Nat → R} {k2 : R → A} {X : A} (H2 : IsPol c2 k2 X) {p : Int} {em : Int → K1} (E : isEm p em) {B : va_E} {σ : l2_m} {r k : Int} (hC : CI comF σ σ) (hR : RWF σ) (h5 : σ 186 5 = p) (h14 : σ 186 14 = 1) (r0 : 0 ≤ r) (r1 : r < 8) (k0 : 0 ≤ k) (k8 : k < 8) (h3 : ∀ k : Int, 0 ≤ k → k < 4096 → regR σ r k ≠ 0 → e4 k 2 = 0) : wC B 21 [vr 109, vr (162 + 3 * Int.toNat r), vr 159] σ (fun y' σ1 => wC B 163 [vr 32, vi y', vi k] σ1 (fun x τ => wC B 269 [vr 186, vi r, vi k] τ (fun y υ => x = y ∧ CI comF υ υ ∧ RWF υ))) := by
  obtain ⟨b1, b2, b3, b4, b5, b6⟩ := hR.2.2.2.2.2.2.2.2.2 h14
  obtain ⟨D1, D2, D3, D4, D5, D6, D7, D8⟩ := hC.2.1 h14
  rw [h5] at b1 b3 D1 D2
  have p2 := E.1
  have p97 := E.2.1
  have rg' : ∀ l : Int, 0 ≤ l → l < 4096 → 0 ≤ regR σ r l ∧ regR σ r l < p := fun l l0 l1 => b3 r l r0 r1 l0 l1
  obtain ⟨a, ha⟩ := pA_ex (c1 := c1) (em := em) H1 H2 rg' (third_z h3)
  have hA := ref269 (B := B) (k := k) H1 H2 E b1 h5 h14 b3 r0 r1 k0 k8 h3 ha
  have hF := hC.2.2.2.2.2.2
  have ff : ∀ {σ1 : l2_m}, frk 159 σ σ1 → (∀ b j, (b < 109 ∨ 127 < b) → b ≠ 44 → b ≠ 159 → b ≠ 160 → b ≠ 161 → σ1 b j = σ b j) ∧ comF (cgm σ1) := fun {σ1} t => ⟨fun b j z z1 z2 z3 z4 => t b j (by omega) z2 z3 z4, by rw [cgm_eq (fun b j z1 z2 => t b j (by omega) (by omega) (by omega) (by omega))]; exact hF⟩
  refine c21 H1 H2 E (wt_ok _ _ _) (isP_reg r0 r1) (show isPb 159 = true from rfl) (by omega) (by decide) D1 D2 D7 (D8 r r0 r1) ha (fun σ1 d h t1 t2 t3 t4 t5 => ?_) (fun σ1 d h t1 t2 t3 t4 t5 => ?_)
  · obtain ⟨q1, q2⟩ := ff t1
    refine o163 ?_
    unfold w163
    refine ⟨by decide, ?_⟩
    rw [if_neg (by decide)]
    refine com_yes hC hR h14 ⟨k0, k8⟩ q1 q2 t5 (fun j j0 j1 => by rw [h5]; exact pA_r E t4 j j0 j1) hA (fun s ⟨g1, d', g2, g3, g4⟩ => ⟨g1, fun j j0 j1 => ?_⟩)
    rw [ct_uniq H1 g2 t2 g3 t3] at g4
    exact pA_u E g4 t4 j j0 j1
  · obtain ⟨q1, q2⟩ := ff t1
    refine o163 ?_
    unfold w163
    refine ⟨by decide, ?_⟩
    rw [if_pos rfl]
    intro τ et
    refine com_no hC hR h14 ⟨k0, k8⟩ q1 q2 hA (fun s ⟨g1, d', g2, g3, g4⟩ => ⟨Or.inr g1, fun j j0 j1 => ?_, Or.inr ?_⟩) τ et
    · have := pA_r E g4 j j0 j1; omega
    · rw [ct_uniq H1 g2 t2 g3 t3] at g4
      rw [cnt_congr (fun j j0 j1 => pA_u E g4 t4 j j0 j1)]; exact t5
theorem ref270 {K1 R A : Type} [Lean.Grind.Field K1] [Lean.Grind.CommRing R] [Lean.Grind.CommRing A] {c1 : R → Nat → K1} {k1 : K1 → R} {Y : R} (H1 : IsPol c1 k1 Y) {c2 : A → Nat → R} {k2 : R → A} {X : A} (H2 : IsPol c2 k2 X) {p : Int} {em : Int → K1} (E : isEm p em) {B : va_E} {σ : l2_m} {r k : Int} (hp : isPr p) (h5 : σ 186 5 = p) (h14 : σ 186 14 = 1) (hr : rngR σ p) (r0 : 0 ≤ r) (r1 : r < 8) (k0 : 0 ≤ k) (k8 : k < 8) {a : A} (h3 : ∀ k : Int, 0 ≤ k → k < 4096 → regR σ r k ≠ 0 → e4 k 2 = 0) (ha : pA c1 c2 em p (regR σ r) a) : RefG B σ 270 [vr 186, vi r, vi k] k (fun s => s 186 29 = 1 ∧ ∃ b, pA c1 c2 em p (s 192) b ∧ (a = 0 → b = 0) ∧ (a ≠ 0 → ∃ d, isCt c2 a d ∧ isMo c1 d ∧ d ≠ 0 ∧ a = k2 d * b ∧ prim c2 b)) := by
  intro τ Q kt hQ
  have p2 := E.1
  have p97 := E.2.1
  refine o270 ?_
  unfold w270
  intro υ eu
  have e : ∀ b j, 186 ≤ b → ¬ (b = 186 ∧ j = 0) → υ b j = σ b j := fun b j z w => by rw [eu]; unfold l2_u; rw [if_neg w]; exact kt b j z
  have e0 : ∀ b j, ¬ (b = 186 ∧ j = 0) → υ b j = τ b j := fun b j w => by rw [eu]; unfold l2_u; rw [if_neg w]
  have e187 : ∀ j, υ 187 j = σ 187 j := fun j => e 187 j (by decide) (by omega)
  rw [e 186 14 (by decide) (by omega), h14]
  refine ⟨⟨⟨by omega, by omega⟩, Or.inr rfl⟩, ?_⟩
  rw [if_pos ⟨rfl, r0, r1⟩]
  refine ⟨⟨by omega, by omega⟩, ?_⟩
  rw [if_pos ⟨rfl, k0, k8⟩]
  refine r267 p97 r0 r1 (rng_cg hr e187) (fun w => ?_) (fun _ => ?_)
  · rw [reg_cg r e187] at w
    obtain ⟨l, l0, l1, l2, l3⟩ := w
    have := h3 l l0 l1 l2
    omega
  · refine ⟨⟨by decide, by decide⟩, ?_⟩
    rw [if_pos rfl]
    refine r255 H1 E rfl (by decide) r0 r1 (by rw [reg_cg r e187]; exact ha) (fun s1 f1 g1 => ?_)
    refine r262 H1 H2 E hp rfl (by decide) (by decide) (by rw [f1 186 5 (by decide), e 186 5 (by decide) (by omega)]; exact h5) g1 (fun s2 b f2 g2 q1 q2 => ?_)
    have kn : ∀ s : R, s ≠ 0 → k2 s ≠ 0 := fun s hs w => hs (po_kinj H2 (by rw [w, po_kz H2]))
    have yb : hlt c1 c2 b 16 := by
      by_cases a0 : a = 0
      · rw [q1 a0]; exact fun i => by rw [po_0 H2]; exact dlt_0 H1 16
      · obtain ⟨d, -, -, d0, ed, -⟩ := q2 a0
        exact hlt_fac H1 H2 (b := k2 d) (by rw [show b * k2 d = a by rw [ed]; grind]; exact pA_h ha) (kn d d0)
    refine r265 H1 E rfl (by decide) g2 yb (fun s3 f3 h29 g3 => ?_)
    refine hQ s3 (fun b j z z1 z2 => ?_) ⟨h29, b, g3, q1, q2⟩
    rw [f3 b j z1 (by omega), f2 b j (by omega) (by omega), f1 b j (by omega)]
    exact e0 b j (by omega)
theorem act_primitive {K1 R A : Type} [Lean.Grind.Field K1] [Lean.Grind.CommRing R] [Lean.Grind.CommRing A] {c1 : R → Nat → K1} {k1 : K1 → R} {Y : R} (H1 : IsPol c1 k1 Y) {c2 : A → Nat → R} {k2 : R → A} {X : A} (H2 : IsPol c2 k2 X) {p : Int} {em : Int → K1} (E : isEm p em) {B : va_E} {σ : l2_m} {r k : Int} (hC : CI comF σ σ) (hR : RWF σ) (h5 : σ 186 5 = p) (h14 : σ 186 14 = 1) (r0 : 0 ≤ r) (r1 : r < 8) (k0 : 0 ≤ k) (k8 : k < 8) (h3 : ∀ k : Int, 0 ≤ k → k < 4096 → regR σ r k ≠ 0 → e4 k 2 = 0) : wC B 22 [vr 109, vr (162 + 3 * Int.toNat r), vr 159] σ (fun y' σ1 => wC B 163 [vr 32, vi y', vi k] σ1 (fun x τ => wC B 270 [vr 186, vi r, vi k] τ (fun y υ => x = y ∧ CI comF υ υ ∧ RWF υ))) := by
  obtain ⟨b1, b2, b3, b4, b5, b6⟩ := hR.2.2.2.2.2.2.2.2.2 h14
  obtain ⟨D1, D2, D3, D4, D5, D6, D7, D8⟩ := hC.2.1 h14
  rw [h5] at b1 b3 D1 D2
  have p2 := E.1
  have p97 := E.2.1
  have rg' : ∀ l : Int, 0 ≤ l → l < 4096 → 0 ≤ regR σ r l ∧ regR σ r l < p := fun l l0 l1 => b3 r l r0 r1 l0 l1
  obtain ⟨a, ha⟩ := pA_ex (c1 := c1) (em := em) H1 H2 rg' (third_z h3)
  have hA := ref270 (B := B) (k := k) H1 H2 E b1 h5 h14 b3 r0 r1 k0 k8 h3 ha
  have hF := hC.2.2.2.2.2.2
  have ff : ∀ {σ1 : l2_m}, frk 159 σ σ1 → (∀ b j, (b < 109 ∨ 127 < b) → b ≠ 44 → b ≠ 159 → b ≠ 160 → b ≠ 161 → σ1 b j = σ b j) ∧ comF (cgm σ1) := fun {σ1} t => ⟨fun b j z z1 z2 z3 z4 => t b j (by omega) z2 z3 z4, by rw [cgm_eq (fun b j z1 z2 => t b j (by omega) (by omega) (by omega) (by omega))]; exact hF⟩
  have D2' := po_dom H2 (po_dom H1 fld_dom)
  have kn : ∀ s : R, s ≠ 0 → k2 s ≠ 0 := fun s hs w => hs (po_kinj H2 (by rw [w, po_kz H2]))
  refine c22 H1 H2 E (wt_ok _ _ _) (isP_reg r0 r1) (show isPb 159 = true from rfl) (by omega) (by decide) D1 D2 D7 (D8 r r0 r1) ha (fun σ1 d b h y t1 t2 t3 t4 t5 t6 t7 => ?_)
  obtain ⟨q1, q2⟩ := ff t1
  have same : ∀ b' : A, (a = 0 → b' = 0) → (a ≠ 0 → ∃ d, isCt c2 a d ∧ isMo c1 d ∧ d ≠ 0 ∧ a = k2 d * b' ∧ prim c2 b') → b' = b := fun b' w1 w2 => by
    by_cases a0 : a = 0
    · rw [w1 a0, t4 a0]
    · obtain ⟨d', v1, v2, v3, v4, -⟩ := w2 a0
      have ed := ct_uniq H1 v1 t2 v2 t3
      rw [ed] at v3 v4
      exact dom_can D2' (kn d v3) (by rw [← v4, ← t5 a0])
  refine o163 ?_
  unfold w163
  rcases t7 with ⟨rfl, t7⟩ | ⟨rfl, t7⟩
  · refine ⟨by decide, ?_⟩
    rw [if_neg (by decide)]
    refine com_yes hC hR h14 ⟨k0, k8⟩ q1 q2 t7 (fun j j0 j1 => by rw [h5]; exact pA_r E t6 j j0 j1) hA (fun s ⟨g1, b', g2, g3, g4⟩ => ⟨g1, fun j j0 j1 => ?_⟩)
    rw [same b' g3 g4] at g2
    exact pA_u E g2 t6 j j0 j1
  · refine ⟨by decide, ?_⟩
    rw [if_pos rfl]
    intro τ et
    refine com_no hC hR h14 ⟨k0, k8⟩ q1 q2 hA (fun s ⟨g1, b', g2, g3, g4⟩ => ⟨Or.inr g1, fun j j0 j1 => ?_, Or.inr ?_⟩) τ et
    · have := pA_r E g2 j j0 j1; omega
    · rw [same b' g3 g4] at g2
      rw [cnt_congr (fun j j0 j1 => pA_u E g2 t6 j j0 j1)]; exact t7
