/-! ===== the reference: what two have in common; the ends ===== -/
theorem r264 {K1 R A : Type} [Lean.Grind.Field K1] [Lean.Grind.CommRing R] [Lean.Grind.CommRing A] {c1 : R → Nat → K1} {k1 : K1 → R} {Y : R} (H1 : IsPol c1 k1 Y) {c2 : A → Nat → R} {k2 : R → A} {X : A} (H2 : IsPol c2 k2 X) {p : Int} {em : Int → K1} (E : isEm p em) {B : va_E} {σ : l2_m} {K : Int → l2_m → Prop} (hp : isPr p) (h5 : σ 186 5 = p) {a b : A} (hA : rgw c1 c2 em p (σ 204) a) (hB : rgw c1 c2 em p (σ 205) b) (ya : hlt c1 c2 a 16) (yb : hlt c1 c2 b 16) (hK : ∀ (τ : l2_m) (C : A), (∀ q j, (q < 204 ∨ 210 < q) → τ q j = σ q j) → rgw c1 c2 em p (τ 204) C → isGD a b C → hlt c1 c2 C 16 → K 0 τ) : wC B 264 [vr 186] σ K := by
  have dXr : ∀ {u : Int → Int} {a : A}, rgw c1 c2 em p u a → rg (degX u) := fun {u a} h => by
    rcases rgw_dX H1 H2 E h with ⟨-, w⟩ | ⟨d', w1, -, w⟩
    · rw [w]; exact ⟨by decide, by decide⟩
    · rw [w]; exact ⟨by omega, by omega⟩
  refine o264 ?_
  unfold w264
  refine ⟨⟨fun j j0 j1 => (rgw_rg E hB j j0 j1).2.2, dXr hB⟩, ?_⟩
  by_cases hb : degX (σ 205) = -1
  · rw [if_pos hb]
    have b0 : b = 0 := by
      rcases rgw_dX H1 H2 E hB with ⟨w, -⟩ | ⟨d', -, -, w⟩
      · exact w
      · omega
    exact hK σ a (fun _ _ _ => rfl) hA ⟨dv_refl a, by rw [b0]; exact dv_0 a, fun D h _ => h⟩ ya
  · rw [if_neg hb]
    have b0 : b ≠ 0 := fun w => hb (by
      rcases rgw_dX H1 H2 E hB with ⟨-, w'⟩ | ⟨d', -, w', -⟩
      · exact w'
      · exact absurd w (isDg_nz H2 w'))
    refine ⟨⟨fun j j0 j1 => (rgw_rg E hA j j0 j1).2.2, dXr hA⟩, ?_⟩
    by_cases ha : degX (σ 204) = -1
    · rw [if_pos ha]
      have a0 : a = 0 := by
        rcases rgw_dX H1 H2 E hA with ⟨w, -⟩ | ⟨d', -, -, w⟩
        · exact w
        · omega
      unfold w264_25
      refine lz2_inv (fun (y : Int) z => 0 ≤ y ∧ y ≤ 36864 ∧ (∀ q j, q ≠ 204 → z q j = σ q j) ∧ (∀ j : Int, 0 ≤ j → j < y → z 204 j = σ 205 j)) (fun y _ => 36864 - y) ?_ ⟨by decide, by decide, fun _ _ _ => rfl, fun j _ _ => by omega⟩
      intro Z y z hZ ⟨y0, y1, z1, z2⟩
      refine ⟨⟨by omega, by omega⟩, ?_⟩
      by_cases hy : y < 36864
      · rw [if_pos hy]
        refine ⟨⟨y0, hy⟩, ?_⟩
        intro z' ez'
        refine hZ _ z' ⟨by omega, by omega, fun q j w => by rw [ez', l2_u_ne w]; exact z1 q j w, fun j j0 j1 => ?_⟩ (by omega)
        by_cases hj : j = y
        · rw [ez', hj, l2_u_self]; exact z1 205 y (by decide)
        · rw [ez', l2_u_nj hj]; exact z2 j j0 (by omega)
      · rw [if_neg hy]
        exact hK z b (fun q j w => z1 q j (by omega)) (rgw_cg hB (fun n n0 n1 => z2 n n0 (by omega))) ⟨by rw [a0]; exact dv_0 b, dv_refl b, fun D _ h => h⟩ yb
    · rw [if_neg ha]
      have a0 : a ≠ 0 := fun w => ha (by
        rcases rgw_dX H1 H2 E hA with ⟨-, w'⟩ | ⟨d', -, w', -⟩
        · exact w'
        · exact absurd w (isDg_nz H2 w'))
      refine r261 H1 E hp rfl rfl (by decide) (by decide) (by decide) (by decide) h5 hA (fun s1 d1 f1 r1 ct1 _ => ?_)
      refine r261 H1 E hp rfl rfl (by decide) (by decide) (by decide) (by decide) ((f1 186 5 (by decide) (by decide)).trans h5) (rgw_cg hB (fun n _ _ => f1 205 n (by decide) (by decide))) (fun s2 d2 f2 r2 ct2 _ => ?_)
      refine r260 H1 E hp rfl rfl (by decide) (by decide) (by decide) (by rw [f2 186 5 (by decide) (by decide), f1 186 5 (by decide) (by decide)]; exact h5) (rpw_cg r1 (fun i _ => f2 210 i (by decide) (by decide))) r2 (fun s3 e f3 r3 he _ => ?_)
      have g3 : ∀ q j, q ≠ 206 → q ≠ 208 → q ≠ 210 → s3 q j = σ q j := fun q j w w' w'' => by rw [f3 q j w'' w, f2 q j w w', f1 q j w'' w']
      refine r262 H1 H2 E hp rfl (by decide) (by decide) ((g3 186 5 (by decide) (by decide) (by decide)).trans h5) (rgw_cg hA (fun n _ _ => g3 204 n (by decide) (by decide) (by decide))) (fun s4 f f4 r4 _ hf => ?_)
      have g4 : ∀ q j, q ≠ 204 → (q < 206 ∨ 210 < q) → s4 q j = σ q j := fun q j w w' => by rw [f4 q j w (by omega)]; exact g3 q j (by omega) (by omega) (by omega)
      refine r262 H1 H2 E hp rfl (by decide) (by decide) ((g4 186 5 (by decide) (by omega)).trans h5) (rgw_cg hB (fun n _ _ => g4 205 n (by decide) (by omega))) (fun s5 g f5 r5 _ hg => ?_)
      have g5 : ∀ q j, q ≠ 204 → q ≠ 205 → (q < 206 ∨ 210 < q) → s5 q j = σ q j := fun q j w w' w'' => by rw [f5 q j w' (by omega)]; exact g4 q j w w''
      obtain ⟨c1', cf1, -, cf2, ef, pf⟩ := hf a0
      obtain ⟨c2', cg1, -, cg2, eg, pg⟩ := hg b0
      have kn : ∀ s : R, s ≠ 0 → k2 s ≠ 0 := fun s hs w => hs (po_kinj H2 (by rw [w, po_kz H2]))
      have f0 := prim_nz H1 H2 pf
      have g0 := prim_nz H1 H2 pg
      obtain ⟨n, hn⟩ := po_dg H2 f0
      obtain ⟨m, hm⟩ := po_dg H2 g0
      have yf : hlt c1 c2 f 16 := hlt_fac H1 H2 (b := k2 c1') (by rw [show f * k2 c1' = a by rw [ef]; grind]; exact ya) (kn _ cf2)
      have yg : hlt c1 c2 g 16 := hlt_fac H1 H2 (b := k2 c2') (by rw [show g * k2 c2' = b by rw [eg]; grind]; exact yb) (kn _ cg2)
      have hee := (he e).mp (dv_refl e)
      have e1 : dv e c1' := dv_tr hee.1 (cf1.2 d1 ct1.1)
      have e2 : dv e c2' := dv_tr hee.2 (cg1.2 d2 ct2.1)
      have de : dlt c1 e 16 := by
        obtain ⟨y, ey⟩ := e1
        have y0 : y ≠ 0 := fun w => cf2 (by rw [ey, w]; grind)
        have e0 : e ≠ 0 := fun w => cf2 (by rw [ey, w]; grind)
        obtain ⟨t, ht⟩ := po_dg H1 e0
        obtain ⟨s, hs⟩ := po_dg H1 y0
        have h := isDg_mul H1 fld_dom ht hs
        rw [← ey] at h
        have := isDg_lt h (ct_h H1 ya cf1)
        exact dlt_mono ht.2 (by omega)
      refine r264o H1 H2 E hp ((g5 186 5 (by decide) (by decide) (by omega)).trans h5) (rgw_cg r4 (fun n _ _ => f5 204 n (by decide) (by omega))) r5 pf pg hn hm yf yg (rpw_cg r3 (fun i _ => by rw [f5 210 i (by decide) (by omega), f4 210 i (by decide) (by omega)])) de (fun τ G t1 t2 t3 t4 t5 => ?_)
      have gd : isGD a b (k2 e * G) := gd_mul H1 H2 cf2 cg2 ef eg pf pg e1 e2 (fun x h1 h2 => (he x).mpr ⟨dv_tr h1 (ct1.2 c1' cf1.1), dv_tr h2 (ct2.2 c2' cg1.1)⟩) t3 t4 t5
      obtain ⟨qa, eqa⟩ := gd.1
      have qa0 : qa ≠ 0 := fun w => a0 (by rw [eqa, w]; grind)
      exact hK τ _ (fun q j w => by rw [t1 q j (by omega)]; exact g5 q j (by omega) (by omega) (by omega)) t2 gd (hlt_fac H1 H2 (b := qa) (by rw [← eqa]; exact ya) qa0)
theorem r255 {K1 R A : Type} [Lean.Grind.Field K1] [Lean.Grind.CommRing R] [Lean.Grind.CommRing A] {c1 : R → Nat → K1} {k1 : K1 → R} {Y : R} (H1 : IsPol c1 k1 Y) {c2 : A → Nat → R} {p : Int} {em : Int → K1} (E : isEm p em) {B : va_E} {σ : l2_m} {K : Int → l2_m → Prop} {r : Int} {o2 : Nat} (ho2 : l2_al o2 = some 36864) (g2 : 187 < o2) (r0 : 0 ≤ r) (r1 : r < 8) {a : A} (ha : pA c1 c2 em p (regR σ r) a) (hK : ∀ τ : l2_m, (∀ q j, q ≠ o2 → τ q j = σ q j) → rgw c1 c2 em p (τ o2) a → K 0 τ) : wC B 255 [vr 186, vi r, vr o2] σ K := by
  have p2 := E.1
  refine o255 ho2 ?_
  unfold w255 w255_2
  refine lz2_inv (fun (y : Int) z => 0 ≤ y ∧ y ≤ 36864 ∧ (∀ q j, q ≠ o2 → z q j = σ q j) ∧ (∀ j : Int, 0 ≤ j → j < y → z o2 j = 0)) (fun y _ => 36864 - y) ?_ ⟨by decide, by decide, fun _ _ _ => rfl, fun j _ _ => by omega⟩
  intro Z y z hZ ⟨y0, y1, z1, z2⟩
  refine ⟨⟨by omega, by omega⟩, ?_⟩
  by_cases hy : y < 36864
  · rw [if_pos hy]
    refine ⟨⟨y0, hy⟩, ?_⟩
    intro z' ez'
    refine hZ _ z' ⟨by omega, by omega, fun q j w => by rw [ez', l2_u_ne w]; exact z1 q j w, fun j j0 j1 => ?_⟩ (by omega)
    by_cases hj : j = y
    · rw [ez', hj, l2_u_self]
    · rw [ez', l2_u_nj hj]; exact z2 j j0 (by omega)
  · rw [if_neg hy]
    unfold w255_20
    refine lz2_inv (fun (x : Int) s => 0 ≤ x ∧ x ≤ 16 ∧ (∀ q j, q ≠ o2 → s q j = σ q j) ∧ (∀ i j : Int, 0 ≤ i → i < 16 → 0 ≤ j → j < 2304 → s o2 (2304 * i + j) = if i < x ∧ j < 16 then regR σ r (i + 16 * j) else 0)) (fun x _ => 16 - x) ?_ ⟨by decide, by decide, z1, fun i j i0 i1 j0 j1 => by rw [z2 _ (by omega) (by omega), if_neg (by omega)]⟩
    intro X' x s hX ⟨x0, x1, s1, s2⟩
    refine ⟨⟨by omega, by omega⟩, ?_⟩
    by_cases hx : x < 16
    · rw [if_pos hx]
      unfold w255_29
      refine lz2_inv (fun (y : Int) t => 0 ≤ y ∧ y ≤ 16 ∧ (∀ q j, q ≠ o2 → t q j = σ q j) ∧ (∀ i j : Int, 0 ≤ i → i < 16 → 0 ≤ j → j < 2304 → t o2 (2304 * i + j) = if (i < x ∧ j < 16) ∨ (i = x ∧ j < y) then regR σ r (i + 16 * j) else 0)) (fun y _ => 16 - y) ?_ ⟨by decide, by decide, s1, fun i j i0 i1 j0 j1 => by
        rw [s2 i j i0 i1 j0 j1]
        by_cases h : i < x ∧ j < 16
        · rw [if_pos h, if_pos (Or.inl h)]
        · rw [if_neg h, if_neg (by omega)]⟩
      intro Y' y t hY ⟨y0, y1, t1, t2⟩
      refine ⟨⟨by omega, by omega⟩, ?_⟩
      by_cases hy : y < 16
      · rw [if_pos hy]
        refine ⟨⟨by omega, by omega, by omega, by omega, by omega, by omega, by omega, by omega, by omega, by omega⟩, ?_⟩
        intro t' et'
        refine hY _ t' ⟨by omega, by omega, fun q j w => by rw [et', l2_u_ne w]; exact t1 q j w, fun i j i0 i1 j0 j1 => ?_⟩ (by omega)
        by_cases hij : i = x ∧ j = y
        · rw [hij.1, hij.2, et', l2_u_self, if_pos (by omega), t1 187 _ (by omega)]
          unfold regR
          rw [show x + 16 * y + 256 * 0 = x + 16 * y by omega]
        · rw [et', l2_u_nj (by omega), t2 i j i0 i1 j0 j1]
          by_cases h : (i < x ∧ j < 16) ∨ (i = x ∧ j < y)
          · rw [if_pos h, if_pos (by omega)]
          · rw [if_neg h, if_neg (by omega)]
      · rw [if_neg hy]
        refine hX _ t ⟨by omega, by omega, t1, fun i j i0 i1 j0 j1 => ?_⟩ (by omega)
        rw [t2 i j i0 i1 j0 j1]
        by_cases h : (i < x ∧ j < 16) ∨ (i = x ∧ j < y)
        · rw [if_pos h, if_pos (by omega)]
        · rw [if_neg h, if_neg (by omega)]
    · rw [if_neg hx]
      refine hK s s1 ⟨fun i hi => ⟨fun j hj => ?_, fun j hj => ha.2.1 i j (by omega)⟩, pA_d H1 ha⟩
      show 0 ≤ s o2 (2304 * (i : Int) + j) ∧ s o2 (2304 * (i : Int) + j) < p ∧ c1 (c2 a i) j = em (s o2 (2304 * (i : Int) + j))
      rw [s2 i j (by omega) (by omega) (by omega) (by omega)]
      by_cases hj16 : j < 16
      · rw [if_pos (by omega)]; exact ha.1 i j hi hj16
      · rw [if_neg (by omega), ha.2.1 i j (by omega), em_z E]; exact ⟨by omega, by omega, rfl⟩
theorem r265 {K1 R A : Type} [Lean.Grind.Field K1] [Lean.Grind.CommRing R] [Lean.Grind.CommRing A] {c1 : R → Nat → K1} {k1 : K1 → R} {Y : R} (H1 : IsPol c1 k1 Y) {c2 : A → Nat → R} {p : Int} {em : Int → K1} (E : isEm p em) {B : va_E} {σ : l2_m} {K : Int → l2_m → Prop} {o1 : Nat} (ho1 : l2_al o1 = some 36864) (g1 : 192 < o1) {a : A} (hA : rgw c1 c2 em p (σ o1) a) (ya : hlt c1 c2 a 16) (hK : ∀ τ : l2_m, (∀ q j, q ≠ 192 → ¬ (q = 186 ∧ j = 29) → τ q j = σ q j) → τ 186 29 = 1 → pA c1 c2 em p (τ 192) a → K 0 τ) : wC B 265 [vr 186, vr o1] σ K := by
  have p2 := E.1
  refine o265 ho1 ?_
  unfold w265
  intro s0 es0
  have f0 : ∀ q j, q ≠ 192 → ¬ (q = 186 ∧ j = 29) → s0 q j = σ q j := fun q j w w' => by
    rw [es0]; unfold l2_u; rw [if_neg w']; unfold fil; rw [if_neg (fun h => w h.1)]
  have f1 : s0 186 29 = 1 := by rw [es0, l2_u_self]
  have f2 : ∀ j : Int, 0 ≤ j → j < 4096 → s0 192 j = 0 := fun j j0 j1 => by
    rw [es0, l2_u_ne (by decide)]; unfold fil; rw [if_pos ⟨rfl, j0, j1⟩]
  unfold w265_6
  refine lz2_inv (fun (x : Int) s => 0 ≤ x ∧ x ≤ 16 ∧ (∀ q j, q ≠ 192 → s q j = s0 q j) ∧ (∀ k : Int, 0 ≤ k → k < 4096 → s 192 k = if k < 256 ∧ k % 16 < x then σ o1 (2304 * (k % 16) + k / 16) else 0)) (fun x _ => 16 - x) ?_ ⟨by decide, by decide, fun _ _ _ => rfl, fun k k0 k1 => by rw [f2 k k0 k1, if_neg (by omega)]⟩
  intro X' x s hX ⟨x0, x1, s1, s2⟩
  refine ⟨⟨by omega, by omega⟩, ?_⟩
  by_cases hx : x < 16
  · rw [if_pos hx]
    unfold w265_14
    refine lz2_inv (fun (y : Int) t => 0 ≤ y ∧ y ≤ 16 ∧ (∀ q j, q ≠ 192 → t q j = s0 q j) ∧ (∀ k : Int, 0 ≤ k → k < 4096 → t 192 k = if (k < 256 ∧ k % 16 < x) ∨ (k % 16 = x ∧ k / 16 < y) then σ o1 (2304 * (k % 16) + k / 16) else 0)) (fun y _ => 16 - y) ?_ ⟨by decide, by decide, s1, fun k k0 k1 => by
      rw [s2 k k0 k1]
      by_cases h : k < 256 ∧ k % 16 < x
      · rw [if_pos h, if_pos (Or.inl h)]
      · rw [if_neg h, if_neg (by omega)]⟩
    intro Y' y t hY ⟨y0, y1, t1, t2⟩
    refine ⟨⟨by omega, by omega⟩, ?_⟩
    by_cases hy : y < 16
    · rw [if_pos hy]
      refine ⟨⟨by omega, by omega, by omega, by omega, by omega, by omega, by omega, by omega⟩, ?_⟩
      intro t' et'
      refine hY _ t' ⟨by omega, by omega, fun q j w => by rw [et', l2_u_ne w]; exact t1 q j w, fun k k0 k1 => ?_⟩ (by omega)
      by_cases hk : k = x + 16 * y + 256 * 0
      · rw [et', hk, l2_u_self, if_pos (by omega), t1 o1 _ (by omega), f0 o1 _ (by omega) (by omega), show (x + 16 * y + 256 * 0) % 16 = x by omega, show (x + 16 * y + 256 * 0) / 16 = y by omega]
      · rw [et', l2_u_nj hk, t2 k k0 k1]
        by_cases h : (k < 256 ∧ k % 16 < x) ∨ (k % 16 = x ∧ k / 16 < y)
        · rw [if_pos h, if_pos (by omega)]
        · rw [if_neg h, if_neg (by omega)]
    · rw [if_neg hy]
      refine hX _ t ⟨by omega, by omega, t1, fun k k0 k1 => ?_⟩ (by omega)
      rw [t2 k k0 k1]
      by_cases h : (k < 256 ∧ k % 16 < x) ∨ (k % 16 = x ∧ k / 16 < y)
      · rw [if_pos h, if_pos (by omega)]
      · rw [if_neg h, if_neg (by omega)]
  · rw [if_neg hx]
    refine hK s (fun q j w w' => by rw [s1 q j w]; exact f0 q j w w') (by rw [s1 186 29 (by decide)]; exact f1) ⟨fun i j hi hj => ?_, fun i j hij => ?_, fun k k0 k1 => by rw [s2 k (by omega) k1, if_neg (by omega)]⟩
    · rw [s2 _ (by omega) (by omega), if_pos (by omega), show ((i : Int) + 16 * j) % 16 = i by omega, show ((i : Int) + 16 * j) / 16 = j by omega]
      exact (hA.1 i hi).1 j (by omega)
    · rcases hij with w | w
      · rw [hA.2 i w]
        exact po_0 H1 j
      · exact ya i j w
theorem r266 {B : va_E} {σ : l2_m} {K : Int → l2_m → Prop} {W : Int → Int} {p : Int} (hp : isPr p) (h5 : σ 186 5 = p) (ha : alongOK σ W) (hr : ∀ k : Int, 0 ≤ k → k < 4096 → 0 ≤ σ 192 k ∧ σ 192 k < p) (hK : ∀ (τ : l2_m) (h' : Int → Int), (∀ q j, q ≠ 192 → τ q j = σ q j) → isMon W p (σ 192) h' → (∀ k : Int, 0 ≤ k → k < 4096 → τ 192 k = h' k) → K 0 τ) : wC B 266 [vr 186] σ K := by
  obtain ⟨p2, p97, -⟩ := pr_rest _ hp
  obtain ⟨a1, a2, a3⟩ := ha
  refine o266 ?_
  unfold w266 w266_2
  refine lz1_inv (fun i => 0 ≤ i ∧ i ≤ 4096 ∧ ∀ j : Int, 0 ≤ j → j < i → σ 192 (σ 190 j) = 0) (fun i => 4096 - i) ?_ ⟨by omega, by omega, fun j a b => by omega⟩
  rintro X' i hX ⟨i1, i2, i3⟩
  refine ⟨⟨by omega, by omega⟩, fun hi => ?_, ?_⟩
  · have ai := a1 i i1 hi
    have ri := hr _ ai.1 ai.2
    exact ⟨i1, hi, ai.1, ai.2, ⟨by omega, by omega⟩⟩
  · by_cases hc : i < 4096 ∧ σ 192 (σ 190 i) = 0
    · rw [if_pos hc]
      refine hX _ ⟨by omega, by omega, fun j a b => ?_⟩ (by omega)
      by_cases hj : j = i
      · rw [hj]; exact hc.2
      · exact i3 j a (by omega)
    · rw [if_neg hc]
      unfold w266_29
      refine ⟨⟨by omega, by omega⟩, ?_⟩
      by_cases h4 : i = 4096
      · rw [if_pos h4]
        refine hK σ (σ 192) (fun _ _ _ => rfl) (Or.inl ⟨fun k k0 k1 => ?_, rfl⟩) (fun _ _ _ => rfl)
        obtain ⟨j, j0, j1, j2⟩ := a3 k k0 k1
        rw [← j2]; exact i3 j j0 (by omega)
      · rw [if_neg h4]
        have ai := a1 i i1 (by omega)
        have ri := hr _ ai.1 ai.2
        have nz : σ 192 (σ 190 i) ≠ 0 := fun w => hc ⟨by omega, w⟩
        have hl : ∀ l : Int, 0 ≤ l → l < 4096 → σ 192 l ≠ 0 → MW W l ≤ MW W (σ 190 i) := fun l l0 l1 l2 => by
          obtain ⟨j, j0, j1, j2⟩ := a3 l l0 l1
          rw [← j2]
          rcases Int.lt_trichotomy j i with q | q | q
          · rw [← j2] at l2; exact absurd (i3 j j0 q) l2
          · rw [q]; exact Int.le_refl _
          · have := a2 i j i1 q j1; omega
        obtain ⟨v0, v1, -⟩ := ivp_ok hp (c := σ 192 (σ 190 i)) (by omega) ri.2
        refine ⟨⟨i1, by omega, ai.1, ai.2⟩, ?_⟩
        refine r226 h5 hp (by omega) ri.2 ?_
        obtain ⟨iv, eiv⟩ : ∃ iv : Int, iv = ivp p (σ 192 (σ 190 i)) := ⟨_, rfl⟩
        rw [← eiv] at v0 v1 ⊢
        unfold w266_55
        refine lz2_inv (fun (y : Int) z => 0 ≤ y ∧ y ≤ 4096 ∧ (∀ q j, q ≠ 192 → z q j = σ q j) ∧ (∀ j : Int, 0 ≤ j → j < y → z 192 j = σ 192 j * iv % p) ∧ (∀ j : Int, y ≤ j → z 192 j = σ 192 j)) (fun y _ => 4096 - y) ?_ ⟨by decide, by decide, fun _ _ _ => rfl, fun j _ _ => by omega, fun _ _ => rfl⟩
        intro Z y z hZ ⟨y0, y1, z1, z2, z3⟩
        refine ⟨⟨by omega, by omega⟩, ?_⟩
        by_cases hy : y < 4096
        · rw [if_pos hy]
          have ry := hr y y0 hy
          rw [z3 y (by omega), z1 186 5 (by decide), h5]
          have g4 : 0 ≤ σ 192 y * iv := Int.mul_nonneg ry.1 (by omega)
          have g5 : σ 192 y * iv ≤ 97 * 97 := Int.mul_le_mul (by omega) (by omega) (by omega) (by omega)
          refine ⟨⟨y0, hy, ⟨by omega, by omega⟩, ⟨by omega, by omega⟩, by omega, g4⟩, ?_⟩
          intro z' ez'
          refine hZ _ z' ⟨by omega, by omega, fun q j w => by rw [ez', l2_u_ne w]; exact z1 q j w, fun j j0 j1 => ?_, fun j hj => by rw [ez', l2_u_nj (by omega)]; exact z3 j (by omega)⟩ (by omega)
          by_cases hj : j = y
          · rw [ez', hj, l2_u_self]
          · rw [ez', l2_u_nj hj]; exact z2 j j0 (by omega)
        · rw [if_neg hy]
          exact hK z _ z1 (Or.inr ⟨σ 190 i, ai.1, ai.2, nz, hl, rfl⟩) (fun k k0 k1 => by rw [z2 k k0 (by omega), eiv])
theorem r267 {B : va_E} {σ : l2_m} {K : Int → l2_m → Prop} {r p : Int} (p97 : p ≤ 97) (r0 : 0 ≤ r) (r1 : r < 8) (hr : rngR σ p) (g1 : (∃ k : Int, 0 ≤ k ∧ k < 4096 ∧ regR σ r k ≠ 0 ∧ 0 < e4 k 2) → K 1 σ) (g0 : (∀ k : Int, 0 ≤ k → k < 4096 → regR σ r k ≠ 0 → e4 k 2 = 0) → K 0 σ) : wC B 267 [vr 186, vi r] σ K := by
  refine o267 ?_
  unfold w267
  refine s210 r0 r1 (by decide) (by decide) (fun j j0 j1 => by have := hr r j r0 r1 j0 j1; exact ⟨by omega, by omega⟩) (fun d d0 d1 d2 d3 => ?_)
  refine ⟨⟨by omega, by omega⟩, ?_⟩
  by_cases hd : 0 < d
  · rw [if_pos hd]
    rcases d3 with w | ⟨k, k0, k1, k2, k3⟩
    · omega
    · exact g1 ⟨k, k0, k1, k2, by omega⟩
  · rw [if_neg hd]
    refine g0 (fun k k0 k1 k2 => ?_)
    have h1 := d2 k k0 k1 k2
    have h2 := (e4_b k 2).1
    omega
