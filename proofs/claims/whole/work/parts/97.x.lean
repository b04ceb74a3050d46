/-! ===== another order: exchangeOrder, order ===== -/
theorem c165 {B : va_E} {σ : l2_m} {K : Int → l2_m → Prop} {x f s : Int} {W : Int → Int} {G : Int → Int → Int} (hO : isOr x f s) (hW : okW W) (hG : ∀ r : Int, 0 ≤ r → r < 8 → PR σ (162 + 3 * Int.toNat r) W (G r)) (h : ∀ τ : l2_m, (∀ b j, b ≠ 36 → b ≠ 37 → (b < 162 ∨ 185 < b) → τ b j = σ b j) → τ 36 0 = x → τ 36 1 = f → τ 36 2 = s → τ 36 3 = 3 - f - s → (∀ u : Int, 0 ≤ u → u < 3 → τ 37 u = UW (wt x f s) u) → (∀ r : Int, 0 ≤ r → r < 8 → PR τ (162 + 3 * Int.toNat r) (wt x f s) (G r)) → K 0 τ) : wC B 165 [vr 32, vi x, vi f, vi s] σ K := by
  refine o165 ?_
  unfold w165
  refine c75 (o := 36) (show isOb 36 = true from rfl) hO ?_
  intro t0 q1 q2 q3 q4 q5 q6
  unfold w165_13
  refine lz2_inv (fun (i : Int) t => 0 ≤ i ∧ i ≤ 8 ∧ (∀ b j, (b < 162 ∨ 185 < b) → t b j = t0 b j) ∧ (∀ r : Int, 0 ≤ r → r < i → PR t (162 + 3 * Int.toNat r) (wt x f s) (G r)) ∧ (∀ r : Int, i ≤ r → r < 8 → PR t (162 + 3 * Int.toNat r) W (G r))) (fun i _ => 8 - i) ?_ ⟨by decide, by decide, fun _ _ _ => rfl, fun r r0 r1 => by omega, fun r r0 r1 => PR_congr (hG r r0 r1) (q1 _ _ (by omega) (by omega)) (fun i _ _ => q1 _ _ (by omega) (by omega)) (fun i _ _ => q1 _ _ (by omega) (by omega))⟩
  intro X i t hX ⟨i0, i1, t1, t2, t3⟩
  refine ⟨⟨by omega, by omega⟩, ?_⟩
  by_cases hi : i < 8
  · rw [if_pos hi]
    refine ⟨⟨i0, hi⟩, ?_⟩
    refine c10 (W := W) (V := wt x f s) (f := G i) (isP_reg i0 hi) hW (wt_ok _ _ _) (fun v v0 v1 => by rw [t1 37 v (by omega)]; exact q6 v v0 v1) (t3 i (by omega) hi) ?_
    intro t' p1 p2
    have ni : Int.toNat i < 8 := by omega
    refine hX (i + 1) t' ⟨by omega, by omega, fun b j z => by rw [p1 b j (by omega) (by omega)]; exact t1 b j z, fun r r0 r1 => ?_, fun r r0 r1 => ?_⟩ (by omega)
    · by_cases hr : r = i
      · rw [hr]; exact p2
      · exact PR_congr (t2 r r0 (by omega)) (p1 _ _ (by omega) (by omega)) (fun j _ _ => p1 _ _ (by omega) (by omega)) (fun j _ _ => p1 _ _ (by omega) (by omega))
    · exact PR_congr (t3 r (by omega) r1) (p1 _ _ (by omega) (by omega)) (fun j _ _ => p1 _ _ (by omega) (by omega)) (fun j _ _ => p1 _ _ (by omega) (by omega))
  · rw [if_neg hi]
    refine h t (fun b j z1 z2 z3 => (t1 b j z3).trans (q1 b j z1 z2)) ?_ ?_ ?_ ?_ (fun u u0 u1 => ?_) (fun r r0 r1 => t2 r r0 (by omega))
    · rw [t1 36 0 (by omega)]; exact q2
    · rw [t1 36 1 (by omega)]; exact q3
    · rw [t1 36 2 (by omega)]; exact q4
    · rw [t1 36 3 (by omega)]; exact q5
    · rw [t1 37 u (by omega)]; exact q6 u u0 u1
/-- the reference has exchanged its order -/
def OrdR (A A' : l2_m) (x f s : Int) : Prop := (∀ b j, prs b j → b ≠ 190 → (b < 199 ∨ 203 < b) → ¬ (b = 186 ∧ (j = 1 ∨ j = 2 ∨ j = 6 ∨ j = 7 ∨ j = 8 ∨ j = 45)) → A' b j = A b j) ∧ pshP A A' (-1) ∧ A' 186 6 = x ∧ A' 186 7 = f ∧ A' 186 8 = s ∧ A' 186 1 = 0 ∧ A' 186 2 = -1 ∧ alongOK A' (wt x f s)
theorem RWF_ord {A A' : l2_m} {x f s : Int} (hR : RWF A) (ht : A 186 14 = 1) (hO : isOr x f s) (hA : OrdR A A' x f s) : RWF A' := by
  obtain ⟨a1, a2, a3, a4, a5, a6, a7, a8, a9, a10⟩ := hR
  obtain ⟨b1, b2, b3, b4, b5, b6⟩ := a10 ht
  obtain ⟨L1, ⟨a, sh, p1, p2, p3, p4, p5, p6, p7, p8, p9, p10, p11⟩, L6, L7, L8, L4, L5, La⟩ := hA
  have k5 : ∀ j, (j = 5 ∨ j = 14 ∨ j = 16 ∨ j = 22) → A' 186 j = A 186 j := fun j z => L1 186 j (by unfold prs; omega) (by omega) (by omega) (by omega)
  have e187 : ∀ j, A' 187 j = A 187 j := fun j => L1 187 j (by unfold prs; omega) (by omega) (by omega) (by omega)
  have er : ∀ r, regR A' r = regR A r := fun r => funext (fun j => e187 _)
  have eo : ordA A' = wt x f s := by unfold ordA; rw [L6, L7, L8]
  unfold RWF
  rw [k5 14 (by omega), k5 16 (by omega), k5 22 (by omega), k5 5 (by omega), eo, L6, L7, L8, p4, L4, L5]
  refine ⟨a1, a2, a3, by decide, by decide, a6, by omega, by omega, fun z => by omega, fun _ => ⟨b1, hO, fun r j r0 r1 j0 j1 => by rw [e187]; exact b3 r j r0 r1 j0 j1, fun r r0 r1 => by rw [er]; exact b4 r r0 r1, La, fun i x0 x1 => ?_⟩⟩
  by_cases hi : i = a
  · subst hi
    rw [p8, p9, p10, p11]
    exact ⟨Or.inl rfl, b2, fun z => absurd rfl z⟩
  · have hi' : i < a := by omega
    obtain ⟨y1, y2, y3, y4⟩ := p6 i x0 hi'
    obtain ⟨w1, w2, w3⟩ := b6 (i + sh) (by omega) (by omega)
    rw [y1, y2, y3, y4]
    refine ⟨w1, w2, fun z => ?_⟩
    obtain ⟨v1, v2, v3, v4, v5⟩ := w3 z
    refine ⟨fun j j0 j1 => ?_, ?_, ?_, ?_, ?_⟩
    · rw [p5 i j x0 hi' j0 j1]; exact v1 j j0 j1
    · rw [cnt_congr (g := fun k => A 199 (4096 * (i + sh) + k)) (fun j j0 j1 => p5 i j x0 hi' j0 j1)]; exact v2
    · rw [if_neg (by omega), v3]
      by_cases hl : i + 1 = a
      · rw [hl, p9, if_pos (by omega)]
      · rw [if_neg (by omega), (p6 (i + 1) (by omega) (by omega)).2.1]
        congr 1; omega
    · rw [if_neg (by omega), v4]
      by_cases hl : i + 1 = a
      · rw [hl, p10, if_pos (by omega)]
      · rw [if_neg (by omega), (p6 (i + 1) (by omega) (by omega)).2.2.1]
        congr 1; omega
    · rw [if_neg (by omega), v5]
      by_cases hl : i + 1 = a
      · rw [hl, p11, if_pos (by omega)]
      · rw [if_neg (by omega), (p6 (i + 1) (by omega) (by omega)).2.2.2]
        congr 1; omega
theorem CI_ord {F : l2_m → Prop} {σ τ A A' : l2_m} {x f s : Int} (hC : CI F σ A) (hR : RWF A) (ht : A 186 14 = 1) (hA : OrdR A A' x f s) (t : ∀ b j, b ≠ 32 → b ≠ 36 → b ≠ 37 → (b < 128 ∨ 132 < b) → (b < 162 ∨ 185 < b) → τ b j = σ b j) (t32 : ∀ j, j ≠ 2 → j ≠ 4 → τ 32 j = σ 32 j) (t2 : τ 32 2 = 0) (t4 : τ 32 4 = -1) (o0 : τ 36 0 = x) (o1 : τ 36 1 = f) (o2 : τ 36 2 = s) (o3 : τ 36 3 = 3 - f - s) (oU : ∀ u : Int, 0 ≤ u → u < 3 → τ 37 u = UW (wt x f s) u) (oR : ∀ r : Int, 0 ≤ r → r < 8 → PR τ (162 + 3 * Int.toNat r) (wt x f s) (regR A r)) (h5 : τ 128 5 = (σ 128 5 + 1) % 8) (h6 : τ 128 6 = min (σ 128 6 + 1) 8) (h129 : ∀ j, τ 129 j = if j = σ 128 5 then -1 else σ 129 j) (h130 : ∀ j, τ 130 j = if j = σ 128 5 then σ 36 0 else σ 130 j) (h131 : ∀ j, τ 131 j = if j = σ 128 5 then σ 36 1 else σ 131 j) (h132 : ∀ j, τ 132 j = if j = σ 128 5 then σ 36 2 else σ 132 j) : CI F τ A' := by
  obtain ⟨⟨B1, B2, B3, B4, B5, B6⟩, hD, hN, ⟨H1, H2, H3, H4⟩, hdo, hz, hF⟩ := hC
  obtain ⟨-, -, -, -, -, -, a0, a8, -, hT⟩ := hR
  obtain ⟨D1, D2, D3, D4, D5, D6, D7, D8⟩ := hD ht
  obtain ⟨L1, ⟨a, sh, p1, p2, p3, p4, p5, p6, p7, p8, p9, p10, p11⟩, L6, L7, L8, L4, L5, La⟩ := hA
  have k5 : ∀ j, (j = 5 ∨ j = 14 ∨ j = 16 ∨ j = 22) → A' 186 j = A 186 j := fun j z => L1 186 j (by unfold prs; omega) (by omega) (by omega) (by omega)
  have e187 : ∀ j, A' 187 j = A 187 j := fun j => L1 187 j (by unfold prs; omega) (by omega) (by omega) (by omega)
  have e189 : ∀ j, A' 189 j = A 189 j := fun j => L1 189 j (by unfold prs; omega) (by omega) (by omega) (by omega)
  have er : ∀ r, regR A' r = regR A r := fun r => funext (fun j => e187 _)
  have eo : ordA A' = wt x f s := by unfold ordA; rw [L6, L7, L8]
  have slt : ∀ i : Int, 0 ≤ i → i < a → hsl τ A' i = hsl σ A (i + sh) ∧ 0 ≤ i + sh ∧ i + sh < A 186 45 ∧ hsl σ A (i + sh) ≠ σ 128 5 := fun i x0 x1 => by
    unfold hsl
    rw [h5, p4]
    omega
  have sla : hsl τ A' a = σ 128 5 := by
    unfold hsl
    rw [h5, p4]
    omega
  have w : ∀ b j, (b < 36 ∨ (37 < b ∧ b < 128) ∨ (132 < b ∧ b < 162)) → b ≠ 32 → τ b j = σ b j := fun b j z1 z2 => t b j z2 (by omega) (by omega) (by omega) (by omega)
  refine ⟨⟨?_, ?_, ?_, ?_, ?_, fun i x0 x1 => ?_⟩, fun _ => ?_, fun z => ?_, ⟨by rw [h5]; omega, by rw [h5]; omega, by rw [h6, p4]; omega, fun i x0 x1 => ?_⟩, ?_, ?_, ?_⟩
  · rw [t32 1 (by decide) (by decide), k5 16 (by omega)]; exact B1
  · rw [t2, L4]
  · rw [t32 3 (by decide) (by decide), k5 22 (by omega)]; exact B3
  · rw [t4, L5]
  · rw [t32 5 (by decide) (by decide), k5 14 (by omega)]; exact B5
  · rw [k5 16 (by omega)] at x1
    rw [w 33 i (by omega) (by omega), e189]
    exact B6 i x0 x1
  · rw [eo, k5 5 (by omega), L6, L7, L8]
    refine ⟨by rw [w 34 0 (by omega) (by omega)]; exact D1, fun y y0 y1 => by rw [w 35 y (by omega) (by omega)]; exact D2 y y0 y1, o0, o1, o2, o3, oU, fun r r0 r1 => ?_⟩
    rw [er]; exact oR r r0 r1
  · rw [k5 14 (by omega)] at z; omega
  · rw [p4] at x1
    by_cases hi : i = a
    · subst hi
      rw [sla, h129, h130, h131, h132, if_pos rfl, if_pos rfl, if_pos rfl, if_pos rfl, p8, p9, p10, p11]
      exact ⟨rfl, fun _ => ⟨D3, D4, D5⟩, fun z => absurd rfl z⟩
    · obtain ⟨q1, q2, q3, q4'⟩ := slt i x0 (by omega)
      obtain ⟨w1, w2, w3⟩ := H4 (i + sh) q2 q3
      obtain ⟨y1, y2, y3, y4⟩ := p6 i x0 (by omega)
      have hs0 : 0 ≤ hsl σ A (i + sh) ∧ hsl σ A (i + sh) < 8 := by unfold hsl; omega
      rw [q1, h129, h130, h131, h132, if_neg q4', if_neg q4', if_neg q4', if_neg q4', y1, y2, y3, y4]
      refine ⟨w1, w2, fun z => ?_⟩
      have hs8 : Int.toNat (hsl σ A (i + sh)) < 8 := by omega
      exact PR_ext (PR_congr (w3 z) (w _ _ (by omega) (by omega)) (fun i _ _ => w _ _ (by omega) (by omega)) (fun i _ _ => w _ _ (by omega) (by omega))) (fun j j0 j1 => p5 i j x0 (by omega) j0 j1)
  · unfold dvO
    rw [w 74 3 (by omega) (by omega), w 74 4 (by omega) (by omega)]
    exact hdo
  · rw [w 41 2 (by omega) (by omega)]; exact hz
  · rw [cgm_eq (fun b j z1 z2 => w b j (by omega) (by omega))]
    exact hF
theorem r273 {B : va_E} {σ τ : l2_m} {Q : Int → l2_m → Prop} {x f s : Int} (hR : RWF σ) (ht : σ 186 14 = 1) (hx : rg x) (hf : rg f) (hs : rg s) (hO : isOr x f s) (kt : ∀ b j, 186 ≤ b → τ b j = σ b j) (hQ : ∀ ω : l2_m, OrdR σ ω x f s → (∀ b j, b < 186 → ω b j = τ b j) → Q (if σ 186 6 = x ∧ σ 186 7 = f ∧ σ 186 8 = s then 0 else 1) ω) : wC B 273 [vr 186, vi x, vi f, vi s] τ Q := by
  obtain ⟨a1, a2, a3, a4, a5, a6, a7, a8, a9, a10⟩ := id hR
  obtain ⟨b1, b2, b3, b4, b5, b6⟩ := a10 ht
  have hb2 := b2
  obtain ⟨⟨c0, c1'⟩, ⟨d0, d1⟩, ⟨e0, e1⟩, -⟩ := hb2
  refine o273 ?_
  unfold w273
  intro υ eu
  have hυ : ∀ b j, 186 ≤ b → ¬ (b = 186 ∧ j = 0) → υ b j = σ b j := fun b j z w => (u0_at eu w).trans (kt b j z)
  rw [hυ 186 14 (by decide) (by decide), hυ 186 6 (by decide) (by decide), hυ 186 7 (by decide) (by decide), hυ 186 8 (by decide) (by decide), ht]
  refine ⟨by decide, ?_⟩
  rw [if_neg (by decide)]
  refine ⟨⟨hx, hf, hs⟩, ?_⟩
  rw [if_pos hO]
  refine ⟨⟨by omega, by omega⟩, ?_⟩
  have go : ∀ z : Int, (z = if σ 186 6 = x ∧ σ 186 7 = f ∧ σ 186 8 = s then 1 else 0) → w273_62 B υ x f s z Q := by
    intro z ez
    unfold w273_62
    refine r239 (Or.inl rfl) (by rw [hυ 186 45 (by decide) (by decide)]; exact a7) (by rw [hυ 186 45 (by decide) (by decide)]; exact a8) ?_
    intro t v1 v2 t1 et1 t2 et2 t3 et3
    have e3 : ∀ b j, ¬ (b = 186 ∧ (j = 6 ∨ j = 7 ∨ j = 8)) → t3 b j = t b j := fun b j w => by
      rw [et3]; unfold l2_u; rw [if_neg (by omega), et2]; unfold l2_u; rw [if_neg (by omega), et1]; unfold l2_u; rw [if_neg (by omega)]
    have f6 : t3 186 6 = x := by rw [et3, l2_u_nj (by decide), et2, l2_u_nj (by decide), et1]; unfold l2_u; rw [if_pos ⟨rfl, rfl⟩]
    have f7 : t3 186 7 = f := by rw [et3, l2_u_nj (by decide), et2]; unfold l2_u; rw [if_pos ⟨rfl, rfl⟩]
    have f8 : t3 186 8 = s := by rw [et3]; unfold l2_u; rw [if_pos ⟨rfl, rfl⟩]
    refine r195 f6 f7 f8 hO ?_
    intro t4 g1 g2
    have fin : ∀ ω, ω = trr t4 0 → Q (if σ 186 6 = x ∧ σ 186 7 = f ∧ σ 186 8 = s then 0 else 1) ω := by
      intro ω ew
      have h4 : ∀ b j, ¬ (b = 186 ∧ (j = 1 ∨ j = 2)) → ω b j = t4 b j := fun b j w => by rw [ew, trr_at, if_neg (by omega), if_neg (by omega)]
      have hall : ∀ b j, b ≠ 190 → ¬ (b = 186 ∧ (j = 1 ∨ j = 2 ∨ j = 6 ∨ j = 7 ∨ j = 8 ∨ j = 25)) → ω b j = t b j := fun b j w1 w2 => by
        rw [h4 b j (by omega), g1 b j w1 (by omega)]; exact e3 b j (by omega)
      refine hQ ω ⟨fun b j z1 z2 z3 z4 => ?_, ?_, ?_, ?_, ?_, ?_, ?_, ?_⟩ (fun b j w => ?_)
      · rw [hall b j z2 (by unfold prs at z1; omega), v1 b j z3 (by omega)]
        exact hυ b j (by unfold prs at z1; omega) (by unfold prs at z1; omega)
      · obtain ⟨a, sh, p1, p2, p3, p4, p5, p6, p7, p8, p9, p10, p11⟩ := v2
        have q45 := hυ 186 45 (by decide) (by decide)
        rw [q45] at p2 p3
        have hv : ∀ b j, 199 ≤ b → b ≤ 203 → υ b j = σ b j := fun b j x y => hυ b j (by omega) (by omega)
        have hw : ∀ b j, 199 ≤ b → b ≤ 203 → ω b j = t b j := fun b j x y => hall b j (by omega) (by omega)
        refine ⟨a, sh, p1, p2, p3, by rw [hall 186 45 (by decide) (by omega)]; exact p4, fun i j x0 x1 x2 x3 => by rw [hw _ _ (by omega) (by omega), p5 i j x0 x1 x2 x3]; exact hv _ _ (by omega) (by omega), fun i x0 x1 => ?_, fun j j0 j1 w => absurd rfl w, by rw [hw _ _ (by omega) (by omega)]; exact p8, by rw [hw _ _ (by omega) (by omega), p9]; exact hυ 186 6 (by decide) (by decide), by rw [hw _ _ (by omega) (by omega), p10]; exact hυ 186 7 (by decide) (by decide), by rw [hw _ _ (by omega) (by omega), p11]; exact hυ 186 8 (by decide) (by decide)⟩
        obtain ⟨y1, y2, y3, y4⟩ := p6 i x0 x1
        exact ⟨by rw [hw _ _ (by omega) (by omega), y1]; exact hv _ _ (by omega) (by omega), by rw [hw _ _ (by omega) (by omega), y2]; exact hv _ _ (by omega) (by omega), by rw [hw _ _ (by omega) (by omega), y3]; exact hv _ _ (by omega) (by omega), by rw [hw _ _ (by omega) (by omega), y4]; exact hv _ _ (by omega) (by omega)⟩
      · rw [h4 186 6 (by omega), g1 186 6 (by decide) (by omega)]; exact f6
      · rw [h4 186 7 (by omega), g1 186 7 (by decide) (by omega)]; exact f7
      · rw [h4 186 8 (by omega), g1 186 8 (by decide) (by omega)]; exact f8
      · rw [ew, trr_at, if_neg (by decide), if_pos ⟨rfl, rfl⟩]
      · rw [ew, trr_at, if_pos ⟨rfl, rfl⟩]
      · have e190 : ∀ j, ω 190 j = t4 190 j := fun j => h4 190 j (by omega)
        exact ⟨fun i x0 x1 => by rw [e190]; exact g2.1 i x0 x1, fun i j x0 x1 x2 => by rw [e190, e190]; exact g2.2.1 i j x0 x1 x2, fun j x0 x1 => by obtain ⟨i, y0, y1, y2⟩ := g2.2.2 j x0 x1; exact ⟨i, y0, y1, by rw [e190]; exact y2⟩⟩
      · rw [hall b j (by omega) (by omega), v1 b j (by omega) (by omega)]
        exact u0_at eu (by omega)
    by_cases hsame : σ 186 6 = x ∧ σ 186 7 = f ∧ σ 186 8 = s
    · rw [if_pos hsame] at ez fin
      subst ez
      refine ⟨by decide, ?_⟩
      rw [if_neg (by decide)]
      exact fin
    · rw [if_neg hsame] at ez fin
      subst ez
      refine ⟨by decide, ?_⟩
      rw [if_pos rfl]
      exact fin
  by_cases g6 : σ 186 6 = x
  · rw [if_pos g6]
    refine ⟨⟨by omega, by omega⟩, fun _ => ⟨by omega, by omega⟩, ?_⟩
    by_cases g78 : σ 186 7 = f ∧ σ 186 8 = s
    · rw [if_pos g78]
      exact go 1 (by rw [if_pos ⟨g6, g78.1, g78.2⟩])
    · rw [if_neg g78]
      unfold w273_61
      exact go 0 (by rw [if_neg (fun w => g78 w.2)])
  · rw [if_neg g6]
    unfold w273_61
    exact go 0 (by rw [if_neg (fun w => g6 w.1)])
theorem pair_order {F : l2_m → Prop} {B : va_E} {x f s : Int} (hx : rg x) (hf : rg f) (hs : rg s) : PAIR F B 140 273 [vi x, vi f, vi s] := by
  intro σ hC hR
  have B5 := hC.1.2.2.2.2.1
  have h01 := hR.1
  refine o140 ?_
  unfold w140
  rw [B5]
  refine ⟨by rcases h01 with z | z <;> (rw [z]; decide), ?_⟩
  have bad : ∀ n : Int, ∀ τ, rg n → τ = trb σ n → ((σ 186 14 = 0 ∧ n = 1) ∨ (σ 186 14 = 1 ∧ ¬ isOr x f s ∧ n = 2)) → wC B 273 [vr 186, vi x, vi f, vi s] τ (fun y υ => -1 = y ∧ CI F υ υ ∧ RWF υ) := by
    intro n τ hn et hb
    refine o273 ?_
    unfold w273
    intro υ eu
    rw [via et eu (b := 186) (j := 14) (by decide) (by decide)]
    refine ⟨by rcases h01 with z | z <;> (rw [z]; decide), ?_⟩
    rcases hb with ⟨z, e⟩ | ⟨z, z2, e⟩
    · rw [if_pos z]
      intro ω ew
      subst e
      exact ⟨rfl, pair_e hC hR hn et eu ew⟩
    · rw [if_neg (by omega)]
      refine ⟨⟨hx, hf, hs⟩, ?_⟩
      rw [if_neg z2]
      intro ω ew
      subst e
      exact ⟨rfl, pair_e hC hR hn et eu ew⟩
  by_cases ht : σ 186 14 = 1
  · rw [if_neg (by omega)]
    refine ⟨⟨hx, hf, hs⟩, ?_⟩
    by_cases hO : isOr x f s
    · rw [if_pos hO]
      obtain ⟨D1, D2, D3, D4, D5, D6, D7, D8⟩ := hC.2.1 ht
      obtain ⟨H1, H2, H3, H4⟩ := hC.2.2.2.1
      obtain ⟨a1, a2, a3, a4, a5, a6, a7, a8, a9, a10⟩ := id hR
      obtain ⟨b1, b2, b3, b4, b5, b6⟩ := a10 ht
      have hb2 := b2
      obtain ⟨⟨c0, c1'⟩, ⟨d0, d1⟩, ⟨e0, e1⟩, -⟩ := hb2
      rw [D3, D4, D5]
      refine ⟨⟨⟨by omega, by omega⟩, ⟨by omega, by omega⟩, ⟨by omega, by omega⟩⟩, ?_⟩
      intro x4 ex4
      refine ⟨⟨H1, H2, by omega, by omega⟩, ?_⟩
      intro σ1 es1
      have s1 : ∀ b j, σ1 b j = if b = 128 ∧ j = 6 then min (σ 128 6 + 1) 8 else if b = 128 ∧ j = 5 then (σ 128 5 + 1) % 8 else if b = 132 ∧ j = σ 128 5 then σ 36 2 else if b = 131 ∧ j = σ 128 5 then σ 36 1 else if b = 130 ∧ j = σ 128 5 then σ 36 0 else if b = 129 ∧ j = σ 128 5 then -1 else σ b j := fun b j => by
        rw [es1]
        unfold kpO
        rw [gon_at]
        rfl
      have n1 : ∀ b j, (b < 128 ∨ 132 < b) → σ1 b j = σ b j := fun b j z => by
        rw [s1, if_neg (by omega), if_neg (by omega), if_neg (by omega), if_neg (by omega), if_neg (by omega), if_neg (by omega)]
      have m5 : σ1 128 5 = (σ 128 5 + 1) % 8 := by rw [s1, if_neg (by decide), if_pos ⟨rfl, rfl⟩]
      have m6 : σ1 128 6 = min (σ 128 6 + 1) 8 := by rw [s1, if_pos ⟨rfl, rfl⟩]
      have m129 : ∀ j, σ1 129 j = if j = σ 128 5 then -1 else σ 129 j := fun j => by
        rw [s1, if_neg (by omega), if_neg (by omega), if_neg (by omega), if_neg (by omega), if_neg (by omega)]
        by_cases hj : j = σ 128 5
        · rw [if_pos ⟨rfl, hj⟩, if_pos hj]
        · rw [if_neg (fun w => hj w.2), if_neg hj]
      have m130 : ∀ j, σ1 130 j = if j = σ 128 5 then σ 36 0 else σ 130 j := fun j => by
        rw [s1, if_neg (by omega), if_neg (by omega), if_neg (by omega), if_neg (by omega)]
        by_cases hj : j = σ 128 5
        · rw [if_pos ⟨rfl, hj⟩, if_pos hj]
        · rw [if_neg (fun w => hj w.2), if_neg hj, if_neg (by omega)]
      have m131 : ∀ j, σ1 131 j = if j = σ 128 5 then σ 36 1 else σ 131 j := fun j => by
        rw [s1, if_neg (by omega), if_neg (by omega), if_neg (by omega)]
        by_cases hj : j = σ 128 5
        · rw [if_pos ⟨rfl, hj⟩, if_pos hj]
        · rw [if_neg (fun w => hj w.2), if_neg hj, if_neg (by omega), if_neg (by omega)]
      have m132 : ∀ j, σ1 132 j = if j = σ 128 5 then σ 36 2 else σ 132 j := fun j => by
        rw [s1, if_neg (by omega), if_neg (by omega)]
        by_cases hj : j = σ 128 5
        · rw [if_pos ⟨rfl, hj⟩, if_pos hj]
        · rw [if_neg (fun w => hj w.2), if_neg hj, if_neg (by omega), if_neg (by omega), if_neg (by omega)]
      have fin : ∀ (σ2 τ : l2_m) (y : Int), (∀ b j, b ≠ 36 → b ≠ 37 → (b < 162 ∨ 185 < b) → σ2 b j = σ1 b j) → σ2 36 0 = x → σ2 36 1 = f → σ2 36 2 = s → σ2 36 3 = 3 - f - s → (∀ u : Int, 0 ≤ u → u < 3 → σ2 37 u = UW (wt x f s) u) → (∀ r : Int, 0 ≤ r → r < 8 → PR σ2 (162 + 3 * Int.toNat r) (wt x f s) (regR σ r)) → τ = trb σ2 0 → (y = if σ 186 6 = x ∧ σ 186 7 = f ∧ σ 186 8 = s then 0 else 1) → wC B 273 [vr 186, vi x, vi f, vi s] τ (fun z υ => y = z ∧ CI F υ υ ∧ RWF υ) := by
        intro σ2 τ y k1 k2 k3 k4 k5 k6 k7 et ey
        obtain ⟨q1, q2, q3, q4, q5⟩ := trb_c σ2 0
        rw [← et] at q1 q2 q3 q4 q5
        have kt : ∀ b j, 186 ≤ b → τ b j = σ b j := fun b j z => by
          rw [q5 b j (by omega), k1 b j (by omega) (by omega) (by omega)]; exact n1 b j (by omega)
        refine r273 hR ht hx hf hs hO kt (fun ω hA hlo => ⟨ey, CI_lo (CI_ord hC hR ht hA (fun b j z1 z2 z3 z4 z5 => ?_) (fun j z1 z2 => ?_) q3 q4 ?_ ?_ ?_ ?_ (fun u u0 u1 => ?_) (fun r r0 r1 => ?_) ?_ ?_ (fun j => ?_) (fun j => ?_) (fun j => ?_) (fun j => ?_)) hlo, RWF_ord hR ht hO hA⟩)
        · rw [q5 b j z1, k1 b j z2 z3 z5]; exact n1 b j z4
        · rw [et, trb_at, if_neg (by omega), if_neg (by omega), k1 32 j (by decide) (by decide) (by decide)]; exact n1 32 j (by decide)
        · rw [q5 36 0 (by decide)]; exact k2
        · rw [q5 36 1 (by decide)]; exact k3
        · rw [q5 36 2 (by decide)]; exact k4
        · rw [q5 36 3 (by decide)]; exact k5
        · rw [q5 37 u (by decide)]; exact k6 u u0 u1
        · exact PR_congr (k7 r r0 r1) (q5 _ _ (by omega)) (fun i _ _ => q5 _ _ (by omega)) (fun i _ _ => q5 _ _ (by omega))
        · rw [q5 128 5 (by decide), k1 128 5 (by decide) (by decide) (by decide)]; exact m5
        · rw [q5 128 6 (by decide), k1 128 6 (by decide) (by decide) (by decide)]; exact m6
        · rw [q5 129 j (by decide), k1 129 j (by decide) (by decide) (by decide)]; exact m129 j
        · rw [q5 130 j (by decide), k1 130 j (by decide) (by decide) (by decide)]; exact m130 j
        · rw [q5 131 j (by decide), k1 131 j (by decide) (by decide) (by decide)]; exact m131 j
        · rw [q5 132 j (by decide), k1 132 j (by decide) (by decide) (by decide)]; exact m132 j
      have hG1 : ∀ r : Int, 0 ≤ r → r < 8 → PR σ1 (162 + 3 * Int.toNat r) (ordA σ) (regR σ r) := fun r r0 r1 => PR_congr (D8 r r0 r1) (n1 _ _ (by omega)) (fun i _ _ => n1 _ _ (by omega)) (fun i _ _ => n1 _ _ (by omega))
      by_cases hsame : σ 186 6 = x ∧ σ 186 7 = f ∧ σ 186 8 = s
      · rw [if_pos hsame]
        rw [b2i, if_pos hsame] at ex4
        subst ex4
        unfold w140_63
        refine ⟨by decide, ?_⟩
        rw [if_neg (by decide)]
        intro τ et
        have eo : ordA σ = wt x f s := by unfold ordA; rw [hsame.1, hsame.2.1, hsame.2.2]
        have D6' := D6
        rw [hsame.2.1, hsame.2.2] at D6'
        refine fin σ1 τ 0 (fun _ _ _ _ _ => rfl) ?_ ?_ ?_ ?_ (fun u u0 u1 => ?_) (fun r r0 r1 => ?_) et (by rw [if_pos hsame])
        · rw [n1 36 0 (by decide), D3]; exact hsame.1
        · rw [n1 36 1 (by decide), D4]; exact hsame.2.1
        · rw [n1 36 2 (by decide), D5]; exact hsame.2.2
        · rw [n1 36 3 (by decide)]; exact D6'
        · rw [n1 37 u (by decide), ← eo]; exact D7 u u0 u1
        · rw [← eo]; exact hG1 r r0 r1
      · rw [if_neg hsame]
        rw [b2i, if_neg hsame] at ex4
        subst ex4
        refine c165 (W := ordA σ) (G := regR σ) hO (wt_ok _ _ _) hG1 ?_
        intro σ2 k1 k2 k3 k4 k5 k6 k7
        unfold w140_63
        refine ⟨by decide, ?_⟩
        rw [if_pos rfl]
        intro τ et
        exact fin σ2 τ 1 k1 k2 k3 k4 k5 k6 k7 et (by rw [if_neg hsame])
    · rw [if_neg hO]
      intro τ et
      exact bad 2 τ (by decide) et (Or.inr ⟨ht, hO, rfl⟩)
  · have ht0 : σ 186 14 = 0 := h01.resolve_right ht
    rw [if_pos ht0]
    intro τ et
    exact bad 1 τ (by decide) et (Or.inl ⟨ht0, rfl⟩)
