/-! ===== pairs of calls: the class's, then the reference's ===== -/
/-- what of the reference's things is kept from call to call -/
def prs (b : Nat) (j : Int) : Prop := b = 187 ∨ b = 189 ∨ b = 190 ∨ (199 ≤ b ∧ b ≤ 203) ∨ (b = 186 ∧ (j = 1 ∨ j = 2 ∨ j = 5 ∨ j = 6 ∨ j = 7 ∨ j = 8 ∨ j = 14 ∨ j = 16 ∨ j = 22 ∨ j = 45))
/-- trouble alone is told -/
def TrR (A A' : l2_m) (n : Int) : Prop := (∀ b j, prs b j → ¬ (b = 186 ∧ (j = 1 ∨ j = 2)) → A' b j = A b j) ∧ A' 186 1 = n ∧ A' 186 2 = -1
theorem RWF_cg {A A' : l2_m} (h : RWF A) (e : ∀ b j, prs b j → ¬ (b = 186 ∧ (j = 1 ∨ j = 2)) → A' b j = A b j) (e1 : rg (A' 186 1)) (e2 : rg (A' 186 2)) : RWF A' := by
  have k : ∀ j, (j = 5 ∨ j = 6 ∨ j = 7 ∨ j = 8 ∨ j = 14 ∨ j = 16 ∨ j = 22 ∨ j = 45) → A' 186 j = A 186 j := fun j z => e 186 j (by unfold prs; omega) (by omega)
  have v : ∀ b j, b = 187 ∨ b = 190 ∨ (199 ≤ b ∧ b ≤ 203) → A' b j = A b j := fun b j z => e b j (by unfold prs; omega) (by omega)
  obtain ⟨a1, a2, a3, a4, a5, a6, a7, a8, a9, a10⟩ := h
  have eo : ordA A' = ordA A := by unfold ordA; rw [k 6 (by omega), k 7 (by omega), k 8 (by omega)]
  have er : ∀ r, regR A' r = regR A r := fun r => funext (fun j => v 187 _ (by omega))
  unfold RWF
  rw [k 14 (by omega), k 16 (by omega), k 22 (by omega), k 45 (by omega), k 5 (by omega), k 6 (by omega), k 7 (by omega), k 8 (by omega), eo]
  refine ⟨a1, a2, a3, e1, e2, a6, a7, a8, a9, fun z => ?_⟩
  obtain ⟨b1, b2, b3, b4, b5, b6⟩ := a10 z
  refine ⟨b1, b2, fun r j x0 x1 x2 x3 => by rw [v 187 _ (by omega)]; exact b3 r j x0 x1 x2 x3, fun r x0 x1 => by rw [er]; exact b4 r x0 x1, ⟨fun i x0 x1 => by rw [v 190 _ (by omega)]; exact b5.1 i x0 x1, fun i j x0 x1 x2 => by rw [v 190 _ (by omega), v 190 _ (by omega)]; exact b5.2.1 i j x0 x1 x2, fun j x0 x1 => by obtain ⟨i, y0, y1, y2⟩ := b5.2.2 j x0 x1; exact ⟨i, y0, y1, by rw [v 190 _ (by omega)]; exact y2⟩⟩, fun i x0 x1 => ?_⟩
  obtain ⟨c1', c2', c3'⟩ := b6 i x0 x1
  rw [v 200 _ (by omega), v 201 _ (by omega), v 202 _ (by omega), v 203 _ (by omega), v 201 _ (by omega), v 202 _ (by omega), v 203 _ (by omega)]
  refine ⟨c1', c2', fun w => ?_⟩
  obtain ⟨d1, d2, d3⟩ := c3' w
  refine ⟨fun j y0 y1 => by rw [v 199 _ (by omega)]; exact d1 j y0 y1, ?_, d3⟩
  have : (fun j => A' 199 (4096 * i + j)) = (fun j => A 199 (4096 * i + j)) := funext (fun j => v 199 _ (by omega))
  rw [this]; exact d2
/-- the class's part of a memory -/
def cpt (b : Nat) (j : Int) : Prop := (b = 32 ∧ j ≠ 2 ∧ j ≠ 4) ∨ b = 33 ∨ (34 ≤ b ∧ b ≤ 37) ∨ b = 41 ∨ (109 ≤ b ∧ b ≤ 113) ∨ (128 ≤ b ∧ b ≤ 157) ∨ (162 ≤ b ∧ b ≤ 185)
theorem CI_cg {F : l2_m → Prop} {σ τ A A' : l2_m} (h : CI F σ A) (t : ∀ b j, cpt b j → τ b j = σ b j) (td : dvO τ) (e : ∀ b j, prs b j → ¬ (b = 186 ∧ (j = 1 ∨ j = 2)) → A' b j = A b j) (e1 : τ 32 2 = A' 186 1) (e2 : τ 32 4 = A' 186 2) : CI F τ A' := by
  have k : ∀ j, (j = 5 ∨ j = 6 ∨ j = 7 ∨ j = 8 ∨ j = 14 ∨ j = 16 ∨ j = 22 ∨ j = 45) → A' 186 j = A 186 j := fun j z => e 186 j (by unfold prs; omega) (by omega)
  have v : ∀ b j, b = 187 ∨ b = 189 ∨ (199 ≤ b ∧ b ≤ 203) → A' b j = A b j := fun b j z => e b j (by unfold prs; omega) (by omega)
  obtain ⟨⟨B1, B2, B3, B4, B5, B6⟩, hD, hN, ⟨H1, H2, H3, H4⟩, hdo, hz, hF⟩ := h
  have eo : ordA A' = ordA A := by unfold ordA; rw [k 6 (by omega), k 7 (by omega), k 8 (by omega)]
  have er : ∀ r, regR A' r = regR A r := fun r => funext (fun j => v 187 _ (by omega))
  have w : ∀ b j, (b = 33 ∨ (34 ≤ b ∧ b ≤ 37) ∨ b = 41 ∨ (109 ≤ b ∧ b ≤ 113) ∨ (128 ≤ b ∧ b ≤ 157) ∨ (162 ≤ b ∧ b ≤ 185)) → τ b j = σ b j := fun b j z => t b j (by unfold cpt; omega)
  refine ⟨⟨?_, e1, ?_, e2, ?_, fun i x0 x1 => ?_⟩, fun z => ?_, fun z => ?_, ⟨by rw [w 128 5 (by omega)]; exact H1, by rw [w 128 5 (by omega)]; exact H2, by rw [w 128 6 (by omega), k 45 (by omega)]; exact H3, fun i x0 x1 => ?_⟩, td, ?_, ?_⟩
  · rw [t 32 1 (by unfold cpt; omega), k 16 (by omega)]; exact B1
  · rw [t 32 3 (by unfold cpt; omega), k 22 (by omega)]; exact B3
  · rw [t 32 5 (by unfold cpt; omega), k 14 (by omega)]; exact B5
  · rw [k 16 (by omega)] at x1
    rw [w 33 i (by omega), v 189 i (by omega)]; exact B6 i x0 x1
  · rw [k 14 (by omega)] at z
    obtain ⟨D1, D2, D3, D4, D5, D6, D7, D8⟩ := hD z
    rw [eo, k 5 (by omega), k 6 (by omega), k 7 (by omega), k 8 (by omega), w 34 0 (by omega), w 36 0 (by omega), w 36 1 (by omega), w 36 2 (by omega), w 36 3 (by omega)]
    refine ⟨D1, fun x x0 x1 => by rw [w 35 x (by omega)]; exact D2 x x0 x1, D3, D4, D5, D6, fun u u0 u1 => by rw [w 37 u (by omega)]; exact D7 u u0 u1, fun r r0 r1 => ?_⟩
    have r8 : Int.toNat r < 8 := by omega
    rw [er]
    exact PR_congr (D8 r r0 r1) (w _ _ (by omega)) (fun j _ _ => w _ _ (by omega)) (fun j _ _ => w _ _ (by omega))
  · rw [k 14 (by omega)] at z
    obtain ⟨N1, N2⟩ := hN z
    refine ⟨by rw [w 34 0 (by omega)]; exact N1, fun r r0 r1 => ?_⟩
    have r8 : Int.toNat r < 8 := by omega
    rw [w _ _ (by omega)]; exact N2 r r0 r1
  · rw [k 45 (by omega)] at x1
    have es : hsl τ A' i = hsl σ A i := by unfold hsl; rw [w 128 5 (by omega), k 45 (by omega)]
    have hs0 : 0 ≤ hsl σ A i ∧ hsl σ A i < 8 := by unfold hsl; omega
    obtain ⟨c1', c2', c3'⟩ := H4 i x0 x1
    rw [es, v 200 _ (by omega), v 201 _ (by omega), v 202 _ (by omega), v 203 _ (by omega), w 129 _ (by omega), w 130 _ (by omega), w 131 _ (by omega), w 132 _ (by omega)]
    refine ⟨c1', c2', fun z => ?_⟩
    have s8 : Int.toNat (hsl σ A i) < 8 := by omega
    have ef : (fun j => A' 199 (4096 * i + j)) = (fun j => A 199 (4096 * i + j)) := funext (fun j => v 199 _ (by omega))
    rw [ef]
    exact PR_congr (c3' z) (w _ _ (by omega)) (fun j _ _ => w _ _ (by omega)) (fun j _ _ => w _ _ (by omega))
  · rw [w 41 2 (by omega)]; exact hz
  · rw [cgm_eq (fun b j z1 z2 => w b j (by omega))]; exact hF
/-- both sides stand, and the answers are alike -/
def PAIR (F : l2_m → Prop) (B : va_E) (kc kr : Nat) (as : List Value) : Prop := ∀ σ : l2_m, CI F σ σ → RWF σ → wC B kc (vr 32 :: as) σ (fun x τ => wC B kr (vr 186 :: as) τ (fun y υ => x = y ∧ CI F υ υ ∧ RWF υ))
/-- a call that tells trouble alone on both sides -/
theorem pair_tr {F : l2_m → Prop} {σ τ υ : l2_m} {n : Int} (hC : CI F σ σ) (hR : RWF σ) (hn : rg n) (t : ∀ b j, cpt b j ∨ prs b j → τ b j = σ b j) (td : dvO τ) (t2 : τ 32 2 = n) (t4 : τ 32 4 = -1) (u : ∀ b j, b < 186 → υ b j = τ b j) (up : ∀ b j, prs b j → ¬ (b = 186 ∧ (j = 1 ∨ j = 2)) → υ b j = τ b j) (u1 : υ 186 1 = n) (u2 : υ 186 2 = -1) : CI F υ υ ∧ RWF υ := by
  have e : ∀ b j, prs b j → ¬ (b = 186 ∧ (j = 1 ∨ j = 2)) → υ b j = σ b j := fun b j z w => by rw [up b j z w]; exact t b j (Or.inr z)
  refine ⟨CI_cg hC (fun b j z => ?_) ?_ e (by rw [u 32 2 (by decide), t2, u1]) (by rw [u 32 4 (by decide), t4, u2]), RWF_cg hR e (by rw [u1]; exact hn) (by rw [u2]; decide)⟩
  · have hb : b < 186 := by unfold cpt at z; omega
    rw [u b j hb]; exact t b j (Or.inl z)
  · unfold dvO
    rw [u 74 3 (by decide), u 74 4 (by decide)]; exact td
theorem trb_c (σ : l2_m) (n : Int) : (∀ b j, cpt b j ∨ prs b j → trb σ n b j = σ b j) ∧ (dvO σ → dvO (trb σ n)) ∧ trb σ n 32 2 = n ∧ trb σ n 32 4 = -1 ∧ (∀ b j, b ≠ 32 → trb σ n b j = σ b j) := by
  refine ⟨fun b j z => ?_, fun z => ?_, ?_, ?_, fun b j z => ?_⟩
  · rw [trb_at]
    unfold cpt prs at z
    rw [if_neg (by omega), if_neg (by omega)]
  · unfold dvO
    rw [trb_at, trb_at, if_neg (by decide), if_neg (by decide), if_neg (by decide), if_neg (by decide)]; exact z
  · rw [trb_at, if_neg (by decide), if_pos ⟨rfl, rfl⟩]
  · rw [trb_at, if_pos ⟨rfl, rfl⟩]
  · rw [trb_at, if_neg (fun w => z w.1), if_neg (fun w => z w.1)]
theorem trr_at (σ : l2_m) (n : Int) (b : Nat) (j : Int) : trr σ n b j = if b = 186 ∧ j = 2 then -1 else if b = 186 ∧ j = 1 then n else σ b j := rfl
/-- thrown is cleared, trouble told: the reference's side of such a call -/
theorem trr_c {τ υ ω : l2_m} {n : Int} (hu : υ = l2_u τ 186 0 0) (hw : ω = trr υ n) : (∀ b j, b < 186 → ω b j = τ b j) ∧ (∀ b j, prs b j → ¬ (b = 186 ∧ (j = 1 ∨ j = 2)) → ω b j = τ b j) ∧ ω 186 1 = n ∧ ω 186 2 = -1 := by
  have a : ∀ b j, ω b j = if b = 186 ∧ j = 2 then -1 else if b = 186 ∧ j = 1 then n else if b = 186 ∧ j = 0 then 0 else τ b j := fun b j => by rw [hw, hu]; rfl
  refine ⟨fun b j z => ?_, fun b j z w => ?_, ?_, ?_⟩
  · rw [a, if_neg (by omega), if_neg (by omega), if_neg (by omega)]
  · unfold prs at z
    rw [a, if_neg (by omega), if_neg (by omega), if_neg (by omega)]
  · rw [a, if_neg (by decide), if_pos ⟨rfl, rfl⟩]
  · rw [a, if_pos ⟨rfl, rfl⟩]
theorem pair_terms {F : l2_m → Prop} {B : va_E} {r : Int} (hr : rg r) : PAIR F B 112 207 [vi r] := by
  intro σ hC hR
  have hC' := hC
  obtain ⟨⟨B1, B2, B3, B4, B5, B6⟩, hD, hN, hH, hdo, hz, hF⟩ := hC
  have h01 := hR.1
  refine o112 ?_
  unfold w112
  rw [B5]
  refine ⟨⟨hr, h01⟩, ?_⟩
  by_cases hc : σ 186 14 = 1 ∧ 0 ≤ r ∧ r < 8
  · rw [if_pos hc]
    refine ⟨⟨hc.2.1, hc.2.2⟩, ?_⟩
    intro τ et
    obtain ⟨c1', c2', c3', c4', c5'⟩ := trb_c σ 0
    rw [← et] at c1' c2' c3' c4' c5'
    obtain ⟨b1, b2, b3, b4, b5, b6⟩ := hR.2.2.2.2.2.2.2.2.2 hc.1
    obtain ⟨-, -, -, -, -, -, -, D8⟩ := hD hc.1
    have pc := PR_cnt (D8 r hc.2.1 hc.2.2)
    obtain ⟨p2, p97, -⟩ := pr_rest _ b1
    refine o207 ?_
    unfold w207
    intro υ eu
    have e14 : υ 186 14 = 1 := by rw [eu, l2_u_nj (by decide), c5' 186 14 (by decide)]; exact hc.1
    have e187 : ∀ j, υ 187 j = σ 187 j := fun j => by rw [eu, l2_u_ne (by decide)]; exact c5' 187 j (by decide)
    rw [e14]
    refine ⟨⟨hr, Or.inr rfl⟩, ?_⟩
    rw [if_pos ⟨rfl, hc.2⟩]
    refine ⟨⟨hc.2.1, hc.2.2, fun j x0 x1 => by rw [e187]; have := b3 r j hc.2.1 hc.2.2 x0 x1; exact ⟨by omega, by omega⟩⟩, ?_⟩
    intro ω ew
    obtain ⟨w1, w2, w3, w4⟩ := trr_c eu ew
    refine ⟨?_, pair_tr hC' hR (by decide) c1' (c2' hdo) c3' c4' w1 w2 w3 w4⟩
    rw [← pc]
    exact cnt_congr (fun j _ _ => (e187 _).symm)
  · rw [if_neg hc]
    intro τ et
    obtain ⟨c1', c2', c3', c4', c5'⟩ := trb_c σ 1
    rw [← et] at c1' c2' c3' c4' c5'
    refine o207 ?_
    unfold w207
    intro υ eu
    have e14 : υ 186 14 = σ 186 14 := by rw [eu, l2_u_nj (by decide)]; exact c5' 186 14 (by decide)
    rw [e14]
    refine ⟨⟨hr, h01⟩, ?_⟩
    rw [if_neg hc]
    intro ω ew
    obtain ⟨w1, w2, w3, w4⟩ := trr_c eu ew
    exact ⟨rfl, pair_tr hC' hR (by decide) c1' (c2' hdo) c3' c4' w1 w2 w3 w4⟩
