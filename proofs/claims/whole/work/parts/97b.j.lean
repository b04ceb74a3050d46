/-! ===== desk: what is read is taken over ===== -/
theorem RWF_d {A A' : l2_m} (h : RWF A) (e : ∀ b j, prs b j → b ≠ 189 → ¬ (b = 186 ∧ (j = 1 ∨ j = 2 ∨ j = 16 ∨ j = 22)) → A' b j = A b j) (e0 : 0 ≤ A' 186 16) (e1 : A' 186 16 ≤ 700) (q1 : rg (A' 186 1)) (q2 : rg (A' 186 2)) (q3 : rg (A' 186 22)) : RWF A' := by
  have k : ∀ j, (j = 5 ∨ j = 6 ∨ j = 7 ∨ j = 8 ∨ j = 14 ∨ j = 45) → A' 186 j = A 186 j := fun j z => e 186 j (by unfold prs; omega) (by omega) (by omega)
  have v : ∀ b j, b = 187 ∨ b = 190 ∨ (199 ≤ b ∧ b ≤ 203) → A' b j = A b j := fun b j z => e b j (by unfold prs; omega) (by omega) (by omega)
  obtain ⟨a1, a2, a3, a4, a5, a6, a7, a8, a9, a10⟩ := h
  have eo : ordA A' = ordA A := by unfold ordA; rw [k 6 (by omega), k 7 (by omega), k 8 (by omega)]
  have er : ∀ r, regR A' r = regR A r := fun r => funext (fun j => v 187 _ (by omega))
  unfold RWF
  rw [k 14 (by omega), k 45 (by omega), k 5 (by omega), k 6 (by omega), k 7 (by omega), k 8 (by omega), eo]
  refine ⟨a1, e0, e1, q1, q2, q3, a7, a8, a9, fun z => ?_⟩
  obtain ⟨b1, b2, b3, b4, b5, b6⟩ := a10 z
  refine ⟨b1, b2, fun r j x0 x1 x2 x3 => by rw [v 187 _ (by omega)]; exact b3 r j x0 x1 x2 x3, fun r x0 x1 => by rw [er]; exact b4 r x0 x1, ⟨fun i x0 x1 => by rw [v 190 _ (by omega)]; exact b5.1 i x0 x1, fun i j x0 x1 x2 => by rw [v 190 _ (by omega), v 190 _ (by omega)]; exact b5.2.1 i j x0 x1 x2, fun j x0 x1 => by obtain ⟨i, y0, y1, y2⟩ := b5.2.2 j x0 x1; exact ⟨i, y0, y1, by rw [v 190 _ (by omega)]; exact y2⟩⟩, fun i x0 x1 => ?_⟩
  obtain ⟨c1', c2', c3'⟩ := b6 i x0 x1
  rw [v 200 _ (by omega), v 201 _ (by omega), v 202 _ (by omega), v 203 _ (by omega), v 201 _ (by omega), v 202 _ (by omega), v 203 _ (by omega)]
  refine ⟨c1', c2', fun w => ?_⟩
  obtain ⟨d1, d2, d3⟩ := c3' w
  refine ⟨fun j y0 y1 => by rw [v 199 _ (by omega)]; exact d1 j y0 y1, ?_, d3⟩
  have : (fun j => A' 199 (4096 * i + j)) = (fun j => A 199 (4096 * i + j)) := funext (fun j => v 199 _ (by omega))
  rw [this]; exact d2
/-- the registers then -/
def rgG (c : Int) (G : Int → Int → Int) (r : Int) : Int → Int := if r < c then G r else fun _ => 0
theorem c157 {B : va_E} {σ : l2_m} {K : Int → l2_m → Prop} {p h a b c : Int} {G : Int → Int → Int} (hL : LF σ p h a b c G) (hp : p ≠ 0) (hK : ∀ τ : l2_m, (∀ b j, (b < 34 ∨ 37 < b) → (b < 162 ∨ 185 < b) → ¬ (b = 128 ∧ j = 6) → ¬ (b = 32 ∧ j = 5) → τ b j = σ b j) → τ 34 0 = p → invOK τ 34 p → τ 36 0 = h → τ 36 1 = a → τ 36 2 = b → τ 36 3 = 3 - a - b → (∀ u : Int, 0 ≤ u → u < 3 → τ 37 u = UW (wt h a b) u) → (∀ r : Int, 0 ≤ r → r < 8 → PR τ (162 + 3 * Int.toNat r) (wt h a b) (rgG c G r)) → τ 128 6 = 0 → τ 32 5 = 1 → K 0 τ) : wC B 157 [vr 32] σ K := by
  obtain ⟨l1, l2, l3, l4, l5, l6, l7⟩ := hL
  obtain ⟨k1, k2, k3, k4, k5, k6, k7⟩ := l2 hp
  refine o157 ?_
  unfold w157
  rw [k3]
  refine c70 (q := 34) (show isMb 34 = true from rfl) k1 ?_
  intro t1 q1 q2 q3
  rw [q1 52 0 (by decide) (by decide), q1 52 1 (by decide) (by decide), q1 52 2 (by decide) (by decide), k4, k5, k6]
  refine c75 (o := 36) (show isOb 36 = true from rfl) k2 ?_
  intro t2 r1 r2 r3 r4 r5 r6
  have n2 : ∀ b j, (b < 34 ∨ 37 < b) → t2 b j = σ b j := fun b j w => (r1 b j (by omega) (by omega)).trans (q1 b j (by omega) (by omega))
  unfold w157_56
  refine lz2_inv (fun (x : Int) u => 0 ≤ x ∧ x ≤ 8 ∧ (∀ b j, (b < 162 ∨ 185 < b) → u b j = t2 b j) ∧ (∀ r : Int, 0 ≤ r → r < x → PR u (162 + 3 * Int.toNat r) (wt h a b) (rgG c G r))) (fun x _ => 8 - x) ?_ ⟨by decide, by decide, fun _ _ _ => rfl, fun r r0 r1 => by omega⟩
  intro X x u hX ⟨x0, x1, u1, u2⟩
  refine ⟨⟨by omega, by omega⟩, ?_⟩
  by_cases hx : x < 8
  · rw [if_pos hx]
    refine ⟨⟨x0, hx⟩, ?_⟩
    intro v ev
    have xn : Int.toNat x < 8 := by omega
    have v1 : ∀ b j, b ≠ 162 + 3 * Int.toNat x → v b j = u b j := fun b j w => by rw [ev, l2_u_ne w]
    have v0 : v (162 + 3 * Int.toNat x) 2 = 0 := by rw [ev, l2_u_self]
    have v3 : v 49 3 = c := by rw [v1 49 3 (by omega), u1 49 3 (by omega), n2 49 3 (by omega)]; exact l3
    rw [v3]
    refine ⟨⟨by omega, by omega⟩, ?_⟩
    by_cases hc : x < c ∧ x < 6
    · rw [if_pos hc]
      have hP : PR v (56 + 3 * Int.toNat x) (wt h a b) (G x) := by
        have x6 : Int.toNat x < 6 := by omega
        refine PR_congr (l7 x x0 hc.1) ?_ (fun i _ _ => ?_) (fun i _ _ => ?_)
        · rw [v1 _ _ (by omega), u1 _ _ (by omega)]; exact n2 _ _ (by omega)
        · rw [v1 _ _ (by omega), u1 _ _ (by omega)]; exact n2 _ _ (by omega)
        · rw [v1 _ _ (by omega), u1 _ _ (by omega)]; exact n2 _ _ (by omega)
      refine ⟨⟨hc.2, by omega, hP.1, hP.2.1⟩, ?_⟩
      intro w ew
      obtain ⟨cp1, cp2⟩ := PR_cpP (o := 162 + 3 * Int.toNat x) hP
      rw [← ew] at cp1 cp2
      refine hX (x + 1) w ⟨by omega, by omega, fun b j z => by rw [cp2 b j (by omega) (by omega) (by omega), v1 b j (by omega)]; exact u1 b j z, fun r r0 r1 => ?_⟩ (by omega)
      by_cases hr : r = x
      · rw [hr]
        unfold rgG
        rw [if_pos hc.1]; exact cp1
      · have rn : Int.toNat r < 8 := by omega
        have rne : Int.toNat r ≠ Int.toNat x := by omega
        refine PR_congr (u2 r r0 (by omega)) ?_ (fun i _ _ => ?_) (fun i _ _ => ?_)
        · rw [cp2 _ _ (by omega) (by omega) (by omega)]; exact v1 _ _ (by omega)
        · rw [cp2 _ _ (by omega) (by omega) (by omega)]; exact v1 _ _ (by omega)
        · rw [cp2 _ _ (by omega) (by omega) (by omega)]; exact v1 _ _ (by omega)
    · rw [if_neg hc]
      refine hX (x + 1) v ⟨by omega, by omega, fun b j z => by rw [v1 b j (by omega)]; exact u1 b j z, fun r r0 r1 => ?_⟩ (by omega)
      by_cases hr : r = x
      · rw [hr]
        unfold rgG
        rw [if_neg (by omega)]
        exact PR_zero v0
      · have rn : Int.toNat r < 8 := by omega
        have rne : Int.toNat r ≠ Int.toNat x := by omega
        exact PR_congr (u2 r r0 (by omega)) (v1 _ _ (by omega)) (fun i _ _ => v1 _ _ (by omega)) (fun i _ _ => v1 _ _ (by omega))
  · rw [if_neg hx]
    intro v ev w ew
    have g : ∀ b j, ¬ (b = 128 ∧ j = 6) → ¬ (b = 32 ∧ j = 5) → w b j = u b j := fun b j w1 w2 => by rw [ew]; unfold l2_u; rw [if_neg w2, ev]; unfold l2_u; rw [if_neg w1]
    have lo : ∀ b j, 34 ≤ b → b ≤ 37 → w b j = t2 b j := fun b j x y => by rw [g b j (by omega) (by omega)]; exact u1 b j (by omega)
    refine hK w (fun b j z1 z2 z3 z4 => by rw [g b j z3 z4, u1 b j z2]; exact n2 b j z1) ?_ (fun y y0 y1 => ?_) ?_ ?_ ?_ ?_ (fun y y0 y1 => ?_) (fun r r0 r1 => ?_) ?_ ?_
    · rw [lo 34 0 (by decide) (by decide), r1 34 0 (by decide) (by decide)]; exact q2
    · rw [lo 35 y (by decide) (by decide), r1 35 y (by decide) (by decide)]; exact q3 y y0 y1
    · rw [lo 36 0 (by decide) (by decide)]; exact r2
    · rw [lo 36 1 (by decide) (by decide)]; exact r3
    · rw [lo 36 2 (by decide) (by decide)]; exact r4
    · rw [lo 36 3 (by decide) (by decide)]; exact r5
    · rw [lo 37 y (by decide) (by decide)]; exact r6 y y0 y1
    · exact PR_congr (u2 r r0 (by omega)) (g _ _ (by omega) (by omega)) (fun i _ _ => g _ _ (by omega) (by omega)) (fun i _ _ => g _ _ (by omega) (by omega))
    · rw [ew, l2_u_ne (by decide), ev, l2_u_self]
    · rw [ew, l2_u_self]
/-- the reference takes over -/
theorem r190l {B : va_E} {σ : l2_m} {Q : Int → l2_m → Prop} {p h a b c : Int} {G : Int → Int → Int} (hL : RLF σ p h a b c G) (hp : p ≠ 0) (e6 : σ 186 6 = h) (e7 : σ 186 7 = a) (e8 : σ 186 8 = b) (hQ : ∀ ω : l2_m, (∀ b j, b ≠ 187 → b ≠ 190 → ¬ (b = 186 ∧ (j = 1 ∨ j = 2 ∨ j = 25 ∨ j = 45)) → ω b j = σ b j) → ω 186 1 = 0 → ω 186 2 = -1 → ω 186 45 = 0 → alongOK ω (wt h a b) → (∀ r k : Int, 0 ≤ r → r < 8 → 0 ≤ k → k < 4096 → ω 187 (4096 * r + k) = rgG c G r k) → Q c ω) : w190_108 B σ 0 Q := by
  obtain ⟨l1, l2, l3, l4, l5, l6, l7⟩ := hL
  obtain ⟨k1, k2, k3, k4, k5⟩ := l2 hp
  unfold w190_108
  refine lz2_inv (fun (x : Int) u => 0 ≤ x ∧ x ≤ 32768 ∧ (∀ b j, b ≠ 187 → u b j = σ b j) ∧ (∀ j : Int, 0 ≤ j → j < x → u 187 j = if j < 24576 then σ 188 j else 0)) (fun x _ => 32768 - x) ?_ ⟨by decide, by decide, fun _ _ _ => rfl, fun j a b => by omega⟩
  intro X x u hX ⟨x0, x1, u1, u2⟩
  refine ⟨⟨by omega, by omega⟩, ?_⟩
  by_cases hx : x < 32768
  · rw [if_pos hx]
    have next : ∀ (v : l2_m) (y : Int), (y = if x < 24576 then σ 188 x else 0) → v = l2_u u 187 x y → X (x + 1) v := by
      intro v y ey ev
      refine hX (x + 1) v ⟨by omega, by omega, fun b j w => by rw [ev, l2_u_ne w]; exact u1 b j w, fun j j0 j1 => ?_⟩ (by omega)
      rw [ev]
      unfold l2_u
      by_cases hj : j = x
      · rw [if_pos ⟨rfl, hj⟩, hj]; exact ey
      · rw [if_neg (fun w => hj w.2)]; exact u2 j j0 (by omega)
    by_cases h2 : x < 24576
    · rw [if_pos h2]
      refine ⟨⟨x0, h2, hx⟩, ?_⟩
      intro v ev
      exact next v _ (by rw [if_pos h2]; exact u1 188 x (by decide)) ev
    · rw [if_neg h2]
      refine ⟨⟨x0, hx⟩, ?_⟩
      intro v ev
      exact next v 0 (by rw [if_neg h2]) ev
  · rw [if_neg hx]
    intro v ev
    have vn : ∀ b j, b ≠ 187 → ¬ (b = 186 ∧ j = 45) → v b j = σ b j := fun b j w1 w2 => by rw [ev]; unfold l2_u; rw [if_neg w2]; exact u1 b j w1
    refine r195 (h := h) (f := a) (s := b) (by rw [vn 186 6 (by omega) (by omega)]; exact e6) (by rw [vn 186 7 (by omega) (by omega)]; exact e7) (by rw [vn 186 8 (by omega) (by omega)]; exact e8) k2 ?_
    intro w g1 g2 ω ew
    have wt13 : w 186 13 = c := by rw [g1 186 13 (by omega) (by omega), vn 186 13 (by omega) (by omega)]; exact l3
    have wn : ∀ b j, ¬ (b = 186 ∧ (j = 1 ∨ j = 2)) → ω b j = w b j := fun b j z => by rw [ew, trr_at, if_neg (by omega), if_neg (by omega)]
    rw [wt13]
    refine hQ ω (fun b j z1 z2 z3 => ?_) ?_ ?_ ?_ ?_ (fun r k r0 r1 k0 k1 => ?_)
    · rw [wn b j (by omega), g1 b j z2 (by omega)]; exact vn b j z1 (by omega)
    · rw [ew, trr_at, if_neg (by decide), if_pos ⟨rfl, rfl⟩]
    · rw [ew, trr_at, if_pos ⟨rfl, rfl⟩]
    · rw [wn 186 45 (by omega), g1 186 45 (by omega) (by omega), ev, l2_u_self]
    · have e190 : ∀ j, ω 190 j = w 190 j := fun j => wn 190 j (by omega)
      exact ⟨fun i x0 x1 => by rw [e190]; exact g2.1 i x0 x1, fun i j x0 x1 x2 => by rw [e190, e190]; exact g2.2.1 i j x0 x1 x2, fun j x0 x1 => by obtain ⟨i, y0, y1, y2⟩ := g2.2.2 j x0 x1; exact ⟨i, y0, y1, by rw [e190]; exact y2⟩⟩
    · rw [wn 187 _ (by omega), g1 187 _ (by omega) (by omega), ev, l2_u_ne (by decide), u2 _ (by omega) (by omega)]
      unfold rgG
      by_cases hr : r < c
      · rw [if_pos hr, if_pos (by omega)]
        exact ((l7 r k r0 (by omega) k0 k1).1 hr).1
      · rw [if_neg hr]
        by_cases h6 : r < 6
        · rw [if_pos (by omega)]
          exact (l7 r k r0 h6 k0 k1).2 (by omega)
        · rw [if_neg (by omega)]
theorem pair_desk {F : l2_m → Prop} {B : va_E} {n : Int} (hn : rg n) : PAIR F B 108 190 [vi n] := by
  intro σ hC hR
  obtain ⟨B1, B2, B3, B4, B5, B6⟩ := hC.1
  obtain ⟨a1, a2, a3, a4, a5, a6, a7, a8, a9, a10⟩ := id hR
  have hdo := hC.2.2.2.2.1
  have bad : ∀ τ, τ = trb σ 2 → (n < 0 ∨ σ 186 16 < n) → wC B 190 [vr 186, vi n] τ (fun y υ => -1 = y ∧ CI F υ υ ∧ RWF υ) := by
    intro τ et hb
    refine o190 ?_
    unfold w190
    intro υ eu
    rw [via et eu (b := 186) (j := 16) (by decide) (by decide)]
    refine ⟨hn, ?_⟩
    have fin : ∀ ω, ω = trr υ 2 → -1 = (-1 : Int) ∧ CI F ω ω ∧ RWF ω := fun ω ew => ⟨rfl, pair_e hC hR (by decide) et eu ew⟩
    by_cases h0 : n < 0
    · rw [if_pos h0]; exact fin
    · rw [if_neg h0]
      refine ⟨⟨by omega, by omega⟩, ?_⟩
      rw [if_pos (by omega)]; exact fin
  refine o108 ?_
  unfold w108
  refine ⟨hn, ?_⟩
  by_cases h0 : n < 0
  · rw [if_pos h0]
    intro τ et
    exact bad τ et (Or.inl h0)
  · rw [if_neg h0, B1]
    refine ⟨⟨by omega, by omega⟩, ?_⟩
    by_cases h1 : σ 186 16 < n
    · rw [if_pos h1]
      intro τ et
      exact bad τ et (Or.inr h1)
    · rw [if_neg h1]
      intro σ1 e1
      have n1 : ∀ b j, ¬ (b = 32 ∧ j = 1) → σ1 b j = σ b j := fun b j w => by rw [e1]; unfold l2_u; rw [if_neg w]
      obtain ⟨T, hT⟩ : ∃ T : Int → Int, T = fun j => σ 189 j % 256 := ⟨_, rfl⟩
      obtain ⟨R, hRR⟩ : ∃ R, R = rdL T n 701 0 0 0 0 0 0 (fun _ _ => 0) := ⟨_, rfl⟩
      have ref : ∀ (τ : l2_m) (Q : Int → l2_m → Prop), (∀ b j, 186 ≤ b → τ b j = σ b j) → (∀ υ : l2_m, (∀ b j, ¬ (b = 186 ∧ (j = 0 ∨ j = 16 ∨ j = 17 ∨ j = 18 ∨ j = 22)) → υ b j = τ b j) → υ 186 16 = 0 → TR T n υ → υ 186 18 = 0 → υ 186 22 = 0 → wC B 182 [vr 186] υ (fun _ s => (rg (s 186 22) ∧ (if 0 < (s 186 22) then (∀ t : l2_m, t = l2_u s 186 1 4 → ∀ t2 : l2_m, t2 = l2_u t 186 2 (t 186 20) → Q (-1) t2) else (∀ t : l2_m, t = l2_u s 186 14 1 → ∀ t2 : l2_m, t2 = l2_u t 186 5 (t 186 9) → ∀ t3 : l2_m, t3 = l2_u t2 186 6 (t2 186 10) → ∀ t4 : l2_m, t4 = l2_u t3 186 7 (t3 186 11) → ∀ t5 : l2_m, t5 = l2_u t4 186 8 (t4 186 12) → w190_108 B t5 0 Q))))) → wC B 190 [vr 186, vi n] τ Q := by
        intro τ Q kt hQ
        refine o190 ?_
        unfold w190
        intro υ eu
        have hυ : ∀ b j, 186 ≤ b → ¬ (b = 186 ∧ j = 0) → υ b j = σ b j := fun b j z w => (u0_at eu w).trans (kt b j z)
        rw [hυ 186 16 (by decide) (by decide)]
        refine ⟨hn, ?_⟩
        rw [if_neg h0]
        refine ⟨⟨by omega, by omega⟩, ?_⟩
        rw [if_neg h1]
        intro t1 f1 t2 f2 t3 f3 t4 f4
        have g : ∀ b j, t4 b j = if b = 186 ∧ j = 22 then 0 else if b = 186 ∧ j = 18 then 0 else if b = 186 ∧ j = 16 then 0 else if b = 186 ∧ j = 17 then n else υ b j := fun b j => by rw [f4, f3, f2, f1]; rfl
        refine hQ t4 (fun b j w => ?_) ?_ ⟨?_, by omega, by omega, fun j j0 j1 => ?_⟩ ?_ ?_
        · rw [g, if_neg (by omega), if_neg (by omega), if_neg (by omega), if_neg (by omega)]; exact u0_at eu (by omega)
        · rw [g, if_neg (by decide), if_neg (by decide), if_pos ⟨rfl, rfl⟩]
        · rw [g, if_neg (by decide), if_neg (by decide), if_neg (by decide), if_pos ⟨rfl, rfl⟩]
        · rw [g, if_neg (by omega), if_neg (by omega), if_neg (by omega), if_neg (by omega), hυ 189 j (by decide) (by omega), hT]
        · rw [g, if_neg (by decide), if_pos ⟨rfl, rfl⟩]
        · rw [g, if_pos ⟨rfl, rfl⟩]
      refine c93 (T := T) (n := n) (by omega) (by omega) (fun j j0 j1 => ?_) (fun τ f1 q1 q2 q3 => ⟨by decide, ?_⟩) (fun τ z p h a b c G f1 q1 hp Lτ => ⟨by decide, ?_⟩)
      · rw [n1 33 j (by omega), B6 j j0 (by omega), hT]
        exact ⟨rfl, by show rg (σ 189 j % 256); exact ⟨by omega, by omega⟩⟩
      · rw [if_pos rfl]
        rw [← hRR] at q1 q2 q3
        intro τ1 g1 τ2 g2 τ3 g3
        have g : ∀ b j, τ3 b j = if b = 32 ∧ j = 4 then R.2.1 else if b = 32 ∧ j = 2 then 4 else if b = 32 ∧ j = 3 then R.1 else τ b j := fun b j => by
          rw [g3]
          unfold l2_u
          by_cases w4 : b = 32 ∧ j = 4
          · rw [if_pos w4, if_pos w4, g2, trb_at, if_neg (by decide), if_neg (by decide), g1, l2_u_ne (by decide)]; exact q3
          · rw [if_neg w4, if_neg w4, g2, trb_at, if_neg w4]
            by_cases w2 : b = 32 ∧ j = 2
            · rw [if_pos w2, if_pos w2]
            · rw [if_neg w2, if_neg w2, g1]
              unfold l2_u
              by_cases w3 : b = 32 ∧ j = 3
              · rw [if_pos w3, if_pos w3]; exact q2
              · rw [if_neg w3, if_neg w3]
        have nt : ∀ b j, b ≠ 32 → (b < 49 ∨ 73 < b) → τ3 b j = σ b j := fun b j w1 w2 => by
          rw [g, if_neg (fun w => w1 w.1), if_neg (fun w => w1 w.1), if_neg (fun w => w1 w.1), f1 b j (by omega)]; exact n1 b j (by omega)
        refine ref τ3 _ (fun b j w => nt b j (by omega) (by omega)) (fun υ u1 u16 uT u18 u22 => ?_)
        refine r182 uT u18 u22 (fun s s1 s2 s3 s4 s5 s5' s6 => ⟨by rw [s3]; exact ⟨by omega, by omega⟩, ?_⟩) (fun s z p h a b c G s1 s2 => ?_)
        · rw [← hRR] at s2 s3 s4 s5 s5' s6
          rw [s3, if_pos s4]
          intro v ev w ew
          have gw : ∀ b j, ¬ (b = 186 ∧ (j = 1 ∨ j = 2)) → w b j = s b j := fun b j z => by rw [ew]; unfold l2_u; rw [if_neg (by omega), ev]; unfold l2_u; rw [if_neg (by omega)]
          have w1 : w 186 1 = 4 := by rw [ew, l2_u_nj (by decide), ev, l2_u_self]
          have w2 : w 186 2 = R.2.1 := by rw [ew, l2_u_self, ev, l2_u_nj (by decide)]; exact s6
          have w22 : w 186 22 = R.1 := by rw [gw 186 22 (by omega)]; exact s3
          have w16 : w 186 16 = 0 := by rw [gw 186 16 (by omega), s1 186 16 (by omega) (by omega)]; exact u16
          have wl : ∀ b j, b < 186 → w b j = τ3 b j := fun b j z => by rw [gw b j (by omega), s1 b j (by omega) (by omega)]; exact u1 b j (by omega)
          have wp : ∀ b j, prs b j → b ≠ 189 → ¬ (b = 186 ∧ (j = 1 ∨ j = 2 ∨ j = 16 ∨ j = 22)) → w b j = σ b j := fun b j z z1 z2 => by
            unfold prs at z
            rw [gw b j (by omega), s1 b j (by omega) (by omega), u1 b j (by omega)]; exact nt b j (by omega) (by omega)
          have rR : rg R.2.1 := ⟨by omega, by omega⟩
          refine ⟨rfl, CI_b hC (fun b j z w1' w2' => ?_) ?_ wp ⟨?_, ?_, ?_, ?_, ?_, fun i i0 i1 => ?_⟩, RWF_d hR wp (by rw [w16]; decide) (by rw [w16]; decide) (by rw [w1]; decide) (by rw [w2]; exact rR) (by rw [w22]; exact ⟨by omega, by omega⟩)⟩
          · unfold cpt at z
            rw [wl b j (by omega)]; exact nt b j (by omega) (by omega)
          · unfold dvO; rw [wl 74 3 (by decide), wl 74 4 (by decide), nt 74 3 (by decide) (by decide), nt 74 4 (by decide) (by decide)]; exact hdo
          · rw [wl 32 1 (by decide), g, if_neg (by decide), if_neg (by decide), if_neg (by decide), f1 32 1 (by omega), e1, l2_u_self, w16]
          · rw [wl 32 2 (by decide), g, if_neg (by decide), if_pos ⟨rfl, rfl⟩, w1]
          · rw [wl 32 3 (by decide), g, if_neg (by decide), if_neg (by decide), if_pos ⟨rfl, rfl⟩, w22]
          · rw [wl 32 4 (by decide), g, if_pos ⟨rfl, rfl⟩, w2]
          · rw [wl 32 5 (by decide), g, if_neg (by decide), if_neg (by decide), if_neg (by decide), f1 32 5 (by omega), n1 32 5 (by omega), wp 186 14 (by unfold prs; omega) (by omega) (by omega)]; exact B5
          · rw [w16] at i1; omega
        · rw [← hRR] at s2
          rw [s2] at q1
          exact absurd rfl q1
      · rw [if_neg (by decide)]
        rw [← hRR] at q1
        intro τ1 g1
        have nt1 : ∀ b j, ¬ (b = 32 ∧ j = 3) → τ1 b j = τ b j := fun b j w => by rw [g1]; unfold l2_u; rw [if_neg w]
        have L1 : LF τ1 p h a b c G := LF_fr Lτ (fun b j w1 w2 => nt1 b j (by omega))
        refine c157 L1 hp (fun τ2 d1 d2 d3 d4 d5 d6 d7 d8 d9 d10 d11 τ3 g3 => ?_)
        have c49 : τ2 49 3 = c := by rw [d1 49 3 (by omega) (by omega) (by omega) (by omega)]; exact L1.2.2.1
        rw [c49]
        obtain ⟨r1, r2, r3, r4, r5⟩ := trb_c τ2 0
        rw [← g3] at r1 r2 r3 r4 r5
        have nt : ∀ b j, b ≠ 32 → (b < 34 ∨ 37 < b) → (b < 49 ∨ 73 < b) → (b < 162 ∨ 185 < b) → ¬ (b = 128 ∧ j = 6) → τ3 b j = σ b j := fun b j w1 w2 w3 w4 w5 => by
          rw [r5 b j w1, d1 b j w2 w4 w5 (by omega), nt1 b j (by omega), f1 b j w3]; exact n1 b j (by omega)
        refine ref τ3 _ (fun b j w => nt b j (by omega) (by omega) (by omega) (by omega) (by omega)) (fun υ u1 u16 uT u18 u22 => ?_)
        refine r182 uT u18 u22 (fun s s1 s2 => ?_) (fun s z' p' h' a' b' c' G' s1 s2 hp' s22 Ls => ⟨by rw [s22]; decide, ?_⟩)
        · rw [← hRR, q1] at s2
          exact absurd rfl s2
        · rw [← hRR, q1] at s2
          injection s2 with y1 s2
          injection s2 with y2 s2
          injection s2 with y3 s2
          injection s2 with y4 s2
          injection s2 with y5 s2
          injection s2 with y6 s2
          injection s2 with y7 y8
          subst y3 y4 y5 y6 y7 y8
          rw [s22, if_neg (by decide)]
          intro v1 h1' v2 h2 v3 h3 v4 h4 v5 h5
          obtain ⟨l1, l2, l3, l4, l5, l6, l7⟩ := id Ls
          obtain ⟨k1, k2, k3, k4, k5⟩ := l2 hp
          have m1 : ∀ b j, v1 b j = if b = 186 ∧ j = 14 then 1 else s b j := fun b j => by rw [h1']; rfl
          have m2 : ∀ b j, v2 b j = if b = 186 ∧ j = 5 then p else v1 b j := fun b j => by
            rw [h2, show v1 186 9 = p by rw [m1, if_neg (by decide)]; exact l1]; rfl
          have m3 : ∀ b j, v3 b j = if b = 186 ∧ j = 6 then h else v2 b j := fun b j => by
            rw [h3, show v2 186 10 = h by rw [m2, if_neg (by decide), m1, if_neg (by decide)]; exact k3]; rfl
          have m4 : ∀ b j, v4 b j = if b = 186 ∧ j = 7 then a else v3 b j := fun b j => by
            rw [h4, show v3 186 11 = a by rw [m3, if_neg (by decide), m2, if_neg (by decide), m1, if_neg (by decide)]; exact k4]; rfl
          have m5 : ∀ b' j, v5 b' j = if b' = 186 ∧ j = 8 then b else v4 b' j := fun b' j => by
            rw [h5, show v4 186 12 = b by rw [m4, if_neg (by decide), m3, if_neg (by decide), m2, if_neg (by decide), m1, if_neg (by decide)]; exact k5]; rfl
          have mm : ∀ b j, ¬ (b = 186 ∧ (j = 14 ∨ (5 ≤ j ∧ j ≤ 8))) → v5 b j = s b j := fun b j w => by
            rw [m5, if_neg (by omega), m4, if_neg (by omega), m3, if_neg (by omega), m2, if_neg (by omega), m1, if_neg (by omega)]
          have x14 : v5 186 14 = 1 := by rw [m5, if_neg (by decide), m4, if_neg (by decide), m3, if_neg (by decide), m2, if_neg (by decide), m1, if_pos ⟨rfl, rfl⟩]
          have x5 : v5 186 5 = p := by rw [m5, if_neg (by decide), m4, if_neg (by decide), m3, if_neg (by decide), m2, if_pos ⟨rfl, rfl⟩]
          have x6 : v5 186 6 = h := by rw [m5, if_neg (by decide), m4, if_neg (by decide), m3, if_pos ⟨rfl, rfl⟩]
          have x7 : v5 186 7 = a := by rw [m5, if_neg (by decide), m4, if_pos ⟨rfl, rfl⟩]
          have x8 : v5 186 8 = b := by rw [m5, if_pos ⟨rfl, rfl⟩]
          refine r190l (RLF_fr Ls (fun b j w => mm b j (by omega))) hp x6 x7 x8 (fun ω o1 o2 o3 o4 o5 o6 => ⟨rfl, ?_, ?_⟩)
          · have ol : ∀ b j, b < 186 → ω b j = τ3 b j := fun b j z => by
              rw [o1 b j (by omega) (by omega) (by omega), mm b j (by omega), s1 b j (by omega) (by omega)]; exact u1 b j (by omega)
            have oR : ∀ j, (j = 5 ∨ j = 6 ∨ j = 7 ∨ j = 8 ∨ j = 14) → ω 186 j = v5 186 j := fun j z => o1 186 j (by omega) (by omega) (by omega)
            have o16 : ω 186 16 = 0 := by rw [o1 186 16 (by omega) (by omega) (by omega), mm 186 16 (by omega), s1 186 16 (by omega) (by omega)]; exact u16
            have o22 : ω 186 22 = 0 := by rw [o1 186 22 (by omega) (by omega) (by omega), mm 186 22 (by omega)]; exact s22
            have eo : ordA ω = wt h a b := by unfold ordA; rw [oR 6 (by omega), oR 7 (by omega), oR 8 (by omega), x6, x7, x8]
            refine CI_lo (τ := τ3) ?_ ol
            refine ⟨⟨?_, ?_, ?_, ?_, ?_, fun i i0 i1 => ?_⟩, fun _ => ?_, fun w => ?_, ⟨?_, ?_, ?_, fun i i0 i1 => ?_⟩, ?_, ?_, ?_⟩
            · rw [g3, trb_at, if_neg (by decide), if_neg (by decide), d1 32 1 (by omega) (by omega) (by omega) (by omega), nt1 32 1 (by omega), f1 32 1 (by omega), e1, l2_u_self, o16]
            · rw [r3, o2]
            · rw [g3, trb_at, if_neg (by decide), if_neg (by decide), d1 32 3 (by omega) (by omega) (by omega) (by omega), g1, l2_u_self, o22]
            · rw [r4, o3]
            · rw [g3, trb_at, if_neg (by decide), if_neg (by decide), d11, oR 14 (by omega), x14]
            · rw [o16] at i1; omega
            · rw [eo, oR 5 (by omega), oR 6 (by omega), oR 7 (by omega), oR 8 (by omega), x5, x6, x7, x8]
              refine ⟨by rw [r5 34 0 (by decide)]; exact d2, fun y y0 y1 => by rw [r5 35 y (by decide)]; exact d3 y y0 y1, by rw [r5 36 0 (by decide)]; exact d4, by rw [r5 36 1 (by decide)]; exact d5, by rw [r5 36 2 (by decide)]; exact d6, by rw [r5 36 3 (by decide)]; exact d7, fun y y0 y1 => by rw [r5 37 y (by decide)]; exact d8 y y0 y1, fun r r0 r1' => ?_⟩
              exact PR_ext (PR_congr (d9 r r0 r1') (r5 _ _ (by omega)) (fun i _ _ => r5 _ _ (by omega)) (fun i _ _ => r5 _ _ (by omega))) (fun j j0 j1 => o6 r j r0 r1' j0 j1)
            · rw [oR 14 (by omega), x14] at w; omega
            · rw [nt 128 5 (by omega) (by omega) (by omega) (by omega) (by omega)]; exact hC.2.2.2.1.1
            · rw [nt 128 5 (by omega) (by omega) (by omega) (by omega) (by omega)]; exact hC.2.2.2.1.2.1
            · rw [r5 128 6 (by decide), d10, o4]
            · rw [o4] at i1; omega
            · unfold dvO; rw [nt 74 3 (by omega) (by omega) (by omega) (by omega) (by omega), nt 74 4 (by omega) (by omega) (by omega) (by omega) (by omega)]; exact hdo
            · rw [nt 41 2 (by omega) (by omega) (by omega) (by omega) (by omega)]; exact hC.2.2.2.2.2.1
            · rw [cgm_eq (fun b j z1 z2 => nt b j (by omega) (by omega) (by omega) (by omega) (by omega))]; exact hC.2.2.2.2.2.2
          · have oR : ∀ j, (j = 5 ∨ j = 6 ∨ j = 7 ∨ j = 8 ∨ j = 14) → ω 186 j = v5 186 j := fun j z => o1 186 j (by omega) (by omega) (by omega)
            have o16 : ω 186 16 = 0 := by rw [o1 186 16 (by omega) (by omega) (by omega), mm 186 16 (by omega), s1 186 16 (by omega) (by omega)]; exact u16
            have o22 : ω 186 22 = 0 := by rw [o1 186 22 (by omega) (by omega) (by omega), mm 186 22 (by omega)]; exact s22
            have eo : ordA ω = wt h a b := by unfold ordA; rw [oR 6 (by omega), oR 7 (by omega), oR 8 (by omega), x6, x7, x8]
            obtain ⟨p2, p97, -⟩ := pr_rest _ k1
            unfold RWF
            rw [o16, o22, o2, o3, o4, eo, oR 5 (by omega), oR 6 (by omega), oR 7 (by omega), oR 8 (by omega), oR 14 (by omega), x14, x5, x6, x7, x8]
            refine ⟨Or.inr rfl, by decide, by decide, by decide, by decide, by decide, by decide, by decide, fun w => absurd w (by decide), fun _ => ⟨k1, k2, fun r k r0 r1' k0 k1' => ?_, fun r r0 r1' => ?_, o5, fun i i0 i1 => by omega⟩⟩
            · rw [o6 r k r0 r1' k0 k1']
              unfold rgG
              by_cases hr : r < c
              · rw [if_pos hr]
                exact ((l7 r k r0 (by omega) k0 k1').1 hr).2
              · rw [if_neg hr]
                exact ⟨by decide, by omega⟩
            · rw [cnt_congr (f := regR ω r) (g := rgG c G r) (fun j j0 j1 => o6 r j r0 r1' j0 j1), PR_cnt (d9 r r0 r1')]
              exact (d9 r r0 r1').2.1
