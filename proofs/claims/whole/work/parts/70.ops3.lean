/-! ===== reading rows of terms; orders and moduli are chosen ===== -/
section O3
variable {B : va_E} {σ : l2_m} {K : Int → l2_m → Prop}
theorem c86 {o : Nat} {W f : Int → Int} {k : Int} (ho : isP o) (hW : okW W) (hf : PR σ o W f) (rf : ∀ k : Int, 0 ≤ k → k < 4096 → 0 ≤ f k ∧ f k < 97) (k0 : 0 ≤ k) (k1 : k < 4096) (h : K (f k) σ) : wC B 86 [vr o, vi (MW W k)] σ K := by
  obtain ⟨h1, h2, h3, h4, h5⟩ := hf
  refine o86 ho ?_
  unfold w86 w86_2
  refine lz1_inv (fun x => 0 ≤ x ∧ x ≤ σ o 2 ∧ ∀ j : Int, 0 ≤ j → j < x → σ (o + 1) j ≠ MW W k) (fun x => σ o 2 - x) ?_ ⟨by omega, h1, fun j a b => by omega⟩
  rintro X x hX ⟨i1, i2, i3⟩
  refine ⟨⟨⟨by omega, by omega⟩, ⟨by omega, by omega⟩⟩, ?_⟩
  split
  · rename_i hx
    obtain ⟨l, l0, l1, l2, l3, l4⟩ := h3 x i1 hx
    refine ⟨⟨i1, by omega, by rw [l2]; exact MW_rg hW l, MW_rg hW k⟩, ?_⟩
    split
    · rename_i he
      rw [l2] at he
      have := MW_inj l0 l1 k0 k1 he
      subst this
      rw [l3]; exact h
    · rename_i he
      refine hX _ ⟨by omega, by omega, fun j a b => ?_⟩ (by omega)
      by_cases hj : j = x
      · rw [hj]; exact he
      · exact i3 j a (by omega)
  · rename_i hx
    have : f k = 0 := Classical.byContradiction (fun hc => by
      obtain ⟨i, g1, g2, g3⟩ := h5 k k0 k1 hc
      exact i3 i g1 (by omega) g3)
    rw [this] at h; exact h
theorem c89 {o : Nat} {W f : Int → Int} {u : Int} (ho : isP o) (hW : okW W) (hf : PR σ o W f) (u0 : 0 ≤ u) (u1 : u < 3) (g1 : (∃ k : Int, 0 ≤ k ∧ k < 4096 ∧ f k ≠ 0 ∧ 0 < e4 k u) → K 1 σ) (g0 : (∀ k : Int, 0 ≤ k → k < 4096 → f k ≠ 0 → e4 k u = 0) → K 0 σ) : wC B 89 [vr o, vi u] σ K := by
  obtain ⟨h1, h2, h3, h4, h5⟩ := hf
  refine o89 ho ?_
  unfold w89 w89_2
  refine lz1_inv (fun x => 0 ≤ x ∧ x ≤ σ o 2 ∧ ∀ j : Int, 0 ≤ j → j < x → ¬ 0 < e5 (σ (o + 1) j) u) (fun x => σ o 2 - x) ?_ ⟨by omega, h1, fun j a b => by omega⟩
  rintro X x hX ⟨i1, i2, i3⟩
  refine ⟨⟨⟨by omega, by omega⟩, ⟨by omega, by omega⟩⟩, ?_⟩
  split
  · rename_i hx
    obtain ⟨l, l0, l1, l2, l3, l4⟩ := h3 x i1 hx
    refine ⟨⟨i1, by omega, by rw [l2]; exact MW_rg hW l, u0, u1⟩, ?_⟩
    split
    · rename_i he
      rw [l2, MW_eu W l u0 u1] at he
      exact g1 ⟨l, l0, l1, l4, he⟩
    · rename_i he
      refine hX _ ⟨by omega, by omega, fun j a b => ?_⟩ (by omega)
      by_cases hj : j = x
      · rw [hj]; exact he
      · exact i3 j a (by omega)
  · rename_i hx
    refine g0 (fun k k0 k1 k2 => ?_)
    obtain ⟨i, a, b, c⟩ := h5 k k0 k1 k2
    have := i3 i a (by omega)
    rw [c, MW_eu W k u0 u1] at this
    have := e4_b k u
    omega
theorem c87 {a b : Nat} {W f g : Int → Int} (ha : isP a) (hb : isP b) (hW : okW W) (hf : PR σ a W f) (hg : PR σ b W g) (rf : ∀ k : Int, 0 ≤ k → k < 4096 → 0 ≤ f k ∧ f k < 97) (rg' : ∀ k : Int, 0 ≤ k → k < 4096 → 0 ≤ g k ∧ g k < 97) (g1 : (∀ k : Int, 0 ≤ k → k < 4096 → f k = g k) → K 1 σ) (g0 : (∃ k : Int, 0 ≤ k ∧ k < 4096 ∧ f k ≠ g k) → K 0 σ) : wC B 87 [vr a, vr b] σ K := by
  have hf' := hf
  have hg' := hg
  obtain ⟨h1, h2, h3, h4, h5⟩ := hf
  obtain ⟨q1, q2, q3, q4, q5⟩ := hg
  refine o87 ha hb ?_
  unfold w87
  refine ⟨⟨⟨by omega, by omega⟩, ⟨by omega, by omega⟩⟩, ?_⟩
  split
  · rename_i hn
    unfold w87_15
    refine lz1_inv (fun x => 0 ≤ x ∧ x ≤ σ a 2 ∧ ∀ j : Int, 0 ≤ j → j < x → σ (a + 1) j = σ (b + 1) j ∧ σ (a + 2) j = σ (b + 2) j) (fun x => σ a 2 - x) ?_ ⟨by omega, h1, fun j a b => by omega⟩
    rintro X x hX ⟨i1, i2, i3⟩
    refine ⟨⟨⟨by omega, by omega⟩, ⟨by omega, by omega⟩⟩, ?_⟩
    split
    · rename_i hx
      obtain ⟨l, l0, l1, l2, l3, l4⟩ := h3 x i1 hx
      obtain ⟨m, m0, m1, m2, m3, m4⟩ := q3 x i1 (by omega)
      have rl := rf l l0 l1
      have rm := rg' m m0 m1
      refine ⟨⟨i1, by omega, by rw [l2]; exact MW_rg hW l, by rw [m2]; exact MW_rg hW m⟩, fun _ => ⟨by rw [l3]; exact ⟨by omega, by omega⟩, by rw [m3]; exact ⟨by omega, by omega⟩⟩, ?_⟩
      split
      · rename_i he
        refine hX _ ⟨by omega, by omega, fun j a b => ?_⟩ (by omega)
        by_cases hj : j = x
        · rw [hj]; exact he
        · exact i3 j a (by omega)
      · rename_i he
        refine g0 ?_
        by_cases hm : σ (a + 1) x = σ (b + 1) x
        · rw [l2, m2] at hm
          have := MW_inj l0 l1 m0 m1 hm
          subst this
          exact ⟨l, l0, l1, fun z => he ⟨by rw [l2, m2], by rw [l3, m3, z]⟩⟩
        · -- the greater of the two marks is missing on the other side
          apply Classical.byContradiction
          intro hc
          have eq : ∀ k : Int, 0 ≤ k → k < 4096 → f k = g k := fun k k0 k1 => Classical.byContradiction (fun z => hc ⟨k, k0, k1, z⟩)
          have gl : g l ≠ 0 := by rw [← eq l l0 l1]; exact l4
          have fm : f m ≠ 0 := by rw [eq m m0 m1]; exact m4
          obtain ⟨i, i4, i5, i6⟩ := q5 l l0 l1 gl
          obtain ⟨j, j4, j5, j6⟩ := h5 m m0 m1 fm
          have e1 : x < i ∨ i < x := by
            rcases Int.lt_trichotomy i x with z | z | z
            · exact Or.inr z
            · rw [z, ← l2] at i6; exact absurd i6.symm hm
            · exact Or.inl z
          have e2 : x < j ∨ j < x := by
            rcases Int.lt_trichotomy j x with z | z | z
            · exact Or.inr z
            · rw [z, ← m2] at j6; exact absurd j6 hm
            · exact Or.inl z
          rcases e1 with z | z
          · have t1 := q4 x i i1 z i5
            rcases e2 with w | w
            · have t2 := h4 x j i1 w j5
              rw [i6, ← l2] at t1
              rw [j6, ← m2] at t2
              omega
            · have t3 := (i3 j j4 w).1
              have t4 := q4 j x j4 w (by omega)
              rw [← t3, j6, ← m2] at t4
              omega
          · have t3 := (i3 i i4 z).1
            have t4 := h4 i x i4 z hx
            rw [t3, i6, ← l2] at t4
            omega
    · rename_i hx
      refine g1 (fun k k0 k1 => ?_)
      refine PR_uniq hf' (PR_congr hg' (o := b) rfl (fun _ _ _ => rfl) (fun _ _ _ => rfl) |> fun _ => ?_) k0 k1
      exact ⟨h1, h2, fun i a' b' => by
        obtain ⟨m, m0, m1, m2, m3, m4⟩ := q3 i a' (by omega)
        have := i3 i a' (by omega)
        exact ⟨m, m0, m1, by rw [this.1]; exact m2, by rw [this.2]; exact m3, m4⟩, h4, fun k k0 k1 k2 => by
        obtain ⟨i, x0, x1, x2⟩ := q5 k k0 k1 k2
        exact ⟨i, x0, by omega, by rw [(i3 i x0 (by omega)).1]; exact x2⟩⟩
  · rename_i hn
    refine g0 ?_
    apply Classical.byContradiction
    intro hc
    have eq : ∀ k : Int, 0 ≤ k → k < 4096 → f k = g k := fun k k0 k1 => Classical.byContradiction (fun z => hc ⟨k, k0, k1, z⟩)
    have e := cnt_congr (n := 4096) eq
    rw [PR_cnt hf', PR_cnt hg'] at e
    exact hn e
/-- the weights of an order -/
def wt (h f s u : Int) : Int := if h = 0 then (if u = f then 256 else if u = s then 16 else 1) else if h = 1 then (if u = f then 272 else if u = s then 257 else 256) else (if u = f then 256 else if u = s then 255 else 240)
theorem wt_ok (h f s : Int) : okW (wt h f s) := by
  have key : ∀ u, 1 ≤ wt h f s u ∧ wt h f s u ≤ 272 := by
    intro u
    unfold wt
    repeat' split
    all_goals decide
  exact ⟨key 0, key 1, key 2⟩
theorem p5 {u : Int} (h0 : 0 ≤ u) (h1 : u < 3) : (2 : Int) ^ (Int.toNat (5 * u)) = if u = 0 then 1 else if u = 1 then 32 else 1024 := u3 (P := fun u => (2 : Int) ^ (Int.toNat (5 * u)) = if u = 0 then 1 else if u = 1 then 32 else 1024) (by decide) (by decide) (by decide) h0 h1
theorem ior_U {w c : Int} (w0 : 0 ≤ w) (c0 : 0 ≤ c) (c1 : c < 32768) : ior (w * 32768) c = w * 32768 + c := ior_dis (j := 15) w0 c0 (by omega)
theorem c76 {o : Nat} {a b c f s : Int} (ho : isO o) (e1 : σ o 1 = f) (e2 : σ o 2 = s) (e3 : σ o 3 = 3 - f - s) (f0 : 0 ≤ f) (f1 : f < 3) (s0 : 0 ≤ s) (s1 : s < 3) (hne : ¬ f = s) (a0 : 0 ≤ a) (a1 : a ≤ 300) (b0 : 0 ≤ b) (b1 : b ≤ 300) (c0 : 0 ≤ c) (c1 : c ≤ 300) (h : ∀ τ : l2_m, (∀ b j, b ≠ o + 1 → τ b j = σ b j) → (∀ u : Int, 0 ≤ u → u < 3 → τ (o + 1) u = (if u = f then a else if u = s then b else c) * 32768 + (if u = 0 then 1 else if u = 1 then 32 else 1024)) → K 0 τ) : wC B 76 [vr o, vi a, vi b, vi c] σ K := by
  refine o76 ho ?_
  unfold w76
  have bd : ∀ u : Int, 0 ≤ u → u < 3 → 0 < (if u = 0 then (1 : Int) else if u = 1 then 32 else 1024) ∧ (if u = 0 then (1 : Int) else if u = 1 then 32 else 1024) ≤ 1024 := fun u _ _ => by
    repeat' split
    all_goals decide
  have b1' := bd f f0 f1
  have b2' := bd s s0 s1
  have b3' := bd (3 - f - s) (by omega) (by omega)
  rw [e1, p5 f0 f1, Int.one_mul, ior_U a0 (by omega) (by omega)]
  refine ⟨⟨by omega, by omega, by omega, by omega, by omega, by omega, f0, f1⟩, ?_⟩
  intro σ1 g1
  have k1 : ∀ b j, σ1 b j = if b = o + 1 ∧ j = f then a * 32768 + (if f = 0 then 1 else if f = 1 then 32 else 1024) else σ b j := fun b j => by rw [g1]; rfl
  have t1 : ∀ j, σ1 o j = σ o j := fun j => by rw [k1, if_neg (by omega)]
  rw [t1, e2, p5 s0 s1, Int.one_mul, ior_U b0 (by omega) (by omega)]
  refine ⟨⟨by omega, by omega, by omega, by omega, by omega, by omega, s0, s1⟩, ?_⟩
  intro σ2 g2
  have k2 : ∀ b' j, σ2 b' j = if b' = o + 1 ∧ j = s then b * 32768 + (if s = 0 then 1 else if s = 1 then 32 else 1024) else σ1 b' j := fun b' j => by rw [g2]; rfl
  have t2 : ∀ j, σ2 o j = σ o j := fun j => by rw [k2, if_neg (by omega), t1]
  rw [t2, e3, p5 (by omega) (by omega), Int.one_mul, ior_U c0 (by omega) (by omega)]
  refine ⟨⟨by omega, by omega, by omega, by omega, by omega, by omega, by omega, by omega⟩, ?_⟩
  intro σ3 g3
  have k3 : ∀ b' j, σ3 b' j = if b' = o + 1 ∧ j = 3 - f - s then c * 32768 + (if 3 - f - s = 0 then 1 else if 3 - f - s = 1 then 32 else 1024) else σ2 b' j := fun b' j => by rw [g3]; rfl
  refine h σ3 (fun b' j hb => ?_) (fun u u0 u1 => ?_)
  · rw [k3, if_neg (fun z => hb z.1), k2, if_neg (fun z => hb z.1), k1, if_neg (fun z => hb z.1)]
  · rw [k3, k2, k1]
    by_cases u2 : u = f
    · rw [if_neg (by omega), if_neg (by omega), if_pos ⟨rfl, u2⟩, if_pos u2, u2]
    · by_cases u4 : u = s
      · rw [if_neg (by omega), if_pos ⟨rfl, u4⟩, if_neg u2, if_pos u4, u4]
      · have u5 : u = 3 - f - s := by omega
        rw [if_pos ⟨rfl, u5⟩, if_neg u2, if_neg u4, u5]
theorem c75 {o : Nat} {x f s : Int} (ho : isO o) (hx : isOr x f s) (h : ∀ τ : l2_m, (∀ b j, b ≠ o → b ≠ o + 1 → τ b j = σ b j) → τ o 0 = x → τ o 1 = f → τ o 2 = s → τ o 3 = 3 - f - s → (∀ u : Int, 0 ≤ u → u < 3 → τ (o + 1) u = UW (wt x f s) u) → K 0 τ) : wC B 75 [vr o, vi x, vi f, vi s] σ K := by
  obtain ⟨⟨x0, x1⟩, ⟨f0, f1⟩, ⟨s0, s1⟩, hne⟩ := hx
  refine o75 ho ?_
  unfold w75
  refine ⟨⟨⟨by omega, by omega⟩, ⟨by omega, by omega⟩, ⟨by omega, by omega⟩⟩, ?_⟩
  rw [if_pos ⟨⟨x0, x1⟩, ⟨f0, f1⟩, ⟨s0, s1⟩, hne⟩]
  intro σ1 g1 σ2 g2 σ3 g3 σ4 g4
  have k4 : ∀ b j, σ4 b j = if b = o ∧ j = 3 then 3 - f - s else if b = o ∧ j = 2 then s else if b = o ∧ j = 1 then f else if b = o ∧ j = 0 then x else σ b j := fun b j => by rw [g4, g3, g2, g1]; rfl
  clear g1 g2 g3 g4
  have q0 : σ4 o 0 = x := by rw [k4]; simp
  have q1 : σ4 o 1 = f := by rw [k4]; simp
  have q2 : σ4 o 2 = s := by rw [k4]; simp
  have q3 : σ4 o 3 = 3 - f - s := by rw [k4]; simp
  have fr : ∀ b j, b ≠ o → σ4 b j = σ b j := fun b j hb => by rw [k4]; simp [hb]
  have fin : ∀ (A Bb C : Int), (∀ u : Int, 0 ≤ u → u < 3 → wt x f s u = if u = f then A else if u = s then Bb else C) → 0 ≤ A → A ≤ 300 → 0 ≤ Bb → Bb ≤ 300 → 0 ≤ C → C ≤ 300 → wC B 76 [vr o, vi A, vi Bb, vi C] σ4 (fun _ τ => K 0 τ) := by
    intro A Bb C hw a0 a1 b0 b1 c0 c1
    refine c76 ho q1 q2 q3 f0 f1 s0 s1 hne a0 a1 b0 b1 c0 c1 (fun τ t1 t2 => ?_)
    refine h τ (fun b j hb hb1 => by rw [t1 b j hb1]; exact fr b j hb) ?_ ?_ ?_ ?_ (fun u u0 u1 => ?_)
    · rw [t1 o 0 (by omega)]; exact q0
    · rw [t1 o 1 (by omega)]; exact q1
    · rw [t1 o 2 (by omega)]; exact q2
    · rw [t1 o 3 (by omega)]; exact q3
    · rw [t2 u u0 u1]; unfold UW; rw [hw u u0 u1]
  split
  · rename_i hx0
    exact fin 256 16 1 (fun u _ _ => by unfold wt; rw [if_pos hx0]) (by decide) (by decide) (by decide) (by decide) (by decide) (by decide)
  · rename_i hx0
    split
    · rename_i hx1
      exact fin 272 257 256 (fun u _ _ => by unfold wt; rw [if_neg hx0, if_pos hx1]) (by decide) (by decide) (by decide) (by decide) (by decide) (by decide)
    · rename_i hx1
      exact fin 256 255 240 (fun u _ _ => by unfold wt; rw [if_neg hx0, if_neg hx1]) (by decide) (by decide) (by decide) (by decide) (by decide) (by decide)
/-- a prime leaves a rest -/
theorem pr_rest : ∀ p : Int, isPr p → 2 ≤ p ∧ p ≤ 97 ∧ ∀ n : Nat, 2 ≤ n → (n : Int) < p → p % n ≠ 0 := by
  have key : ∀ p ∈ ([2, 3, 5, 7, 11, 13, 17, 19, 23, 29, 31, 37, 41, 43, 47, 53, 59, 61, 67, 71, 73, 79, 83, 89, 97] : List Int), 2 ≤ p ∧ p ≤ 97 ∧ ∀ n : Nat, n < 97 → 2 ≤ n → (n : Int) < p → p % n ≠ 0 := by decide +kernel
  intro p hp
  obtain ⟨a, b, c⟩ := key p hp
  exact ⟨a, b, fun n n0 n1 => c n (by omega) n0 n1⟩
theorem c70 {q : Nat} {p : Int} (hq : isM q) (hp : isPr p) (h : ∀ τ : l2_m, (∀ b j, b ≠ q → b ≠ q + 1 → τ b j = σ b j) → τ q 0 = p → invOK τ q p → K 0 τ) : wC B 70 [vr q, vi p] σ K := by
  obtain ⟨p2, p97, pr⟩ := pr_rest p hp
  refine o70 hq ?_
  unfold w70
  refine ⟨⟨by omega, by omega⟩, ?_⟩
  rw [if_pos hp]
  intro σ1 g1 σ2 g2
  have k2 : ∀ b j, σ2 b j = if b = q + 1 ∧ j = 1 then 1 else if b = q ∧ j = 0 then p else σ b j := fun b j => by rw [g2, g1]; rfl
  clear g1 g2
  unfold w70_22
  refine lz2_inv (fun (n : Int) τ => 2 ≤ n ∧ n ≤ p ∧ (∀ b j, b ≠ q → b ≠ q + 1 → τ b j = σ b j) ∧ τ q 0 = p ∧ ∀ x : Int, 0 < x → x < n → 0 < τ (q + 1) x ∧ τ (q + 1) x < p ∧ x * τ (q + 1) x % p = 1) (fun n _ => p - n) ?_ ?_
  · rintro X n τ hX ⟨i1, i2, i3, i4, i5⟩
    refine ⟨⟨⟨by omega, by omega⟩, ⟨by omega, by omega⟩⟩, ?_⟩
    split
    · rename_i hn
      have r0 : 0 ≤ p % n := Int.emod_nonneg p (by omega)
      have r1 : p % n < n := Int.emod_lt_of_pos p (by omega)
      have r2 : p % n ≠ 0 := by
        have := pr n.toNat (by omega) (by omega)
        rwa [Int.toNat_of_nonneg (by omega)] at this
      obtain ⟨v0, v1, v2⟩ := i5 (p % n) (by omega) r1
      have d0 : 0 ≤ p / n := Int.ediv_nonneg (by omega) (by omega)
      have d1 : p / n ≤ p := Int.ediv_le_self n (by omega)
      have hdm : n * (p / n) + p % n = p := Int.mul_ediv_add_emod p n
      have hm := mul_b (a := p - p / n) (b := τ (q + 1) (p % n)) (m := 97) (n := 97) (by omega) (by omega) (by omega) (by omega)
      refine ⟨⟨by omega, by omega, r0, by omega, ⟨by omega, by omega⟩, by omega, hm.1, by omega, by omega⟩, ?_⟩
      intro τ1 et
      have ta : ∀ b j, τ1 b j = if b = q + 1 ∧ j = n then (p - p / n) * τ (q + 1) (p % n) % p else τ b j := fun b j => by rw [et]; rfl
      have e0 : 0 ≤ (p - p / n) * τ (q + 1) (p % n) % p := Int.emod_nonneg _ (by omega)
      have e1 : (p - p / n) * τ (q + 1) (p % n) % p < p := Int.emod_lt_of_pos _ (by omega)
      have e2 : n * ((p - p / n) * τ (q + 1) (p % n) % p) % p = 1 := by
        rw [Int.mul_emod, Int.emod_emod, ← Int.mul_emod, ← Int.mul_assoc]
        have : n * (p - p / n) = p * (n - 1) + p % n := by
          rw [Int.mul_sub, Int.mul_sub, Int.mul_one, Int.mul_comm p n]
          omega
        rw [this, Int.add_mul, Int.mul_assoc, Int.add_comm, Int.add_mul_emod_self_left]
        exact v2
      refine hX _ _ ⟨by omega, by omega, fun b j b1 b2 => ?_, ?_, fun x x0 x1 => ?_⟩ (by omega)
      · rw [ta, if_neg (fun z => b2 z.1)]; exact i3 b j b1 b2
      · rw [ta, if_neg (by omega)]; exact i4
      · rw [ta]
        by_cases hx : x = n
        · rw [if_pos ⟨rfl, hx⟩, hx]
          refine ⟨?_, e1, e2⟩
          apply Classical.byContradiction
          intro hc
          have : (p - p / n) * τ (q + 1) (p % n) % p = 0 := by omega
          rw [this, Int.mul_zero, Int.zero_emod] at e2
          omega
        · rw [if_neg (fun z => hx z.2)]; exact i5 x x0 (by omega)
    · rename_i hn
      have : n = p := by omega
      exact h τ i3 i4 (fun x x0 x1 => i5 x x0 (by omega))
  · refine ⟨by omega, p2, fun b j b1 b2 => by rw [k2, if_neg (fun z => b2 z.1), if_neg (fun z => b1 z.1)], by rw [k2, if_neg (by omega), if_pos ⟨rfl, rfl⟩], fun x x0 x1 => ?_⟩
    have : x = 1 := by omega
    subst this
    rw [k2, if_pos ⟨rfl, rfl⟩]
    exact ⟨by decide, by omega, by rw [Int.mul_one]; exact Int.emod_eq_of_lt (by decide) (by omega)⟩
end O3
