/-! ===== Commons: polynomials as functions of keys; content, primitive part ===== -/
theorem c29z {B : va_E} {σ : l2_m} {K : Int → l2_m → Prop} {o1 o2 : Nat} (ho1 : l2_al o1 = some 512) (ho2 : l2_al o2 = some 32) (n2 : o2 ≠ 118) (n1 : o1 ≠ 118) (hf : ∀ n : Int, 0 ≤ n → n < 512 → σ o1 n = 0) (hd : ∀ n : Int, 0 ≤ n → n < 32 → σ o2 n = 0) (hK : ∀ τ : l2_m, (∀ b j, b ≠ o1 → b ≠ 117 → b ≠ 118 → b ≠ 119 → τ b j = σ b j) → (∀ n : Int, 0 ≤ n → n < 512 → τ o1 n = 0) → K 0 τ) : wC B 29 [vr 109, vr o1, vr o2] σ K := by
  refine o29 ho1 ho2 ?_
  unfold w29
  intro s1 es1 s2 es2
  have f1 : ∀ q j, q ≠ 118 → s2 q j = σ q j := fun q j w => by
    rw [es2]; unfold l2_cpy; rw [if_neg (fun h => w h.1), es1]; unfold fil; rw [if_neg (fun h => w h.1)]
  have f2 : ∀ n : Int, 0 ≤ n → n < 512 → s2 118 n = 0 := fun n h h' => by
    rw [es2]; unfold l2_cpy
    by_cases hn : n < 32
    · rw [if_pos ⟨rfl, by omega, by omega⟩, Int.sub_zero, Int.zero_add, es1]; unfold fil; rw [if_neg (fun h => n2 h.1)]; exact hd n h hn
    · rw [if_neg (fun h => by omega), es1]; unfold fil; rw [if_pos ⟨rfl, by omega, by omega⟩]
  refine o30 ho1 rfl ?_
  unfold w30
  intro s3 es3 s4 es4
  have g1 : ∀ q j, q ≠ 117 → q ≠ 119 → s4 q j = s2 q j := fun q j w w' => by
    rw [es4]; unfold fil; rw [if_neg (fun h => w' h.1), es3]; unfold l2_cpy; rw [if_neg (fun h => w h.1)]
  have g2 : ∀ n : Int, 0 ≤ n → n < 512 → s4 117 n = 0 := fun n h h' => by
    rw [es4]; unfold fil; rw [if_neg (fun h => absurd h.1 (by decide)), es3]; unfold l2_cpy; rw [if_pos ⟨rfl, by omega, by omega⟩, Int.sub_zero, Int.zero_add, f1 o1 n n1]; exact hf n h h'
  have g3 : ∀ n : Int, 0 ≤ n → n < 512 → s4 119 n = 0 := fun n h h' => by
    rw [es4]; unfold fil; rw [if_pos ⟨rfl, by omega, by omega⟩]
  have g4 : ∀ n : Int, 0 ≤ n → n < 512 → s4 118 n = 0 := fun n h h' => by rw [g1 118 n (by decide) (by decide)]; exact f2 n h h'
  refine ⟨⟨by decide, fun j j0 j1 => by rw [Int.zero_add, g4 j j0 j1]; exact ⟨by decide, by decide⟩⟩, ?_⟩
  intro x3 ex3
  have e3 : x3 = -1 := by
    rw [ex3]
    exact top_uniq (by decide) (by decide) (by decide) (fun j j0 j1 => by rw [Int.zero_add]; exact g4 j (by omega) j1) (fun w => absurd w (by decide))
  rw [e3]
  refine ⟨⟨by decide, by decide⟩, ?_⟩
  rw [if_pos (by decide)]
  unfold w30_55
  refine lz2_inv (fun (x : Int) s => -1 ≤ x ∧ x ≤ 511 ∧ s = s4) (fun x _ => x + 1) ?_ ⟨by decide, by decide, rfl⟩
  rintro X' x s hX ⟨x0, x1, rfl⟩
  refine ⟨⟨by omega, by omega⟩, ?_⟩
  by_cases hx : x < 0
  · rw [if_pos hx]
    refine ⟨⟨by decide, by decide⟩, ?_⟩
    rw [if_neg (by decide)]
    intro z ez
    refine hK z (fun b j w w7 w8 w9 => ?_) (fun n h h' => ?_)
    · rw [ez]; unfold l2_cpy; rw [if_neg (fun h => w h.1), g1 b j w7 w9, f1 b j w8]
    · rw [ez]; unfold l2_cpy; rw [if_pos ⟨rfl, by omega, by omega⟩, Int.sub_zero, Int.zero_add]; exact g3 n h h'
  · rw [if_neg hx]
    rw [g2 x (by omega) (by omega)]
    refine ⟨⟨by omega, by omega, ⟨by decide, by decide⟩⟩, ?_⟩
    rw [if_pos rfl]
    exact hX _ s ⟨by omega, by omega, rfl⟩ (by omega)
def pA {K1 R A : Type} [Lean.Grind.Field K1] (c1 : R → Nat → K1) (c2 : A → Nat → R) (em : Int → K1) (p : Int) (f : Int → Int) (a : A) : Prop := (∀ i j : Nat, i < 16 → j < 16 → 0 ≤ f ((i : Int) + 16 * j) ∧ f ((i : Int) + 16 * j) < p ∧ c1 (c2 a i) j = em (f ((i : Int) + 16 * j))) ∧ (∀ i j : Nat, (16 ≤ i ∨ 16 ≤ j) → c1 (c2 a i) j = 0) ∧ ∀ k : Int, 256 ≤ k → k < 4096 → f k = 0
theorem pA_ex {K1 R A : Type} [Lean.Grind.Field K1] [Lean.Grind.CommRing R] [Lean.Grind.CommRing A] {c1 : R → Nat → K1} {k1 : K1 → R} {Y : R} (H1 : IsPol c1 k1 Y) {c2 : A → Nat → R} {k2 : R → A} {X : A} (H2 : IsPol c2 k2 X) {p : Int} {em : Int → K1} {f : Int → Int} (h : ∀ k : Int, 0 ≤ k → k < 4096 → 0 ≤ f k ∧ f k < p) (hz : ∀ k : Int, 256 ≤ k → k < 4096 → f k = 0) : ∃ a : A, pA c1 c2 em p f a := by
  obtain ⟨a, ha⟩ := mkA_ex H1 H2 (fun i j => em (f ((i : Int) + 16 * j))) 16 16
  refine ⟨a, fun i j hi hj => ?_, fun i j hij => ?_, hz⟩
  · have := h ((i : Int) + 16 * j) (by omega) (by omega)
    exact ⟨this.1, this.2, by rw [ha i j, if_pos ⟨hi, hj⟩]⟩
  · rw [ha i j, if_neg (by omega)]
theorem pA_u {K1 R A : Type} [Lean.Grind.Field K1] [Lean.Grind.CommRing R] [Lean.Grind.CommRing A] {c1 : R → Nat → K1} {c2 : A → Nat → R} {p : Int} {em : Int → K1} (E : isEm p em) {f g : Int → Int} {a : A} (h : pA c1 c2 em p f a) (h' : pA c1 c2 em p g a) (k : Int) (k0 : 0 ≤ k) (k1 : k < 4096) : f k = g k := by
  by_cases hk : k < 256
  · have e1 := h.1 (k % 16).toNat (k / 16).toNat (by omega) (by omega)
    have e2 := h'.1 (k % 16).toNat (k / 16).toNat (by omega) (by omega)
    rw [show (((k % 16).toNat : Nat) : Int) + 16 * (((k / 16).toNat : Nat) : Int) = k by omega] at e1 e2
    exact em_ij E e1.1 e1.2.1 e2.1 e2.2.1 (by rw [← e1.2.2, ← e2.2.2])
  · rw [h.2.2 k (by omega) k1, h'.2.2 k (by omega) k1]
theorem pA_a {K1 R A : Type} [Lean.Grind.Field K1] [Lean.Grind.CommRing R] [Lean.Grind.CommRing A] {c1 : R → Nat → K1} {k1 : K1 → R} {Y : R} (H1 : IsPol c1 k1 Y) {c2 : A → Nat → R} {k2 : R → A} {X : A} (H2 : IsPol c2 k2 X) {p : Int} {em : Int → K1} {f : Int → Int} {a b : A} (h : pA c1 c2 em p f a) (h' : pA c1 c2 em p f b) : a = b := two_ext H1 H2 (fun i j => by
  by_cases hij : i < 16 ∧ j < 16
  · rw [(h.1 i j hij.1 hij.2).2.2, (h'.1 i j hij.1 hij.2).2.2]
  · rw [h.2.1 i j (by omega), h'.2.1 i j (by omega)])
theorem pA_h {K1 R A : Type} [Lean.Grind.Field K1] [Lean.Grind.CommRing R] [Lean.Grind.CommRing A] {c1 : R → Nat → K1} {c2 : A → Nat → R} {p : Int} {em : Int → K1} {f : Int → Int} {a : A} (h : pA c1 c2 em p f a) : hlt c1 c2 a 16 := fun i j hj => h.2.1 i j (Or.inr hj)
theorem pA_d {K1 R A : Type} [Lean.Grind.Field K1] [Lean.Grind.CommRing R] [Lean.Grind.CommRing A] {c1 : R → Nat → K1} {k1 : K1 → R} {Y : R} (H1 : IsPol c1 k1 Y) {c2 : A → Nat → R} {p : Int} {em : Int → K1} {f : Int → Int} {a : A} (h : pA c1 c2 em p f a) : dlt c2 a 16 := fun i hi => po_ext H1 (fun j => by rw [po_0 H1]; exact h.2.1 i j (Or.inl hi))
theorem pA_r {K1 R A : Type} [Lean.Grind.Field K1] [Lean.Grind.CommRing R] [Lean.Grind.CommRing A] {c1 : R → Nat → K1} {c2 : A → Nat → R} {p : Int} {em : Int → K1} (E : isEm p em) {f : Int → Int} {a : A} (h : pA c1 c2 em p f a) (k : Int) (k0 : 0 ≤ k) (k1 : k < 4096) : 0 ≤ f k ∧ f k < p := by
  have p2 := E.1
  by_cases hk : k < 256
  · have e1 := h.1 (k % 16).toNat (k / 16).toNat (by omega) (by omega)
    rw [show (((k % 16).toNat : Nat) : Int) + 16 * (((k / 16).toNat : Nat) : Int) = k by omega] at e1
    exact ⟨e1.1, e1.2.1⟩
  · rw [h.2.2 k (by omega) k1]; omega
theorem pA_g {K1 R A : Type} [Lean.Grind.Field K1] [Lean.Grind.CommRing R] [Lean.Grind.CommRing A] {c1 : R → Nat → K1} {c2 : A → Nat → R} {p : Int} {em : Int → K1} (E : isEm p em) {f u : Int → Int} {a : A} (h : pA c1 c2 em p f a) (hu : ∀ n : Int, 0 ≤ n → n < 512 → u n = if n % 32 < 16 then f (n / 32 + 16 * (n % 32)) else 0) : gpw c1 c2 em p u a := by
  have p2 := E.1
  refine ⟨fun i j hi hj => ?_, fun i j hij => h.2.1 i j (by omega)⟩
  rw [hu _ (by omega) (by omega), show ((i : Int) * 32 + j) % 32 = j by omega, show ((i : Int) * 32 + j) / 32 = i by omega]
  by_cases hj16 : (j : Int) < 16
  · rw [if_pos hj16]; exact h.1 i j hi (by omega)
  · rw [if_neg hj16, h.2.1 i j (by omega), em_z E]; exact ⟨by omega, by omega, rfl⟩
theorem g_pA {K1 R A : Type} [Lean.Grind.Field K1] [Lean.Grind.CommRing R] [Lean.Grind.CommRing A] {c1 : R → Nat → K1} {c2 : A → Nat → R} {p : Int} {em : Int → K1} {u : Int → Int} {a : A} (h : gpw c1 c2 em p u a) (hy : hlt c1 c2 a 16) : pA c1 c2 em p (gH u) a := by
  refine ⟨fun i j hi hj => ?_, fun i j hij => ?_, fun k k0 _ => ?_⟩
  · unfold gH
    rw [if_pos (by omega), show ((i : Int) + 16 * j) % 16 * 32 + ((i : Int) + 16 * j) / 16 = (i : Int) * 32 + j by omega]
    exact h.1 i j hi (by omega)
  · rcases hij with w | w
    · exact h.2 i j (Or.inl w)
    · exact hy i j w
  · unfold gH
    rw [if_neg (by omega)]
theorem g_z16 {K1 R A : Type} [Lean.Grind.Field K1] [Lean.Grind.CommRing R] [Lean.Grind.CommRing A] {c1 : R → Nat → K1} {c2 : A → Nat → R} {p : Int} {em : Int → K1} (E : isEm p em) {u : Int → Int} {a : A} (h : gpw c1 c2 em p u a) (hy : hlt c1 c2 a 16) (n : Int) (n0 : 0 ≤ n) (n1 : n < 512) (n2 : 16 ≤ n % 32) : u n = 0 := by
  rcases Classical.em (u n = 0) with w | w
  · exact w
  · have := gpw_h16 E h hy n0 n1 w; omega
theorem gpw_z {K1 R A : Type} [Lean.Grind.Field K1] [Lean.Grind.CommRing R] [Lean.Grind.CommRing A] {c1 : R → Nat → K1} {k1 : K1 → R} {Y : R} (H1 : IsPol c1 k1 Y) {c2 : A → Nat → R} {k2 : R → A} {X : A} (H2 : IsPol c2 k2 X) {p : Int} {em : Int → K1} (E : isEm p em) {u : Int → Int} (h : gpw c1 c2 em p u 0) (n : Int) (n0 : 0 ≤ n) (n1 : n < 512) : u n = 0 := by
  have h1 := gpw_c h n0 n1
  rw [po_0 H2, po_0 H1] at h1
  exact Classical.byContradiction (fun w => absurd h1.2.2.symm ((em_nz E h1.1 h1.2.1).mpr w))
def frk (o : Nat) (σ τ : l2_m) : Prop := ∀ b j, (b < 114 ∨ 127 < b) → b ≠ o → b ≠ o + 1 → b ≠ o + 2 → τ b j = σ b j
/-- what is known of a content -/
def isMo {K1 R : Type} [Lean.Grind.Field K1] [Lean.Grind.CommRing R] (c1 : R → Nat → K1) (d : R) : Prop := d = 0 ∨ ∃ t, isDg c1 d t ∧ c1 d t = 1
theorem ct_of {K1 R A : Type} [Lean.Grind.Field K1] [Lean.Grind.CommRing R] [Lean.Grind.CommRing A] {c1 : R → Nat → K1} {k1 : K1 → R} {Y : R} (H1 : IsPol c1 k1 Y) {c2 : A → Nat → R} {a : A} {d : R} (da : dlt c2 a 16) (hd : ∀ e, dv e d ↔ ∀ i, i < 16 → dv e (c2 a i)) : isCt c2 a d := by
  refine ⟨fun i => ?_, fun e he => (hd e).mpr (fun i _ => he i)⟩
  by_cases hi : i < 16
  · exact (hd d).mp (dv_refl d) i hi
  · rw [da i (by omega)]; exact dv_0 d
theorem ct_h {K1 R A : Type} [Lean.Grind.Field K1] [Lean.Grind.CommRing R] [Lean.Grind.CommRing A] {c1 : R → Nat → K1} {k1 : K1 → R} {Y : R} (H1 : IsPol c1 k1 Y) {c2 : A → Nat → R} {a : A} {d : R} {n : Nat} (ha : hlt c1 c2 a n) (hd : isCt c2 a d) : dlt c1 d n := by
  by_cases h0 : ∀ i, c2 a i = 0
  · have : d = 0 := dv_z (hd.2 0 (fun i => by rw [h0 i]; exact dv_0 0))
    rw [this]; exact dlt_0 H1 n
  · obtain ⟨i, hi⟩ : ∃ i, c2 a i ≠ 0 := Classical.byContradiction (fun w => h0 (fun i => Classical.byContradiction (fun v => w ⟨i, v⟩)))
    obtain ⟨y, ey⟩ := hd.1 i
    have d0 : d ≠ 0 := fun w => hi (by rw [ey, w]; grind)
    have y0 : y ≠ 0 := fun w => hi (by rw [ey, w]; grind)
    obtain ⟨t, ht⟩ := po_dg H1 d0
    obtain ⟨s, hs⟩ := po_dg H1 y0
    have h := isDg_mul H1 fld_dom ht hs
    rw [← ey] at h
    have := isDg_lt h (ha i)
    exact dlt_mono ht.2 (by omega)
theorem k2_h {K1 R A : Type} [Lean.Grind.Field K1] [Lean.Grind.CommRing R] [Lean.Grind.CommRing A] {c1 : R → Nat → K1} {k1 : K1 → R} {Y : R} (H1 : IsPol c1 k1 Y) {c2 : A → Nat → R} {k2 : R → A} {X : A} (H2 : IsPol c2 k2 X) {d : R} {n : Nat} (h : dlt c1 d n) : hlt c1 c2 (k2 d) n := fun i => by
  rw [po_ki H2]
  split
  · exact h
  · exact dlt_0 H1 n
theorem c21 {K1 R A : Type} [Lean.Grind.Field K1] [Lean.Grind.CommRing R] [Lean.Grind.CommRing A] {c1 : R → Nat → K1} {k1 : K1 → R} {Y : R} (H1 : IsPol c1 k1 Y) {c2 : A → Nat → R} {k2 : R → A} {X : A} (H2 : IsPol c2 k2 X) {p : Int} {em : Int → K1} (E : isEm p em) {B : va_E} {σ : l2_m} {K : Int → l2_m → Prop} {o1 o2 : Nat} {W f : Int → Int} {a : A} (hW : okW W) (ho1 : isP o1) (ho2 : isP o2) (g1 : 127 < o1) (g2 : 127 < o2) (hp : σ 34 0 = p) (hI : invOK σ 34 p) (hU : ∀ v : Int, 0 ≤ v → v < 3 → σ 37 v = UW W v) (hP : PR σ o1 W f) (ha : pA c1 c2 em p f a) (hK1 : ∀ (τ : l2_m) (d : R) (h : Int → Int), frk o2 σ τ → isCt c2 a d → isMo c1 d → pA c1 c2 em p h (k2 d) → PR τ o2 W h → K 1 τ) (hK0 : ∀ (τ : l2_m) (d : R) (h : Int → Int), frk o2 σ τ → isCt c2 a d → isMo c1 d → pA c1 c2 em p h (k2 d) → 60 < cnt h 4096 → K 0 τ) : wC B 21 [vr 109, vr o1, vr o2] σ K := by
  refine o21 ho1 ho2 ?_
  unfold w21
  refine c23 hW ho1 rfl (by omega) (by omega) (by omega) hP ha.2.2 (fun s1 f1 e1 => ?_)
  have ga := pA_g E ha e1
  have da := pA_d H1 ha
  refine c26 H1 E rfl rfl (by decide) (by decide) (by decide) (by decide) ((f1 34 0 (by decide)).trans hp) (invOK_cg hI (fun j => f1 35 j (by decide))) (fun i hi => gpw_r ga i hi) (fun s2 d f2 r2 hd hm => ?_)
  have ct := ct_of H1 da hd
  have dh := ct_h H1 (pA_h ha) ct
  intro s3 es3 s4 es4
  have f3 : ∀ q j, q ≠ 116 → s4 q j = s2 q j := fun q j w => by
    rw [es4]; unfold l2_cpy; rw [if_neg (fun h => w h.1), es3]; unfold fil; rw [if_neg (fun h => w h.1)]
  have e4 : ∀ n : Int, 0 ≤ n → n < 32 → s4 116 n = s2 121 n := fun n h h' => by
    rw [es4]; unfold l2_cpy; rw [if_pos ⟨rfl, by omega, by omega⟩, Int.sub_zero, Int.zero_add, es3]; unfold fil; rw [if_neg (fun h => absurd h.1 (by decide))]
  have e5 : ∀ n : Int, 32 ≤ n → n < 512 → s4 116 n = 0 := fun n h h' => by
    rw [es4]; unfold l2_cpy; rw [if_neg (fun h => by omega), es3]; unfold fil; rw [if_pos ⟨rfl, by omega, by omega⟩]
  have g4 : gpw c1 c2 em p (s4 116) (k2 d) := gpw_k H1 H2 E (rpw_cg r2 (fun i hi => e4 i (by omega) (by omega))) e5
  have hh : hlt c1 c2 (k2 d) 16 := k2_h H1 H2 dh
  have fr : ∀ q j, q ≠ 114 → q ≠ 116 → q ≠ 121 → q ≠ 124 → s4 q j = σ q j := fun q j w1 w2 w3 w4 => by rw [f3 q j w2, f2 q j w3 w4, f1 q j w1]
  refine c24 hW rfl ho2 (by omega) (by omega) (by omega) (fun v v0 v1 => by rw [fr 37 v (by decide) (by decide) (by decide) (by decide)]; exact hU v v0 v1) (fun n n0 n1 => u1_rg E g4 n n0 n1) (fun n n0 n1 n2 => g_z16 E g4 hh n n0 n1 n2) (fun τ t1 t2 => ?_) (fun τ t1 t2 => ?_)
  · exact ⟨Or.inr rfl, hK1 τ d _ (fun b j z z1 z2 z3 => by rw [t1 b j z1 z2 z3]; exact fr b j (by omega) (by omega) (by omega) (by omega)) ct hm (g_pA g4 hh) t2⟩
  · exact ⟨Or.inl rfl, hK0 τ d _ (fun b j z z1 z2 z3 => by rw [t1 b j z1 z2 z3]; exact fr b j (by omega) (by omega) (by omega) (by omega)) ct hm (g_pA g4 hh) t2⟩
theorem c22 {K1 R A : Type} [Lean.Grind.Field K1] [Lean.Grind.CommRing R] [Lean.Grind.CommRing A] {c1 : R → Nat → K1} {k1 : K1 → R} {Y : R} (H1 : IsPol c1 k1 Y) {c2 : A → Nat → R} {k2 : R → A} {X : A} (H2 : IsPol c2 k2 X) {p : Int} {em : Int → K1} (E : isEm p em) {B : va_E} {σ : l2_m} {K : Int → l2_m → Prop} {o1 o2 : Nat} {W f : Int → Int} {a : A} (hW : okW W) (ho1 : isP o1) (ho2 : isP o2) (g1 : 127 < o1) (g2 : 127 < o2) (hp : σ 34 0 = p) (hI : invOK σ 34 p) (hU : ∀ v : Int, 0 ≤ v → v < 3 → σ 37 v = UW W v) (hP : PR σ o1 W f) (ha : pA c1 c2 em p f a) (hK : ∀ (τ : l2_m) (d : R) (b : A) (h : Int → Int) (y : Int), frk o2 σ τ → isCt c2 a d → isMo c1 d → (a = 0 → b = 0) → (a ≠ 0 → a = k2 d * b) → pA c1 c2 em p h b → ((y = 1 ∧ PR τ o2 W h) ∨ (y = 0 ∧ 60 < cnt h 4096)) → K y τ) : wC B 22 [vr 109, vr o1, vr o2] σ K := by
  refine o22 ho1 ho2 ?_
  unfold w22
  refine c23 hW ho1 rfl (by omega) (by omega) (by omega) hP ha.2.2 (fun s1 f1 e1 => ?_)
  have ga := pA_g E ha e1
  have da := pA_d H1 ha
  refine c26 H1 E rfl rfl (by decide) (by decide) (by decide) (by decide) ((f1 34 0 (by decide)).trans hp) (invOK_cg hI (fun j => f1 35 j (by decide))) (fun i hi => gpw_r ga i hi) (fun s2 d f2 r2 hd hm => ?_)
  have ct := ct_of H1 da hd
  have f2' : ∀ q j, q ≠ 114 → q ≠ 121 → q ≠ 124 → s2 q j = σ q j := fun q j w1 w3 w4 => by rw [f2 q j w3 w4, f1 q j w1]
  have k114 : gpw c1 c2 em p (s2 114) a := gpw_cg ga (fun n _ _ => f2 114 n (by decide) (by decide))
  have goal : ∀ (s3 : l2_m) (b : A), (∀ q j, q ≠ 114 → q ≠ 117 → q ≠ 118 → q ≠ 119 → s3 q j = s2 q j) → gpw c1 c2 em p (s3 114) b → hlt c1 c2 b 16 → (a = 0 → b = 0) → (a ≠ 0 → a = k2 d * b) → wC B 24 [vr 109, vr 114, vr o2] s3 (fun y σ'''' => ((y = 0 ∨ y = 1) ∧ K y σ'''')) := fun s3 b f3 g3 hh q1 q2 => by
    have fr : ∀ q j, q ≠ 114 → q ≠ 117 → q ≠ 118 → q ≠ 119 → q ≠ 121 → q ≠ 124 → s3 q j = σ q j := fun q j w1 w2 w3 w4 w5 w6 => by rw [f3 q j w1 w2 w3 w4]; exact f2' q j w1 w5 w6
    refine c24 hW rfl ho2 (by omega) (by omega) (by omega) (fun v v0 v1 => by rw [fr 37 v (by decide) (by decide) (by decide) (by decide) (by decide) (by decide)]; exact hU v v0 v1) (fun n n0 n1 => u1_rg E g3 n n0 n1) (fun n n0 n1 n2 => g_z16 E g3 hh n n0 n1 n2) (fun τ t1 t2 => ?_) (fun τ t1 t2 => ?_)
    · exact ⟨Or.inr rfl, hK τ d b _ 1 (fun b j z z1 z2 z3 => by rw [t1 b j z1 z2 z3]; exact fr b j (by omega) (by omega) (by omega) (by omega) (by omega) (by omega)) ct hm q1 q2 (g_pA g3 hh) (Or.inl ⟨rfl, t2⟩)⟩
    · exact ⟨Or.inl rfl, hK τ d b _ 0 (fun b j z z1 z2 z3 => by rw [t1 b j z1 z2 z3]; exact fr b j (by omega) (by omega) (by omega) (by omega) (by omega) (by omega)) ct hm q1 q2 (g_pA g3 hh) (Or.inr ⟨rfl, t2⟩)⟩
  by_cases a0 : a = 0
  · have d0 : d = 0 := dv_z (ct.2 0 (fun i => by rw [a0, po_0 H2]; exact dv_0 0))
    have rz : ∀ n : Int, 0 ≤ n → n < 32 → s2 121 n = 0 := fun n n0 n1 => by
      have h := r2.1 n.toNat (by omega)
      rw [show ((n.toNat : Nat) : Int) = n by omega, d0, po_0 H1] at h
      exact Classical.byContradiction (fun w => absurd h.2.2.symm ((em_nz E h.1 h.2.1).mpr w))
    have gz : ∀ n : Int, 0 ≤ n → n < 512 → s2 114 n = 0 := fun n n0 n1 => by
      rw [a0] at k114; exact gpw_z H1 H2 E k114 n n0 n1
    refine c29z rfl rfl (by decide) (by decide) gz rz (fun s3 f3 z3 => ?_)
    exact goal s3 0 f3 (gpw_0 H1 H2 E z3) (fun i => by rw [po_0 H2]; exact dlt_0 H1 16) (fun _ => rfl) (fun w => absurd a0 w)
  · obtain ⟨d0, a', ea, pa⟩ := ct_pp H1 H2 a0 ct
    refine c29 H1 H2 E rfl rfl (by decide) (by decide) ((f2' 34 0 (by decide) (by decide) (by decide)).trans hp) (invOK_cg hI (fun j => f2' 35 j (by decide) (by decide) (by decide))) k114 r2 d0 ⟨a', ea⟩ (fun s3 b f3 g3 eb => ?_)
    have kd0 : k2 d ≠ 0 := fun w => d0 (po_kinj H2 (by rw [w, po_kz H2]))
    refine goal s3 b f3 g3 (hlt_fac H1 H2 (b := k2 d) (by rw [← eb]; exact pA_h ha) kd0) (fun w => absurd w a0) (fun _ => by rw [eb]; grind)
