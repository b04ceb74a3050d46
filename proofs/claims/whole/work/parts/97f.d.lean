/-! ===== the reference: takesOff ===== -/
theorem ring_z3 {R : Type} [Lean.Grind.CommRing R] (x y : R) : 0 + x * 0 + (-y) * 0 = 0 := by grind
theorem r263 {K1 R A : Type} [Lean.Grind.Field K1] [Lean.Grind.CommRing R] [Lean.Grind.CommRing A] {c1 : R → Nat → K1} {k1 : K1 → R} {Y : R} (H1 : IsPol c1 k1 Y) {c2 : A → Nat → R} {k2 : R → A} {X : A} (H2 : IsPol c2 k2 X) {p : Int} {em : Int → K1} (E : isEm p em) {B : va_E} {σ : l2_m} {K : Int → l2_m → Prop} (hp : isPr p) {o1 o2 : Nat} (ho1 : l2_al o1 = some 36864) (ho2 : l2_al o2 = some 36864) (n12 : o1 ≠ o2) (g1 : 186 < o1) (m1 : o1 < 206) (g2 : 186 < o2) (m2 : o2 < 206) (h5 : σ 186 5 = p) {a b : A} {d e ha hb : Nat} (hA : rgw c1 c2 em p (σ o1) a) (hB : rgw c1 c2 em p (σ o2) b) (dA : isDg c2 a d) (dB : isDg c2 b e) (hde : e ≤ d) (ya : hlt c1 c2 a (ha + 1)) (yb : hlt c1 c2 b (hb + 1)) (hab : ha + hb < 2304) (hK : ∀ (τ : l2_m) (b' : A), (∀ q j, q ≠ o1 → (q < 206 ∨ 209 < q) → τ q j = σ q j) → rgw c1 c2 em p (τ o1) b' → (k2 (c2 b e) * a - k2 (c2 a d) * (X ^ (d - e) * b) = 0 → b' = 0) → (k2 (c2 b e) * a - k2 (c2 a d) * (X ^ (d - e) * b) ≠ 0 → ∃ c, c ≠ 0 ∧ k2 (c2 b e) * a - k2 (c2 a d) * (X ^ (d - e) * b) = k2 c * b' ∧ prim c2 b') → K 0 τ) : wC B 263 [vr 186, vr o1, vr o2] σ K := by
  have p2 := E.1
  have p97 := E.2.1
  have d16 := isDg_lt dA hA.2
  have e16 := isDg_lt dB hB.2
  have z1 : ∀ u : Int → Int, (fun j => u (0 + j)) = u := fun u => funext (fun j => by rw [Int.zero_add])
  have dXa : degX (σ o1) = (d : Int) := by
    rcases rgw_dX H1 H2 E hA with ⟨w, -⟩ | ⟨d', -, w, w'⟩
    · exact absurd w (isDg_nz H2 dA)
    · rw [w', isDg_u w dA]
  have dXb : degX (σ o2) = (e : Int) := by
    rcases rgw_dX H1 H2 E hB with ⟨w, -⟩ | ⟨d', -, w, w'⟩
    · exact absurd w (isDg_nz H2 dB)
    · rw [w', isDg_u w dB]
  refine o263 ho1 ho2 ?_
  unfold w263
  refine ⟨fun j j0 j1 => (rgw_rg E hA j j0 j1).2.2, ?_⟩
  intro x3 ex3
  refine ⟨fun j j0 j1 => (rgw_rg E hB j j0 j1).2.2, ?_⟩
  intro x4 ex4
  rw [dXa] at ex3
  rw [dXb] at ex4
  rw [ex3, ex4]
  refine ⟨⟨by omega, by omega⟩, ?_⟩
  intro s1 es1
  refine ⟨⟨by omega, by omega⟩, ?_⟩
  intro s2 es2
  have f2 : ∀ q j, q ≠ 207 → q ≠ 208 → s2 q j = σ q j := fun q j w w' => by
    rw [es2]; unfold cpR; rw [if_neg (fun h => w' h.1), es1]; unfold cpR; rw [if_neg (fun h => w h.1)]
  have r207 : rpw c1 em p (s2 207) 2304 (c2 b e) := rpw_cg (hB.1 e e16) (fun j hj => by
    rw [es2]; unfold cpR; rw [if_neg (fun h => absurd h.1 (by decide)), es1]; unfold cpR; rw [if_pos ⟨rfl, by omega, by omega⟩])
  have r208 : rpw c1 em p (s2 208) 2304 (c2 a d) := rpw_cg (hA.1 d d16) (fun j hj => by
    rw [es2]; unfold cpR; rw [if_pos ⟨rfl, by omega, by omega⟩, es1]; unfold cpR; rw [if_neg (fun h => by omega)])
  refine ⟨⟨by decide, fun j j0 j1 => by rw [Int.zero_add]; exact (rgr E r207 j0 j1).2.2⟩, ?_⟩
  intro x5 ex5
  refine ⟨fun j j0 j1 => by rw [Int.zero_add]; exact (rgr E r208 j0 j1).2.2, ?_⟩
  intro x6 ex6
  rw [z1 (s2 207)] at ex5
  rw [z1 (s2 208)] at ex6
  have T5 := rpw_t23 H1 E r207
  have T6 := rpw_t23 H1 E r208
  rw [← ex5] at T5
  rw [← ex6] at T6
  have x50 : 0 ≤ x5 := by
    rcases Int.lt_or_le x5 0 with w | w
    · exact absurd (T5.2.2.1 w) dB.1
    · exact w
  have x60 : 0 ≤ x6 := by
    rcases Int.lt_or_le x6 0 with w | w
    · exact absurd (T6.2.2.1 w) dA.1
    · exact w
  have x5h : x5 ≤ hb := by
    have := isDg_lt (T5.2.2.2 x50) (yb e); omega
  have x6h : x6 ≤ ha := by
    have := isDg_lt (T6.2.2.2 x60) (ya d); omega
  obtain ⟨a', ea'⟩ : ∃ a' : A, a' = k2 (c2 b e) * a - k2 (c2 a d) * (X ^ (d - e) * b) := ⟨_, rfl⟩
  rw [← ea'] at hK
  have ca : ∀ i v, (v = if d - e ≤ i then c2 b (i - (d - e)) else 0) → c2 a' i = 0 + c2 b e * c2 a i + (- c2 a d) * v := fun i v hv => by
    rw [ea', po_s H2, po_km H2, po_km H2]
    by_cases hi : d - e ≤ i
    · rw [if_pos hi] at hv
      have : c2 (X ^ (d - e) * b) i = c2 b (i - (d - e)) := by
        have := po_x H2 b (d - e) (i - (d - e))
        rw [show i - (d - e) + (d - e) = i by omega] at this
        exact this
      rw [this, hv]; grind
    · rw [if_neg hi] at hv
      rw [po_xl H2 b (d - e) i (by omega), hv]; grind
  have tope : ∀ {u : Int → Int} {r : R} {h : Nat}, rpw c1 em p u 2304 r → dlt c1 r (h + 1) → -1 ≤ top u 2304 ∧ top u 2304 < 2304 ∧ dlt c1 r (top u 2304 + 1).toNat ∧ top u 2304 ≤ h := fun {u r h} hr hh => by
    obtain ⟨t1, t2, t3, t4⟩ := rpw_t23 H1 E hr
    rcases Int.lt_or_le (top u 2304) 0 with w | w
    · exact ⟨t1, t2, by rw [t3 w]; exact dlt_0 H1 _, by omega⟩
    · have := isDg_lt (t4 w) hh
      exact ⟨t1, t2, dlt_mono (t4 w).2 (by omega), by omega⟩
  have zz : ∀ x y : R, 0 + x * 0 + (-y) * 0 = 0 := fun x y => ring_z3 x y
  unfold w263_61
  refine lz2_inv (fun (x : Int) s => 0 ≤ x ∧ x ≤ (d : Int) + 1 ∧ (∀ q j, q ≠ o1 → q ≠ 209 → s q j = s2 q j) ∧ (∀ i : Nat, (i : Int) < x → rpw c1 em p (fun j => s o1 (2304 * (i : Int) + j)) 2304 (c2 a' i)) ∧ (∀ n : Int, 2304 * x ≤ n → s o1 n = σ o1 n)) (fun x _ => d + 1 - x) ?_ ⟨by decide, by omega, fun _ _ _ _ => rfl, fun i hi => by omega, fun n _ => f2 o1 n (by omega) (by omega)⟩
  intro X61 x s hX ⟨x0, x1, s3, s4, s5⟩
  have sf : ∀ q j, q ≠ o1 → (q < 206 ∨ 209 < q) → s q j = σ q j := fun q j w w' => by rw [s3 q j w (by omega)]; exact f2 q j (by omega) (by omega)
  refine ⟨⟨⟨by omega, by omega⟩, ⟨by omega, by omega⟩⟩, ?_⟩
  by_cases hx : (d : Int) < x
  · rw [if_pos hx]
    have hr : rgw c1 c2 em p (s o1) a' := by
      have cz : ∀ i, d < i → c2 a' i = 0 := fun i hi => by
        rw [ca i _ rfl, dA.2 i (by omega), if_pos (show d - e ≤ i by omega), dB.2 (i - (d - e)) (by omega)]; exact zz _ _
      refine ⟨fun i hi => ?_, fun i hi => cz i (by omega)⟩
      by_cases hid : i ≤ d
      · exact s4 i (by omega)
      · rw [cz i (by omega)]
        have := hA.1 i hi
        rw [dA.2 i (by omega)] at this
        exact rpw_cg this (fun j _ => s5 _ (by omega))
    refine r262 H1 H2 E hp ho1 g1 m1 ((sf 186 5 (by omega) (by omega)).trans h5) hr (fun τ b' t1 t2 t3 t4 => ?_)
    refine hK τ b' (fun q j w w' => by rw [t1 q j w w']; exact sf q j w w') t2 t3 (fun w => ?_)
    obtain ⟨c, -, -, c0, c4, c5⟩ := t4 w
    exact ⟨c, c0, c4, c5⟩
  · rw [if_neg hx]
    obtain ⟨i, rfl⟩ : ∃ i : Nat, x = (i : Int) := ⟨x.toNat, by omega⟩
    unfold w263_70
    refine lz2_inv (fun (y : Int) z => 0 ≤ y ∧ y ≤ 2304 ∧ (∀ q j, q ≠ 209 → z q j = s q j) ∧ (∀ j : Int, 0 ≤ j → j < y → z 209 j = 0)) (fun y _ => 2304 - y) ?_ ⟨by decide, by decide, fun _ _ _ => rfl, fun j _ _ => by omega⟩
    intro Z y z hZ ⟨y0, y1, z2, z3⟩
    refine ⟨⟨by omega, by omega⟩, ?_⟩
    by_cases hy : y < 2304
    · rw [if_pos hy]
      refine ⟨⟨y0, hy⟩, ?_⟩
      intro z' ez'
      refine hZ _ z' ⟨by omega, by omega, fun b j w => by rw [ez', l2_u_ne w]; exact z2 b j w, fun j j0 j1 => ?_⟩ (by omega)
      by_cases hj : j = y
      · rw [ez', hj, l2_u_self]
      · rw [ez', l2_u_nj hj]; exact z3 j j0 (by omega)
    · rw [if_neg hy]
      intro x8 ex8
      have q0 : rpw c1 em p (z 209) 2304 (0 : R) := ⟨fun i hi => by rw [z3 i (by omega) (by omega), po_0 H1, em_z E]; exact ⟨by omega, by omega, rfl⟩, dlt_0 H1 _⟩
      have hai : rpw c1 em p (fun j => z o1 (x8 + j)) 2304 (c2 a i) := rpw_cg (hA.1 i (by omega)) (fun j _ => by rw [z2 o1 _ (by omega), ex8]; exact s5 _ (by omega))
      refine ⟨⟨by omega, by omega, fun j j0 j1 => (rgr E hai j0 j1).2.2⟩, ?_⟩
      intro x9 ex9
      obtain ⟨u1, u2, u3, u4⟩ := tope hai (ya i)
      rw [← ex9] at u1 u2 u3 u4
      have z5 : z 186 5 = p := by rw [z2 186 5 (by decide), sf 186 5 (by omega) (by omega)]; exact h5
      have k207 : ∀ j, z 207 j = s2 207 j := fun j => by rw [z2 207 j (by decide)]; exact s3 207 j (by omega) (by decide)
      have k208 : ∀ j, z 208 j = s2 208 j := fun j => by rw [z2 208 j (by decide)]; exact s3 208 j (by omega) (by decide)
      unfold w263_111 w263_121
      refine prd H1 E (M := fun i σ => σ 207 i) (mm := fun i => s2 207 i) (r0 := 0) (A := c2 b e) (v := c2 a i) (oB := o1) (by omega) z5 (fun w hw l hl => by show w 207 (l : Int) = s2 207 l; rw [hw 207 l (by decide)]; exact k207 l) (fun l hl => by have := r207.1 l (by omega); exact ⟨this.1, by show s2 207 (l : Int) ≤ 97; omega, this.2.2⟩) (by omega) (by omega) (dlt_mono (T5.2.2.2 x50).2 (by omega)) u1 u2 u3 (fun _ => ⟨hai, by omega, by omega⟩) (by omega) q0 (fun w hw hw2 => ?_)
      -- the second product
      have w5 : w 186 5 = p := (hw 186 5 (by decide)).trans z5
      have fin : ∀ (x10 : Int) (v : R), (v = if d - e ≤ i then c2 b (i - (d - e)) else 0) → -1 ≤ x10 → x10 < 2304 → x10 ≤ hb → dlt c1 v (x10 + 1).toNat → (0 ≤ x10 → rpw c1 em p (fun j => w o2 (2304 * (((i : Int) - d) + e) + j)) 2304 v ∧ 0 ≤ 2304 * (((i : Int) - d) + e) ∧ 2304 * (((i : Int) - d) + e) + 2304 ≤ 36864) → w263_214 B w o1 o2 (d : Int) (e : Int) x5 x6 (i : Int) x8 x10 0 X61 K := fun x10 v hv v1 v2 v3 v4 v5 => by
        unfold w263_214 w263_224
        refine prd H1 E (M := fun i σ => σ 186 5 - σ 208 i) (mm := fun i => p - s2 208 i) (r0 := 0 + c2 b e * c2 a i) (A := - c2 a d) (v := v) (oB := o2) (by omega) w5 (fun w' hw' l hl => by show w' 186 5 - w' 208 (l : Int) = p - s2 208 l; rw [hw' 186 5 (by decide), hw' 208 l (by decide), w5, hw 208 l (by decide), k208 l]) (fun l hl => by have := r208.1 l (by omega); exact ⟨by show 0 ≤ p - s2 208 (l : Int); omega, by show p - s2 208 (l : Int) ≤ 97; omega, by rw [po_n H1, this.2.2, em_sb E, em_p E]; grind⟩) (by omega) (by omega) (fun l hl => by rw [po_n H1, (T6.2.2.2 x60).2 l (by omega)]; grind) v1 v2 v4 v5 (by omega) hw2 (fun τ t1 t2 => ?_)
        rw [← ca i v hv] at t2
        have tf : ∀ q j, q ≠ 209 → τ q j = s q j := fun q j a => by rw [t1 q j a, hw q j a]; exact z2 q j a
        unfold w263_301
        refine lz2_inv (fun (y : Int) z => 0 ≤ y ∧ y ≤ 2304 ∧ (∀ q j, q ≠ o1 → z q j = τ q j) ∧ (∀ j : Int, 0 ≤ j → j < y → z o1 (x8 + j) = τ 209 j) ∧ (∀ n : Int, (n < x8 ∨ x8 + y ≤ n) → z o1 n = s o1 n)) (fun y _ => 2304 - y) ?_ ⟨by decide, by decide, fun _ _ _ => rfl, fun j _ hi => by omega, fun n _ => tf o1 n (by omega)⟩
        intro Z y z hZ ⟨y0, y1, c1', c2', c3'⟩
        refine ⟨⟨by omega, by omega⟩, ?_⟩
        by_cases hy : y < 2304
        · rw [if_pos hy]
          refine ⟨⟨y0, hy, by omega, by omega⟩, ?_⟩
          intro z' ez'
          refine hZ _ z' ⟨by omega, by omega, fun q j w => by rw [ez', l2_u_ne w]; exact c1' q j w, fun j j0 j1 => ?_, fun n hn => by rw [ez', l2_u_nj (by omega)]; exact c3' n (by omega)⟩ (by omega)
          by_cases hj : j = y
          · rw [ez', hj, l2_u_self]; exact c1' 209 y (by omega)
          · rw [ez', l2_u_nj (by omega)]; exact c2' j j0 (by omega)
        · rw [if_neg hy]
          refine hX _ z ⟨by omega, by omega, fun q j w w' => by rw [c1' q j w, tf q j w']; exact s3 q j w w', fun l hl => ?_, fun n hn => by rw [c3' n (by omega)]; exact s5 n (by omega)⟩ (by omega)
          by_cases hli : l = i
          · rw [hli]
            exact rpw_cg t2 (fun j hj => by rw [← ex8]; exact c2' j (by omega) (by omega))
          · exact rpw_cg (s4 l (by omega)) (fun j hj => c3' _ (by omega))
      refine ⟨⟨⟨by omega, by omega⟩, ⟨by omega, by omega⟩⟩, ?_⟩
      by_cases hlt : (i : Int) < (d : Int) - e
      · rw [if_pos hlt]
        exact fin (-1) 0 (by rw [if_neg (by omega)]) (by omega) (by omega) (by omega) (dlt_0 H1 _) (fun h => by omega)
      · rw [if_neg hlt]
        have hbi : rpw c1 em p (fun j => w o2 (2304 * (((i : Int) - d) + e) + j)) 2304 (c2 b (i - (d - e))) := rpw_cg (hB.1 (i - (d - e)) (by omega)) (fun j _ => by rw [hw o2 _ (by omega), z2 o2 _ (by omega), sf o2 _ (by omega) (by omega), show (((i - (d - e) : Nat)) : Int) = ((i : Int) - d) + e by omega])
        refine ⟨⟨by omega, by omega, fun j j0 j1 => (rgr E hbi j0 j1).2.2⟩, ?_⟩
        intro x10 ex10
        obtain ⟨t1, t2, t3, t4⟩ := tope hbi (yb _)
        rw [← ex10] at t1 t2 t3 t4
        exact fin x10 (c2 b (i - (d - e))) (by rw [if_pos (by omega)]) t1 t2 t4 t3 (fun _ => ⟨hbi, by omega, by omega⟩)
