/-! ===== the reference: all divisions of rows ===== -/
def euO {K1 R A : Type} [Lean.Grind.Field K1] [Lean.Grind.CommRing R] [Lean.Grind.CommRing A] (c1 : R → Nat → K1) (c2 : A → Nat → R) (k2 : R → A) (X f g : A) (n m : Nat) (f0 g0 Aa Bb : A) (a : Nat) : Prop := isDg c2 Aa a ∧ prim c2 Aa ∧ (Bb = 0 ∨ prim c2 Bb) ∧ (∀ D, prim c2 D → ((dv D Aa ∧ dv D Bb) ↔ (dv D f0 ∧ dv D g0))) ∧ ∃ (UA VA UB VB : A) (ca cb δ : R) (HA HB : Nat), ca ≠ 0 ∧ cb ≠ 0 ∧ δ ≠ 0 ∧ k2 ca * Aa = UA * f + VA * g ∧ k2 cb * Bb = UB * f + VB * g ∧ k2 δ = UA * VB - UB * VA ∧ hlt c1 c2 Aa (HA + 1) ∧ hlt c1 c2 Bb (HB + 1) ∧ ∀ e, isDg c2 Bb e → e ≤ a ∧ e ≤ n ∧ e ≤ m ∧ HB ≤ 15 * (31 - 2 * e) ∧ HA + (a - e + 1) * HB < 2304 ∧ dlt c2 UA (m - e + 1) ∧ dlt c2 VA (n - e + 1) ∧ (∀ k, k + e ≤ a → dlt c2 (X ^ k * UB) (m - e + 1)) ∧ ∀ k, k + e ≤ a → dlt c2 (X ^ k * VB) (n - e + 1)
theorem eu_in {K1 R A : Type} [Lean.Grind.Field K1] [Lean.Grind.CommRing R] [Lean.Grind.CommRing A] {c1 : R → Nat → K1} {k1 : K1 → R} {Y : R} (H1 : IsPol c1 k1 Y) {c2 : A → Nat → R} {k2 : R → A} {X : A} (H2 : IsPol c2 k2 X) {f g f0 g0 : A} {n m : Nat} (pf : prim c2 f) (pg : prim c2 g) (hf : isDg c2 f n) (hg : isDg c2 g m) (hmn : m ≤ n) (n15 : n ≤ 15) (yf : hlt c1 c2 f 16) (yg : hlt c1 c2 g 16) (h : ∀ D, prim c2 D → ((dv D f ∧ dv D g) ↔ (dv D f0 ∧ dv D g0))) : euO c1 c2 k2 X f g n m f0 g0 f g n := by
  have one : dlt c2 (1 : A) 1 := fun i hi => by
    have := po_ki H2 1 i
    rw [po_kone H2, if_neg (by omega)] at this
    exact this
  have k1e : k2 1 = 1 := po_kone H2
  refine ⟨hf, pf, Or.inr pg, h, 1, 0, 0, 1, 1, 1, 1, 15, 15, po_one H1, po_one H1, po_one H1, by rw [k1e]; grind, by rw [k1e]; grind, by rw [k1e]; grind, yf, yg, fun e he => ?_⟩
  have em := isDg_u he hg
  rw [em]
  refine ⟨hmn, hmn, Nat.le_refl m, by omega, by omega, dlt_mono one (by omega), dlt_0 H2 _, fun k hk => ?_, fun k hk => dlt_mono (dlt_x H2 k one) (by omega)⟩
  rw [show X ^ k * 0 = 0 by grind]; exact dlt_0 H2 _
theorem eu_bd : ∀ e : Nat, e < 16 → 15 * (31 - 2 * e) + e * (15 * (32 - 2 * e)) < 2304 := by decide
theorem eu_nx {K1 R A : Type} [Lean.Grind.Field K1] [Lean.Grind.CommRing R] [Lean.Grind.CommRing A] {c1 : R → Nat → K1} {k1 : K1 → R} {Y : R} (H1 : IsPol c1 k1 Y) {c2 : A → Nat → R} {k2 : R → A} {X : A} (H2 : IsPol c2 k2 X) {f g f0 g0 Aa Bb A' UA VA UB VB U V : A} {ca cb c δ δ' : R} {n m a e HA HB : Nat} (n15 : n ≤ 15) (m15 : m ≤ 15) (hf : isDg c2 f n) (hg : isDg c2 g m) (yf : hlt c1 c2 f 16) (yg : hlt c1 c2 g 16) (dB : isDg c2 Bb e) (pB : prim c2 Bb) (pA' : A' = 0 ∨ prim c2 A') (dA' : dlt c2 A' e) (hD : ∀ D, prim c2 D → ((dv D Bb ∧ dv D A') ↔ (dv D f0 ∧ dv D g0))) (cb0 : cb ≠ 0) (c0 : c ≠ 0) (δ0 : δ' ≠ 0) (eb : k2 cb * Bb = UB * f + VB * g) (ec : k2 c * A' = U * f + V * g) (ed : k2 δ' = U * VB - UB * V) (yb : hlt c1 c2 Bb (HB + 1)) (en : e ≤ n) (em : e ≤ m) (hHB : HB ≤ 15 * (31 - 2 * e)) (dUB : dlt c2 UB (m - e + 1)) (dVB : dlt c2 VB (n - e + 1)) (dU : dlt c2 U (m - e + 1)) (dV : dlt c2 V (n - e + 1)) : euO c1 c2 k2 X f g n m f0 g0 Bb A' e := by
  have nd : -δ' ≠ 0 := fun w => δ0 (by
    have : δ' = -(-δ') := by grind
    rw [this, w]; grind)
  have ed' : k2 (-δ') = UB * V - U * VB := by rw [po_kneg H2, ed]; grind
  by_cases h1 : dlt c2 A' 1
  · have yA : hlt c1 c2 A' (0 + 1) := fun i => by
      by_cases hi : i = 0
      · rcases pA' with w | w
        · rw [w, po_0 H2]; exact dlt_0 H1 _
        · rw [hi]
          have hu : unt (c2 A' 0) := w (c2 A' 0) (fun i => by
            by_cases hi : i = 0
            · rw [hi]; exact dv_refl _
            · rw [h1 i (by omega)]; exact dv_0 _)
          exact (fe_untd H1 hu).2
      · rw [h1 i (by omega)]; exact dlt_0 H1 _
    refine ⟨dB, pB, pA', hD, UB, VB, U, V, cb, c, -δ', HB, 0, cb0, c0, nd, eb, ec, ed', yb, yA, fun e' he' => ?_⟩
    have := isDg_lt he' h1
    have e0 : e' = 0 := by omega
    rw [e0]
    refine ⟨by omega, by omega, by omega, by omega, by omega, dlt_mono dUB (by omega), dlt_mono dVB (by omega), fun k hk => dlt_mono (dlt_x H2 k dU) (by omega), fun k hk => dlt_mono (dlt_x H2 k dV) (by omega)⟩
  · have pA : prim c2 A' := by
      rcases pA' with w | w
      · exact absurd (by rw [w]; exact dlt_0 H2 1) h1
      · exact w
    have yA := ht_ex H1 H2 (h := 15) hf hg yf yg pA c0 nd eb ec ed' dB.2 dA' en em dUB dVB dU dV
    refine ⟨dB, pB, pA', hD, UB, VB, U, V, cb, c, -δ', HB, 15 * (n + m - 2 * e + 2), cb0, c0, nd, eb, ec, ed', yb, yA, fun e' he' => ?_⟩
    have q1 := isDg_lt he' dA'
    have q2 : 1 ≤ e' := by
      rcases Nat.eq_zero_or_pos e' with w | w
      · rw [w] at he'; exact absurd he'.2 h1
      · exact w
    have q3 := eu_bd e (by omega)
    have q4 : (e - e' + 1) * (15 * (n + m - 2 * e + 2)) ≤ e * (15 * (32 - 2 * e)) := Nat.mul_le_mul (by omega) (by omega)
    refine ⟨by omega, by omega, by omega, by omega, by omega, dlt_mono dUB (by omega), dlt_mono dVB (by omega), fun k hk => dlt_mono (dlt_x H2 k dU) (by omega), fun k hk => dlt_mono (dlt_x H2 k dV) (by omega)⟩
theorem r264f {K1 R A : Type} [Lean.Grind.Field K1] [Lean.Grind.CommRing R] [Lean.Grind.CommRing A] {c1 : R → Nat → K1} {k1 : K1 → R} {Y : R} (H1 : IsPol c1 k1 Y) {c2 : A → Nat → R} {k2 : R → A} {X : A} (H2 : IsPol c2 k2 X) {p : Int} {em : Int → K1} (E : isEm p em) {B : va_E} {σ : l2_m} {K : Int → l2_m → Prop} (h5 : σ 186 5 = p) {a : A} {e : R} (hA : rgw c1 c2 em p (σ 204) a) (he : rpw c1 em p (σ 210) 2304 e) (de : dlt c1 e 16) (ya : hlt c1 c2 a 16) (hK : ∀ τ : l2_m, (∀ q j, q ≠ 204 → q ≠ 209 → τ q j = σ q j) → rgw c1 c2 em p (τ 204) (k2 e * a) → K 0 τ) : w264_199 B σ (top (σ 210) 2304) 0 K := by
  have p2 := E.1
  have p97 := E.2.1
  have tope : ∀ {u : Int → Int} {r : R}, rpw c1 em p u 2304 r → dlt c1 r 16 → -1 ≤ top u 2304 ∧ top u 2304 < 2304 ∧ dlt c1 r (top u 2304 + 1).toNat ∧ top u 2304 < 16 := fun {u r} hr hh => by
    obtain ⟨t1, t2, t3, t4⟩ := rpw_t23 H1 E hr
    rcases Int.lt_or_le (top u 2304) 0 with w | w
    · exact ⟨t1, t2, by rw [t3 w]; exact dlt_0 H1 _, by omega⟩
    · have := isDg_lt (t4 w) hh
      exact ⟨t1, t2, dlt_mono (t4 w).2 (by omega), by omega⟩
  obtain ⟨T1, T2, T3, T4⟩ := tope he de
  obtain ⟨x1, ex1⟩ : ∃ x1 : Int, x1 = top (σ 210) 2304 := ⟨_, rfl⟩
  rw [← ex1] at T1 T2 T3 T4 ⊢
  unfold w264_199
  refine lz2_inv (fun (x : Int) s => 0 ≤ x ∧ x ≤ 16 ∧ (∀ q j, q ≠ 204 → q ≠ 209 → s q j = σ q j) ∧ (∀ i : Nat, (i : Int) < x → rpw c1 em p (fun j => s 204 (2304 * (i : Int) + j)) 2304 (e * c2 a i)) ∧ (∀ n : Int, 2304 * x ≤ n → s 204 n = σ 204 n)) (fun x _ => 16 - x) ?_ ⟨by decide, by decide, fun _ _ _ _ => rfl, fun i hi => by omega, fun _ _ => rfl⟩
  intro X199 x s hX ⟨x0, x1', s3, s4, s5⟩
  refine ⟨⟨by omega, by omega⟩, ?_⟩
  by_cases hx : x < 16
  · rw [if_pos hx]
    obtain ⟨i, rfl⟩ : ∃ i : Nat, x = (i : Int) := ⟨x.toNat, by omega⟩
    unfold w264_207
    refine lz2_inv (fun (y : Int) z => 0 ≤ y ∧ y ≤ 2304 ∧ (∀ q j, q ≠ 209 → z q j = s q j) ∧ (∀ j : Int, 0 ≤ j → j < y → z 209 j = 0)) (fun y _ => 2304 - y) ?_ ⟨by decide, by decide, fun _ _ _ => rfl, fun j _ _ => by omega⟩
    intro Z y z hZ ⟨y0, y1, z2, z3⟩
    refine ⟨⟨by omega, by omega⟩, ?_⟩
    by_cases hy : y < 2304
    · rw [if_pos hy]
      refine ⟨⟨y0, hy⟩, ?_⟩
      intro z' ez'
      refine hZ _ z' ⟨by omega, by omega, fun b j w => by rw [ez', l2_u_ne w]; exact z2 b j w, fun j j0 j1 => ?_⟩ (by omega)
      by_cases hj : j = y
      · rw [ez', hj, l2_u_self]
      · rw [ez', l2_u_nj hj]; exact z3 j j0 (by omega)
    · rw [if_neg hy]
      have q0 : rpw c1 em p (z 209) 2304 (0 : R) := ⟨fun i hi => by rw [z3 i (by omega) (by omega), po_0 H1, em_z E]; exact ⟨by omega, by omega, rfl⟩, dlt_0 H1 _⟩
      have hai : rpw c1 em p (fun j => z 204 (2304 * (i : Int) + j)) 2304 (c2 a i) := rpw_cg (hA.1 i (by omega)) (fun j _ => by rw [z2 204 _ (by decide)]; exact s5 _ (by omega))
      refine ⟨⟨by omega, by omega, fun j j0 j1 => (rgr E hai j0 j1).2.2⟩, ?_⟩
      intro x9 ex9
      obtain ⟨u1, u2, u3, u4⟩ := tope hai (ya i)
      rw [← ex9] at u1 u2 u3 u4
      have z5 : z 186 5 = p := by rw [z2 186 5 (by decide), s3 186 5 (by decide) (by decide)]; exact h5
      have k210 : ∀ j, z 210 j = σ 210 j := fun j => by rw [z2 210 j (by decide)]; exact s3 210 j (by decide) (by decide)
      unfold w264_243 w264_252
      refine prd H1 E (M := fun i σ => σ 210 i) (mm := fun i => σ 210 i) (r0 := 0) (A := e) (v := c2 a i) (oB := 204) (by decide) z5 (fun w hw l hl => by show w 210 (l : Int) = σ 210 l; rw [hw 210 l (by decide)]; exact k210 l) (fun l hl => by have := he.1 l (by omega); exact ⟨this.1, by show σ 210 (l : Int) ≤ 97; omega, this.2.2⟩) (by omega) (by omega) T3 u1 u2 u3 (fun _ => ⟨hai, by omega, by omega⟩) (by omega) q0 (fun τ hw t2 => ?_)
      rw [show 0 + e * c2 a i = e * c2 a i by grind] at t2
      have tf : ∀ q j, q ≠ 209 → τ q j = s q j := fun q j a => by rw [hw q j a]; exact z2 q j a
      unfold w264_320
      refine lz2_inv (fun (y : Int) z => 0 ≤ y ∧ y ≤ 2304 ∧ (∀ q j, q ≠ 204 → z q j = τ q j) ∧ (∀ j : Int, 0 ≤ j → j < y → z 204 (2304 * (i : Int) + j) = τ 209 j) ∧ (∀ n : Int, (n < 2304 * (i : Int) ∨ 2304 * (i : Int) + y ≤ n) → z 204 n = s 204 n)) (fun y _ => 2304 - y) ?_ ⟨by decide, by decide, fun _ _ _ => rfl, fun j _ hi => by omega, fun n _ => tf 204 n (by decide)⟩
      intro Z' y' z' hZ' ⟨y0', y1', c1', c2', c3'⟩
      refine ⟨⟨by omega, by omega⟩, ?_⟩
      by_cases hy' : y' < 2304
      · rw [if_pos hy']
        refine ⟨⟨y0', hy', by omega, by omega⟩, ?_⟩
        intro z'' ez''
        refine hZ' _ z'' ⟨by omega, by omega, fun q j w => by rw [ez'', l2_u_ne w]; exact c1' q j w, fun j j0 j1 => ?_, fun n hn => by rw [ez'', l2_u_nj (by omega)]; exact c3' n (by omega)⟩ (by omega)
        by_cases hj : j = y'
        · rw [ez'', hj, l2_u_self]; exact c1' 209 y' (by decide)
        · rw [ez'', l2_u_nj (by omega)]; exact c2' j j0 (by omega)
      · rw [if_neg hy']
        refine hX _ z' ⟨by omega, by omega, fun q j w w' => by rw [c1' q j w, tf q j w']; exact s3 q j w w', fun l hl => ?_, fun n hn => by rw [c3' n (by omega)]; exact s5 n (by omega)⟩ (by omega)
        by_cases hli : l = i
        · rw [hli]
          exact rpw_cg t2 (fun j hj => c2' j (by omega) (by omega))
        · exact rpw_cg (s4 l (by omega)) (fun j hj => c3' _ (by omega))
  · rw [if_neg hx]
    refine hK s s3 ⟨fun i hi => by rw [po_km H2]; exact s4 i (by omega), fun i hi => ?_⟩
    rw [po_km H2, hA.2 i hi]; grind
theorem r264o {K1 R A : Type} [Lean.Grind.Field K1] [Lean.Grind.CommRing R] [Lean.Grind.CommRing A] {c1 : R → Nat → K1} {k1 : K1 → R} {Y : R} (H1 : IsPol c1 k1 Y) {c2 : A → Nat → R} {k2 : R → A} {X : A} (H2 : IsPol c2 k2 X) {p : Int} {em : Int → K1} (E : isEm p em) {B : va_E} {σ : l2_m} {K : Int → l2_m → Prop} (hp : isPr p) (h5 : σ 186 5 = p) {f g : A} {e : R} {n m : Nat} (hA : rgw c1 c2 em p (σ 204) f) (hB : rgw c1 c2 em p (σ 205) g) (pf : prim c2 f) (pg : prim c2 g) (hf : isDg c2 f n) (hg : isDg c2 g m) (yf : hlt c1 c2 f 16) (yg : hlt c1 c2 g 16) (he : rpw c1 em p (σ 210) 2304 e) (de : dlt c1 e 16) (hK : ∀ (τ : l2_m) (G : A), (∀ q j, (q < 204 ∨ 209 < q) → τ q j = σ q j) → rgw c1 c2 em p (τ 204) (k2 e * G) → dv G f → dv G g → (∀ D, prim c2 D → dv D f → dv D g → dv D G) → K 0 τ) : w264_102 B σ K := by
  have n16 := isDg_lt hf hA.2
  have m16 := isDg_lt hg hB.2
  have z1 : ∀ u : Int → Int, (fun j => u (0 + j)) = u := fun u => funext (fun j => by rw [Int.zero_add])
  have dX : ∀ {u : Int → Int} {a : A} {d : Nat}, rgw c1 c2 em p u a → isDg c2 a d → degX u = (d : Int) := fun {u a d} h hd => by
    rcases rgw_dX H1 H2 E h with ⟨w, -⟩ | ⟨d', -, w, w'⟩
    · exact absurd w (isDg_nz H2 hd)
    · rw [w', isDg_u w hd]
  unfold w264_102
  refine lz1_inv (fun s => (∀ q j, (q < 204 ∨ 209 < q) → s q j = σ q j) ∧ ∃ Aa Bb : A, rgw c1 c2 em p (s 204) Aa ∧ rgw c1 c2 em p (s 205) Bb ∧ ((Aa = f ∧ Bb = g ∧ n < m) ∨ ∃ (f' g' : A) (n' m' a : Nat), isDg c2 f' n' ∧ isDg c2 g' m' ∧ hlt c1 c2 f' 16 ∧ hlt c1 c2 g' 16 ∧ n' ≤ 15 ∧ m' ≤ 15 ∧ euO c1 c2 k2 X f' g' n' m' f g Aa Bb a)) (fun s => if degX (s 204) < degX (s 205) then 100 else degX (s 205) + 1) ?_ ?_
  rotate_left
  · refine ⟨fun _ _ _ => rfl, f, g, hA, hB, ?_⟩
    by_cases hnm : n < m
    · exact Or.inl ⟨rfl, rfl, hnm⟩
    · exact Or.inr ⟨f, g, n, m, n, hf, hg, yf, yg, by omega, by omega, eu_in H1 H2 pf pg hf hg (by omega) (by omega) yf yg (fun D _ => Iff.rfl)⟩
  intro X102 s hL ⟨s1, Aa, Bb, rA, rB, hs⟩
  have s5 : s 186 5 = p := (s1 186 5 (by omega)).trans h5
  have dXr : rg (degX (s 205)) := by
    rcases rgw_dX H1 H2 E rB with ⟨-, w⟩ | ⟨d', w1, -, w⟩
    · rw [w]; exact ⟨by decide, by decide⟩
    · rw [w]; exact ⟨by omega, by omega⟩
  refine ⟨⟨fun j j0 j1 => (rgw_rg E rB j j0 j1).2.2, dXr⟩, ?_⟩
  rcases hs with ⟨rfl, rfl, hnm⟩ | ⟨f', g', n', m', a, hf', hg', yf', yg', n15, m15, hO⟩
  · -- the first is lower: they change places
    have d4 := dX rA hf
    have d5 := dX rB hg
    rw [if_neg (by rw [d5]; omega)]
    unfold w264_113
    refine lz1_inv (fun t => t = s) (fun _ => 0) ?_ rfl
    rintro X113 t - rfl
    refine ⟨⟨fun j j0 j1 => (rgw_rg E rA j j0 j1).2.2, fun j j0 j1 => (rgw_rg E rB j j0 j1).2.2, by rw [d4]; exact ⟨by omega, by omega⟩, dXr⟩, ?_⟩
    rw [if_pos (by rw [d4, d5]; omega)]
    refine r264s (fun τ t1 t2 => ?_)
    have rA' : rgw c1 c2 em p (τ 204) Bb := rgw_cg rB (fun n n0 n1 => (t2 n n0 n1).1)
    have rB' : rgw c1 c2 em p (τ 205) Aa := rgw_cg rA (fun n n0 n1 => (t2 n n0 n1).2)
    refine hL τ ⟨fun q j w => by rw [t1 q j (by omega) (by omega)]; exact s1 q j w, Bb, Aa, rA', rB', Or.inr ⟨Bb, Aa, m, n, m, hg, hf, yg, yf, by omega, by omega, eu_in H1 H2 pg pf hg hf (by omega) (by omega) yg yf (fun D _ => ⟨fun w => ⟨w.2, w.1⟩, fun w => ⟨w.2, w.1⟩⟩)⟩⟩ ?_
    rw [d4, d5, dX rA' hg, dX rB' hf, if_neg (by omega), if_pos (by omega)]
    omega
  · obtain ⟨dA, pA, pB, hD, UA, VA, UB, VB, ca, cb, δ, HA, HB, ca0, cb0, δ0, ea, eb, ed, ya, yb, hE⟩ := hO
    by_cases hz : degX (s 205) = -1
    · rw [if_pos hz]
      have b0 : Bb = 0 := by
        rcases rgw_dX H1 H2 E rB with ⟨w, -⟩ | ⟨d', w1, -, w⟩
        · exact w
        · omega
      have he' : rpw c1 em p (s 210) 2304 e := rpw_cg he (fun i _ => s1 210 i (by omega))
      rw [z1 (s 210)]
      refine ⟨⟨by decide, fun j j0 j1 => by rw [Int.zero_add]; exact (rgr E he' j0 j1).2.2⟩, ?_⟩
      intro x1 ex1
      rw [ex1]
      have hAA := (hD Aa pA).mp ⟨dv_refl Aa, by rw [b0]; exact dv_0 Aa⟩
      have yA : hlt c1 c2 Aa 16 := by
        obtain ⟨q, eq⟩ := hAA.1
        have q0 : q ≠ 0 := fun w => prim_nz H1 H2 pf (by rw [eq, w]; grind)
        exact hlt_fac H1 H2 (b := q) (by rw [← eq]; exact yf) q0
      refine r264f H1 H2 E s5 rA he' de yA (fun τ t1 t2 => ?_)
      exact hK τ Aa (fun q j w => by rw [t1 q j (by omega) (by omega)]; exact s1 q j w) t2 hAA.1 hAA.2 (fun D pD w1 w2 => ((hD D pD).mpr ⟨w1, w2⟩).1)
    · rw [if_neg hz]
      rcases rgw_dX H1 H2 E rB with ⟨-, w⟩ | ⟨e', w1, dB, wd⟩
      · exact absurd w hz
      · obtain ⟨q1, q2, q3, q4, q5, q6, q7, q8, q9⟩ := hE e' dB
        have pB' : prim c2 Bb := by
          rcases pB with w | w
          · exact absurd w (isDg_nz H2 dB)
          · exact w
        refine r264i H1 H2 E hp s5 rA rB pA dA dB q1 ya yb q5 ca0 cb0 δ0 ea eb ed q6 q7 q8 q9 (fun τ A' t1 t2 t3 t4 t5 ⟨U, V, c, δ', v1, v2, v3, v4, v5, v6⟩ t7 => ?_)
        have u0 := q8 0 (by omega)
        have u1 := q9 0 (by omega)
        rw [show X ^ 0 * UB = UB by grind] at u0
        rw [show X ^ 0 * VB = VB by grind] at u1
        refine hL τ ⟨fun q j w => by rw [t1 q j w]; exact s1 q j w, Bb, A', t2, t3, Or.inr ⟨f', g', n', m', e', hf', hg', yf', yg', n15, m15, eu_nx (UA := UA) (VA := VA) (Aa := Aa) (ca := ca) (δ := δ) (a := a) (HA := HA) H1 H2 n15 m15 hf' hg' yf' yg' dB pB' t4 t5 (fun D pD => ?_) cb0 v1 v2 eb v3 v4 yb q2 q3 q4 u0 u1 v5 v6⟩⟩ ?_
        · rw [← hD D pD, ← t7 D pD]
          exact ⟨fun w => ⟨w.2, w.1⟩, fun w => ⟨w.2, w.1⟩⟩
        · have d4 := dX rA dA
          have d4' := dX t2 dB
          have d5' : degX (τ 205) < (e' : Int) := by
            rcases rgw_dX H1 H2 E t3 with ⟨-, w⟩ | ⟨d', w1, w2, w⟩
            · omega
            · have := isDg_lt w2 t5; omega
          rw [d4, wd, d4', if_neg (by omega), if_neg (by omega)]
          omega
