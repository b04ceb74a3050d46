/-! ===== the reference: a row goes by another one; content; primitive part ===== -/
theorem r258 {K1 R : Type} [Lean.Grind.Field K1] [Lean.Grind.CommRing R] {c1 : R → Nat → K1} {k1 : K1 → R} {Y : R} (H1 : IsPol c1 k1 Y) {p : Int} {em : Int → K1} (E : isEm p em) {B : va_E} {σ : l2_m} {K : Int → l2_m → Prop} (hp : isPr p) {o1 o2 o3 : Nat} (ho1 : l2_al o1 = some 2304) (ho2 : l2_al o2 = some 2304) (ho3 : l2_al o3 = some 2304) (n1 : o1 ≠ o2) (n2 : o1 ≠ o3) (n3 : o2 ≠ o3) (g1 : 186 < o1) (g3 : 186 < o3) (h5 : σ 186 5 = p) {r o : R} (hr : rpw c1 em p (σ o1) 2304 r) (ho : rpw c1 em p (σ o2) 2304 o) (o0 : o ≠ 0) (hdv : dv o r) (hK : ∀ (τ : l2_m) (q : R), (∀ b j, b ≠ o1 → b ≠ o3 → τ b j = σ b j) → rpw c1 em p (τ o3) 2304 q → r = q * o → K 0 τ) : wC B 258 [vr 186, vr o1, vr o2, vr o3] σ K := by
  have p2 := E.1
  have p97 := E.2.1
  have z1 : ∀ u : Int → Int, (fun j => u (0 + j)) = u := fun u => funext (fun j => by rw [Int.zero_add])
  refine o258 ho1 ho2 ho3 ?_
  unfold w258
  refine ⟨⟨by decide, fun j j0 j1 => by rw [Int.zero_add]; exact (rgr E ho j0 j1).2.2⟩, ?_⟩
  intro x4 ex4
  rw [z1 (σ o2)] at ex4
  have T := rpw_t23 H1 E ho
  rw [← ex4] at T
  have x40 : 0 ≤ x4 := by
    rcases Int.lt_or_le x4 0 with w | w
    · exact absurd (T.2.2.1 w) o0
    · exact w
  refine ⟨⟨x40, T.2.1⟩, ?_⟩
  obtain ⟨t, rfl⟩ : ∃ t : Nat, x4 = (t : Int) := ⟨x4.toNat, by omega⟩
  have dO := T.2.2.2 x40
  rw [Int.toNat_natCast] at dO
  have v0 := ho.1 t (by omega)
  have v1 : σ o2 (t : Int) ≠ 0 := fun w => dO.1 (by rw [v0.2.2, w]; exact em_z E)
  obtain ⟨i0, i1, i2⟩ := ivp_ok hp (c := σ o2 (t : Int)) (by omega) v0.2.1
  refine r226 h5 hp (by omega) v0.2.1 ?_
  obtain ⟨iv, eiv⟩ : ∃ iv : Int, iv = ivp p (σ o2 (t : Int)) := ⟨_, rfl⟩
  rw [← eiv] at i0 i1 i2 ⊢
  have e8 : em (σ o2 t) * em iv = 1 := by rw [← E.2.2.2.1, ← em_md E, i2]; exact E.2.2.2.2.1
  unfold w258_20
  refine lz2_inv (fun (x : Int) s => 0 ≤ x ∧ x ≤ 2304 ∧ (∀ b j, b ≠ o3 → s b j = σ b j) ∧ (∀ j : Int, 0 ≤ j → j < x → s o3 j = 0)) (fun x _ => 2304 - x) ?_ ⟨by decide, by decide, fun _ _ _ => rfl, fun j _ _ => by omega⟩
  intro X0 x s hX0 ⟨x0, x1, s1, s2⟩
  refine ⟨⟨by omega, by omega⟩, ?_⟩
  by_cases hx : x < 2304
  · rw [if_pos hx]
    refine ⟨⟨x0, hx⟩, ?_⟩
    intro s' es'
    refine hX0 _ s' ⟨by omega, by omega, fun b j w => by rw [es', l2_u_ne w]; exact s1 b j w, fun j j0 j1 => ?_⟩ (by omega)
    by_cases hj : j = x
    · rw [es', hj, l2_u_self]
    · rw [es', l2_u_nj hj]; exact s2 j j0 (by omega)
  · rw [if_neg hx]
    have hr1 : rpw c1 em p (s o1) 2304 r := rpw_cg hr (fun i _ => s1 o1 i n2)
    refine ⟨⟨by decide, fun j j0 j1 => by rw [Int.zero_add]; exact (rgr E hr1 j0 j1).2.2⟩, ?_⟩
    intro x6 ex6
    rw [z1 (s o1)] at ex6
    have T6 := rpw_t23 H1 E hr1
    rw [← ex6] at T6
    have q0 : rpw c1 em p (s o3) 2304 (0 : R) := ⟨fun i hi => by rw [s2 i (by omega) (by omega), po_0 H1, em_z E]; exact ⟨by omega, by omega, rfl⟩, dlt_0 H1 _⟩
    have dr : dlt c1 r (x6 + 1).toNat := by
      rcases Int.lt_or_le x6 0 with w | w
      · rw [T6.2.2.1 w]; exact dlt_0 H1 _
      · exact dlt_mono (T6.2.2.2 w).2 (by omega)
    unfold w258_46
    refine lz2_inv (fun (x : Int) s => -1 ≤ x ∧ x < 2304 ∧ (∀ b j, b ≠ o1 → b ≠ o3 → s b j = σ b j) ∧ ∃ q : R, rpw c1 em p (s o3) 2304 q ∧ (∀ j : Nat, (j : Int) ≤ x - t → c1 q j = 0) ∧ rpw c1 em p (s o1) 2304 (r - q * o) ∧ dlt c1 (r - q * o) (x + 1).toNat) (fun x _ => x + 1) ?_ ⟨T6.1, T6.2.1, fun b j _ w' => s1 b j w', 0, q0, fun j _ => po_0 H1 j, ?_, ?_⟩
    rotate_left
    · rw [show r - 0 * o = r by grind]; exact hr1
    · rw [show r - 0 * o = r by grind]; exact dr
    intro X' x s hX ⟨x0, x1, s1, q, s2, sz, s3, s4⟩
    refine ⟨⟨⟨by omega, by omega⟩, ⟨by omega, by omega⟩⟩, ?_⟩
    have s5 : s 186 5 = p := (s1 186 5 (by omega) (by omega)).trans h5
    by_cases hx : x < t
    · rw [if_pos hx]
      refine hK s q s1 s2 ?_
      have hd : dv o (r - q * o) := dv_sub hdv (dv_mul q (dv_refl o))
      obtain ⟨y, ey⟩ := hd
      have hz : r - q * o = 0 := by
        by_cases hy : y = 0
        · rw [ey, hy]; grind
        · obtain ⟨m, hm⟩ := po_dg H1 hy
          have h1 := isDg_mul H1 fld_dom dO hm
          rw [← ey] at h1
          have := isDg_lt h1 s4
          omega
      grind
    · rw [if_neg hx]
      obtain ⟨X0', rfl⟩ : ∃ X0' : Nat, x = (X0' : Int) := ⟨x.toNat, by omega⟩
      obtain ⟨e, rfl⟩ : ∃ e : Nat, X0' = e + t := ⟨X0' - t, by omega⟩
      have u0 := s3.1 (e + t) (by omega)
      have g2 : 0 ≤ s o1 ((e + t : Nat) : Int) * iv := Int.mul_nonneg u0.1 (by omega)
      have g4 : s o1 ((e + t : Nat) : Int) * iv ≤ 97 * 97 := Int.mul_le_mul (by omega) (by omega) (by omega) (by omega)
      rw [s5]
      refine ⟨⟨by omega, by omega, ⟨by omega, by omega⟩, ⟨by omega, by omega⟩, by omega, g2⟩, ?_⟩
      intro x7 ex7
      have m0 := Int.emod_nonneg (s o1 ((e + t : Nat) : Int) * iv) (show p ≠ 0 by omega)
      have m1 := Int.emod_lt_of_pos (s o1 ((e + t : Nat) : Int) * iv) (show 0 < p by omega)
      have e7 : em x7 = c1 (r - q * o) (e + t) * em iv := by rw [ex7, em_md E, E.2.2.2.1, u0.2.2]
      refine ⟨⟨by omega, by omega⟩, ?_⟩
      by_cases h7 : x7 = 0
      · rw [if_pos h7]
        refine hX _ s ⟨by omega, by omega, s1, q, s2, fun j hj => sz j (by omega), s3, fun i hi => ?_⟩ (by omega)
        by_cases hie : i = e + t
        · rw [hie]
          rw [h7, em_z E] at e7
          have : em (σ o2 t) ≠ 0 := fun w => dO.1 (by rw [v0.2.2]; exact w)
          grind
        · exact s4 i (by omega)
      · rw [if_neg h7]
        rw [show ((e + t : Nat) : Int) - t = (e : Int) by omega]
        refine ⟨⟨by omega, by omega⟩, ?_⟩
        intro w ew
        have hq' : rpw c1 em p (w o3) 2304 (q + k1 (em x7) * Y ^ e) := by
          refine ⟨fun i hi => ?_, dlt_add H1 s2.2 (dlt_mono (dlt_mo H1 _ e) (by omega))⟩
          rw [po_a H1, po_mo H1]
          by_cases hie : i = e
          · rw [hie, ew, l2_u_self, if_pos rfl, sz e (by omega)]
            exact ⟨by omega, by omega, by grind⟩
          · have a0 := s2.1 i hi
            rw [ew, l2_u_nj (by omega), if_neg hie]
            exact ⟨a0.1, a0.2.1, by rw [a0.2.2]; grind⟩
        have w1 : ∀ b j, b ≠ o1 → b ≠ o3 → w b j = σ b j := fun b j z z' => by rw [ew, l2_u_ne z']; exact s1 b j z z'
        have w3 : ∀ j, w o1 j = s o1 j := fun j => by rw [ew, l2_u_ne n2]
        unfold w258_87
        refine lz2_inv (fun (y : Int) z => 0 ≤ y ∧ y ≤ t + 1 ∧ (∀ b j, b ≠ o1 → z b j = w b j) ∧ (∀ i : Nat, (i : Int) < y → z o1 ((e : Int) + i) = (s o1 ((e : Int) + i) + (p - x7) * σ o2 i) % p) ∧ (∀ j : Int, (j < e ∨ (e : Int) + y ≤ j) → z o1 j = s o1 j)) (fun y _ => t + 1 - y) ?_ ⟨by omega, by omega, fun _ _ _ => rfl, fun i hi => by omega, fun j _ => w3 j⟩
        intro Z y z hZ ⟨y0, y1, z1', z2, z3⟩
        refine ⟨⟨⟨by omega, by omega⟩, ⟨by omega, by omega⟩⟩, ?_⟩
        by_cases hy : (t : Int) < y
        · rw [if_pos hy]
          have ho' : rpw c1 em p (σ o2) 2304 o := ho
          have key : rpw c1 em p (z o1) 2304 (r - q * o + k1 (em (p - x7)) * (Y ^ e * o)) := rpw_st H1 E (s := e) (m := p - x7) s3 ho' dO.2 (by omega) (fun i hi => by
            rw [show ((e + i : Nat) : Int) = (e : Int) + i by omega]; exact z2 i (by omega)) (fun j hj hjs => z3 j (by omega))
          have ep : em (p - x7) = - em x7 := by rw [em_sb E, em_p E]; grind
          have eq : r - q * o + k1 (em (p - x7)) * (Y ^ e * o) = r - (q + k1 (em x7) * Y ^ e) * o := by rw [ep, po_kneg H1]; grind
          refine hX _ z ⟨by omega, by omega, fun b j a a' => by rw [z1' b j a]; exact w1 b j a a', q + k1 (em x7) * Y ^ e, rpw_cg hq' (fun i _ => z1' o3 i (Ne.symm n2)), fun j hj => ?_, by rw [← eq]; exact key, ?_⟩ (by omega)
          · rw [po_a H1, po_mo H1, sz j (by omega), if_neg (by omega)]; grind
          · rw [← eq]
            intro i hi
            rw [po_a H1, po_km H1]
            by_cases hie : i = e + t
            · rw [hie, show c1 (Y ^ e * o) (e + t) = c1 o t by rw [show e + t = t + e by omega, po_x H1], ep, e7, v0.2.2]
              grind
            · have h1 : c1 (r - q * o) i = 0 := s4 i (by omega)
              have h2 : c1 (Y ^ e * o) i = 0 := dlt_x H1 e dO.2 i (by omega)
              rw [h1, h2]; grind
        · rw [if_neg hy]
          obtain ⟨f, rfl⟩ : ∃ f : Nat, y = (f : Int) := ⟨y.toNat, by omega⟩
          have a0 := s3.1 (e + f) (by omega)
          rw [show ((e + f : Nat) : Int) = (e : Int) + f by omega] at a0
          have b0 := ho.1 f (by omega)
          have ez : z o1 ((e : Int) + f) = s o1 ((e : Int) + f) := z3 _ (by omega)
          have eo : z o2 (f : Int) = σ o2 f := by rw [z1' o2 f (Ne.symm n1)]; exact w1 o2 f (Ne.symm n1) n3
          have z5 : z 186 5 = p := by rw [z1' 186 5 (by omega), w1 186 5 (by omega) (by omega)]; exact h5
          rw [show ((e + t : Nat) : Int) - t + f = (e : Int) + f by omega, ez, eo, z5]
          have g4 : 0 ≤ (p - x7) * σ o2 f := Int.mul_nonneg (by omega) b0.1
          have g5 : (p - x7) * σ o2 f ≤ 97 * 97 := Int.mul_le_mul (by omega) (by omega) b0.1 (by omega)
          refine ⟨⟨by omega, by omega, by omega, by omega, ⟨by omega, by omega⟩, ⟨by omega, by omega⟩, by omega, by omega⟩, ?_⟩
          intro z' ez'
          refine hZ _ z' ⟨by omega, by omega, fun b j a => by rw [ez', l2_u_ne a]; exact z1' b j a, fun i hi => ?_, fun j hj => ?_⟩ (by omega)
          · by_cases hif : i = f
            · rw [ez', hif, l2_u_self]
            · rw [ez', l2_u_nj (by omega)]; exact z2 i (by omega)
          · rw [ez', l2_u_nj (by omega)]; exact z3 j (by omega)
/-- 16 rows of 2304 cells hold a polynomial -/
def rgw {K1 R A : Type} [Lean.Grind.Field K1] [Lean.Grind.CommRing R] (c1 : R → Nat → K1) (c2 : A → Nat → R) (em : Int → K1) (p : Int) (u : Int → Int) (a : A) : Prop := (∀ i : Nat, i < 16 → rpw c1 em p (fun j => u (2304 * (i : Int) + j)) 2304 (c2 a i)) ∧ dlt c2 a 16
theorem rgw_cg {K1 R A : Type} [Lean.Grind.Field K1] [Lean.Grind.CommRing R] [Lean.Grind.CommRing A] {c1 : R → Nat → K1} {c2 : A → Nat → R} {em : Int → K1} {p : Int} {u v : Int → Int} {a : A} (h : rgw c1 c2 em p u a) (e : ∀ n : Int, 0 ≤ n → n < 36864 → v n = u n) : rgw c1 c2 em p v a := ⟨fun i hi => rpw_cg (h.1 i hi) (fun j hj => e _ (by omega) (by omega)), h.2⟩
theorem rgw_rg {K1 R A : Type} [Lean.Grind.Field K1] [Lean.Grind.CommRing R] [Lean.Grind.CommRing A] {c1 : R → Nat → K1} {c2 : A → Nat → R} {p : Int} {em : Int → K1} (E : isEm p em) {u : Int → Int} {a : A} (h : rgw c1 c2 em p u a) (n : Int) (n0 : 0 ≤ n) (n1 : n < 36864) : 0 ≤ u n ∧ u n < p ∧ rg (u n) := by
  have h1 := rgr E (h.1 (n / 2304).toNat (by omega)) (j := n % 2304) (by omega) (by omega)
  have h2 : 0 ≤ u (2304 * (((n / 2304).toNat : Nat) : Int) + n % 2304) ∧ u (2304 * (((n / 2304).toNat : Nat) : Int) + n % 2304) < p ∧ rg (u (2304 * (((n / 2304).toNat : Nat) : Int) + n % 2304)) := h1
  rw [show 2304 * (((n / 2304).toNat : Nat) : Int) + n % 2304 = n by omega] at h2
  exact h2
theorem r261 {K1 R A : Type} [Lean.Grind.Field K1] [Lean.Grind.CommRing R] [Lean.Grind.CommRing A] {c1 : R → Nat → K1} {k1 : K1 → R} {Y : R} (H1 : IsPol c1 k1 Y) {c2 : A → Nat → R} {p : Int} {em : Int → K1} (E : isEm p em) {B : va_E} {σ : l2_m} {K : Int → l2_m → Prop} (hp : isPr p) {o1 o2 : Nat} (ho1 : l2_al o1 = some 36864) (ho2 : l2_al o2 = some 2304) (n1 : o1 ≠ o2) (n2 : o1 ≠ 208) (n3 : o2 ≠ 208) (g2 : 186 < o2) (h5 : σ 186 5 = p) {a : A} (ha : rgw c1 c2 em p (σ o1) a) (hK : ∀ (τ : l2_m) (d : R), (∀ q j, q ≠ o2 → q ≠ 208 → τ q j = σ q j) → rpw c1 em p (τ o2) 2304 d → isCt c2 a d → isMo c1 d → K 0 τ) : wC B 261 [vr 186, vr o1, vr o2] σ K := by
  have p2 := E.1
  have z1 : ∀ u : Int → Int, (fun j => u (0 + j)) = u := fun u => funext (fun j => by rw [Int.zero_add])
  refine o261 ho1 ho2 ?_
  unfold w261 w261_2
  refine lz2_inv (fun (x : Int) s => 0 ≤ x ∧ x ≤ 2304 ∧ (∀ b j, b ≠ o2 → s b j = σ b j) ∧ (∀ j : Int, 0 ≤ j → j < x → s o2 j = 0)) (fun x _ => 2304 - x) ?_ ⟨by decide, by decide, fun _ _ _ => rfl, fun j _ _ => by omega⟩
  intro X0 x s hX0 ⟨x0, x1, s1, s2⟩
  refine ⟨⟨by omega, by omega⟩, ?_⟩
  by_cases hx : x < 2304
  · rw [if_pos hx]
    refine ⟨⟨x0, hx⟩, ?_⟩
    intro s' es'
    refine hX0 _ s' ⟨by omega, by omega, fun b j w => by rw [es', l2_u_ne w]; exact s1 b j w, fun j j0 j1 => ?_⟩ (by omega)
    by_cases hj : j = x
    · rw [es', hj, l2_u_self]
    · rw [es', l2_u_nj hj]; exact s2 j j0 (by omega)
  · rw [if_neg hx]
    have q0 : rpw c1 em p (s o2) 2304 (0 : R) := ⟨fun i hi => by rw [s2 i (by omega) (by omega), po_0 H1, em_z E]; exact ⟨by omega, by omega, rfl⟩, dlt_0 H1 _⟩
    unfold w261_21
    refine lz2_inv (fun (x : Int) s => 0 ≤ x ∧ x ≤ 16 ∧ (∀ q j, q ≠ o2 → q ≠ 208 → s q j = σ q j) ∧ ∃ d : R, rpw c1 em p (s o2) 2304 d ∧ isMo c1 d ∧ ∀ e, dv e d ↔ ∀ i : Nat, (i : Int) < x → dv e (c2 a i)) (fun x _ => 16 - x) ?_ ⟨by decide, by decide, fun b j w _ => s1 b j w, 0, q0, Or.inl rfl, fun e => ⟨fun _ i hi => by omega, fun _ => dv_0 e⟩⟩
    intro X' x s hX ⟨x0, x1, s1, d, s2, s3, s4⟩
    have T := rpw_t23 H1 E s2
    rw [z1 (s o2)]
    refine ⟨⟨by omega, by omega⟩, fun _ => ⟨by decide, fun j j0 j1 => by rw [Int.zero_add]; exact (rgr E s2 j0 j1).2.2, ⟨by omega, by omega⟩⟩, ?_⟩
    by_cases hc : x < 16 ∧ ¬ top (s o2) 2304 = 0
    · rw [if_pos hc]
      obtain ⟨i, rfl⟩ : ∃ i : Nat, x = (i : Int) := ⟨x.toNat, by omega⟩
      refine ⟨⟨by omega, by omega⟩, ?_⟩
      intro s' es'
      have f1 : ∀ q j, q ≠ 208 → s' q j = s q j := fun q j w => by rw [es']; unfold cpR; rw [if_neg (fun h => w h.1)]
      have r1 : rpw c1 em p (s' 208) 2304 (c2 a i) := rpw_cg (ha.1 i (by omega)) (fun j hj => by
        rw [es']; unfold cpR; rw [if_pos ⟨rfl, by omega, by omega⟩]; exact s1 o1 _ n1 n2)
      refine r260 H1 E hp ho2 rfl n3 g2 (by decide) (by rw [f1 186 5 (by decide), s1 186 5 (by omega) (by decide)]; exact h5) (rpw_cg s2 (fun i _ => f1 o2 i n3)) r1 (fun τ r' t1 t2 t3 t4 => ?_)
      refine hX _ τ ⟨by omega, by omega, fun q j w w' => by rw [t1 q j w w', f1 q j w']; exact s1 q j w w', r', t2, t4, fun e => ?_⟩ (by omega)
      rw [t3 e, s4 e]
      refine ⟨fun w l hl => ?_, fun w => ⟨fun l hl => w l (by omega), w i (by omega)⟩⟩
      by_cases hli : l = i
      · rw [hli]; exact w.2
      · exact w.1 l (by omega)
    · rw [if_neg hc]
      refine hK s d s1 s2 ⟨fun i => ?_, fun e he => (s4 e).mpr (fun i _ => he i)⟩ s3
      by_cases hx16 : x < 16
      · have ht : top (s o2) 2304 = 0 := Classical.byContradiction (fun w => hc ⟨hx16, w⟩)
        have hd := T.2.2.2 (by omega)
        rw [ht] at hd
        exact unt_dv (fe_unt H1 hd) _
      · by_cases hi : i < 16
        · exact (s4 d).mp (dv_refl d) i (by omega)
        · rw [ha.2 i (by omega)]; exact dv_0 d
theorem r262 {K1 R A : Type} [Lean.Grind.Field K1] [Lean.Grind.CommRing R] [Lean.Grind.CommRing A] {c1 : R → Nat → K1} {k1 : K1 → R} {Y : R} (H1 : IsPol c1 k1 Y) {c2 : A → Nat → R} {k2 : R → A} {X : A} (H2 : IsPol c2 k2 X) {p : Int} {em : Int → K1} (E : isEm p em) {B : va_E} {σ : l2_m} {K : Int → l2_m → Prop} (hp : isPr p) {o1 : Nat} (ho1 : l2_al o1 = some 36864) (g1 : 186 < o1) (m1 : o1 < 206) (h5 : σ 186 5 = p) {a : A} (ha : rgw c1 c2 em p (σ o1) a) (hK : ∀ (τ : l2_m) (b : A), (∀ q j, q ≠ o1 → (q < 206 ∨ 209 < q) → τ q j = σ q j) → rgw c1 c2 em p (τ o1) b → (a = 0 → b = 0) → (a ≠ 0 → ∃ d, isCt c2 a d ∧ isMo c1 d ∧ d ≠ 0 ∧ a = k2 d * b ∧ prim c2 b) → K 0 τ) : wC B 262 [vr 186, vr o1] σ K := by
  have p2 := E.1
  have z1 : ∀ u : Int → Int, (fun j => u (0 + j)) = u := fun u => funext (fun j => by rw [Int.zero_add])
  refine o262 ho1 ?_
  unfold w262
  refine r261 H1 E hp ho1 rfl (by omega) (by omega) (by decide) (by decide) h5 ha (fun s1 d f1 r1 ct mo => ?_)
  have T := rpw_t23 H1 E r1
  rw [z1 (s1 206)]
  refine ⟨⟨by decide, fun j j0 j1 => by rw [Int.zero_add]; exact (rgr E r1 j0 j1).2.2, ⟨by omega, by omega⟩⟩, ?_⟩
  have ha1 : rgw c1 c2 em p (s1 o1) a := rgw_cg ha (fun n _ _ => f1 o1 n (by omega) (by omega))
  by_cases ht : top (s1 206) 2304 < 1
  · rw [if_pos ht]
    refine hK s1 a (fun q j w w' => f1 q j (by omega) (by omega)) ha1 (fun w => w) (fun a0 => ?_)
    obtain ⟨d0, a', ea, pa⟩ := ct_pp H1 H2 a0 ct
    have hd : isDg c1 d 0 := by
      rcases Int.lt_or_le (top (s1 206) 2304) 0 with w | w
      · exact absurd (T.2.2.1 w) d0
      · have h := T.2.2.2 w
        rw [show (top (s1 206) 2304).toNat = 0 by omega] at h
        exact h
    have hone : d = 1 := by
      rcases mo with w | ⟨t, t1, t2⟩
      · exact absurd w d0
      · have e0 := isDg_u t1 hd
        rw [e0] at t2
        have : d = k1 (c1 d 0) := po_ext H1 (fun i => by
          rw [po_ki H1]
          by_cases hi : i = 0
          · rw [if_pos hi, hi]
          · rw [if_neg hi]; exact hd.2 i (by omega))
        rw [this, t2]; exact po_kone H1
    have eaa : a = a' := by rw [ea, hone, po_kone H2]; grind
    exact ⟨d, ct, mo, d0, by rw [hone, po_kone H2]; grind, by rw [eaa]; exact pa⟩
  · rw [if_neg ht]
    have d0 : d ≠ 0 := isDg_nz H1 (T.2.2.2 (by omega))
    have a0 : a ≠ 0 := fun w => d0 (dv_z (ct.2 0 (fun i => by rw [w, po_0 H2]; exact dv_0 0)))
    obtain ⟨-, a', ea, pa⟩ := ct_pp H1 H2 a0 ct
    have ci : ∀ i, c2 a i = d * c2 a' i := fun i => by rw [ea, po_km H2]
    have D1 := po_dom H1 fld_dom
    unfold w262_24
    refine lz2_inv (fun (x : Int) s => 0 ≤ x ∧ x ≤ 16 ∧ (∀ q j, q ≠ o1 → q ≠ 207 → q ≠ 209 → s q j = s1 q j) ∧ (∀ i : Nat, i < 16 → (i : Int) < x → rpw c1 em p (fun j => s o1 (2304 * (i : Int) + j)) 2304 (c2 a' i)) ∧ (∀ n : Int, 2304 * x ≤ n → s o1 n = s1 o1 n)) (fun x _ => 16 - x) ?_ ⟨by decide, by decide, fun _ _ _ _ _ => rfl, fun i _ hi => by omega, fun _ _ => rfl⟩
    intro X' x s hX ⟨x0, x1, s2, s3, s4⟩
    refine ⟨⟨by omega, by omega⟩, ?_⟩
    by_cases hx : x < 16
    · rw [if_pos hx]
      obtain ⟨i, rfl⟩ : ∃ i : Nat, x = (i : Int) := ⟨x.toNat, by omega⟩
      refine ⟨⟨by omega, by omega⟩, ?_⟩
      intro t et
      have f2 : ∀ q j, q ≠ 207 → t q j = s q j := fun q j w => by rw [et]; unfold cpR; rw [if_neg (fun h => w h.1)]
      have r2 : rpw c1 em p (t 207) 2304 (c2 a i) := rpw_cg (ha1.1 i (by omega)) (fun j hj => by
        rw [et]; unfold cpR; rw [if_pos ⟨rfl, by omega, by omega⟩]; exact s4 _ (by omega))
      refine r258 H1 E hp rfl rfl rfl (by decide) (by decide) (by decide) (by decide) (by decide) (by rw [f2 186 5 (by decide), s2 186 5 (by omega) (by decide) (by decide), f1 186 5 (by decide) (by decide)]; exact h5) r2 (rpw_cg r1 (fun j _ => by rw [f2 206 j (by decide), s2 206 j (by omega) (by decide) (by decide)])) d0 ⟨_, ci i⟩ (fun t2 q f3 r3 eq => ?_)
      have eq2 : q = c2 a' i := dom_can D1 d0 (by rw [← ci i, eq]; grind)
      rw [eq2] at r3
      have g3 : ∀ q j, q ≠ 207 → q ≠ 209 → t2 q j = s q j := fun q j w w' => by rw [f3 q j w w', f2 q j w]
      unfold w262_61
      refine lz2_inv (fun (y : Int) z => 0 ≤ y ∧ y ≤ 2304 ∧ (∀ q j, q ≠ o1 → z q j = t2 q j) ∧ (∀ j : Int, 0 ≤ j → j < y → z o1 (2304 * (i : Int) + j) = t2 209 j) ∧ (∀ n : Int, (n < 2304 * (i : Int) ∨ 2304 * (i : Int) + y ≤ n) → z o1 n = s o1 n)) (fun y _ => 2304 - y) ?_ ⟨by decide, by decide, fun _ _ _ => rfl, fun j _ hi => by omega, fun n _ => g3 o1 n (by omega) (by omega)⟩
      intro Z y z hZ ⟨y0, y1, z1', z2, z3⟩
      refine ⟨⟨by omega, by omega⟩, ?_⟩
      by_cases hy : y < 2304
      · rw [if_pos hy]
        refine ⟨⟨y0, hy, by omega, by omega⟩, ?_⟩
        intro z' ez'
        refine hZ _ z' ⟨by omega, by omega, fun q j w => by rw [ez', l2_u_ne w]; exact z1' q j w, fun j j0 j1 => ?_, fun n hn => by rw [ez', l2_u_nj (by omega)]; exact z3 n (by omega)⟩ (by omega)
        by_cases hj : j = y
        · rw [ez', hj, l2_u_self]; exact z1' 209 y (by omega)
        · rw [ez', l2_u_nj (by omega)]; exact z2 j j0 (by omega)
      · rw [if_neg hy]
        refine hX _ z ⟨by omega, by omega, fun q j w w' w'' => by rw [z1' q j w, g3 q j w' w'']; exact s2 q j w w' w'', fun l hl hl' => ?_, fun n hn => by rw [z3 n (by omega)]; exact s4 n (by omega)⟩ (by omega)
        by_cases hli : l = i
        · rw [hli]
          exact rpw_cg r3 (fun j hj => z2 j (by omega) (by omega))
        · exact rpw_cg (s3 l hl (by omega)) (fun j hj => z3 _ (by omega))
    · rw [if_neg hx]
      refine hK s a' (fun q j w w' => by rw [s2 q j w (by omega) (by omega)]; exact f1 q j (by omega) (by omega)) ⟨fun i hi => s3 i hi (by omega), fun i hi => ?_⟩ (fun w => absurd w a0) (fun _ => ⟨d, ct, mo, d0, ea, pa⟩)
      have h := ha.2 i hi
      rw [ci i] at h
      rcases D1 _ _ h with w | w
      · exact absurd w d0
      · exact w
