/-! ===== Commons: strip, multiplyByRow ===== -/
theorem gpw_k {L R A : Type} [Lean.Grind.Field L] [Lean.Grind.CommRing R] [Lean.Grind.CommRing A] {c1 : R → Nat → L} {k1 : L → R} {Y : R} (H1 : IsPol c1 k1 Y) {c2 : A → Nat → R} {k2 : R → A} {X : A} (H2 : IsPol c2 k2 X) {p : Int} {em : Int → L} (E : isEm p em) {u : Int → Int} {d : R} (h : rpw c1 em p u 32 d) (hz : ∀ n : Int, 32 ≤ n → n < 512 → u n = 0) : gpw c1 c2 em p u (k2 d) := by
  have p2 := E.1
  refine ⟨fun i j hi hj => ?_, fun i j hij => ?_⟩
  · rw [po_ki H2]
    by_cases hc : i = 0
    · rw [if_pos hc, show (i : Int) * 32 + j = (j : Int) by omega]
      exact h.1 j hj
    · rw [if_neg hc, hz _ (by omega) (by omega), po_0 H1, em_z E]
      exact ⟨by decide, by omega, rfl⟩
  · rw [po_ki H2]
    by_cases hc : i = 0
    · rw [if_pos hc]; exact h.2 j (by omega)
    · rw [if_neg hc, po_0 H1]
theorem c29 {L R A : Type} [Lean.Grind.Field L] [Lean.Grind.CommRing R] [Lean.Grind.CommRing A] {c1 : R → Nat → L} {k1 : L → R} {Y : R} (H1 : IsPol c1 k1 Y) {c2 : A → Nat → R} {k2 : R → A} {X : A} (H2 : IsPol c2 k2 X) {p : Int} {em : Int → L} (E : isEm p em) {B : va_E} {σ : l2_m} {K : Int → l2_m → Prop} {o1 o2 : Nat} {f : A} {d : R} (ho1 : l2_al o1 = some 512) (ho2 : l2_al o2 = some 32) (n1 : o1 ≠ 118) (n2 : o2 ≠ 118) (hp : σ 34 0 = p) (hI : invOK σ 34 p) (hf : gpw c1 c2 em p (σ o1) f) (hd : rpw c1 em p (σ o2) 32 d) (d0 : d ≠ 0) (hdv : dv (k2 d) f) (hK : ∀ (τ : l2_m) (f1 : A), (∀ b j, b ≠ o1 → b ≠ 117 → b ≠ 118 → b ≠ 119 → τ b j = σ b j) → gpw c1 c2 em p (τ o1) f1 → f = f1 * k2 d → K 0 τ) : wC B 29 [vr 109, vr o1, vr o2] σ K := by
  refine o29 ho1 ho2 ?_
  unfold w29
  intro s1 es1 s2 es2
  have f1 : ∀ q j, q ≠ 118 → s2 q j = σ q j := fun q j w => by
    rw [es2]; unfold l2_cpy; rw [if_neg (fun h => w h.1), es1]; unfold fil; rw [if_neg (fun h => w h.1)]
  have f2 : ∀ n : Int, 0 ≤ n → n < 32 → s2 118 n = σ o2 n := fun n h h' => by
    rw [es2]; unfold l2_cpy; rw [if_pos ⟨rfl, by omega, by omega⟩, Int.sub_zero, Int.zero_add, es1]; unfold fil; rw [if_neg (fun h => n2 h.1)]
  have f3 : ∀ n : Int, 32 ≤ n → n < 512 → s2 118 n = 0 := fun n h h' => by
    rw [es2]; unfold l2_cpy; rw [if_neg (fun h => by omega), es1]; unfold fil; rw [if_pos ⟨rfl, by omega, by omega⟩]
  have g1 : gpw c1 c2 em p (s2 118) (k2 d) := gpw_k H1 H2 E (rpw_cg hd (fun i hi => f2 i (by omega) (by omega))) f3
  refine c30 H1 H2 E ho1 rfl (by decide) (by decide) ((f1 34 0 (by decide)).trans hp) (fun y h h' => by rw [f1 (34 + 1) y (by decide)]; exact hI y h h') (gpw_cg hf (fun n _ _ => f1 o1 n n1)) g1 (fun w => d0 (po_kinj H2 (by rw [w, po_kz H2]))) (fun τ q fr g e => ?_) (fun τ fr nd => absurd hdv nd)
  refine ⟨⟨by decide, by decide⟩, ?_⟩
  rw [if_neg (by decide)]
  intro z ez
  refine hK z q (fun b j w w7 w8 w9 => ?_) (gpw_cg g (fun n h h' => ?_)) e
  · rw [ez]; unfold l2_cpy; rw [if_neg (fun h => w h.1), fr b j w7 w9, f1 b j w8]
  · rw [ez]; unfold l2_cpy; rw [if_pos ⟨rfl, by omega, by omega⟩, Int.sub_zero, Int.zero_add]
theorem c32 {L R A : Type} [Lean.Grind.Field L] [Lean.Grind.CommRing R] [Lean.Grind.CommRing A] {c1 : R → Nat → L} {k1 : L → R} {Y : R} (H1 : IsPol c1 k1 Y) {c2 : A → Nat → R} {k2 : R → A} {X : A} (H2 : IsPol c2 k2 X) {p : Int} {em : Int → L} (E : isEm p em) {B : va_E} {σ : l2_m} {K : Int → l2_m → Prop} {o1 o2 o3 : Nat} {a : A} {d : R} (ho1 : l2_al o1 = some 512) (ho2 : l2_al o2 = some 32) (ho3 : l2_al o3 = some 512) (n1 : o1 ≠ o3) (n2 : o2 ≠ o3) (n3 : 113 < o3) (hp : σ 34 0 = p) (ha : gpw c1 c2 em p (σ o1) a) (hd : rpw c1 em p (σ o2) 32 d) (hh : hlt c1 c2 (k2 d * a) 32) (hK : ∀ τ : l2_m, (∀ b j, b ≠ o3 → τ b j = σ b j) → gpw c1 c2 em p (τ o3) (k2 d * a) → K 0 τ) : wC B 32 [vr 109, vr o1, vr o2, vr o3] σ K := by
  have p2 := E.1
  have p97 := E.2.1
  refine o32 ho1 ho2 ho3 ?_
  unfold w32
  intro s1 es1
  have f1 : ∀ q j, q ≠ o3 → s1 q j = σ q j := fun q j w => by rw [es1]; unfold fil; rw [if_neg (fun h => w h.1)]
  have f3 : ∀ n : Int, 0 ≤ n → n < 512 → s1 o3 n = 0 := fun n h h' => by rw [es1]; unfold fil; rw [if_pos ⟨rfl, by omega, by omega⟩]
  unfold w32_8
  refine lz2_inv (fun (x : Int) s => 0 ≤ x ∧ x ≤ 512 ∧ (∀ b j, b ≠ o3 → s b j = σ b j) ∧ ∃ r : Nat → R, (∀ i, i < 16 → ∀ j, c1 (r i) j = if j < 32 ∧ (i : Int) * 32 + j < x then c1 (c2 a i) j else 0) ∧ ∀ i j : Nat, i < 16 → j < 32 → 0 ≤ s o3 ((i : Int) * 32 + j) ∧ s o3 ((i : Int) * 32 + j) < p ∧ c1 (r i * d) j = em (s o3 ((i : Int) * 32 + j))) (fun x _ => 512 - x) ?_ ⟨by decide, by decide, f1, fun _ => 0, fun i _ j => by rw [if_neg (by omega), po_0 H1], fun i j hi hj => ?_⟩
  rotate_left
  · have e : (0 : R) * d = 0 := by grind
    rw [f3 _ (by omega) (by omega), e, po_0 H1, em_z E]
    exact ⟨by decide, by omega, rfl⟩
  intro Z x s hX ⟨x0, x1, s0, r, hr, hc⟩
  refine ⟨⟨by omega, by omega⟩, ?_⟩
  by_cases hx : x < 512
  · rw [if_pos hx]
    have es : s 34 0 = p := (s0 34 0 (by omega)).trans hp
    have u0 := gpw_c ha x0 hx
    obtain ⟨i4, e4⟩ : ∃ i4 : Nat, i4 = (x / 32).toNat := ⟨_, rfl⟩
    obtain ⟨J, eJ⟩ : ∃ J : Nat, J = (x % 32).toNat := ⟨_, rfl⟩
    rw [← e4, ← eJ] at u0
    have ex : x = (i4 : Int) * 32 + J := by omega
    unfold w32_19
    refine lz2_inv (fun (y : Int) z => 0 ≤ y ∧ y + J ≤ 32 ∧ (∀ b j, b ≠ o3 → z b j = σ b j) ∧ (∀ m : Int, 0 ≤ m → m < y → z o3 (x + m) = (s o3 (x + m) + σ o1 x * σ o2 m) % p) ∧ (∀ n : Int, (n < x ∨ x + y ≤ n) → z o3 n = s o3 n)) (fun y _ => 32 - y) ?_ ⟨by decide, by omega, s0, fun m _ _ => by omega, fun _ _ => rfl⟩
    intro W y z hZ ⟨y0, y1, z0, z2, z3⟩
    rw [z0 o1 x n1]
    refine ⟨⟨x0, hx, by omega, by omega⟩, fun _ => ⟨⟨by omega, by omega⟩, ⟨by omega, by omega⟩⟩, ?_⟩
    by_cases hb : σ o1 x = 0 ∨ ¬ (y + x % 32 < 32)
    · rw [if_pos hb]
      have kz : ∀ m : Int, 0 ≤ m → m + J < 32 → z o3 (x + m) = (s o3 (x + m) + σ o1 x * σ o2 m) % p := fun m h h' => by
        rcases Int.lt_or_le m y with w | w
        · exact z2 m h w
        · have hz : σ o1 x = 0 := by
            rcases hb with w' | w'
            · exact w'
            · omega
          have c0 := hc i4 (J + m.toNat) (by omega) (by omega)
          rw [show (i4 : Int) * 32 + ((J + m.toNat : Nat) : Int) = x + m by omega] at c0
          rw [hz, Int.zero_mul, Int.add_zero, Int.emod_eq_of_lt c0.1 c0.2.1]
          exact z3 _ (by omega)
      refine hX _ z ⟨by omega, by omega, z0, fun i => if i = i4 then r i + k1 (em (σ o1 x)) * Y ^ J else r i, fun i hi j => ?_, fun i j hi hj => ?_⟩ (by omega)
      · show c1 (if i = i4 then r i + k1 (em (σ o1 x)) * Y ^ J else r i) j = _
        by_cases h4 : i = i4
        · rw [if_pos h4, po_a H1, po_mo H1, hr i hi j]
          by_cases hj : j = J
          · rw [if_pos hj, if_neg (by omega), if_pos (by omega), h4, hj, u0.2.2]; grind
          · rw [if_neg hj]
            by_cases hl : j < 32 ∧ (i : Int) * 32 + j < x
            · rw [if_pos hl, if_pos (by omega)]; grind
            · rw [if_neg hl, if_neg (by omega)]; grind
        · rw [if_neg h4, hr i hi j]
          by_cases hl : j < 32 ∧ (i : Int) * 32 + j < x
          · rw [if_pos hl, if_pos (by omega)]
          · rw [if_neg hl, if_neg (by omega)]
      · show _ ∧ _ ∧ c1 ((if i = i4 then r i + k1 (em (σ o1 x)) * Y ^ J else r i) * d) j = _
        have c0 := hc i j hi hj
        by_cases h4 : i = i4
        · have e : (r i + k1 (em (σ o1 x)) * Y ^ J) * d = r i * d + k1 (em (σ o1 x)) * (Y ^ J * d) := by grind
          rw [if_pos h4, e, po_a H1, po_km H1, c0.2.2]
          by_cases hj' : J ≤ j
          · obtain ⟨l, rfl⟩ : ∃ l, j = l + J := ⟨j - J, by omega⟩
            have k0 := kz (l : Int) (by omega) (by omega)
            rw [show x + (l : Int) = (i : Int) * 32 + ((l + J : Nat) : Int) by omega] at k0
            rw [k0, po_x H1, (hd.1 l (by omega)).2.2]
            exact ⟨Int.emod_nonneg _ (by omega), Int.emod_lt_of_pos _ (by omega), by rw [em_md E, E.2.2.1, E.2.2.2.1]⟩
          · rw [z3 _ (by omega), po_xl H1 _ _ _ (by omega)]
            exact ⟨c0.1, c0.2.1, by grind⟩
        · rw [if_neg h4, z3 _ (by omega)]
          exact c0
    · rw [if_neg hb]
      have b0 := rgr E hd y0 (show y < ((32 : Nat) : Int) by omega)
      have c0 := hc i4 (J + y.toNat) (by omega) (by omega)
      rw [show (i4 : Int) * 32 + ((J + y.toNat : Nat) : Int) = x + y by omega] at c0
      rw [z0 34 0 (by omega), hp, z3 (x + y) (by omega), z0 o2 y n2]
      have g3 : 0 ≤ σ o1 x * σ o2 y := Int.mul_nonneg u0.1 b0.1
      have g4 : σ o1 x * σ o2 y ≤ 97 * 97 := Int.mul_le_mul (by omega) (by omega) b0.1 (by omega)
      refine ⟨⟨by omega, by omega, by omega, by omega, by omega, by omega, ⟨by omega, by omega⟩⟩, ?_⟩
      intro z' ez'
      refine hZ _ z' ⟨by omega, by omega, fun b j w => by rw [ez', l2_u_ne w]; exact z0 b j w, fun m m0 m1 => ?_, fun n hn => ?_⟩ (by omega)
      · by_cases hm : m = y
        · rw [ez', hm, l2_u_self]
        · have hj : x + m ≠ x + y := by omega
          rw [ez', l2_u_nj hj]; exact z2 m m0 (by omega)
      · have hj : n ≠ x + y := by omega
        rw [ez', l2_u_nj hj]; exact z3 n (by omega)
  · rw [if_neg hx]
    have er : ∀ i, i < 16 → r i = c2 a i := fun i hi => po_ext H1 (fun j => by
      rw [hr i hi j]
      by_cases hj : j < 32
      · rw [if_pos ⟨hj, by omega⟩]
      · rw [if_neg (fun w => hj w.1), ha.2 i j (by omega)])
    refine hK s s0 ⟨fun i j hi hj => ?_, fun i j hij => ?_⟩
    · have c0 := hc i j hi hj
      have e : d * c2 a i = c2 a i * d := by grind
      rw [po_km H2, e, ← er i hi]
      exact c0
    · rcases hij with w | w
      · rw [po_km H2, gpw_d H1 ha i w]
        have e : d * (0 : R) = 0 := by grind
        rw [e, po_0 H1]
      · exact hh i j w
