/-! ===== the reference reads: terms, polynomials ===== -/
section RU
variable {B : va_E} {T : Int → Int} {n s : Int} {σ : l2_m} {K : Int → l2_m → Prop}
theorem tk1 (hs : s ≤ n) (h : tK T n s = 1) : tA T n s < tE T n s ∧ tE T n s - tA T n s ≤ 5 ∧ ∀ j : Int, tA T n s ≤ j → j < tE T n s → isL (T j) := by
  obtain ⟨a, e, ha, e1, e2, h1, h2, h3, hh⟩ := tk_all (T := T) hs
  rw [e1, e2]
  rcases hh with ⟨z1, z2, z3, -⟩ | ⟨z1, z2, z4, z5, z3, -⟩ | ⟨z1, z2, -, -, z5, z3, z4⟩ | ⟨z1, z2, -, -, z3, z4⟩
  · rw [z3] at h; cases h
  · rw [z3] at h
    split at h
    · rename_i h5; exact ⟨z2, h5, z5.2.2.1⟩
    · cases h
  · rw [z3] at h; split at h <;> cases h
  · rw [z3] at h; split at h <;> cases h
theorem tk3S (hs : s ≤ n) (h : tK T n s = 3) : isS (tV T n s) := by
  obtain ⟨a, e, ha, e1, e2, h1, h2, h3, hh⟩ := tk_all (T := T) hs
  rcases hh with ⟨z1, z2, z3, -⟩ | ⟨z1, z2, z4, z5, z3, -⟩ | ⟨z1, z2, -, -, z5, z3, z4⟩ | ⟨z1, z2, -, -, z3, z4⟩
  · rw [z3] at h; cases h
  · rw [z3] at h; split at h <;> cases h
  · rw [z3] at h; split at h <;> cases h
  · rw [z3] at h
    split at h
    · rename_i h5; rw [z4]; exact h5
    · cases h
theorem kR_c {k v : Int} (k0 : 0 ≤ k) (k4 : k ≤ 4) (hv : k = 3 → isS v) : (kR k v = 1 ↔ k = 0) ∧ (kR k v = 2 ↔ k = 1) ∧ (kR k v = 3 ↔ k = 2) ∧ (kR k v = 4 ↔ (k = 3 ∧ v = 59)) ∧ (kR k v = 5 ↔ (k = 3 ∧ v = 43)) ∧ (kR k v = 6 ↔ (k = 3 ∧ v = 45)) ∧ 0 ≤ kR k v ∧ kR k v ≤ 6 := by
  unfold kR
  rcases (show k = 0 ∨ k = 1 ∨ k = 2 ∨ k = 3 ∨ k = 4 by omega) with h | h | h | h | h
  · rw [if_pos h]; omega
  · rw [if_neg (by omega), if_pos h]; omega
  · rw [if_neg (by omega), if_neg (by omega), if_pos h]; omega
  · rw [if_neg (by omega), if_neg (by omega), if_neg (by omega), if_pos h]
    rcases hv h with z | z | z
    · rw [if_pos z]; omega
    · rw [if_neg (by omega), if_pos z]; omega
    · rw [if_neg (by omega), if_neg (by omega)]; omega
  · rw [if_neg (by omega), if_neg (by omega), if_neg (by omega), if_neg (by omega)]; omega
theorem RS_k (h : RS0 T n s σ) : (σ 186 19 = 1 ↔ tK T n s = 0) ∧ (σ 186 19 = 2 ↔ tK T n s = 1) ∧ (σ 186 19 = 3 ↔ tK T n s = 2) ∧ (σ 186 19 = 4 ↔ sgS T n s 59) ∧ (σ 186 19 = 5 ↔ sgS T n s 43) ∧ (σ 186 19 = 6 ↔ sgS T n s 45) ∧ 0 ≤ σ 186 19 ∧ σ 186 19 ≤ 6 := by
  obtain ⟨h1, s0, sn, h22, h18, h20, h19, h21, h23⟩ := h
  rw [h19]
  have hb := tE_b (T := T) sn
  exact kR_c hb.2.2.2.2.2.1 hb.2.2.2.2.2.2 (fun w => tk3S sn w)
theorem RS_b (h : RS0 T n s σ) : 0 ≤ tA T n s ∧ tA T n s ≤ tE T n s ∧ tE T n s ≤ n ∧ n ≤ 700 ∧ s ≤ tA T n s ∧ (tK T n s ≠ 0 → tA T n s < tE T n s) := by
  obtain ⟨⟨-, -, h7, -⟩, s0, sn, -⟩ := h
  obtain ⟨b1, b2, b3, b4, b5, b6, b7⟩ := tE_b (T := T) sn
  exact ⟨by omega, b2, b3, h7, b1, b4⟩
theorem RS_fr {τ : l2_m} (h : RS T n s σ) (f : ∀ b j, b = 189 ∨ (b = 186 ∧ 17 ≤ j ∧ j ≤ 23) → τ b j = σ b j) : RS T n s τ := by
  obtain ⟨⟨h1, s0, sn, h22, h18, h20, h19, h21, h23⟩, q0, q1⟩ := h
  exact ⟨⟨TR_fr h1 (fun b j z => f b j (by omega)), s0, sn, by rw [f 186 22 (by omega)]; exact h22, by rw [f 186 18 (by omega)]; exact h18, by rw [f 186 20 (by omega)]; exact h20, by rw [f 186 19 (by omega)]; exact h19, fun w => by rw [f 186 21 (by omega)]; exact h21 w, fun w => by rw [f 186 23 (by omega)]; exact h23 w⟩, by rw [f 186 23 (by omega)]; exact q0, by rw [f 186 23 (by omega)]; exact q1⟩
theorem RF_fr {f a : Int} {τ : l2_m} (h : RF f a σ) (g : ∀ b j, b = 186 ∧ 17 ≤ j ∧ j ≤ 23 → τ b j = σ b j) : RF f a τ := by
  obtain ⟨h1, h2, h3, h4, h5, h6, h7⟩ := h
  exact ⟨by rw [g 186 22 (by omega)]; exact h1, h2, h3, by rw [g 186 20 (by omega)]; exact h4, by rw [g 186 19 (by omega)]; exact h5, by rw [g 186 23 (by omega)]; exact h6, by rw [g 186 23 (by omega)]; exact h7⟩
theorem nxt (h : RS T n s σ) (hK : ∀ τ : l2_m, frN σ τ → RS T n (tE T n s) τ → K 0 τ) : wC B 175 [vr 186] σ K := by
  have hb := RS_b h.1
  obtain ⟨⟨h1, s0, sn, h22, h18, -⟩, q0, q1⟩ := h
  refine r175 (s := tE T n s) h1 h22 (by omega) (by omega) h18 (fun τ f1 f2 f3 => hK τ (fun b j w => f1 b j (by omega)) ⟨f2, f3 ⟨q0, q1⟩⟩)
theorem nxtF {f a : Int} (h : RF f a σ) (hK : K 0 σ) : wC B 175 [vr 186] σ K := by
  obtain ⟨h1, h2, h3, -⟩ := h
  refine o175 ?_
  unfold w175
  rw [h1]
  refine ⟨⟨by omega, by omega⟩, ?_⟩
  rw [if_pos h2]
  exact hK
theorem flw_at (σ : l2_m) (f : Int) (b : Nat) (j : Int) : flw σ f b j = if b = 186 ∧ j = 19 then 0 else if b = 186 ∧ j = 22 then (if σ 186 22 = 0 then f else σ 186 22) else σ b j := rfl
theorem RS_flw {f : Int} {τ : l2_m} (h : RS T n s σ) (f0 : 0 < f) (f1 : f < 100) (e : τ = flw σ f) : RF f (tA T n s) τ ∧ frN σ τ := by
  obtain ⟨⟨h1, s0, sn, h22, h18, h20, h19, h21, h23⟩, q0, q1⟩ := h
  have hb := tE_b (T := T) sn
  have h700 := h1.2.2.1
  refine ⟨⟨?_, f0, ⟨f1, by omega, by omega⟩, ?_, ?_, ?_, ?_⟩, fun b j w => ?_⟩
  · rw [e, flw_at, if_neg (by decide), if_pos ⟨rfl, rfl⟩, if_pos h22]
  · rw [e, flw_at, if_neg (by decide), if_neg (by decide)]; exact h20
  · rw [e, flw_at, if_pos ⟨rfl, rfl⟩]
  · rw [e, flw_at, if_neg (by decide), if_neg (by decide)]; exact q0
  · rw [e, flw_at, if_neg (by decide), if_neg (by decide)]; exact q1
  · rw [e, flw_at, if_neg (by omega), if_neg (by omega)]
theorem RF_flw {f a g : Int} {τ : l2_m} (h : RF f a σ) (e : τ = flw σ g) : RF f a τ ∧ frN σ τ := by
  obtain ⟨h1, h2, h3, h4, h5, h6, h7⟩ := h
  refine ⟨⟨?_, h2, h3, ?_, ?_, ?_, ?_⟩, fun b j w => ?_⟩
  · rw [e, flw_at, if_neg (by decide), if_pos ⟨rfl, rfl⟩, if_neg (by omega)]; exact h1
  · rw [e, flw_at, if_neg (by decide), if_neg (by decide)]; exact h4
  · rw [e, flw_at, if_pos ⟨rfl, rfl⟩]
  · rw [e, flw_at, if_neg (by decide), if_neg (by decide)]; exact h6
  · rw [e, flw_at, if_neg (by decide), if_neg (by decide)]; exact h7
  · rw [e, flw_at, if_neg (by omega), if_neg (by omega)]
theorem RS_g (h : RS T n s σ) : rg (σ 186 19) ∧ 0 ≤ (σ 186 23) ∧ (σ 186 23) < 9223372036854775808 := by
  have := RS_k h.1
  exact ⟨⟨by omega, by omega⟩, h.2.1, h.2.2⟩
theorem RF_g {f a : Int} (h : RF f a σ) : rg (σ 186 19) ∧ 0 ≤ (σ 186 23) ∧ (σ 186 23) < 9223372036854775808 := ⟨by rw [h.2.2.2.2.1]; decide, h.2.2.2.2.2.1, h.2.2.2.2.2.2⟩
theorem RF_22 {f a : Int} (h : RF f a σ) : rg (σ 186 22) ∧ ¬ (σ 186 22 = 0) ∧ 0 < σ 186 22 := by
  rw [h.1]; have := h.2.1; have := h.2.2.1; exact ⟨⟨by omega, by omega⟩, by omega, by omega⟩
theorem RS_w0 (h : RS0 T n s σ) {o : Nat} (ho : 3 ≤ o ∧ o < 20) : (σ 186 19 = 2 ∧ σ 186 23 = wcd (l2_tx o)) ↔ wdF T n s (l2_tx o) := by
  have hk := (RS_k h).2.1
  obtain ⟨h1, s0, sn, h22, h18, h20, h19, h21, h23⟩ := h
  have hok := tx_all o ho.2 ho.1
  unfold txok at hok
  rw [Bool.and_eq_true, decide_eq_true_eq, List.all_eq_true] at hok
  have hc : ∀ c ∈ l2_tx o, isL c := fun c hc => by simpa using hok.2 c hc
  constructor
  · rintro ⟨w1, w2⟩
    have k1 := hk.mp w1
    obtain ⟨q1, q2, q3⟩ := tk1 sn k1
    rw [h23 k1] at w2
    have := wcd_inj _ _ _ rfl (ltL_mem _ (fun j x y => q3 j x (by omega))) hc w2
    obtain ⟨y1, y2⟩ := ltL_eq.mp this
    exact ⟨k1, by omega, y2⟩
  · rintro ⟨k1, w2, w3⟩
    refine ⟨hk.mpr k1, ?_⟩
    rw [h23 k1, ltL_eq.mpr ⟨by omega, w3⟩]
theorem RS_w (h : RS T n s σ) {o : Nat} (ho : 3 ≤ o ∧ o < 20) : (σ 186 19 = 2 ∧ σ 186 23 = wcd (l2_tx o)) ↔ wdF T n s (l2_tx o) := RS_w0 h.1 ho
theorem RF_w {f a : Int} (h : RF f a σ) (o : Nat) : ¬ (σ 186 19 = 2 ∧ σ 186 23 = wcd (l2_tx o)) := fun w => by rw [h.2.2.2.2.1] at w; exact absurd w.1 (by decide)
theorem RS_u (h : RS T n s σ) : unkR σ = unkF T n s := by
  have hk := (RS_k h.1).2.1
  obtain ⟨⟨h1, s0, sn, h22, h18, h20, h19, h21, h23⟩, q0, q1⟩ := h
  unfold unkR unkF
  by_cases k1 : tK T n s = 1
  · obtain ⟨q1, q2, q3⟩ := tk1 sn k1
    have hla := q3 (tA T n s) (by omega) q1
    rw [h23 k1]
    by_cases h1 : tE T n s - tA T n s = 1
    · have e1 : wcd (ltL T (tA T n s) (tE T n s - tA T n s).toNat) = T (tA T n s) := by
        rw [h1]
        show wcd ([] ++ [T (tA T n s + ((0 : Nat) : Int))]) = _
        rw [wcd_app]
        show 0 * 256 + T (tA T n s + 0) = _
        rw [Int.add_zero]; omega
      rw [e1]
      by_cases hx : 120 ≤ T (tA T n s) ∧ T (tA T n s) ≤ 122
      · rw [if_pos ⟨hk.mpr k1, hx⟩, if_pos ⟨k1, h1, hx⟩]
      · rw [if_neg (fun w => hx w.2), if_neg (fun w => hx w.2.2)]
    · obtain ⟨m, hm⟩ : ∃ m : Nat, (tE T n s - tA T n s).toNat = m + 1 + 1 := ⟨(tE T n s - tA T n s).toNat - 2, by omega⟩
      have hl1 : ∀ c ∈ ltL T (tA T n s) (m + 1), isL c := ltL_mem _ (fun j x y => q3 j x (by omega))
      have hp : 97 ≤ wcd (ltL T (tA T n s) (m + 1)) := wcd_pos hl1
      have hc := q3 (tA T n s + ((m + 1 : Nat) : Int)) (by omega) (by omega)
      have e1 : wcd (ltL T (tA T n s) (m + 1 + 1)) = wcd (ltL T (tA T n s) (m + 1)) * 256 + T (tA T n s + ((m + 1 : Nat) : Int)) := wcd_app _ _
      rw [hm, e1, if_neg (by omega), if_neg (by omega)]
  · rw [if_neg (fun w => k1 (hk.mp w.1)), if_neg (fun w => k1 w.1)]
theorem RF_u {f a : Int} (h : RF f a σ) : unkR σ = -1 := by
  unfold unkR
  rw [if_neg (fun w => by rw [h.2.2.2.2.1] at w; exact absurd w.1 (by decide))]
theorem ior_key {key u e : Int} (k0 : 0 ≤ key) (k1 : key < 4096) (u0 : 0 ≤ u) (u1 : u < 3) (hz : e4 key u = 0) (e0 : 0 ≤ e) (e1 : e ≤ 15) : ior key (e * 2 ^ (Int.toNat (4 * u))) = key + e * 16 ^ u.toNat ∧ 0 ≤ e * 2 ^ (Int.toNat (4 * u)) ∧ e * 2 ^ (Int.toNat (4 * u)) < 2147483648 := by
  rcases (show u = 0 ∨ u = 1 ∨ u = 2 by omega) with h | h | h
  · rw [h, e4_0] at hz
    rw [h, show (2 : Int) ^ (Int.toNat (4 * 0)) = 1 from rfl, show (16 : Int) ^ (0 : Int).toNat = 1 from rfl, Int.mul_one]
    refine ⟨?_, by omega, by omega⟩
    have := ior_16 (a := key / 16) (b := e) (by omega) e0 (by omega)
    rw [show key / 16 * 16 = key by omega] at this
    rw [ior_comm]; exact this
  · rw [h, e4_1] at hz
    rw [h, show (2 : Int) ^ (Int.toNat (4 * 1)) = 16 from rfl, show (16 : Int) ^ (1 : Int).toNat = 16 from rfl]
    refine ⟨?_, by omega, by omega⟩
    obtain ⟨k, rfl⟩ := Int.eq_ofNat_of_zero_le k0
    obtain ⟨c, rfl⟩ := Int.eq_ofNat_of_zero_le e0
    unfold ior
    have ec : ((c : Int) * 16).toNat = c * 16 := by omega
    rw [Int.toNat_natCast, ec, or_spl k (c * 16) 8]
    have q1 : c * 16 / 2 ^ 8 = 0 := by show c * 16 / 256 = 0; omega
    have q2 : c * 16 % 2 ^ 8 = c * 16 := by show c * 16 % 256 = _; omega
    have q3 : k % 2 ^ 8 = k % 16 := by show k % 256 = _; omega
    rw [q1, q2, q3, Nat.or_zero]
    have q4 := ior_16 (a := (c : Int)) (b := ((k % 16 : Nat) : Int)) (by omega) (by omega) (by omega)
    unfold ior at q4
    rw [Int.toNat_natCast, ec] at q4
    have q5 : ((2 ^ 8 * (k / 2 ^ 8) + (k % 16 ||| c * 16) : Nat) : Int) = 256 * ((k / 256 : Nat) : Int) + ((k % 16 ||| c * 16 : Nat) : Int) := by
      rw [Int.natCast_add, Int.natCast_mul]; rfl
    rw [q5, q4]
    omega
  · rw [h, e4_2] at hz
    rw [h, show (2 : Int) ^ (Int.toNat (4 * 2)) = 256 from rfl, show (16 : Int) ^ (2 : Int).toNat = 256 from rfl]
    refine ⟨?_, by omega, by omega⟩
    have := ior_256 (a := e) (b := key) e0 k0 (by omega)
    rw [this]; omega
/-- the powers of a term -/
theorem r188l {neg coef told key c : Int} {t : l2_m} {s' : Int} (hf : frN σ t) (hS : RS T n s' t) (hk : tkO told key c) (hF : ∀ τ : l2_m, frN σ τ → (trmL T n (4 - c).toNat s' told key).1 ≠ 0 → RF (trmL T n (4 - c).toNat s' told key).1 (trmL T n (4 - c).toNat s' told key).2.1 τ → K 0 τ) (hO : ∀ τ : l2_m, frN σ τ → (trmL T n (4 - c).toNat s' told key).1 = 0 → RS T n (trmL T n (4 - c).toNat s' told key).2.1 τ → 0 ≤ (trmL T n (4 - c).toNat s' told key).2.2 → (trmL T n (4 - c).toNat s' told key).2.2 < 4096 → w188_174 B τ neg coef (trmL T n (4 - c).toNat s' told key).2.2 K) : w188_56 B t neg coef key told K := by
  obtain ⟨R, hR⟩ : ∃ R, R = trmL T n (4 - c).toNat s' told key := ⟨_, rfl⟩
  rw [← hR] at hF hO
  have tr : ∀ {u v : l2_m}, frN σ u → frN u v → frN σ v := fun h1 h2 b j w => (h2 b j w).trans (h1 b j w)
  unfold w188_56
  refine lz3_inv (fun (key told : Int) u => frN σ u ∧ ((∃ (c z : Int), tkO told key c ∧ RS T n z u ∧ R = trmL T n (4 - c).toNat z told key) ∨ (R.1 ≠ 0 ∧ RF R.1 R.2.1 u))) (fun _ told u => if u 186 22 = 0 then 8 - told else 0) ?_ ⟨hf, Or.inl ⟨c, s', hk, hS, hR⟩⟩
  intro X key told u hX ⟨fu, hI⟩
  rcases hI with ⟨c, z, hk', Su, eR⟩ | ⟨r1, r2⟩
  · obtain ⟨k1, k2, k3, k4, k5, k6⟩ := id hk'
    have bb0 := bit_b told 0
    have bb1 := bit_b told 1
    have bb2 := bit_b told 2
    have hub := unkF_b (T := T) (n := n) z
    have u22 : u 186 22 = 0 := Su.1.2.2.2.1
    have hu := RS_u Su
    have ef : (4 - c).toNat = (4 - (c + 1)).toNat + 1 := by omega
    rw [ef] at eR
    unfold trmL at eR
    rw [u22, hu]
    refine ⟨by decide, fun _ => RS_g Su, ?_⟩
    by_cases h1 : unkF T n z = -1
    · rw [if_neg (fun w => w.2 h1)]
      rw [if_pos h1] at eR
      have := hO u fu (by rw [eR]) (by rw [eR]; exact Su) (by rw [eR]; exact k3) (by rw [eR]; exact k4)
      rw [eR] at this
      exact this
    · rw [if_pos ⟨rfl, h1⟩]
      rw [if_neg h1] at eR
      intro v ev
      rw [← ev] at eR h1 hub
      rw [show (told / 2 ^ (Int.toNat v)) % 2 = bit told v from rfl]
      refine ⟨⟨⟨by omega, by omega⟩, by omega, by omega⟩, ?_⟩
      have pb := pow16_b (u := v) (by omega) (by omega)
      have faulted : ∀ (f a key' told' : Int) (w : l2_m), R.1 = f → R.2.1 = a → f ≠ 0 → frN σ w → RF f a w → X key' told' w := fun f a key' told' w e1 e2 hf fw Fw => by
        refine hX key' told' w ⟨fw, Or.inr ⟨by rw [e1]; exact hf, by rw [e1, e2]; exact Fw⟩⟩ ?_
        rw [if_neg (RF_22 Fw).2.1, if_pos u22]; omega
      have f152 : ∀ (f a e key' told' : Int) (w : l2_m), R.1 = f → R.2.1 = a → f ≠ 0 → frN σ w → RF f a w → w188_152 B w neg coef key' told' v e X K := fun f a e key' told' w e1 e2 hf fw Fw => by
        unfold w188_152
        refine ⟨(RF_22 Fw).1, ?_⟩
        rw [if_neg (RF_22 Fw).2.1]
        exact faulted f a key' told' w e1 e2 hf fw Fw
      by_cases h2 : bit told v = 1
      · rw [if_pos h2]
        rw [if_pos h2] at eR
        intro w ew
        obtain ⟨Fw, gw⟩ := RS_flw Su (by decide) (by decide) ew
        have fw := tr fu gw
        unfold w188_93
        refine ⟨⟨by omega, by omega, k1, pb.1, by omega, pb.2⟩, ?_⟩
        intro told' _
        refine nxtF Fw ⟨(RF_22 Fw).1, fun z => absurd z (RF_22 Fw).2.1, ?_⟩
        rw [if_neg (fun z => (RF_22 Fw).2.1 z.1)]
        exact f152 3 _ 1 key told' w (by rw [eR]) (by rw [eR]) (by decide) fw Fw
      · rw [if_neg h2]
        rw [if_neg h2] at eR
        have h20 : bit told v = 0 := (bit_b told v).resolve_right h2
        have ez := k5 v (by omega) (by omega) h20
        unfold w188_93
        refine ⟨⟨by omega, by omega, k1, pb.1, by omega, pb.2⟩, ?_⟩
        intro told' eto
        rw [ior_bit k1 k2 (by omega) (by omega) h20] at eto
        have tpos : 0 < (2 : Int) ^ v.toNat := by
          rcases (show v = 0 ∨ v = 1 ∨ v = 2 by omega) with h | h | h <;> (rw [h]; decide)
        refine nxt Su (fun u1 g1 S1 => ?_)
        have fu1 := tr fu g1
        have hk1 := RS_k S1.1
        have v22 : u1 186 22 = 0 := S1.1.2.2.2.1
        have next : ∀ (u2 : l2_m) (e z2 : Int), 0 ≤ e → e ≤ 15 → frN σ u2 → RS T n z2 u2 → R = trmL T n (4 - (c + 1)).toNat z2 (told + 2 ^ v.toNat) (key + e * 16 ^ v.toNat) → w188_152 B u2 neg coef key told' v e X K := by
          intro u2 e z2 e0 e15 f2 S2 eR2
          obtain ⟨i1, i2, i3⟩ := ior_key (u := v) k3 k4 (by omega) (by omega) ez e0 e15
          obtain ⟨hk2, hc3⟩ := tkO_s hk' (u := v) (e := e) (by omega) (by omega) h20 e0 e15
          have w22 : u2 186 22 = 0 := S2.1.2.2.2.1
          unfold w188_152
          rw [w22]
          refine ⟨by decide, ?_⟩
          rw [if_pos rfl]
          refine ⟨⟨by omega, by omega, k3, i2, by omega, i3⟩, ?_⟩
          intro key2 ek
          rw [i1] at ek
          refine hX key2 told' u2 ⟨f2, Or.inl ⟨c + 1, z2, by rw [ek, eto]; exact hk2, S2, by rw [ek, eto]; exact eR2⟩⟩ ?_
          rw [if_pos w22, if_pos u22]; omega
        rw [v22]
        refine ⟨by decide, fun _ => (RS_g S1).1, ?_⟩
        by_cases h3 : tK T n (tE T n z) = 2
        · rw [if_pos ⟨rfl, hk1.2.2.1.mpr h3⟩]
          rw [if_pos h3] at eR
          have v21 := S1.1.2.2.2.2.2.2.2.1 h3
          have vb := tk2 (T := T) S1.1.2.2.1 h3
          rw [v21]
          refine ⟨⟨by omega, by omega⟩, ?_⟩
          by_cases h4 : 1 ≤ tV T n (tE T n z) ∧ tV T n (tE T n z) ≤ 15
          · rw [if_pos h4]
            rw [if_pos h4] at eR
            unfold w188_142
            intro e ee
            rw [v21] at ee
            rw [← ee] at eR
            refine nxt S1 (fun u2 g2 S2 => ?_)
            exact next u2 e _ (by omega) (by omega) (tr fu1 g2) S2 eR
          · rw [if_neg h4]
            rw [if_neg h4] at eR
            intro w ew
            obtain ⟨Fw, gw⟩ := RS_flw S1 (by decide) (by decide) ew
            unfold w188_142
            intro e ee
            refine nxtF Fw ?_
            exact f152 4 _ e key told' w (by rw [eR]) (by rw [eR]) (by decide) (tr fu1 gw) Fw
        · rw [if_neg (fun w => h3 (hk1.2.2.1.mp w.2))]
          rw [if_neg h3] at eR
          exact next u1 1 _ (by decide) (by decide) fu1 S1 eR
  · have q22 := RF_22 r2
    refine ⟨q22.1, fun z => absurd z q22.2.1, ?_⟩
    rw [if_neg (fun w => q22.2.1 w.1)]
    have := hF u fu r1 r2
    unfold w188_174
    refine ⟨q22.1, ?_⟩
    rw [if_pos q22.2.2]
    exact this
theorem r188F {f a neg : Int} (h : RF f a σ) (hK : ∀ τ : l2_m, frN σ τ → RF f a τ → K 0 τ) : wC B 188 [vr 186, vi neg] σ K := by
  refine o188 ?_
  unfold w188
  refine ⟨(RF_g h).1, ?_⟩
  rw [if_neg (by rw [h.2.2.2.2.1]; decide)]
  unfold w188_15
  refine ⟨by decide, ?_⟩
  rw [if_pos rfl]
  refine ⟨RF_g h, ?_⟩
  rw [if_pos (RF_u h)]
  refine ⟨(RF_22 h).1, ?_⟩
  intro τ et
  obtain ⟨Fw, gw⟩ := RF_flw h et
  have q22 := RF_22 Fw
  unfold w188_56
  refine lz3_inv (fun (_ _ : Int) u => u = τ) (fun _ _ _ => 0) ?_ rfl
  intro X x y u hX eu
  subst eu
  refine ⟨q22.1, fun z => absurd z q22.2.1, ?_⟩
  rw [if_neg (fun w => q22.2.1 w.1)]
  unfold w188_174
  refine ⟨q22.1, ?_⟩
  rw [if_pos q22.2.2]
  exact hK u gw Fw
/-- a term; it is put to row c -/
theorem r188 {p c neg : Int} {g : Int → Int} (hn : neg = 0 ∨ neg = 1) (hp : σ 186 9 = p) (p2 : 2 ≤ p) (p97 : p ≤ 97) (hc : σ 186 13 = c) (c0 : 0 ≤ c) (c6 : c < 6) (hg : ∀ k : Int, 0 ≤ k → k < 4096 → σ 188 (4096 * c + k) = g k ∧ 0 ≤ g k ∧ g k < p) (hS : RS T n s σ) (hF : ∀ τ : l2_m, frN σ τ → (trm T n s).1 ≠ 0 → RF (trm T n s).1 (trm T n s).2.1 τ → K 0 τ) (hO : ∀ τ : l2_m, (∀ b j, ¬ (b = 186 ∧ 18 ≤ j ∧ j ≤ 23) → ¬ (b = 188 ∧ 4096 * c ≤ j ∧ j < 4096 * c + 4096) → τ b j = σ b j) → (trm T n s).1 = 0 → RS T n (trm T n s).2.1 τ → (∀ k : Int, 0 ≤ k → k < 4096 → τ 188 (4096 * c + k) = accF p neg (trm T n s).2.2.2 (trm T n s).2.2.1 g k ∧ 0 ≤ accF p neg (trm T n s).2.2.2 (trm T n s).2.2.1 g k ∧ accF p neg (trm T n s).2.2.2 (trm T n s).2.2.1 g k < p) → K 0 τ) : wC B 188 [vr 186, vi neg] σ K := by
  have hb := RS_b hS.1
  have hk := RS_k hS.1
  refine o188 ?_
  unfold w188
  have fin : ∀ (τ : l2_m) (v coef key s' : Int), 0 ≤ v → coef = v % p → frN σ τ → RS T n s' τ → 0 ≤ key → key < 4096 → trm T n s = (0, s', key, v) → w188_174 B τ neg coef key K := by
    intro τ v coef key s' v0 ec fr St k0 k1 et
    have q22 : τ 186 22 = 0 := St.1.2.2.2.1
    have q9 : τ 186 9 = p := by rw [fr 186 9 (by omega)]; exact hp
    have q13 : τ 186 13 = c := by rw [fr 186 13 (by omega)]; exact hc
    have e188 : ∀ j, τ 188 j = σ 188 j := fun j => fr 188 j (by omega)
    have cb0 : 0 ≤ coef := by rw [ec]; exact Int.emod_nonneg _ (by omega)
    have cb1 : coef < p := by rw [ec]; exact Int.emod_lt_of_pos _ (by omega)
    obtain ⟨gk, gk0, gk1⟩ := hg key k0 k1
    unfold w188_174
    rw [q22]
    refine ⟨by decide, ?_⟩
    rw [if_neg (by decide), q13, q9]
    intro x ex
    have hx : τ 188 x = g key := by rw [e188, ex]; exact gk
    rw [hx]
    have go : ∀ (d : Int) (υ : l2_m), d % p = (g key + (if neg = 0 then v else -v)) % p → υ = l2_u τ 188 x (d % p) → K 0 υ := by
      intro d υ ed eu
      refine hO υ (fun b j w1 w2 => ?_) (by rw [et]) (by rw [et]; exact RS_fr St (fun b j z => by rw [eu]; unfold l2_u; rw [if_neg (by omega)])) (fun k a0 a1 => ?_)
      · rw [eu]; unfold l2_u; rw [if_neg (by omega)]; exact fr b j w1
      · rw [et, eu]
        unfold l2_u accF upI
        show (if 188 = 188 ∧ 4096 * c + k = x then d % p else τ 188 (4096 * c + k)) = (if k = key then (g key + (if neg = 0 then v else -v)) % p else g k) ∧ 0 ≤ (if k = key then (g key + (if neg = 0 then v else -v)) % p else g k) ∧ (if k = key then (g key + (if neg = 0 then v else -v)) % p else g k) < p
        by_cases hkk : k = key
        · rw [if_pos ⟨rfl, by omega⟩, if_pos hkk]
          exact ⟨ed, Int.emod_nonneg _ (by omega), Int.emod_lt_of_pos _ (by omega)⟩
        · rw [if_neg (by omega), if_neg hkk, e188]
          exact hg k a0 a1
    refine ⟨⟨by omega, by omega, by rcases hn with z | z <;> (rw [z]; decide)⟩, ?_⟩
    by_cases hneg : neg = 0
    · rw [if_pos hneg]
      rw [if_pos hneg] at go
      refine ⟨⟨⟨by omega, by omega⟩, ⟨by omega, by omega⟩, by omega, by omega⟩, fun υ eu => go _ υ ?_ eu⟩
      rw [ec, Int.add_emod_emod]
    · rw [if_neg hneg]
      rw [if_neg hneg] at go
      refine ⟨⟨⟨by omega, by omega⟩, ⟨by omega, by omega⟩, by omega, by omega⟩, fun υ eu => go _ υ ?_ eu⟩
      rw [show g key + (p - coef) = (g key - coef) + p * 1 by omega, Int.add_mul_emod_self_left, ec, Int.sub_emod, Int.emod_emod, ← Int.sub_emod]
      rfl
  have fr0 : frN σ σ := fun _ _ _ => rfl
  have e4c : (4 - (0 : Int)).toNat = 4 := rfl
  refine ⟨(RS_g hS).1, ?_⟩
  by_cases h2 : tK T n s = 2
  · rw [if_pos (hk.2.2.1.mpr h2)]
    unfold w188_15
    refine ⟨by decide, ?_⟩
    rw [if_neg (by decide)]
    have v21 := hS.1.2.2.2.2.2.2.2.1 h2
    have vb := tk2 (T := T) hS.1.2.2.1 h2
    rw [v21, hp]
    refine ⟨⟨⟨by omega, by omega⟩, ⟨by omega, by omega⟩, by omega, by omega⟩, ?_⟩
    intro coef ec
    have etr : trm T n s = ((trmL T n 4 (tE T n s) 0 0).1, (trmL T n 4 (tE T n s) 0 0).2.1, (trmL T n 4 (tE T n s) 0 0).2.2, tV T n s) := by unfold trm; rw [if_pos h2]
    refine nxt hS (fun τ f1 S1 => ?_)
    have key := r188l (B := B) (K := K) (σ := σ) (neg := neg) (coef := coef) (told := 0) (key := 0) (c := 0) f1 S1 tkO_0
    rw [e4c] at key
    refine key (fun υ g1 g2 g3 => hF υ g1 (by rw [etr]; exact g2) (by rw [etr]; exact g3)) (fun υ g1 g2 g3 g4 g5 => ?_)
    exact fin υ _ coef _ _ vb.1 ec g1 g3 g4 g5 (by rw [etr, g2])
  · rw [if_neg (fun w => h2 (hk.2.2.1.mp w))]
    unfold w188_15
    refine ⟨by decide, ?_⟩
    rw [if_pos rfl]
    refine ⟨RS_g hS, ?_⟩
    rw [RS_u hS]
    by_cases h1 : unkF T n s = -1
    · rw [if_pos h1]
      have etr : trm T n s = (1, tA T n s, 0, 0) := by unfold trm; rw [if_neg h2, if_pos h1]
      refine ⟨by rw [hS.1.2.2.2.1]; decide, ?_⟩
      intro τ et
      obtain ⟨Fw, gw⟩ := RS_flw hS (by decide) (by decide) et
      have q22 := RF_22 Fw
      unfold w188_56
      refine lz3_inv (fun (_ _ : Int) u => u = τ) (fun _ _ _ => 0) ?_ rfl
      intro X x y u hX eu
      subst eu
      refine ⟨q22.1, fun z => absurd z q22.2.1, ?_⟩
      rw [if_neg (fun w => q22.2.1 w.1)]
      unfold w188_174
      refine ⟨q22.1, ?_⟩
      rw [if_pos q22.2.2]
      exact hF u gw (by rw [etr]; exact (by decide : (1 : Int) ≠ 0)) (by rw [etr]; exact Fw)
    · rw [if_neg h1]
      have etr : trm T n s = ((trmL T n 4 s 0 0).1, (trmL T n 4 s 0 0).2.1, (trmL T n 4 s 0 0).2.2, 1) := by unfold trm; rw [if_neg h2, if_neg h1]
      have key := r188l (B := B) (K := K) (σ := σ) (neg := neg) (coef := 1) (told := 0) (key := 0) (c := 0) fr0 hS tkO_0
      rw [e4c] at key
      refine key (fun υ g1 g2 g3 => hF υ g1 (by rw [etr]; exact g2) (by rw [etr]; exact g3)) (fun υ g1 g2 g3 g4 g5 => ?_)
      exact fin υ 1 1 _ _ (by decide) (Int.emod_eq_of_lt (by decide) (by omega)).symm g1 g3 g4 g5 (by rw [etr, g2])
end RU
