/-! ===== what a text tells, as a function of it ===== -/
section PF
variable (T : Int → Int) (n : Int)
/-- the class's state at a token -/
def TS (s : Int) (σ : l2_m) : Prop := TX T n σ ∧ 0 ≤ s ∧ s ≤ n ∧ σ 49 8 = tE T n s ∧ σ 49 10 = tK T n s ∧ σ 49 11 = tA T n s ∧ σ 49 12 = wrp (tV T n s)
noncomputable def unkF (s : Int) : Int := if tK T n s = 1 ∧ tE T n s - tA T n s = 1 ∧ 120 ≤ T (tA T n s) ∧ T (tA T n s) ≤ 122 then T (tA T n s) - 120 else -1
abbrev wdF (s : Int) (l : List Int) : Prop := tK T n s = 1 ∧ tE T n s - tA T n s = (l.length : Int) ∧ txm (fun i => T (tA T n s + i)) l = true
abbrev sgS (s c : Int) : Prop := tK T n s = 3 ∧ tV T n s = c
noncomputable def trmL : Nat → Int → Int → Int → Int × Int × Int
  | 0, s, _, key => (0, s, key)
  | f + 1, s, told, key => if unkF T n s = -1 then (0, s, key) else if bit told (unkF T n s) = 1 then (3, tA T n s, 0) else if tK T n (tE T n s) = 2 then (if 1 ≤ tV T n (tE T n s) ∧ tV T n (tE T n s) ≤ 15 then trmL f (tE T n (tE T n s)) (told + 2 ^ (unkF T n s).toNat) (key + tV T n (tE T n s) * 16 ^ (unkF T n s).toNat) else (4, tA T n (tE T n s), 0)) else trmL f (tE T n s) (told + 2 ^ (unkF T n s).toNat) (key + 1 * 16 ^ (unkF T n s).toNat)
noncomputable def trm (s : Int) : Int × Int × Int × Int := if tK T n s = 2 then ((trmL T n 4 (tE T n s) 0 0).1, (trmL T n 4 (tE T n s) 0 0).2.1, (trmL T n 4 (tE T n s) 0 0).2.2, tV T n s) else if unkF T n s = -1 then (1, tA T n s, 0, 0) else ((trmL T n 4 s 0 0).1, (trmL T n 4 s 0 0).2.1, (trmL T n 4 s 0 0).2.2, 1)
end PF
def accF (p neg c key : Int) (g : Int → Int) : Int → Int := upI g key ((g key + (if neg = 0 then c else -c)) % p)
section PL
variable {T : Int → Int} {n s : Int}
theorem unkF_b (s : Int) : -1 ≤ unkF T n s ∧ unkF T n s < 3 := by unfold unkF; split <;> omega
theorem bit_n0 (t : Int) : bit t 0 = t % 2 := by show (t / 1) % 2 = _; rw [Int.ediv_one]
theorem bit_n1 (t : Int) : bit t 1 = t / 2 % 2 := rfl
theorem bit_n2 (t : Int) : bit t 2 = t / 4 % 2 := rfl
/-- which unknowns are told, their exponents, how many -/
def tkO (told key c : Int) : Prop := 0 ≤ told ∧ told < 8 ∧ 0 ≤ key ∧ key < 4096 ∧ (∀ u : Int, 0 ≤ u → u < 3 → bit told u = 0 → e4 key u = 0) ∧ c = bit told 0 + bit told 1 + bit told 2
theorem tkO_0 : tkO 0 0 0 := by
  refine ⟨by decide, by decide, by decide, by decide, fun u u0 u1 _ => ?_, rfl⟩
  rcases (show u = 0 ∨ u = 1 ∨ u = 2 by omega) with h | h | h <;> (rw [h]; rfl)
theorem tkO_s {told key c u e : Int} (h : tkO told key c) (u0 : 0 ≤ u) (u1 : u < 3) (hb : bit told u = 0) (e0 : 0 ≤ e) (e1 : e ≤ 15) : tkO (told + 2 ^ u.toNat) (key + e * 16 ^ u.toNat) (c + 1) ∧ c < 3 := by
  obtain ⟨h1, h2, h3, h4, h5, h6⟩ := h
  have d0 := h5 0 (by decide) (by decide)
  have d1 := h5 1 (by decide) (by decide)
  have d2 := h5 2 (by decide) (by decide)
  rw [bit_n0, e4_0] at d0
  rw [bit_n1, e4_1] at d1
  rw [bit_n2, e4_2] at d2
  rw [bit_n0, bit_n1, bit_n2] at h6
  have all : ∀ (t k : Int), 0 ≤ t → t < 8 → 0 ≤ k → k < 4096 → (t % 2 = 0 → k % 16 = 0) → (t / 2 % 2 = 0 → k / 16 % 16 = 0) → (t / 4 % 2 = 0 → k / 256 % 16 = 0) → c + 1 = t % 2 + t / 2 % 2 + t / 4 % 2 → tkO t k (c + 1) := by
    intro t k a1 a2 a3 a4 a5 a6 a7 a8
    refine ⟨a1, a2, a3, a4, fun v v0 v1 hv => ?_, by rw [bit_n0, bit_n1, bit_n2]; exact a8⟩
    rcases (show v = 0 ∨ v = 1 ∨ v = 2 by omega) with h | h | h
    · rw [h, bit_n0] at hv; rw [h, e4_0]; exact a5 hv
    · rw [h, bit_n1] at hv; rw [h, e4_1]; exact a6 hv
    · rw [h, bit_n2] at hv; rw [h, e4_2]; exact a7 hv
  rcases (show u = 0 ∨ u = 1 ∨ u = 2 by omega) with h | h | h
  · rw [h, bit_n0] at hb
    rw [h, show (2 : Int) ^ (0 : Int).toNat = 1 from rfl, show (16 : Int) ^ (0 : Int).toNat = 1 from rfl]
    exact ⟨all _ _ (by omega) (by omega) (by omega) (by omega) (by omega) (by omega) (by omega) (by omega), by omega⟩
  · rw [h, bit_n1] at hb
    rw [h, show (2 : Int) ^ (1 : Int).toNat = 2 from rfl, show (16 : Int) ^ (1 : Int).toNat = 16 from rfl]
    exact ⟨all _ _ (by omega) (by omega) (by omega) (by omega) (by omega) (by omega) (by omega) (by omega), by omega⟩
  · rw [h, bit_n2] at hb
    rw [h, show (2 : Int) ^ (2 : Int).toNat = 4 from rfl, show (16 : Int) ^ (2 : Int).toNat = 256 from rfl]
    exact ⟨all _ _ (by omega) (by omega) (by omega) (by omega) (by omega) (by omega) (by omega) (by omega), by omega⟩
theorem tkO_full {told key c : Int} (h : tkO told key c) (hc : ¬ c < 3) {u : Int} (u0 : 0 ≤ u) (u1 : u < 3) : bit told u = 1 := by
  obtain ⟨h1, h2, h3, h4, h5, h6⟩ := h
  rw [bit_n0, bit_n1, bit_n2] at h6
  rcases (show u = 0 ∨ u = 1 ∨ u = 2 by omega) with h | h | h
  · rw [h, bit_n0]; omega
  · rw [h, bit_n1]; omega
  · rw [h, bit_n2]; omega
theorem ior_bit {told u : Int} (t0 : 0 ≤ told) (t1 : told < 8) (u0 : 0 ≤ u) (u1 : u < 3) (hb : bit told u = 0) : ior told ((1 : Int) * 2 ^ (Int.toNat u)) = told + 2 ^ u.toNat := by
  obtain ⟨t, rfl⟩ := Int.eq_ofNat_of_zero_le t0
  obtain ⟨v, rfl⟩ := Int.eq_ofNat_of_zero_le u0
  have h : ∀ (t : Fin 8) (v : Fin 3), bit ((t.val : Nat) : Int) ((v.val : Nat) : Int) = 0 → ior ((t.val : Nat) : Int) ((1 : Int) * 2 ^ (Int.toNat ((v.val : Nat) : Int))) = ((t.val : Nat) : Int) + 2 ^ (Int.toNat ((v.val : Nat) : Int)) := by decide +kernel
  exact h ⟨t, by omega⟩ ⟨v, by omega⟩ hb
theorem pow16_b {u : Int} (u0 : 0 ≤ u) (u1 : u < 3) : 0 ≤ (1 : Int) * 2 ^ (Int.toNat u) ∧ (1 : Int) * 2 ^ (Int.toNat u) < 2147483648 := by
  rcases (show u = 0 ∨ u = 1 ∨ u = 2 by omega) with h | h | h <;> (rw [h]; decide)
theorem MW_dig {W : Int → Int} {key u e : Int} (k0 : 0 ≤ key) (k1 : key < 4096) (u0 : 0 ≤ u) (u1 : u < 3) (hz : e4 key u = 0) (e0 : 0 ≤ e) (e1 : e ≤ 15) : MW W key + e * UW W u = MW W (key + e * 16 ^ u.toNat) := by
  rw [← MW_U, ← MW_U]
  rcases (show u = 0 ∨ u = 1 ∨ u = 2 by omega) with h | h | h
  · rw [h, e4_0] at hz
    rw [h, show (16 : Int) ^ (0 : Int).toNat = 1 from rfl]
    have q0 : e4 (key + e * 1) 0 = e := by rw [e4_0]; omega
    have q1 : e4 (key + e * 1) 1 = e4 key 1 := by rw [e4_1, e4_1]; omega
    have q2 : e4 (key + e * 1) 2 = e4 key 2 := by rw [e4_2, e4_2]; omega
    have q3 : e4 key 0 = 0 := by rw [e4_0]; exact hz
    rw [q0, q1, q2, q3]; grind
  · rw [h, e4_1] at hz
    rw [h, show (16 : Int) ^ (1 : Int).toNat = 16 from rfl]
    have q0 : e4 (key + e * 16) 0 = e4 key 0 := by rw [e4_0, e4_0]; omega
    have q1 : e4 (key + e * 16) 1 = e := by rw [e4_1]; omega
    have q2 : e4 (key + e * 16) 2 = e4 key 2 := by rw [e4_2, e4_2]; omega
    have q3 : e4 key 1 = 0 := by rw [e4_1]; exact hz
    rw [q0, q1, q2, q3]; grind
  · rw [h, e4_2] at hz
    rw [h, show (16 : Int) ^ (2 : Int).toNat = 256 from rfl]
    have q0 : e4 (key + e * 256) 0 = e4 key 0 := by rw [e4_0, e4_0]; omega
    have q1 : e4 (key + e * 256) 1 = e4 key 1 := by rw [e4_1, e4_1]; omega
    have q2 : e4 (key + e * 256) 2 = e := by rw [e4_2]; omega
    have q3 : e4 key 2 = 0 := by rw [e4_2]; exact hz
    rw [q0, q1, q2, q3]; grind
theorem digN_b {T : Int → Int} {a : Int} : ∀ k : Nat, (∀ j : Int, a ≤ j → j < a + k → isD (T j)) → 0 ≤ digN T a k ∧ digN T a k < 10 ^ k
  | 0, _ => ⟨Int.le_refl (0 : Int), (by decide : (0 : Int) < 1)⟩
  | k + 1, h => by
    have ih := digN_b (T := T) (a := a) k (fun j x y => h j x (by omega))
    have hd := h (a + k) (by omega) (by omega)
    unfold digN
    rw [Int.pow_succ]
    omega
theorem tk2 (hs : s ≤ n) (h : tK T n s = 2) : 0 ≤ tV T n s ∧ tV T n s ≤ 9999 := by
  obtain ⟨a, e, ha, e1, e2, h1, h2, h3, hh⟩ := tk_all (T := T) hs
  rcases hh with ⟨z1, z2, z3, -⟩ | ⟨z1, z2, -, -, z3, -⟩ | ⟨z1, z2, -, -, z5, z3, z4⟩ | ⟨z1, z2, -, -, z3, -⟩
  · rw [z3] at h; cases h
  · rw [z3] at h; split at h <;> cases h
  · rw [z4]
    have h4 : e - a ≤ 4 := by
      rw [z3] at h
      split at h
      · assumption
      · cases h
    have hb := digN_b (T := T) (a := a) (e - a).toNat (fun j x y => z5.2.2.1 j x (by omega))
    have : (10 : Int) ^ (e - a).toNat ≤ 10000 := by
      have h5 : (e - a).toNat ≤ 4 := by omega
      generalize (e - a).toNat = m at h5
      rcases (show m = 0 ∨ m = 1 ∨ m = 2 ∨ m = 3 ∨ m = 4 by omega) with h | h | h | h | h <;> (rw [h]; decide)
    omega
  · rw [z3] at h; split at h <;> cases h
theorem tk3 (hs : s ≤ n) (h : tK T n s = 3) : tV T n s = T (tA T n s) := by
  obtain ⟨a, e, ha, e1, e2, h1, h2, h3, hh⟩ := tk_all (T := T) hs
  rw [e1]
  rcases hh with ⟨z1, z2, z3, -⟩ | ⟨z1, z2, -, -, z3, -⟩ | ⟨z1, z2, -, -, z5, z3, z4⟩ | ⟨z1, z2, -, -, z3, z4⟩
  · rw [z3] at h; cases h
  · rw [z3] at h; split at h <;> cases h
  · rw [z3] at h; split at h <;> cases h
  · exact z4
end PL
section CR
variable {B : va_E} {T : Int → Int} {n s : Int} {σ : l2_m} {K : Int → l2_m → Prop}
theorem TS_b (h : TS T n s σ) : 0 ≤ tA T n s ∧ tA T n s ≤ tE T n s ∧ tE T n s ≤ n ∧ n ≤ 700 ∧ 0 ≤ tK T n s ∧ tK T n s ≤ 4 ∧ s ≤ tA T n s ∧ (tK T n s ≠ 0 → tA T n s < tE T n s) := by
  obtain ⟨⟨-, -, h7, -, -⟩, s0, sn, -⟩ := h
  obtain ⟨b1, b2, b3, b4, b5, b6, b7⟩ := tE_b (T := T) sn
  exact ⟨by omega, b2, b3, h7, b6, b7, b1, b4⟩
theorem TS_fr {τ : l2_m} (h : TS T n s σ) (f : ∀ b j, b = 55 ∨ (b = 49 ∧ (j = 7 ∨ j = 8 ∨ (10 ≤ j ∧ j ≤ 12))) → τ b j = σ b j) : TS T n s τ := by
  obtain ⟨h1, s0, sn, h2, h3, h4, h5⟩ := h
  exact ⟨TX_fr h1 (fun b j z => f b j (by omega)), s0, sn, by rw [f 49 8 (by omega)]; exact h2, by rw [f 49 10 (by omega)]; exact h3, by rw [f 49 11 (by omega)]; exact h4, by rw [f 49 12 (by omega)]; exact h5⟩
theorem adv (h : TS T n s σ) (hK : ∀ τ : l2_m, frTk σ τ → TS T n (tE T n s) τ → K 0 τ) : wC B 103 [vr 49] σ K := by
  have hb := TS_b h
  obtain ⟨h1, s0, sn, h2, h3, h4, h5⟩ := h
  exact c103 h1 h2 (by omega) (by omega) (fun τ f1 f2 f3 f4 f5 => hK τ f1 ⟨TX_fr h1 (fun b j z => f1 b j (by omega)), by omega, by omega, f2, f3, f4, f5⟩)
theorem TS_rg (h : TS T n s σ) : rg (σ 49 10) ∧ rg (σ 49 12) := by
  have hb := TS_b h
  obtain ⟨h1, s0, sn, h2, h3, h4, h5⟩ := h
  exact ⟨by rw [h3]; exact ⟨by omega, by omega⟩, by rw [h5]; exact wrp_rg _⟩
theorem TS_u (h : TS T n s σ) : unk σ = unkF T n s ∧ (0 ≤ (σ 49 11) ∧ (σ 49 11) ≤ (σ 49 8) ∧ (σ 49 8) ≤ 700 ∧ rg (σ 55 (σ 49 11))) := by
  have hb := TS_b h
  obtain ⟨⟨t1, t2, t3, t4, t5⟩, s0, sn, h2, h3, h4, h5⟩ := h
  refine ⟨?_, by omega, by omega, by omega, t4 _⟩
  unfold unk unkF
  rw [h2, h3, h4]
  by_cases hk : tK T n s = 1
  · rw [t5 (tA T n s) (by omega) (by have := hb.2.2.2.2.2.2.2 (by omega); omega)]
  · rw [if_neg (fun w => hk w.1), if_neg (fun w => hk w.1)]
theorem TS_w (h : TS T n s σ) (l : List Int) : ((σ 49 10) = 1 ∧ (σ 49 8) - (σ 49 11) = (l.length : Int) ∧ txm (fun i => σ 55 (σ 49 11 + i)) l = true) ↔ wdF T n s l := by
  have hb := TS_b h
  obtain ⟨⟨t1, t2, t3, t4, t5⟩, s0, sn, h2, h3, h4, h5⟩ := h
  rw [h2, h3, h4]
  refine and_congr Iff.rfl (and_congr_right (fun hlen => ?_))
  rw [txm_iff, txm_iff]
  have e : ∀ i : Nat, i < l.length → σ 55 (tA T n s + i) = T (tA T n s + i) := fun i hi => t5 _ (by omega) (by omega)
  exact ⟨fun w i hi => (e i hi).symm.trans (w i hi), fun w i hi => (e i hi).trans (w i hi)⟩
theorem TS_g (h : TS T n s σ) : rg (σ 49 10) ∧ 0 ≤ (σ 49 11) ∧ (σ 49 11) ≤ (σ 49 8) ∧ (σ 49 8) ≤ 700 ∧ (∀ j : Int, 0 ≤ j → j < 700 → rg (σ 55 j)) := ⟨(TS_rg h).1, (TS_u h).2.1, (TS_u h).2.2.1, (TS_u h).2.2.2.1, fun j _ _ => h.1.2.2.2.1 j⟩
theorem TS_2 (h : TS T n s σ) (hk : tK T n s = 2) : σ 49 12 = tV T n s ∧ 0 ≤ tV T n s ∧ tV T n s ≤ 9999 := by
  have hv := tk2 h.2.2.1 hk
  refine ⟨?_, hv⟩
  rw [h.2.2.2.2.2.2]
  exact wrp_id ⟨by omega, by omega⟩
theorem TS_s (h : TS T n s σ) (c : Int) : ((σ 49 10) = 3 ∧ (σ 49 12) = c) ↔ sgS T n s c := by
  have hb := TS_b h
  obtain ⟨⟨t1, t2, t3, t4, t5⟩, s0, sn, h2, h3, h4, h5⟩ := h
  rw [h3, h5]
  refine and_congr_right (fun hk => ?_)
  have e : T (tA T n s) = σ 55 (tA T n s) := (t5 _ (by omega) (by have := hb.2.2.2.2.2.2.2 (by omega); omega)).symm
  rw [tk3 sn hk, e, wrp_id (t4 _)]
def frRd (σ τ : l2_m) : Prop := ∀ b j, ¬ (b = 49 ∧ (j = 4 ∨ j = 5 ∨ j = 8 ∨ (10 ≤ j ∧ j ≤ 12))) → τ b j = σ b j
theorem frRd_T {τ υ : l2_m} (h : frRd σ τ) (h' : frTk τ υ) : frRd σ υ := fun b j z => (h' b j (by omega)).trans (h b j z)
theorem frRd_F {τ υ : l2_m} {f : Int} (h : frRd σ τ) (e : υ = l2_u (l2_u τ 49 4 f) 49 5 (τ 49 11)) : frRd σ υ ∧ υ 49 4 = f ∧ υ 49 5 = τ 49 11 := by
  refine ⟨fun b j z => ?_, ?_, ?_⟩
  · rw [e]; unfold l2_u; rw [if_neg (by omega), if_neg (by omega)]; exact h b j z
  · rw [e, l2_u_nj (by decide), l2_u_self]
  · rw [e, l2_u_self]
/-- the powers of a term -/
theorem c99l {W : Int → Int} {o : Nat} {neg coef told key c : Int} {t : l2_m} {s' : Int} (hU : ∀ u : Int, 0 ≤ u → u < 3 → σ 53 u = UW W u) (hf : frRd σ t) (hS : TS T n s' t) (hk : tkO told key c) (hF : ∀ τ : l2_m, frRd σ τ → (trmL T n (4 - c).toNat s' told key).1 ≠ 0 → τ 49 4 = (trmL T n (4 - c).toNat s' told key).1 → τ 49 5 = (trmL T n (4 - c).toNat s' told key).2.1 → K 0 τ) (hO : ∀ τ : l2_m, frRd σ τ → (trmL T n (4 - c).toNat s' told key).1 = 0 → TS T n (trmL T n (4 - c).toNat s' told key).2.1 τ → 0 ≤ (trmL T n (4 - c).toNat s' told key).2.2 → (trmL T n (4 - c).toNat s' told key).2.2 < 4096 → s' ≤ (trmL T n (4 - c).toNat s' told key).2.1 → w99_162 B τ o neg coef (MW W (trmL T n (4 - c).toNat s' told key).2.2) K) : w99_45 B t o neg coef told (MW W key) c K := by
  obtain ⟨R, hR⟩ : ∃ R, R = trmL T n (4 - c).toNat s' told key := ⟨_, rfl⟩
  rw [← hR] at hF hO
  unfold w99_45
  refine lz4_inv (fun (to m c : Int) u => ∃ (key' z : Int), m = MW W key' ∧ tkO to key' c ∧ frRd σ u ∧ TS T n z u ∧ R = trmL T n (4 - c).toNat z to key' ∧ s' ≤ z) (fun _ _ c _ => 4 - c) ?_ ⟨key, s', rfl, hk, hf, hS, hR, Int.le_refl _⟩
  intro X to m c u hX ⟨key', z, em, hk', fu, Su, eR, hz⟩
  obtain ⟨k1, k2, k3, k4, k5, k6⟩ := id hk'
  have bb0 := bit_b to 0
  have bb1 := bit_b to 1
  have bb2 := bit_b to 2
  have hub := unkF_b (T := T) (n := n) z
  obtain ⟨hu, hu2⟩ := TS_u Su
  have c3 : c ≤ 3 := by omega
  have ef : (4 - c).toNat = (4 - (c + 1)).toNat + 1 := by omega
  rw [ef] at eR
  unfold trmL at eR
  refine ⟨⟨by omega, by omega⟩, fun _ => ⟨(TS_rg Su).1, hu2.1, hu2.2.1, hu2.2.2.1, hu2.2.2.2, by rw [hu]; exact ⟨by omega, by omega⟩⟩, ?_⟩
  rw [hu]
  by_cases h1 : unkF T n z = -1
  · rw [if_pos (Or.inr h1)]
    rw [if_pos h1] at eR
    rw [em]
    have := hO u fu (by rw [eR]) (by rw [eR]; exact Su) (by rw [eR]; exact k3) (by rw [eR]; exact k4) (by rw [eR]; exact hz)
    rw [eR] at this
    exact this
  · rw [if_neg h1] at eR
    rw [if_neg (by omega)]
    intro v ev
    rw [← ev] at eR h1 hub
    refine ⟨⟨⟨by omega, by omega⟩, by omega, by omega⟩, ?_⟩
    by_cases h2 : bit to v = 1
    · rw [if_pos h2]
      rw [if_pos h2] at eR
      intro τ et
      obtain ⟨f1, f2, f3⟩ := frRd_F fu et
      refine hF τ f1 (by rw [eR]; exact (by decide : (3 : Int) ≠ 0)) (by rw [eR]; exact f2) (by rw [eR, f3]; exact Su.2.2.2.2.2.1)
    · rw [if_neg h2]
      rw [if_neg h2] at eR
      have h20 : bit to v = 0 := (bit_b to v).resolve_right h2
      have pb := pow16_b (u := v) (by omega) (by omega)
      refine ⟨⟨k1, pb.1, by omega, pb.2⟩, ?_⟩
      intro to' eto
      rw [ior_bit k1 k2 (by omega) (by omega) h20] at eto
      have ez := k5 v (by omega) (by omega) h20
      have hzb := TS_b Su
      refine adv Su (fun u1 g1 S1 => ⟨(TS_rg S1).1, ?_⟩)
      have fu1 := frRd_T fu g1
      have next : ∀ (u2 : l2_m) (e z2 : Int), 0 ≤ e → e ≤ 15 → frRd σ u2 → TS T n z2 u2 → R = trmL T n (4 - (c + 1)).toNat z2 (to + 2 ^ v.toNat) (key' + e * 16 ^ v.toNat) → s' ≤ z2 → w99_138 B u2 o neg coef to' m c v e X K := by
        intro u2 e z2 e0 e15 f2 S2 eR2 hz2
        unfold w99_138
        refine ⟨⟨by omega, by omega⟩, ?_⟩
        intro m' em'
        obtain ⟨hk2, hc3⟩ := tkO_s hk' (u := v) (e := e) (by omega) (by omega) h20 e0 e15
        refine hX to' m' (c + 1) u2 ⟨key' + e * 16 ^ v.toNat, z2, ?_, by rw [eto]; exact hk2, f2, S2, by rw [eto]; exact eR2, hz2⟩ (by omega)
        rw [em', em, f2 53 v (by omega), hU v (by omega) (by omega)]
        exact MW_dig k3 k4 (by omega) (by omega) ez e0 e15
      rw [S1.2.2.2.2.1]
      have hzb1 := TS_b S1
      by_cases h3 : tK T n (tE T n z) = 2
      · rw [if_pos h3]
        rw [if_pos h3] at eR
        obtain ⟨v1, v2, v3⟩ := TS_2 S1 h3
        rw [v1]
        refine ⟨⟨by omega, by omega⟩, ?_⟩
        by_cases h4 : tV T n (tE T n z) < 1
        · rw [if_pos h4]
          rw [if_neg (by omega)] at eR
          intro τ et
          obtain ⟨f1, f2, f3⟩ := frRd_F fu1 et
          refine hF τ f1 (by rw [eR]; exact (by decide : (4 : Int) ≠ 0)) (by rw [eR]; exact f2) (by rw [eR, f3]; exact S1.2.2.2.2.2.1)
        · rw [if_neg h4]
          by_cases h5 : 15 < tV T n (tE T n z)
          · rw [if_pos h5]
            rw [if_neg (by omega)] at eR
            intro τ et
            obtain ⟨f1, f2, f3⟩ := frRd_F fu1 et
            refine hF τ f1 (by rw [eR]; exact (by decide : (4 : Int) ≠ 0)) (by rw [eR]; exact f2) (by rw [eR, f3]; exact S1.2.2.2.2.2.1)
          · rw [if_neg h5]
            rw [if_pos (by omega)] at eR
            intro e ee
            rw [← ee] at eR
            refine adv S1 (fun u2 g2 S2 => ?_)
            exact next u2 e _ (by omega) (by omega) (frRd_T fu1 g2) S2 eR (by omega)
      · rw [if_neg h3]
        rw [if_neg h3] at eR
        exact next u1 1 _ (by decide) (by decide) fu1 S1 eR (by omega)
/-- rows that were told, whose sums by marks are g -/
def AccC (σ : l2_m) (o : Nat) (W : Int → Int) (p : Int) (g : Int → Int) : Prop := 0 ≤ σ o 2 ∧ (∀ i : Int, 0 ≤ i → i < σ o 2 → (∃ k : Int, 0 ≤ k ∧ k < 4096 ∧ σ (o + 1) i = MW W k) ∧ 0 ≤ σ (o + 2) i ∧ σ (o + 2) i < p) ∧ ∀ k : Int, 0 ≤ k → k < 4096 → mgs σ o (σ o 2) (MW W k) % p = g k
theorem AccC_fr {τ : l2_m} {o : Nat} {W g : Int → Int} {p : Int} (h : AccC σ o W p g) (f : ∀ b j, b = o ∨ b = o + 1 ∨ b = o + 2 → τ b j = σ b j) : AccC τ o W p g := by
  obtain ⟨h1, h2, h3⟩ := h
  have e : ∀ j, τ o j = σ o j ∧ τ (o + 1) j = σ (o + 1) j ∧ τ (o + 2) j = σ (o + 2) j := fun j => ⟨f _ _ (by omega), f _ _ (by omega), f _ _ (by omega)⟩
  unfold AccC
  rw [(e 2).1]
  refine ⟨h1, fun i i0 i1 => by rw [(e i).2.1, (e i).2.2]; exact h2 i i0 i1, fun k k0 k1 => ?_⟩
  rw [← h3 k k0 k1]
  unfold mgs tsum
  rw [show (fun i => if τ (o + 1) i = MW W k then τ (o + 2) i else 0) = (fun i => if σ (o + 1) i = MW W k then σ (o + 2) i else 0) from funext (fun i => by rw [(e i).2.1, (e i).2.2])]
theorem AccC_app {τ : l2_m} {o : Nat} {W g : Int → Int} {p neg c key : Int} (h : AccC σ o W p g) (p0 : 0 < p) (hl : σ o 2 < 60) (k0 : 0 ≤ key) (k1 : key < 4096) (he : τ = app σ o (MW W key) ((if neg = 0 then c else -c) % p)) : AccC τ o W p (accF p neg c key g) ∧ τ o 2 = σ o 2 + 1 ∧ frQ o σ τ := by
  obtain ⟨a1, a2, a3, a4⟩ := app_row hl he
  obtain ⟨h1, h2, h3⟩ := h
  refine ⟨⟨by omega, fun i i0 i1 => ?_, fun k x0 x1 => ?_⟩, a1, a4⟩
  · rw [a2, a3]
    by_cases hi : i = σ o 2
    · rw [if_pos hi, if_pos hi]
      exact ⟨⟨key, k0, k1, rfl⟩, Int.emod_nonneg _ (by omega), Int.emod_lt_of_pos _ p0⟩
    · rw [if_neg hi, if_neg hi]
      exact h2 i i0 (by omega)
  · have es : mgs τ o (τ o 2) (MW W k) = mgs σ o (σ o 2) (MW W k) + (if MW W key = MW W k then (if neg = 0 then c else -c) % p else 0) := by
      unfold mgs tsum
      rw [a1, sumN_step h1, a2, a3, if_pos rfl, if_pos rfl]
      rw [sumN_congr (f := fun i => if τ (o + 1) i = MW W k then τ (o + 2) i else 0) (g := fun i => if σ (o + 1) i = MW W k then σ (o + 2) i else 0) (fun j j0 j1 => by rw [a2, a3, if_neg (show ¬ j = σ o 2 by omega), if_neg (show ¬ j = σ o 2 by omega)])]
    rw [es]
    unfold accF upI
    by_cases hk : k = key
    · rw [if_pos hk, hk, if_pos rfl, ← h3 key k0 k1]
      rw [Int.emod_add_emod, Int.add_emod_emod]
    · rw [if_neg hk, if_neg (fun w => hk (MW_inj x0 x1 k0 k1 w.symm)), Int.add_zero]
      exact h3 k x0 x1
theorem frRd_Q {τ υ : l2_m} {o : Nat} (h : frRd σ τ) (h' : frQ o τ υ) : ∀ b j, b ≠ o → b ≠ o + 1 → b ≠ o + 2 → ¬ (b = 49 ∧ (j = 4 ∨ j = 5 ∨ j = 8 ∨ (10 ≤ j ∧ j ≤ 12))) → υ b j = σ b j := fun b j z1 z2 z3 z4 => (h' b j z1 z2 z3).trans (h b j z4)
/-- a term -/
theorem c99 {W g : Int → Int} {o : Nat} {p neg : Int} (ho : isP o) (ho6 : 56 ≤ o ∧ o < 72) (hn : neg = 0 ∨ neg = 1) (hp : σ 50 0 = p) (p2 : 2 ≤ p) (p97 : p ≤ 97) (hU : ∀ u : Int, 0 ≤ u → u < 3 → σ 53 u = UW W u) (hS : TS T n s σ) (hA : AccC σ o W p g) (hm : σ o 2 < 60) (hF : ∀ τ : l2_m, frRd σ τ → (trm T n s).1 ≠ 0 → τ 49 4 = (trm T n s).1 → τ 49 5 = (trm T n s).2.1 → K 0 τ) (hO : ∀ τ : l2_m, (∀ b j, b ≠ o → b ≠ o + 1 → b ≠ o + 2 → ¬ (b = 49 ∧ (j = 4 ∨ j = 5 ∨ j = 8 ∨ (10 ≤ j ∧ j ≤ 12))) → τ b j = σ b j) → (trm T n s).1 = 0 → TS T n (trm T n s).2.1 τ → s ≤ (trm T n s).2.1 → AccC τ o W p (accF p neg (trm T n s).2.2.2 (trm T n s).2.2.1 g) → τ o 2 = σ o 2 + 1 → K 1 τ) : wC B 99 [vr 49, vr o, vi neg] σ K := by
  have hb := TS_b hS
  refine o99 ho ?_
  unfold w99
  have fin : ∀ (τ : l2_m) (coef key s' : Int), 0 ≤ coef → coef ≤ 9999 → frRd σ τ → TS T n s' τ → 0 ≤ key → key < 4096 → s ≤ s' → trm T n s = (0, s', key, coef) → w99_162 B τ o neg coef (MW W key) K := by
    intro τ coef key s' q0 q1 fr St k0 k1 hss et
    have eo : ∀ b j, b = o ∨ b = o + 1 ∨ b = o + 2 → τ b j = σ b j := fun b j z => fr b j (by omega)
    have hA1 := AccC_fr hA eo
    have t2 : τ o 2 = σ o 2 := eo o 2 (by omega)
    have ep : τ 50 0 = p := by rw [fr 50 0 (by omega)]; exact hp
    have a1 := hA1.1
    unfold w99_162
    have go : ∀ υ, υ = app τ o (MW W key) ((if neg = 0 then coef else -coef) % p) → K 1 υ := by
      intro υ eu
      obtain ⟨r1, r2, r3⟩ := AccC_app hA1 (by omega) (by omega) k0 k1 eu
      refine hO υ (frRd_Q fr r3) (by rw [et]) (by rw [et]; exact TS_fr St (fun b j z => r3 b j (by omega) (by omega) (by omega))) (by rw [et]; exact hss) (by rw [et]; exact r1) (by omega)
    refine ⟨by rcases hn with z | z <;> (rw [z]; decide), ?_⟩
    rw [ep]
    by_cases hneg : neg = 0
    · rw [if_pos hneg]
      rw [if_pos hneg] at go
      exact ⟨⟨p2, p97, ⟨by omega, by omega⟩, a1, ⟨by omega, by omega⟩⟩, go⟩
    · rw [if_neg hneg]
      rw [if_neg hneg] at go
      exact ⟨⟨p2, p97, ⟨by omega, by omega⟩, a1, ⟨by omega, by omega⟩⟩, go⟩
  have fr0 : frRd σ σ := fun _ _ _ => rfl
  have MW00 : (0 : Int) = MW W 0 := (MW_0 W).symm
  rw [hS.2.2.2.2.1]
  refine ⟨⟨by omega, by omega⟩, ?_⟩
  by_cases h2 : tK T n s = 2
  · rw [if_pos h2]
    intro coef ec
    obtain ⟨v1, v2, v3⟩ := TS_2 hS h2
    rw [v1] at ec
    have e4c : (4 - (0 : Int)).toNat = 4 := rfl
    have etr : trm T n s = ((trmL T n 4 (tE T n s) 0 0).1, (trmL T n 4 (tE T n s) 0 0).2.1, (trmL T n 4 (tE T n s) 0 0).2.2, tV T n s) := by unfold trm; rw [if_pos h2]
    refine adv hS (fun τ f1 S1 => ?_)
    have key := c99l (B := B) (K := K) (σ := σ) (W := W) (o := o) (neg := neg) (coef := coef) (told := 0) (key := 0) (c := 0) hU (frRd_T fr0 f1) S1 tkO_0
    rw [e4c, ← MW00] at key
    refine key (fun υ g1 g2 g3 g4 => hF υ g1 (by rw [etr]; exact g2) (by rw [etr]; exact g3) (by rw [etr]; exact g4)) (fun υ g1 g2 g3 g4 g5 g6 => ?_)
    exact fin υ coef _ _ (by omega) (by omega) g1 g3 g4 g5 (by omega) (by rw [etr, g2, ec])
  · rw [if_neg h2]
    obtain ⟨hu, hu2⟩ := TS_u hS
    have hub := unkF_b (T := T) (n := n) s
    refine ⟨⟨hu2.1, hu2.2.1, hu2.2.2.1, hu2.2.2.2, by rw [hu]; exact ⟨by omega, by omega⟩⟩, ?_⟩
    rw [hu]
    by_cases h1 : unkF T n s = -1
    · rw [if_pos h1]
      have etr : trm T n s = (1, tA T n s, 0, 0) := by unfold trm; rw [if_neg h2, if_pos h1]
      intro τ et
      obtain ⟨f1, f2, f3⟩ := frRd_F fr0 et
      exact hF τ f1 (by rw [etr]; exact (by decide : (1 : Int) ≠ 0)) (by rw [etr]; exact f2) (by rw [etr, f3]; exact hS.2.2.2.2.2.1)
    · rw [if_neg h1]
      have e4c : (4 - (0 : Int)).toNat = 4 := rfl
      have etr : trm T n s = ((trmL T n 4 s 0 0).1, (trmL T n 4 s 0 0).2.1, (trmL T n 4 s 0 0).2.2, 1) := by unfold trm; rw [if_neg h2, if_neg h1]
      have key := c99l (B := B) (K := K) (σ := σ) (W := W) (o := o) (neg := neg) (coef := 1) (told := 0) (key := 0) (c := 0) hU fr0 hS tkO_0
      rw [e4c, ← MW00] at key
      refine key (fun υ g1 g2 g3 g4 => hF υ g1 (by rw [etr]; exact g2) (by rw [etr]; exact g3) (by rw [etr]; exact g4)) (fun υ g1 g2 g3 g4 g5 g6 => ?_)
      exact fin υ 1 _ _ (by decide) (by decide) g1 g3 g4 g5 g6 (by rw [etr, g2])
end CR
