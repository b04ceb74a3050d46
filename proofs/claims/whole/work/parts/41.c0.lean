/-! ===== leaves: what they answer ===== -/
theorem b2i_n {c d : Prop} [Decidable c] [Decidable d] {K : Int → l2_m → Prop} {σ : l2_m} (e : c ↔ ¬ d) (h : K (b2i d) σ) : if c then K 0 σ else K 1 σ := by
  by_cases hd : d
  · rw [if_neg (fun hc => e.mp hc hd)]; rw [b2i, if_pos hd] at h; exact h
  · rw [if_pos (e.mpr hd)]; rw [b2i, if_neg hd] at h; exact h
theorem b2i_p {c d : Prop} [Decidable c] [Decidable d] {K : Int → l2_m → Prop} {σ : l2_m} (e : c ↔ d) (h : K (b2i d) σ) : if c then K 1 σ else K 0 σ := by
  by_cases hd : d
  · rw [if_pos (e.mpr hd)]; rw [b2i, if_pos hd] at h; exact h
  · rw [if_neg (fun hc => hd (e.mp hc))]; rw [b2i, if_neg hd] at h; exact h
theorem rg_md {a m : Int} (h0 : 2 ≤ m) (h1 : m ≤ 97) : rg (a % m) := rg_mod a (by omega) (by omega)
def e5 (m u : Int) : Int := (m / 2 ^ (Int.toNat (5 * u))) % 32
theorem e5_0 (m : Int) : e5 m 0 = m % 32 := by show (m / 1) % 32 = _; rw [Int.ediv_one]
theorem e5_1 (m : Int) : e5 m 1 = m / 32 % 32 := rfl
theorem e5_2 (m : Int) : e5 m 2 = m / 1024 % 32 := rfl
theorem e5_b (m u : Int) : 0 ≤ e5 m u ∧ e5 m u < 32 := by unfold e5; generalize m / 2 ^ (Int.toNat (5 * u)) = z; omega
theorem rg_e5 (m u : Int) : rg (e5 m u) := by have := e5_b m u; exact ⟨by omega, by omega⟩
theorem rg_tot (m : Int) : rg (e5 m 0 + e5 m 1 + e5 m 2) := by have := e5_b m 0; have := e5_b m 1; have := e5_b m 2; exact ⟨by omega, by omega⟩
def e4 (m u : Int) : Int := (m / 2 ^ (Int.toNat (4 * u))) % 16
theorem e4_0 (m : Int) : e4 m 0 = m % 16 := by show (m / 1) % 16 = _; rw [Int.ediv_one]
theorem e4_1 (m : Int) : e4 m 1 = m / 16 % 16 := rfl
theorem e4_2 (m : Int) : e4 m 2 = m / 256 % 16 := rfl
theorem e4_b (m u : Int) : 0 ≤ e4 m u ∧ e4 m u < 16 := by unfold e4; generalize m / 2 ^ (Int.toNat (4 * u)) = z; omega
theorem rg_e4 (m u : Int) : rg (e4 m u) := by have := e4_b m u; exact ⟨by omega, by omega⟩
theorem rg_tot4 (m : Int) : rg (e4 m 0 + e4 m 1 + e4 m 2) := by have := e4_b m 0; have := e4_b m 1; have := e4_b m 2; exact ⟨by omega, by omega⟩
def bit (s r : Int) : Int := (s / 2 ^ (Int.toNat r)) % 2
theorem bit_b (s r : Int) : bit s r = 0 ∨ bit s r = 1 := by unfold bit; generalize s / 2 ^ (Int.toNat r) = z; omega
/-- the highest place below n where something is, or -1 -/
def topN (f : Int → Int) : Nat → Int
  | 0 => -1
  | n + 1 => if f n = 0 then topN f n else n
def top (f : Int → Int) (p : Int) : Int := topN f p.toNat
theorem topN_spec (f : Int → Int) (n : Nat) : -1 ≤ topN f n ∧ topN f n < n ∧ (∀ j : Int, topN f n < j → j < n → f j = 0) ∧ (0 ≤ topN f n → f (topN f n) ≠ 0) := by
  induction n with
  | zero => exact ⟨Int.le_refl _, by show (-1 : Int) < 0; omega, fun j h1 h2 => by simp only [topN] at h1; omega, fun h => by simp only [topN] at h; omega⟩
  | succ n ih =>
    unfold topN
    by_cases h : f n = 0
    · rw [if_pos h]
      refine ⟨ih.1, by have := ih.2.1; omega, fun j h1 h2 => ?_, ih.2.2.2⟩
      by_cases hj : j = n
      · rw [hj]; exact h
      · exact ih.2.2.1 j h1 (by omega)
    · rw [if_neg h]
      exact ⟨by omega, by omega, fun j h1 h2 => by omega, fun _ => h⟩
theorem top_spec (f : Int → Int) {p : Int} (hp : 0 ≤ p) : -1 ≤ top f p ∧ top f p < p ∧ (∀ j : Int, top f p < j → j < p → f j = 0) ∧ (0 ≤ top f p → f (top f p) ≠ 0) := by
  have h := topN_spec f p.toNat
  rw [Int.toNat_of_nonneg hp] at h
  exact h
theorem top_uniq {f : Int → Int} {p t : Int} (hp : 0 ≤ p) (h1 : -1 ≤ t) (h2 : t < p) (h3 : ∀ j : Int, t < j → j < p → f j = 0) (h4 : 0 ≤ t → f t ≠ 0) : top f p = t := by
  obtain ⟨a1, a2, a3, a4⟩ := top_spec f hp
  rcases Int.lt_trichotomy (top f p) t with h | h | h
  · exact absurd (a3 t h h2) (h4 (by omega))
  · exact h
  · exact absurd (h3 _ h a2) (a4 (by omega))
/-- sums -/
def sumN (f : Int → Int) : Nat → Int
  | 0 => 0
  | n + 1 => sumN f n + f n
theorem sumN_step {f : Int → Int} {i : Int} (h : 0 ≤ i) : sumN f (i + 1).toNat = sumN f i.toNat + f i := by
  obtain ⟨n, rfl⟩ := Int.eq_ofNat_of_zero_le h
  have : ((n : Int) + 1).toNat = n + 1 := by omega
  rw [this, Int.toNat_natCast]; rfl
theorem sumN_congr {f g : Int → Int} {n : Nat} (h : ∀ j : Int, 0 ≤ j → j < n → f j = g j) : sumN f n = sumN g n := by
  induction n with
  | zero => rfl
  | succ n ih =>
    show sumN f n + f n = sumN g n + g n
    rw [ih (fun j h0 h1 => h j h0 (by omega)), h n (by omega) (by omega)]
/-- how many places aren't 0 -/
theorem cnt_ex (f : Int → Int) (n : Int) : ∃ x : Int, x = sumN (fun k => if f k = 0 then 0 else 1) n.toNat := ⟨_, rfl⟩
noncomputable def cnt (f : Int → Int) (n : Int) : Int := (cnt_ex f n).choose
theorem cnt_def (f : Int → Int) (n : Int) : cnt f n = sumN (fun k => if f k = 0 then 0 else 1) n.toNat := (cnt_ex f n).choose_spec
theorem cnt_0 (f : Int → Int) : cnt f 0 = 0 := cnt_def f 0
theorem cnt_step {f : Int → Int} {i : Int} (h : 0 ≤ i) : cnt f (i + 1) = cnt f i + (if f i = 0 then 0 else 1) := by
  rw [cnt_def, cnt_def]; exact sumN_step h
theorem cnt_congr {f g : Int → Int} {n : Int} (h : ∀ j : Int, 0 ≤ j → j < n → f j = g j) : cnt f n = cnt g n := by
  rw [cnt_def, cnt_def]; exact sumN_congr (fun j h0 h1 => by rw [h j h0 (by omega)])
theorem cnt_b (f : Int → Int) (n : Nat) : 0 ≤ cnt f n ∧ cnt f n ≤ n := by
  induction n with
  | zero => rw [show ((0 : Nat) : Int) = 0 from rfl, cnt_0]; exact ⟨Int.le_refl _, Int.le_refl _⟩
  | succ n ih =>
    have e : cnt f ((n + 1 : Nat) : Int) = cnt f n + (if f n = 0 then 0 else 1) := by
      have := cnt_step (f := f) (i := (n : Int)) (by omega)
      rw [← this]; congr 1
    rw [e]
    split <;> omega
theorem cnt_bi (f : Int → Int) {n : Int} (h : 0 ≤ n) : 0 ≤ cnt f n ∧ cnt f n ≤ n := by
  obtain ⟨m, rfl⟩ := Int.eq_ofNat_of_zero_le h
  exact cnt_b f m
/-- powers, by a modulus -/
def pwN (p v : Int) : Nat → Int
  | 0 => 1
  | n + 1 => pwN p v n * v % p
def pw (p v e : Int) : Int := pwN p v e.toNat
theorem pw_0 (p v : Int) : pw p v 0 = 1 := rfl
theorem pw_step {p v i : Int} (h : 0 ≤ i) : pw p v (i + 1) = pw p v i * v % p := by
  obtain ⟨n, rfl⟩ := Int.eq_ofNat_of_zero_le h
  unfold pw
  have : ((n : Int) + 1).toNat = n + 1 := by omega
  rw [this, Int.toNat_natCast]; rfl
theorem pw_b {p v : Int} (hp : 2 ≤ p) (e : Int) : 0 ≤ pw p v e ∧ pw p v e < p := by
  unfold pw
  cases e.toNat with
  | zero => show (0 : Int) ≤ 1 ∧ (1 : Int) < p; omega
  | succ n => exact ⟨Int.emod_nonneg _ (by omega), Int.emod_lt_of_pos _ (by omega)⟩
/-- a small product -/
theorem mul_b {a b m n : Int} (h0 : 0 ≤ a) (h1 : a ≤ m) (h2 : 0 ≤ b) (h3 : b ≤ n) : 0 ≤ a * b ∧ a * b ≤ m * n := ⟨Int.mul_nonneg h0 h2, Int.mul_le_mul h1 h3 h2 (by omega)⟩
theorem mul_rg {a b : Int} (h0 : 0 ≤ a) (h1 : a ≤ 10000) (h2 : 0 ≤ b) (h3 : b ≤ 10000) : 0 ≤ a * b ∧ a * b ≤ 100000000 := by have := mul_b h0 h1 h2 h3; omega
/-! bits -/
theorem ior_dis {a b : Int} {j : Nat} (ha : 0 ≤ a) (hb : 0 ≤ b) (hj : b < 2 ^ j) : ior (a * 2 ^ j) b = a * 2 ^ j + b := by
  obtain ⟨m, rfl⟩ := Int.eq_ofNat_of_zero_le ha
  obtain ⟨n, rfl⟩ := Int.eq_ofNat_of_zero_le hb
  have hn : n < 2 ^ j := by exact_mod_cast hj
  have h := Nat.two_pow_add_eq_or_of_lt hn m
  unfold ior
  have e1 : ((m : Int) * 2 ^ j).toNat = 2 ^ j * m := by
    have : (m : Int) * 2 ^ j = ((2 ^ j * m : Nat) : Int) := by push_cast; exact Int.mul_comm _ _
    rw [this, Int.toNat_natCast]
  rw [e1, Int.toNat_natCast, ← h]
  push_cast
  rw [Int.mul_comm]
theorem ior_comm (a b : Int) : ior a b = ior b a := by unfold ior; rw [Nat.or_comm]
theorem ior_16 {a b : Int} (ha : 0 ≤ a) (hb : 0 ≤ b) (h : b < 16) : ior b (a * 16) = a * 16 + b := by
  rw [ior_comm]; exact ior_dis (j := 4) ha hb (by omega)
theorem ior_256 {a b : Int} (ha : 0 ≤ a) (hb : 0 ≤ b) (h : b < 256) : ior b (a * 256) = a * 256 + b := by
  rw [ior_comm]; exact ior_dis (j := 8) ha hb (by omega)
