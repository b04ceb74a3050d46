/-! ===== a field of digits: times the generator is linear ===== -/
theorem no_inj : ∀ (n : Nat) (f : Nat → Nat), (∀ i, i < n + 1 → f i < n) → ¬ (∀ i j, i < n + 1 → j < n + 1 → f i = f j → i = j)
  | 0, f, h, _ => absurd (h 0 (by omega)) (by omega)
  | n + 1, f, h, hi => by
    refine no_inj n (fun i => if f i < f (n + 1) then f i else f i - 1) (fun i hin => ?_) (fun i j hin hjn e => ?_)
    · have h1 := h i (by omega)
      have h2 := h (n + 1) (by omega)
      show (if f i < f (n + 1) then f i else f i - 1) < n
      by_cases w : f i < f (n + 1)
      · rw [if_pos w]; omega
      · have h3 : f i ≠ f (n + 1) := fun z => by have := hi i (n + 1) (by omega) (by omega) z; omega
        rw [if_neg w]; omega
    · have h3 : f i ≠ f (n + 1) := fun z => by have := hi i (n + 1) (by omega) (by omega) z; omega
      have h4 : f j ≠ f (n + 1) := fun z => by have := hi j (n + 1) (by omega) (by omega) z; omega
      refine hi i j (by omega) (by omega) ?_
      have e' : (if f i < f (n + 1) then f i else f i - 1) = (if f j < f (n + 1) then f j else f j - 1) := e
      by_cases w : f i < f (n + 1)
      · rw [if_pos w] at e'
        by_cases y : f j < f (n + 1)
        · rw [if_pos y] at e'; exact e'
        · rw [if_neg y] at e'; omega
      · rw [if_neg w] at e'
        by_cases y : f j < f (n + 1)
        · rw [if_pos y] at e'; omega
        · rw [if_neg y] at e'; omega
theorem inj_surj {n : Nat} {f : Nat → Nat} (h : ∀ i, i < n → f i < n) (hi : ∀ i j, i < n → j < n → f i = f j → i = j) {y : Nat} (hy : y < n) : ∃ i, i < n ∧ f i = y := by
  refine Classical.byContradiction (fun w => ?_)
  have hne : ∀ i, i < n → f i ≠ y := fun i hin z => w ⟨i, hin, z⟩
  obtain ⟨m, rfl⟩ : ∃ m, n = m + 1 := ⟨n - 1, by omega⟩
  refine no_inj m (fun i => if f i < y then f i else f i - 1) (fun i hin => ?_) (fun i j hin hjn e => ?_)
  · have h1 := h i hin
    have h2 := hne i hin
    show (if f i < y then f i else f i - 1) < m
    split <;> omega
  · have h1 := hne i hin
    have h2 := hne j hjn
    refine hi i j hin hjn ?_
    have e' : (if f i < y then f i else f i - 1) = (if f j < y then f j else f j - 1) := e
    by_cases a : f i < y
    · rw [if_pos a] at e'
      by_cases b : f j < y
      · rw [if_pos b] at e'; exact e'
      · rw [if_neg b] at e'; omega
    · rw [if_neg a] at e'
      by_cases b : f j < y
      · rw [if_pos b] at e'; omega
      · rw [if_neg b] at e'; omega
theorem em_l (a b p : Int) : a % p * b % p = a * b % p := by rw [Int.mul_emod, Int.emod_emod, ← Int.mul_emod]
theorem em_r (a b p : Int) : a * (b % p) % p = a * b % p := by rw [Int.mul_emod, Int.emod_emod, ← Int.mul_emod]
abbrev gqT (p : Int) (k : Nat) : Type := { d : Nat → Int // (∀ i, 0 ≤ d i ∧ d i < p) ∧ ∀ i, k ≤ i → d i = 0 }
section GQ
variable {p : Int} (h0 : 0 < p) {k : Nat} (t : Nat → Int)
theorem gq_e {a b : gqT p k} (h : ∀ i, a.1 i = b.1 i) : a = b := Subtype.ext (funext h)
def gqV (d : Nat → Int) : gqT p k := ⟨fun i => if i < k then d i % p else 0, fun i => by
  show 0 ≤ (if i < k then d i % p else 0) ∧ (if i < k then d i % p else 0) < p
  split
  · exact ⟨Int.emod_nonneg _ (by omega), Int.emod_lt_of_pos _ h0⟩
  · exact ⟨by decide, h0⟩, fun i hi => if_neg (by omega)⟩
theorem gqV_i (d : Nat → Int) (i : Nat) : (gqV h0 d : gqT p k).1 i = if i < k then d i % p else 0 := rfl
theorem gqV_s (a : gqT p k) : gqV h0 a.1 = a := gq_e (fun i => by
  rw [gqV_i]
  by_cases hi : i < k
  · rw [if_pos hi]; exact Int.emod_eq_of_lt (a.2.1 i).1 (a.2.1 i).2
  · rw [if_neg hi, a.2.2 i (by omega)])
def gqA (a b : gqT p k) : gqT p k := gqV h0 (fun i => a.1 i + b.1 i)
def gqN (a : gqT p k) : gqT p k := gqV h0 (fun i => - a.1 i)
def gqS (s : Int) (a : gqT p k) : gqT p k := gqV h0 (fun i => s * a.1 i)
def gqO : gqT p k := gqV h0 (fun _ => 0)
def gqE : gqT p k := gqV h0 (fun i => if i = 0 then 1 else 0)
def gqM (a : gqT p k) : gqT p k := gqV h0 (fun i => (if i = 0 then 0 else a.1 (i - 1)) + a.1 (k - 1) * t i)
def gqI (a : gqT p k) : Nat → gqT p k
  | 0 => a
  | n + 1 => gqM h0 t (gqI a n)
theorem gqO_i (i : Nat) : (gqO h0 : gqT p k).1 i = 0 := by
  unfold gqO
  rw [gqV_i]
  split
  · exact Int.zero_emod p
  · rfl
theorem gqS_i (s : Int) (a : gqT p k) (i : Nat) : (gqS h0 s a).1 i = (s * a.1 i) % p := by
  unfold gqS
  rw [gqV_i]
  by_cases hi : i < k
  · rw [if_pos hi]
  · rw [if_neg hi, a.2.2 i (by omega), Int.mul_zero, Int.zero_emod]
theorem gqA_i (a b : gqT p k) (i : Nat) : (gqA h0 a b).1 i = (a.1 i + b.1 i) % p := by
  unfold gqA
  rw [gqV_i]
  by_cases hi : i < k
  · rw [if_pos hi]
  · rw [if_neg hi, a.2.2 i (by omega), b.2.2 i (by omega), Int.add_zero, Int.zero_emod]
theorem gqN_i (a : gqT p k) (i : Nat) : (gqN h0 a).1 i = (- a.1 i) % p := by
  unfold gqN
  rw [gqV_i]
  by_cases hi : i < k
  · rw [if_pos hi]
  · rw [if_neg hi, a.2.2 i (by omega), Int.neg_zero, Int.zero_emod]
theorem gqM_i (a : gqT p k) {i : Nat} (hi : i < k) : (gqM h0 t a).1 i = ((if i = 0 then 0 else a.1 (i - 1)) + a.1 (k - 1) * t i) % p := by
  unfold gqM
  rw [gqV_i, if_pos hi]
theorem gqA_c (a b : gqT p k) : gqA h0 a b = gqA h0 b a := gq_e (fun i => by rw [gqA_i, gqA_i, Int.add_comm])
theorem gqA_a (a b c : gqT p k) : gqA h0 (gqA h0 a b) c = gqA h0 a (gqA h0 b c) := gq_e (fun i => by
  rw [gqA_i, gqA_i, gqA_i, gqA_i, Int.emod_add_emod, Int.add_emod_emod, Int.add_assoc])
theorem gqA_0 (a : gqT p k) : gqA h0 a (gqO h0) = a := gq_e (fun i => by
  rw [gqA_i, gqO_i, Int.add_zero]; exact Int.emod_eq_of_lt (a.2.1 i).1 (a.2.1 i).2)
theorem gqA_n (a : gqT p k) : gqA h0 (gqN h0 a) a = gqO h0 := gq_e (fun i => by
  rw [gqA_i, gqN_i, gqO_i, Int.emod_add_emod, show -a.1 i + a.1 i = 0 by omega, Int.zero_emod])
theorem gqM_a (a b : gqT p k) : gqM h0 t (gqA h0 a b) = gqA h0 (gqM h0 t a) (gqM h0 t b) := gq_e (fun i => by
  rw [gqA_i]
  by_cases hi : i < k
  · rw [gqM_i h0 t _ hi, gqM_i h0 t _ hi, gqM_i h0 t _ hi, gqA_i, gqA_i, ← Int.add_emod]
    by_cases hz : i = 0
    · rw [if_pos hz, if_pos hz, if_pos hz, Int.zero_add, Int.zero_add, Int.zero_add, em_l, Int.add_mul]
    · rw [if_neg hz, if_neg hz, if_neg hz, Int.emod_add_emod, Int.add_emod, em_l, ← Int.add_emod]
      congr 1
      rw [Int.add_mul]; omega
  · rw [(gqM h0 t (gqA h0 a b)).2.2 i (by omega), (gqM h0 t a).2.2 i (by omega), (gqM h0 t b).2.2 i (by omega), Int.add_zero, Int.zero_emod])
theorem gqM_s (s : Int) (a : gqT p k) : gqM h0 t (gqS h0 s a) = gqS h0 s (gqM h0 t a) := gq_e (fun i => by
  rw [gqS_i]
  by_cases hi : i < k
  · rw [gqM_i h0 t _ hi, gqM_i h0 t _ hi, gqS_i, gqS_i, em_r]
    by_cases hz : i = 0
    · rw [if_pos hz, if_pos hz, Int.zero_add, Int.zero_add, em_l, Int.mul_assoc]
    · rw [if_neg hz, if_neg hz, Int.emod_add_emod, Int.add_emod, em_l, ← Int.add_emod]
      congr 1
      rw [Int.mul_add, Int.mul_assoc]
  · rw [(gqM h0 t (gqS h0 s a)).2.2 i (by omega), (gqM h0 t a).2.2 i (by omega), Int.mul_zero, Int.zero_emod])
theorem gqS_0 (a : gqT p k) : gqS h0 0 a = gqO h0 := gq_e (fun i => by rw [gqS_i, gqO_i, Int.zero_mul, Int.zero_emod])
theorem gqM_0 : gqM h0 t (gqO h0 : gqT p k) = gqO h0 := by
  have := gqM_s h0 t 0 (gqO h0 : gqT p k)
  rw [gqS_0, gqS_0] at this
  exact this
theorem gqI_a (a b : gqT p k) : ∀ n, gqI h0 t (gqA h0 a b) n = gqA h0 (gqI h0 t a n) (gqI h0 t b n)
  | 0 => rfl
  | n + 1 => by show gqM h0 t (gqI h0 t (gqA h0 a b) n) = _; rw [gqI_a a b n, gqM_a]; rfl
theorem gqI_s (s : Int) (a : gqT p k) : ∀ n, gqI h0 t (gqS h0 s a) n = gqS h0 s (gqI h0 t a n)
  | 0 => rfl
  | n + 1 => by show gqM h0 t (gqI h0 t (gqS h0 s a) n) = _; rw [gqI_s s a n, gqM_s]; rfl
theorem gqI_0 : ∀ n, gqI h0 t (gqO h0 : gqT p k) n = gqO h0
  | 0 => rfl
  | n + 1 => by show gqM h0 t (gqI h0 t (gqO h0) n) = _; rw [gqI_0 n, gqM_0]
theorem gqI_t (a : gqT p k) (m : Nat) : ∀ n, gqI h0 t (gqI h0 t a m) n = gqI h0 t a (m + n)
  | 0 => rfl
  | n + 1 => by show gqM h0 t (gqI h0 t (gqI h0 t a m) n) = _; rw [gqI_t a m n]; rfl
/-- the powers of the generator -/
def gqg (n : Nat) : gqT p k := gqI h0 t (gqE h0) n
/-- they come back after Q of them, not before; Q + 1 elements in all -/
def cyc (Q : Nat) : Prop := 0 < Q ∧ (gqg h0 t Q : gqT p k) = gqE h0 ∧ (∀ e, 0 < e → e < Q → (gqg h0 t e : gqT p k) ≠ gqE h0) ∧ (gqE h0 : gqT p k) ≠ gqO h0
theorem gqg_i (m n : Nat) : gqI h0 t (gqg h0 t m : gqT p k) n = gqg h0 t (m + n) := gqI_t h0 t _ m n
theorem gqg_nz {Q : Nat} (hc : @cyc p h0 k t Q) (e : Nat) : (gqg h0 t e : gqT p k) ≠ gqO h0 := fun w => by
  have hp : ∀ j, (gqg h0 t (j * Q) : gqT p k) = gqE h0 := by
    intro j
    induction j with
    | zero => rw [Nat.zero_mul]; rfl
    | succ j ih =>
      rw [Nat.succ_mul, ← gqg_i, ih]
      exact hc.2.1
  have h1 := hp e
  have hQ := hc.1
  have h2 : e * Q = e + (e * Q - e) := by
    have : e * 1 ≤ e * Q := Nat.mul_le_mul_left e hQ
    omega
  rw [h2, ← gqg_i, w, gqI_0] at h1
  exact hc.2.2.2 h1.symm
theorem gqg_inj {Q : Nat} (hc : @cyc p h0 k t Q) {i j : Nat} (hi : i < Q) (hj : j < Q) (h : (gqg h0 t i : gqT p k) = gqg h0 t j) : i = j := by
  have key : ∀ i j : Nat, i < j → j < Q → (gqg h0 t i : gqT p k) = gqg h0 t j → False := by
    intro i j hij hj h
    have h1 : gqI h0 t (gqg h0 t i : gqT p k) (Q - i) = gqI h0 t (gqg h0 t j) (Q - i) := by rw [h]
    rw [gqg_i, gqg_i, show i + (Q - i) = Q by omega, show j + (Q - i) = Q + (j - i) by omega, ← gqg_i h0 t Q, hc.2.1] at h1
    exact hc.2.2.1 (j - i) (by omega) (by omega) h1.symm
  rcases Nat.lt_trichotomy i j with z | z | z
  · exact (key i j z hj h).elim
  · exact z
  · exact (key j i z hi h.symm).elim
/-! numbers of digits -/
def enc (d : Nat → Int) (p : Int) : Nat → Int
  | 0 => 0
  | n + 1 => enc d p n + d n * p ^ n
theorem enc_b {d : Nat → Int} (h0 : 0 < p) (hd : ∀ i, 0 ≤ d i ∧ d i < p) : ∀ n, 0 ≤ enc d p n ∧ enc d p n < p ^ n
  | 0 => ⟨Int.le_refl 0, by show (0 : Int) < p ^ 0; rw [Int.pow_zero]; decide⟩
  | n + 1 => by
    obtain ⟨a, b⟩ := enc_b h0 hd n
    obtain ⟨c, e⟩ := hd n
    have hp : (0 : Int) < p ^ n := Int.pow_pos h0
    unfold enc
    rw [Int.pow_succ]
    refine ⟨Int.add_nonneg a (Int.mul_nonneg c (Int.le_of_lt hp)), ?_⟩
    have h1 : d n * p ^ n ≤ (p - 1) * p ^ n := Int.mul_le_mul_of_nonneg_right (by omega) (Int.le_of_lt hp)
    rw [Int.sub_mul, Int.one_mul, Int.mul_comm p] at h1
    omega
theorem enc_inj {d e : Nat → Int} (h0 : 0 < p) (hd : ∀ i, 0 ≤ d i ∧ d i < p) (he : ∀ i, 0 ≤ e i ∧ e i < p) : ∀ n, enc d p n = enc e p n → ∀ i, i < n → d i = e i
  | 0, _, i, hi => absurd hi (by omega)
  | n + 1, h, i, hi => by
    obtain ⟨a, b⟩ := enc_b h0 hd n
    obtain ⟨a', b'⟩ := enc_b h0 he n
    have hp : (0 : Int) < p ^ n := Int.pow_pos h0
    unfold enc at h
    have e1 : (enc d p n + d n * p ^ n) / p ^ n = d n := by rw [Int.add_mul_ediv_right _ _ (by omega), Int.ediv_eq_zero_of_lt a b, Int.zero_add]
    have e2 : (enc e p n + e n * p ^ n) / p ^ n = e n := by rw [Int.add_mul_ediv_right _ _ (by omega), Int.ediv_eq_zero_of_lt a' b', Int.zero_add]
    have e3 : d n = e n := by rw [← e1, ← e2, h]
    by_cases hin : i = n
    · rw [hin]; exact e3
    · refine enc_inj h0 hd he n ?_ i (by omega)
      rw [e3] at h
      omega
theorem enc_z {d : Nat → Int} : ∀ n, (∀ i, i < n → d i = 0) → enc d p n = 0
  | 0, _ => rfl
  | n + 1, h => by
    unfold enc
    rw [enc_z n (fun i hi => h i (by omega)), h n (by omega), Int.zero_mul]; rfl
end GQ
