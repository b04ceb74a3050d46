/-! ===== the generator's powers come back late: computed for each prime ===== -/
def stN (p D h tl : Nat) : Nat → Nat → Nat
  | 0, _ => 0
  | k + 1, pl => (D / pl + h * (tl / pl % p)) % p * pl + stN p D h tl k (pl * p)
def spN (p k tl n : Nat) : Nat := stN p (n * p) (n * p / p ^ k) tl k 1
def sfN (p k tl n : Nat) : Nat := if n ≤ 1 then 0 else spN p k tl n
def itN (s : Nat → Nat) : Nat → Nat → Nat
  | 0, n => s n
  | j + 1, n => match itN s j n with
    | 0 => 0
    | m + 1 => itN s j (m + 1)
def chN (r : Nat × Nat × Nat × List Nat) : Bool := (r.2.2.2.map (fun j => 2 ^ j)).sum + 2 == r.1 ^ r.2.1 && decide (1 < r.1) && decide (1 ≤ r.2.1) && r.2.2.2.foldl (fun n j => itN (sfN r.1 r.2.1 r.2.2.1) j n) (spN r.1 r.2.1 r.2.2.1 1) == 1
def irN (s : Nat → Nat) : Nat → Nat → Nat
  | 0, n => n
  | i + 1, n => irN s i (s n)
theorem irN_t (s : Nat → Nat) : ∀ (a b n : Nat), irN s b (irN s a n) = irN s (a + b) n
  | 0, b, n => by rw [Nat.zero_add]; rfl
  | a + 1, b, n => by
    show irN s b (irN s a (s n)) = _
    rw [irN_t s a b, show a + 1 + b = a + b + 1 by omega]; rfl
theorem irN_0 {s : Nat → Nat} (h : s 0 = 0) : ∀ i, irN s i 0 = 0
  | 0 => rfl
  | i + 1 => by show irN s i (s 0) = 0; rw [h]; exact irN_0 h i
theorem itN_e {s : Nat → Nat} (h : s 0 = 0) : ∀ (j n : Nat), itN s j n = irN s (2 ^ j) n
  | 0, n => rfl
  | j + 1, n => by
    have e : itN s (j + 1) n = itN s j (itN s j n) := by
      show (match itN s j n with | 0 => 0 | m + 1 => itN s j (m + 1)) = _
      split
      · rename_i w; rw [w, itN_e h, irN_0 h]
      · rename_i w; rw [w]
    rw [e, itN_e h, itN_e h, irN_t, Nat.pow_succ]
    congr 1; omega
theorem fdN_e {s : Nat → Nat} (h : s 0 = 0) : ∀ (js : List Nat) (n : Nat), js.foldl (fun n j => itN s j n) n = irN s (js.map (fun j => 2 ^ j)).sum n
  | [], n => rfl
  | j :: js, n => by
    show js.foldl (fun n j => itN s j n) (itN s j n) = _
    rw [fdN_e h js, itN_e h, irN_t]
    rfl
/-- where they are all above 1, the safe steps are the steps -/
theorem irN_s {s f : Nat → Nat} (hf : ∀ n, f n = if n ≤ 1 then 0 else s n) : ∀ (m n : Nat), irN f m n ≠ 0 → irN f m n = irN s m n ∧ ∀ i, i < m → 1 < irN s i n
  | 0, n, _ => ⟨rfl, fun i hi => absurd hi (by omega)⟩
  | m + 1, n, h => by
    have h' : irN f m (f n) ≠ 0 := h
    have f0 : f 0 = 0 := by rw [hf, if_pos (by omega)]
    have hn : 1 < n := by
      rcases Nat.lt_or_ge 1 n with w | w
      · exact w
      · rw [hf, if_pos w, irN_0 f0] at h'
        exact absurd rfl h'
    have e : f n = s n := by rw [hf, if_neg (by omega)]
    rw [e] at h'
    obtain ⟨a, b⟩ := irN_s hf m (s n) h'
    refine ⟨?_, fun i hi => ?_⟩
    · show irN f m (f n) = irN s m (s n)
      rw [e]; exact a
    · cases i with
      | zero => exact hn
      | succ i => exact b i (by omega)
theorem ch_ok {p k tl : Nat} {js : List Nat} (h : chN (p, k, tl, js) = true) : 1 < p ∧ 1 ≤ k ∧ 2 ≤ p ^ k ∧ irN (spN p k tl) (p ^ k - 1) 1 = 1 ∧ ∀ e, 0 < e → e < p ^ k - 1 → irN (spN p k tl) e 1 ≠ 1 := by
  unfold chN at h
  rw [Bool.and_eq_true, Bool.and_eq_true, Bool.and_eq_true, beq_iff_eq, beq_iff_eq, decide_eq_true_eq, decide_eq_true_eq] at h
  obtain ⟨⟨⟨h1, h2⟩, h3⟩, h4⟩ := h
  have s0 : sfN p k tl 0 = 0 := by unfold sfN; rw [if_pos (by omega)]
  have h4' : js.foldl (fun n j => itN (sfN p k tl) j n) (spN p k tl 1) = 1 := h4
  rw [fdN_e s0] at h4'
  have h1' : (js.map (fun j => 2 ^ j)).sum + 2 = p ^ k := h1
  obtain ⟨a, b⟩ := irN_s (s := spN p k tl) (f := sfN p k tl) (fun n => rfl) (js.map (fun j => 2 ^ j)).sum (spN p k tl 1) (by rw [h4']; decide)
  rw [h4'] at a
  refine ⟨h2, h3, by omega, ?_, fun e e0 e1 => ?_⟩
  · rw [show p ^ k - 1 = (js.map (fun j => 2 ^ j)).sum + 1 by omega]
    exact a.symm
  · obtain ⟨i, rfl⟩ : ∃ i, e = i + 1 := ⟨e - 1, by omega⟩
    have := b i (by omega)
    show irN (spN p k tl) i (spN p k tl 1) ≠ 1
    omega
def gqTb : List (Nat × Nat × Nat × List Nat) := [(2, 9, 17, [1, 2, 3, 4, 5, 6, 7, 8]),
  (3, 6, 4, [0, 1, 2, 4, 6, 7, 9]),
  (5, 4, 32, [0, 1, 2, 3, 5, 6, 9]),
  (7, 4, 60, [0, 1, 2, 3, 4, 6, 8, 11]),
  (11, 3, 18, [0, 4, 5, 8, 10]),
  (13, 3, 32, [0, 1, 4, 7, 11]),
  (17, 3, 20, [0, 1, 2, 3, 5, 8, 9, 12]),
  (19, 3, 34, [0, 3, 6, 7, 9, 11, 12]),
  (23, 2, 27, [0, 1, 2, 3, 9]),
  (29, 2, 44, [0, 1, 2, 6, 8, 9]),
  (31, 2, 38, [0, 1, 2, 3, 4, 5, 7, 8, 9]),
  (37, 2, 52, [0, 1, 2, 4, 6, 8, 10]),
  (41, 2, 48, [0, 1, 2, 3, 7, 9, 10]),
  (43, 2, 52, [0, 1, 2, 4, 5, 8, 9, 10]),
  (47, 2, 55, [0, 1, 2, 3, 4, 7, 11]),
  (53, 2, 58, [0, 1, 2, 4, 5, 6, 7, 9, 11]),
  (59, 2, 62, [0, 1, 2, 4, 7, 8, 10, 11]),
  (61, 2, 68, [0, 1, 2, 7, 9, 10, 11]),
  (67, 2, 77, [0, 1, 2, 7, 8, 12]),
  (71, 2, 74, [0, 1, 2, 3, 5, 7, 8, 9, 12]),
  (73, 2, 78, [0, 1, 2, 3, 6, 7, 10, 12]),
  (79, 2, 83, [0, 1, 2, 3, 4, 6, 11, 12]),
  (83, 2, 104, [0, 1, 2, 5, 6, 7, 9, 11, 12]),
  (89, 2, 104, [0, 1, 2, 3, 5, 6, 7, 9, 10, 11, 12]),
  (97, 2, 104, [0, 1, 2, 3, 4, 5, 7, 10, 13])]
theorem gqTb_ok : gqTb.all chN = true := by decide +kernel
