/-! ===== division, as the document tells it ===== -/
theorem inv_uniq {p c i j : Int} (i0 : 0 < i) (i1 : i < p) (j0 : 0 < j) (j1 : j < p) (hi : c * i % p = 1) (hj : c * j % p = 1) : i = j := by
  have e1 : i * (c * j) % p = i := by
    rw [Int.mul_emod, hj, Int.mul_one, Int.emod_emod, Int.emod_eq_of_lt (by omega) i1]
  have e2 : j * (c * i) % p = j := by
    rw [Int.mul_emod, hi, Int.mul_one, Int.emod_emod, Int.emod_eq_of_lt (by omega) j1]
  have e3 : i * (c * j) = j * (c * i) := by grind
  rw [e3] at e1
  exact e1.symm.trans e2
/-- the inverse by a prime -/
noncomputable def ivp (p c : Int) : Int := @dite Int (∃ i : Int, 0 < i ∧ i < p ∧ c * i % p = 1) (Classical.propDecidable _) (fun h => h.choose) (fun _ => 0)
theorem ivp_eq {p c i : Int} (i0 : 0 < i) (i1 : i < p) (hi : c * i % p = 1) : ivp p c = i := by
  have h : ∃ i : Int, 0 < i ∧ i < p ∧ c * i % p = 1 := ⟨i, i0, i1, hi⟩
  have e : ivp p c = h.choose := dif_pos h
  have s := h.choose_spec
  rw [e]
  exact inv_uniq s.1 s.2.1 i0 i1 s.2.2 hi
theorem invOK_ivp {σ : l2_m} {q : Nat} {p x : Int} (h : invOK σ q p) (x0 : 0 < x) (x1 : x < p) : σ (q + 1) x = ivp p x := (ivp_eq (h x x0 x1).1 (h x x0 x1).2.1 (h x x0 x1).2.2).symm
def isLead (W L : Int → Int) (k : Int) : Prop := 0 ≤ k ∧ k < 4096 ∧ L k ≠ 0 ∧ ∀ l : Int, 0 ≤ l → l < 4096 → L l ≠ 0 → MW W l ≤ MW W k
theorem isLead_uniq {W L : Int → Int} {k l : Int} (h : isLead W L k) (h' : isLead W L l) : k = l := by
  have a := h.2.2.2 l h'.1 h'.2.1 h'.2.2.1
  have b := h'.2.2.2 k h.1 h.2.1 h.2.2.1
  exact MW_inj (W := W) h.1 h.2.1 h'.1 h'.2.1 (by omega)
def dvr (set : Int) (lk : Int → Int) (k d : Int) : Prop := 0 ≤ d ∧ d < 8 ∧ bit set d = 1 ∧ isUn (lk d) k ∧ ∀ e : Int, 0 ≤ e → e < d → ¬ (bit set e = 1 ∧ isUn (lk e) k)
def noDvr (set : Int) (lk : Int → Int) (k : Int) : Prop := ∀ e : Int, 0 ≤ e → e < 8 → ¬ (bit set e = 1 ∧ isUn (lk e) k)
theorem dvr_uniq {set : Int} {lk : Int → Int} {k d e : Int} (h : dvr set lk k d) (h' : dvr set lk k e) : d = e := by
  rcases Int.lt_trichotomy d e with z | z | z
  · exact absurd ⟨h.2.2.1, h.2.2.2.1⟩ (h'.2.2.2.2 d h.1 z)
  · exact z
  · exact absurd ⟨h'.2.2.1, h'.2.2.2.1⟩ (h.2.2.2.2 e h'.1 z)
theorem dvr_no {set : Int} {lk : Int → Int} {k d : Int} (h : dvr set lk k d) (h' : noDvr set lk k) : False := h' d h.1 h.2.1 ⟨h.2.2.1, h.2.2.2.1⟩
/-- a state of a division: left, rest, quotients, the most terms that left had -/
abbrev dst : Type := (Int → Int) × (Int → Int) × (Int → Int → Int) × Int
def dvL (p : Int) (G : Int → Int → Int) (lk iv : Int → Int) (L : Int → Int) (k d : Int) : Int → Int := mixF p 1 0 L (p - L k * iv d % p) (k - lk d) (G d)
def dvQ (p : Int) (lk iv : Int → Int) (L : Int → Int) (Q : Int → Int → Int) (k d : Int) : Int → Int → Int := fun e => if e = d then upI (Q d) (k - lk d) (L k * iv d % p) else Q e
def dStep (p : Int) (W : Int → Int) (set : Int) (G : Int → Int → Int) (lk iv : Int → Int) (s t : dst) : Prop := ∃ k : Int, isLead W s.1 k ∧ ((noDvr set lk k ∧ cnt (upI s.2.1 k (s.1 k)) 4096 ≤ 60 ∧ t = (upI s.1 k 0, upI s.2.1 k (s.1 k), s.2.2.1, max s.2.2.2 (cnt (upI s.1 k 0) 4096))) ∨ (∃ d : Int, dvr set lk k d ∧ (∀ l : Int, 0 ≤ l → l < 4096 → G d l ≠ 0 → noO l (k - lk d)) ∧ cnt (dvL p G lk iv s.1 k d) 4096 ≤ 60 ∧ cnt (dvQ p lk iv s.1 s.2.2.1 k d d) 4096 ≤ 60 ∧ t = (dvL p G lk iv s.1 k d, s.2.1, dvQ p lk iv s.1 s.2.2.1 k d, max s.2.2.2 (cnt (dvL p G lk iv s.1 k d) 4096))))
def dFail (p : Int) (W : Int → Int) (set : Int) (G : Int → Int → Int) (lk iv : Int → Int) (s : dst) : Prop := ∃ k : Int, isLead W s.1 k ∧ ((noDvr set lk k ∧ 60 < cnt (upI s.2.1 k (s.1 k)) 4096) ∨ (∃ d : Int, dvr set lk k d ∧ ((∃ l : Int, 0 ≤ l ∧ l < 4096 ∧ G d l ≠ 0 ∧ ¬ noO l (k - lk d)) ∨ 60 < cnt (dvL p G lk iv s.1 k d) 4096 ∨ 60 < cnt (dvQ p lk iv s.1 s.2.2.1 k d d) 4096)))
theorem dStep_uniq {p : Int} {W : Int → Int} {set : Int} {G : Int → Int → Int} {lk iv : Int → Int} {s t u : dst} (h : dStep p W set G lk iv s t) (h' : dStep p W set G lk iv s u) : t = u := by
  obtain ⟨k, k1, k2⟩ := h
  obtain ⟨l, l1, l2⟩ := h'
  have := isLead_uniq k1 l1
  subst this
  rcases k2 with ⟨a1, a2, a3⟩ | ⟨d, d1, d2, d3, d4, d5⟩
  · rcases l2 with ⟨b1, b2, b3⟩ | ⟨e, e1, -⟩
    · rw [a3, b3]
    · exact (dvr_no e1 a1).elim
  · rcases l2 with ⟨b1, b2, b3⟩ | ⟨e, e1, e2, e3, e4, e5⟩
    · exact (dvr_no d1 b1).elim
    · have := dvr_uniq d1 e1
      subst this
      rw [d5, e5]
theorem dStep_fail {p : Int} {W : Int → Int} {set : Int} {G : Int → Int → Int} {lk iv : Int → Int} {s t : dst} (h : dStep p W set G lk iv s t) (h' : dFail p W set G lk iv s) : False := by
  obtain ⟨k, k1, k2⟩ := h
  obtain ⟨l, l1, l2⟩ := h'
  have := isLead_uniq k1 l1
  subst this
  rcases k2 with ⟨a1, a2, a3⟩ | ⟨d, d1, d2, d3, d4, d5⟩
  · rcases l2 with ⟨b1, b2⟩ | ⟨e, e1, -⟩
    · omega
    · exact dvr_no e1 a1
  · rcases l2 with ⟨b1, b2⟩ | ⟨e, e1, e2⟩
    · exact dvr_no d1 b1
    · have := dvr_uniq d1 e1
      subst this
      rcases e2 with ⟨l, l0, l1, l2, l3⟩ | e2 | e2
      · exact l3 (d2 l l0 l1 l2)
      · omega
      · omega
noncomputable def dInit (f : Int → Int) : dst := (f, fun _ => 0, fun _ _ => 0, cnt f 4096)
def dReach (p : Int) (W : Int → Int) (set : Int) (G : Int → Int → Int) (lk iv f : Int → Int) : Nat → dst → Prop
  | 0, s => s = dInit f
  | n + 1, s => ∃ t, dReach p W set G lk iv f n t ∧ dStep p W set G lk iv t s
theorem dReach_uniq {p : Int} {W : Int → Int} {set : Int} {G : Int → Int → Int} {lk iv f : Int → Int} : ∀ (n : Nat) {s t : dst}, dReach p W set G lk iv f n s → dReach p W set G lk iv f n t → s = t
  | 0, s, t, h, h' => h.trans h'.symm
  | n + 1, s, t, ⟨a, a1, a2⟩, ⟨b, b1, b2⟩ => by
    have := dReach_uniq n a1 b1
    subst this
    exact dStep_uniq a2 b2
theorem dReach_pre {p : Int} {W : Int → Int} {set : Int} {G : Int → Int → Int} {lk iv f : Int → Int} {m : Nat} : ∀ (d : Nat) {s : dst}, dReach p W set G lk iv f (m + d) s → ∃ t, dReach p W set G lk iv f m t ∧ (d ≠ 0 → ∃ u, dStep p W set G lk iv t u)
  | 0, s, h => ⟨s, h, fun z => absurd rfl z⟩
  | d + 1, s, ⟨a, a1, a2⟩ => by
    obtain ⟨t, t1, t2⟩ := dReach_pre d a1
    refine ⟨t, t1, fun _ => ?_⟩
    by_cases hd : d = 0
    · subst hd
      have := dReach_uniq _ t1 a1
      subst this
      exact ⟨s, a2⟩
    · exact t2 hd
/-- a division ended well, after n steps -/
def dOK (p : Int) (W : Int → Int) (set : Int) (G : Int → Int → Int) (lk iv f : Int → Int) (n : Nat) (s : dst) : Prop := n ≤ 500 ∧ dReach p W set G lk iv f n s ∧ cnt s.1 4096 = 0
/-- it had no room -/
def dNO (p : Int) (W : Int → Int) (set : Int) (G : Int → Int → Int) (lk iv f : Int → Int) : Prop := ∃ (n : Nat) (s : dst), n ≤ 500 ∧ dReach p W set G lk iv f n s ∧ (dFail p W set G lk iv s ∨ (n = 500 ∧ cnt s.1 4096 ≠ 0))
theorem dStep_nz {p : Int} {W : Int → Int} {set : Int} {G : Int → Int → Int} {lk iv : Int → Int} {s t : dst} (h : dStep p W set G lk iv s t) (h0 : cnt s.1 4096 = 0) : False := by
  obtain ⟨k, k1, -⟩ := h
  exact k1.2.2.1 (cnt_zero h0 k1.1 k1.2.1)
theorem dOK_uniq {p : Int} {W : Int → Int} {set : Int} {G : Int → Int → Int} {lk iv f : Int → Int} {n m : Nat} {s t : dst} (h : dOK p W set G lk iv f n s) (h' : dOK p W set G lk iv f m t) : n = m ∧ s = t := by
  obtain ⟨n1, s1, s2⟩ := h
  obtain ⟨m1, t1, t2⟩ := h'
  have e : n = m := by
    rcases Nat.lt_trichotomy n m with z | z | z
    · exfalso
      obtain ⟨d, rfl⟩ : ∃ d, m = n + d := ⟨m - n, by omega⟩
      obtain ⟨u, u1, u2⟩ := dReach_pre d t1
      have := dReach_uniq _ s1 u1
      subst this
      obtain ⟨v, v1⟩ := u2 (by omega)
      exact dStep_nz v1 s2
    · exact z
    · exfalso
      obtain ⟨d, rfl⟩ : ∃ d, n = m + d := ⟨n - m, by omega⟩
      obtain ⟨u, u1, u2⟩ := dReach_pre d s1
      have := dReach_uniq _ t1 u1
      subst this
      obtain ⟨v, v1⟩ := u2 (by omega)
      exact dStep_nz v1 t2
  subst e
  exact ⟨rfl, dReach_uniq _ s1 t1⟩
theorem dOK_NO {p : Int} {W : Int → Int} {set : Int} {G : Int → Int → Int} {lk iv f : Int → Int} {n : Nat} {s : dst} (h : dOK p W set G lk iv f n s) (h' : dNO p W set G lk iv f) : False := by
  obtain ⟨n1, s1, s2⟩ := h
  obtain ⟨m, t, m1, t1, t2⟩ := h'
  have tnz : cnt t.1 4096 ≠ 0 := by
    rcases t2 with ⟨k, k1, -⟩ | t2
    · exact fun z => k1.2.2.1 (cnt_zero z k1.1 k1.2.1)
    · exact t2.2
  rcases Nat.lt_trichotomy n m with z | z | z
  · obtain ⟨d, rfl⟩ : ∃ d, m = n + d := ⟨m - n, by omega⟩
    obtain ⟨u, u1, u2⟩ := dReach_pre d t1
    have := dReach_uniq _ s1 u1
    subst this
    obtain ⟨v, v1⟩ := u2 (by omega)
    exact dStep_nz v1 s2
  · subst z
    have := dReach_uniq _ s1 t1
    subst this
    exact tnz s2
  · obtain ⟨d, rfl⟩ : ∃ d, n = m + d := ⟨n - m, by omega⟩
    obtain ⟨u, u1, u2⟩ := dReach_pre d s1
    have := dReach_uniq _ t1 u1
    subst this
    obtain ⟨v, v1⟩ := u2 (by omega)
    rcases t2 with t2 | t2
    · exact dStep_fail v1 t2
    · omega
