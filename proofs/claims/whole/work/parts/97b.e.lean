/-! ===== the reference reads: tokens ===== -/
def ltL (T : Int → Int) (a : Int) : Nat → List Int
  | 0 => []
  | k + 1 => ltL T a k ++ [T (a + k)]
theorem ltL_len (T : Int → Int) (a : Int) : ∀ k : Nat, (ltL T a k).length = k
  | 0 => rfl
  | k + 1 => by unfold ltL; rw [List.length_append, ltL_len T a k]; rfl
theorem wcd_app (l : List Int) (c : Int) : wcd (l ++ [c]) = wcd l * 256 + c := by
  unfold wcd; rw [List.foldl_append]; rfl
theorem ltL_mem {T : Int → Int} {a : Int} : ∀ k : Nat, (∀ j : Int, a ≤ j → j < a + k → isL (T j)) → ∀ c ∈ ltL T a k, isL c
  | 0, _, c, hc => absurd hc (List.not_mem_nil)
  | k + 1, h, c, hc => by
    unfold ltL at hc
    rcases List.mem_append.mp hc with z | z
    · exact ltL_mem k (fun j x y => h j x (by omega)) c z
    · rw [List.mem_singleton.mp z]; exact h (a + k) (by omega) (by omega)
theorem wcd_pos {l : List Int} {c : Int} (h : ∀ d ∈ l ++ [c], isL d) : 97 ≤ wcd (l ++ [c]) := by
  rw [wcd_app]
  have h1 := (wcd_b l _ rfl (fun d hd => h d (List.mem_append.mpr (Or.inl hd)))).1
  have h2 := h c (List.mem_append.mpr (Or.inr (List.mem_singleton.mpr rfl)))
  omega
theorem wcd_inj : ∀ (k : Nat) (l m : List Int), l.length = k → (∀ d ∈ l, isL d) → (∀ d ∈ m, isL d) → wcd l = wcd m → l = m
  | 0, l, m, hk, hl, hm, he => by
    have : l = [] := List.length_eq_zero_iff.mp hk
    subst this
    rcases List.eq_nil_or_concat m with z | ⟨m', c, z⟩
    · exact z.symm
    · rw [List.concat_eq_append] at z
      subst z
      have := wcd_pos hm
      have e0 : wcd [] = 0 := rfl
      omega
  | k + 1, l, m, hk, hl, hm, he => by
    rcases List.eq_nil_or_concat l with z | ⟨l', c, z⟩
    · subst z; cases hk
    · rw [List.concat_eq_append] at z
      subst z
      have hp := wcd_pos hl
      rcases List.eq_nil_or_concat m with y | ⟨m', d, y⟩
      · subst y
        have e0 : wcd [] = 0 := rfl
        omega
      · rw [List.concat_eq_append] at y
        subst y
        rw [wcd_app, wcd_app] at he
        have hc := hl c (List.mem_append.mpr (Or.inr (List.mem_singleton.mpr rfl)))
        have hd := hm d (List.mem_append.mpr (Or.inr (List.mem_singleton.mpr rfl)))
        have ecd : c = d := by omega
        have ew : wcd l' = wcd m' := by omega
        have hlen : l'.length = k := by rw [List.length_append] at hk; exact Nat.succ.inj hk
        rw [ecd, wcd_inj k l' m' hlen (fun d hd => hl d (List.mem_append.mpr (Or.inl hd))) (fun d hd => hm d (List.mem_append.mpr (Or.inl hd))) ew]
theorem ltL_get {T : Int → Int} {a : Int} : ∀ (k i : Nat), i < k → (ltL T a k).getD i 0 = T (a + i)
  | 0, i, h => absurd h (Nat.not_lt_zero i)
  | k + 1, i, h => by
    unfold ltL
    rw [List.getD_eq_getElem?_getD]
    by_cases hi : i < k
    · rw [List.getElem?_append_left (by rw [ltL_len]; exact hi), ← List.getD_eq_getElem?_getD]
      exact ltL_get k i hi
    · have : i = k := by omega
      subst this
      rw [List.getElem?_append_right (by rw [ltL_len]; exact Nat.le_refl _), ltL_len, Nat.sub_self]
      rfl
theorem ltL_eq {T : Int → Int} {a : Int} {k : Nat} {l : List Int} : ltL T a k = l ↔ (k = l.length ∧ txm (fun i => T (a + i)) l = true) := by
  constructor
  · intro h
    have hl : k = l.length := by rw [← h, ltL_len]
    refine ⟨hl, (txm_iff _ _).mpr (fun i hi => ?_)⟩
    rw [← h]
    exact (ltL_get k i (by omega)).symm
  · rintro ⟨h1, h2⟩
    have h3 := (txm_iff _ _).mp h2
    refine List.ext_getElem (by rw [ltL_len, h1]) (fun i x y => ?_)
    have e1 := ltL_get (T := T) (a := a) k i (by omega)
    have e2 := h3 i y
    rw [List.getD_eq_getElem?_getD, List.getElem?_eq_getElem x] at e1
    rw [List.getD_eq_getElem?_getD, List.getElem?_eq_getElem y] at e2
    exact e1.trans e2
noncomputable def kR (k v : Int) : Int := if k = 0 then 1 else if k = 1 then 2 else if k = 2 then 3 else if k = 3 then (if v = 59 then 4 else if v = 43 then 5 else 6) else 0
def TR (T : Int → Int) (n : Int) (σ : l2_m) : Prop := σ 186 17 = n ∧ 0 ≤ n ∧ n ≤ 700 ∧ (∀ j : Int, 0 ≤ j → j < n → σ 189 j % 256 = T j)
def frN (υ τ : l2_m) : Prop := ∀ b j, ¬ (b = 186 ∧ 18 ≤ j ∧ j ≤ 23) → τ b j = υ b j
/-- the reference's state at a token; the word's number may be an old one -/
def RS0 (T : Int → Int) (n s : Int) (σ : l2_m) : Prop := TR T n σ ∧ 0 ≤ s ∧ s ≤ n ∧ σ 186 22 = 0 ∧ σ 186 18 = tE T n s ∧ σ 186 20 = tA T n s ∧ σ 186 19 = kR (tK T n s) (tV T n s) ∧ (tK T n s = 2 → σ 186 21 = tV T n s) ∧ (tK T n s = 1 → σ 186 23 = wcd (ltL T (tA T n s) (tE T n s - tA T n s).toNat))
def RS (T : Int → Int) (n s : Int) (σ : l2_m) : Prop := RS0 T n s σ ∧ 0 ≤ σ 186 23 ∧ σ 186 23 < 9223372036854775808
def RF (f a : Int) (σ : l2_m) : Prop := σ 186 22 = f ∧ 0 < f ∧ (f < 100 ∧ 0 ≤ a ∧ a ≤ 700) ∧ σ 186 20 = a ∧ σ 186 19 = 0 ∧ 0 ≤ σ 186 23 ∧ σ 186 23 < 9223372036854775808
theorem p256 : ∀ m : Nat, m ≤ 5 → (256 : Int) ^ m ≤ 1099511627776 := by decide
section RT
variable {B : va_E} {T : Int → Int} {n s : Int} {σ : l2_m} {K : Int → l2_m → Prop}
theorem TR_fr {τ : l2_m} (h : TR T n σ) (f : ∀ b j, b = 189 ∨ (b = 186 ∧ j = 17) → τ b j = σ b j) : TR T n τ := by
  obtain ⟨h1, h2, h3, h4⟩ := h
  exact ⟨by rw [f 186 17 (by omega)]; exact h1, h2, h3, fun j a b => by rw [f 189 j (by omega)]; exact h4 j a b⟩
theorem byA_in (h : TR T n σ) {k : Int} (k0 : 0 ≤ k) : (k < n → byA σ k = T k) ∧ (¬ k < n → byA σ k = -1) := by
  obtain ⟨h1, h2, h3, h4⟩ := h
  unfold byA
  rw [h1]
  exact ⟨fun z => by rw [if_pos z]; exact h4 k k0 z, fun z => by rw [if_neg z]⟩
theorem r176 {a : Int} (hT : TR T n σ) (a0 : 0 ≤ a) (an : a < n) (e18 : σ 186 18 = a) (e20 : σ 186 20 = a) (h : ∀ (τ : l2_m) (e : Int), (∀ b j, ¬ (b = 186 ∧ (j = 18 ∨ j = 19 ∨ j = 23)) → τ b j = σ b j) → RunE (fun j => isL (T j)) n a e → τ 186 18 = e → τ 186 19 = (if e - a ≤ 5 then 2 else 0) → (e - a ≤ 5 → τ 186 23 = wcd (ltL T a (e - a).toNat)) → 0 ≤ τ 186 23 → τ 186 23 < 9223372036854775808 → K 0 τ) : wC B 176 [vr 186] σ K := by
  refine o176 ?_
  unfold w176
  intro σ1 e1
  have n1 : ∀ b j, ¬ (b = 186 ∧ j = 23) → σ1 b j = σ b j := fun b j w => by rw [e1]; unfold l2_u; rw [if_neg w]
  unfold w176_5
  refine lz1_inv (fun t => a ≤ t 186 18 ∧ t 186 18 ≤ n ∧ (∀ j : Int, a ≤ j → j < t 186 18 → isL (T j)) ∧ (∀ b j, ¬ (b = 186 ∧ (j = 18 ∨ j = 23)) → t b j = σ b j) ∧ t 186 23 = wcd (ltL T a (min 5 (t 186 18 - a)).toNat)) (fun t => n - t 186 18) ?_ ⟨by rw [n1 186 18 (by omega)]; omega, by rw [n1 186 18 (by omega)]; omega, fun j x y => by rw [n1 186 18 (by omega)] at y; omega, fun b j w => n1 b j (by omega), ?_⟩
  · intro X t hX ⟨i0, i1, hI, hf, h23⟩
    obtain ⟨i, ei⟩ : ∃ i, i = t 186 18 := ⟨_, rfl⟩
    rw [← ei] at i0 i1 hI h23
    have Tt : TR T n t := TR_fr hT (fun b j w => hf b j (by omega))
    have t20 : t 186 20 = a := by rw [hf 186 20 (by omega)]; exact e20
    have t17 : t 186 17 = n := Tt.1
    have n7 := Tt.2.2.1
    have hby := byA_in Tt (k := i) (by omega)
    have hlet : ∀ c ∈ ltL T a (min 5 (i - a)).toNat, isL c := ltL_mem _ (fun j x y => hI j x (by omega))
    have hwb := wcd_b (ltL T a (min 5 (i - a)).toNat) (min 5 (i - a)).toNat (ltL_len _ _ _) hlet
    have hp5 := p256 (min 5 (i - a)).toNat (by omega)
    rw [← h23] at hwb
    rw [← ei, t17, t20]
    refine ⟨⟨by omega, by omega, ⟨by omega, by omega⟩, n7⟩, ?_⟩
    by_cases hc : 97 ≤ byA t i ∧ byA t i ≤ 122
    · rw [if_pos hc]
      have hin : i < n := by
        rcases Int.lt_or_le i n with z | z
        · exact z
        · have := hby.2 (by omega); omega
      have eb := hby.1 hin
      refine ⟨⟨by omega, by omega⟩, ?_⟩
      by_cases h5 : i - a < 5
      · rw [if_pos h5]
        refine ⟨⟨by omega, by omega, by omega, by omega⟩, ?_⟩
        intro t1 f1 t2 f2
        have g18 : t1 186 18 = i := by rw [f1, l2_u_nj (by decide)]; exact ei.symm
        have g2 : t2 186 18 = i + 1 := by rw [f2, l2_u_self, g18]
        refine hX t2 ⟨by omega, by omega, fun j x y => ?_, fun b j w => ?_, ?_⟩ (by rw [g2, ← ei]; omega)
        · rw [g2] at y
          by_cases hj : j = i
          · rw [hj, ← eb]; exact hc
          · exact hI j x (by omega)
        · rw [f2]; unfold l2_u; rw [if_neg (by omega), f1]; unfold l2_u; rw [if_neg (by omega)]; exact hf b j w
        · rw [g2, f2, l2_u_nj (by decide), f1, l2_u_self, eb, h23]
          have em : (min 5 (i + 1 - a)).toNat = (min 5 (i - a)).toNat + 1 := by omega
          rw [em]
          show _ = wcd (ltL T a (min 5 (i - a)).toNat ++ [T (a + ((min 5 (i - a)).toNat : Int))])
          rw [wcd_app, show a + ((min 5 (i - a)).toNat : Int) = i by omega, ior_comm, ior_256 (by rw [← h23]; omega) (by omega) (by omega)]
      · rw [if_neg h5]
        intro t2 f2
        have g2 : t2 186 18 = i + 1 := by rw [f2, l2_u_self]
        refine hX t2 ⟨by omega, by omega, fun j x y => ?_, fun b j w => ?_, ?_⟩ (by rw [g2, ← ei]; omega)
        · rw [g2] at y
          by_cases hj : j = i
          · rw [hj, ← eb]; exact hc
          · exact hI j x (by omega)
        · rw [f2]; unfold l2_u; rw [if_neg (by omega)]; exact hf b j w
        · rw [g2, f2, l2_u_nj (by decide), h23, show (min 5 (i + 1 - a)).toNat = (min 5 (i - a)).toNat by omega]
    · rw [if_neg hc]
      have he : RunE (fun j => isL (T j)) n a i := ⟨i0, i1, hI, fun z w => hc (by rw [hby.1 z]; exact w)⟩
      refine ⟨⟨by omega, by omega⟩, ?_⟩
      by_cases h5 : 5 < i - a
      · rw [if_pos h5]
        intro t2 f2
        refine h t2 i (fun b j w => ?_) he ?_ ?_ (fun w => by omega) ?_ ?_
        · rw [f2]; unfold l2_u; rw [if_neg (by omega)]; exact hf b j (by omega)
        · rw [f2, l2_u_nj (by decide)]; exact ei.symm
        · rw [f2, l2_u_self, if_neg (by omega)]
        · rw [f2, l2_u_nj (by decide)]; omega
        · rw [f2, l2_u_nj (by decide)]; omega
      · rw [if_neg h5]
        intro t2 f2
        refine h t2 i (fun b j w => ?_) he ?_ ?_ (fun w => ?_) ?_ ?_
        · rw [f2]; unfold l2_u; rw [if_neg (by omega)]; exact hf b j (by omega)
        · rw [f2, l2_u_nj (by decide)]; exact ei.symm
        · rw [f2, l2_u_self, if_pos (by omega)]
        · rw [f2, l2_u_nj (by decide), h23, show (min 5 (i - a)).toNat = (i - a).toNat by omega]
        · rw [f2, l2_u_nj (by decide)]; omega
        · rw [f2, l2_u_nj (by decide)]; omega
  · rw [n1 186 18 (by omega), e1, l2_u_self, e18, Int.sub_self]; rfl
theorem r177 {a : Int} (hT : TR T n σ) (a0 : 0 ≤ a) (an : a < n) (e18 : σ 186 18 = a) (e20 : σ 186 20 = a) (h : ∀ (τ : l2_m) (e : Int), (∀ b j, ¬ (b = 186 ∧ (j = 18 ∨ j = 19 ∨ j = 21)) → τ b j = σ b j) → RunE (fun j => isD (T j)) n a e → τ 186 18 = e → τ 186 19 = (if e - a ≤ 4 then 3 else 0) → (e - a ≤ 4 → τ 186 21 = digN T a (e - a).toNat) → K 0 τ) : wC B 177 [vr 186] σ K := by
  refine o177 ?_
  unfold w177
  intro σ1 e1
  have n1 : ∀ b j, ¬ (b = 186 ∧ j = 21) → σ1 b j = σ b j := fun b j w => by rw [e1]; unfold l2_u; rw [if_neg w]
  unfold w177_5
  refine lz1_inv (fun t => a ≤ t 186 18 ∧ t 186 18 ≤ n ∧ (∀ j : Int, a ≤ j → j < t 186 18 → isD (T j)) ∧ (∀ b j, ¬ (b = 186 ∧ (j = 18 ∨ j = 21)) → t b j = σ b j) ∧ t 186 21 = digN T a (min 4 (t 186 18 - a)).toNat) (fun t => n - t 186 18) ?_ ⟨by rw [n1 186 18 (by omega)]; omega, by rw [n1 186 18 (by omega)]; omega, fun j x y => by rw [n1 186 18 (by omega)] at y; omega, fun b j w => n1 b j (by omega), ?_⟩
  · intro X t hX ⟨i0, i1, hI, hf, h23⟩
    obtain ⟨i, ei⟩ : ∃ i, i = t 186 18 := ⟨_, rfl⟩
    rw [← ei] at i0 i1 hI h23
    have Tt : TR T n t := TR_fr hT (fun b j w => hf b j (by omega))
    have t20 : t 186 20 = a := by rw [hf 186 20 (by omega)]; exact e20
    have t17 : t 186 17 = n := Tt.1
    have n7 := Tt.2.2.1
    have hby := byA_in Tt (k := i) (by omega)
    rw [← ei, t17, t20]
    refine ⟨⟨by omega, by omega, ⟨by omega, by omega⟩, n7⟩, ?_⟩
    by_cases hc : 48 ≤ byA t i ∧ byA t i ≤ 57
    · rw [if_pos hc]
      have hin : i < n := by
        rcases Int.lt_or_le i n with z | z
        · exact z
        · have := hby.2 (by omega); omega
      have eb := hby.1 hin
      refine ⟨⟨by omega, by omega⟩, ?_⟩
      by_cases h5 : i - a < 4
      · rw [if_pos h5]
        intro t1 f1 t2 f2
        have g18 : t1 186 18 = i := by rw [f1, l2_u_nj (by decide)]; exact ei.symm
        have g2 : t2 186 18 = i + 1 := by rw [f2, l2_u_self, g18]
        refine hX t2 ⟨by omega, by omega, fun j x y => ?_, fun b j w => ?_, ?_⟩ (by rw [g2, ← ei]; omega)
        · rw [g2] at y
          by_cases hj : j = i
          · rw [hj, ← eb]; exact hc
          · exact hI j x (by omega)
        · rw [f2]; unfold l2_u; rw [if_neg (by omega), f1]; unfold l2_u; rw [if_neg (by omega)]; exact hf b j w
        · rw [g2, f2, l2_u_nj (by decide), f1, l2_u_self, eb, h23]
          have em : (min 4 (i + 1 - a)).toNat = (min 4 (i - a)).toNat + 1 := by omega
          rw [em]
          show _ = 10 * digN T a (min 4 (i - a)).toNat + T (a + ((min 4 (i - a)).toNat : Int)) - 48
          rw [show a + ((min 4 (i - a)).toNat : Int) = i by omega]
      · rw [if_neg h5]
        intro t2 f2
        have g2 : t2 186 18 = i + 1 := by rw [f2, l2_u_self]
        refine hX t2 ⟨by omega, by omega, fun j x y => ?_, fun b j w => ?_, ?_⟩ (by rw [g2, ← ei]; omega)
        · rw [g2] at y
          by_cases hj : j = i
          · rw [hj, ← eb]; exact hc
          · exact hI j x (by omega)
        · rw [f2]; unfold l2_u; rw [if_neg (by omega)]; exact hf b j w
        · rw [g2, f2, l2_u_nj (by decide), h23, show (min 4 (i + 1 - a)).toNat = (min 4 (i - a)).toNat by omega]
    · rw [if_neg hc]
      have he : RunE (fun j => isD (T j)) n a i := ⟨i0, i1, hI, fun z w => hc (by rw [hby.1 z]; exact w)⟩
      refine ⟨⟨by omega, by omega⟩, ?_⟩
      by_cases h5 : 4 < i - a
      · rw [if_pos h5]
        intro t2 f2
        refine h t2 i (fun b j w => ?_) he ?_ ?_ (fun w => by omega)
        · rw [f2]; unfold l2_u; rw [if_neg (by omega)]; exact hf b j (by omega)
        · rw [f2, l2_u_nj (by decide)]; exact ei.symm
        · rw [f2, l2_u_self, if_neg (by omega)]
      · rw [if_neg h5]
        intro t2 f2
        refine h t2 i (fun b j w => ?_) he ?_ ?_ (fun w => ?_)
        · rw [f2]; unfold l2_u; rw [if_neg (by omega)]; exact hf b j (by omega)
        · rw [f2, l2_u_nj (by decide)]; exact ei.symm
        · rw [f2, l2_u_self, if_pos (by omega)]
        · rw [f2, l2_u_nj (by decide), h23, show (min 4 (i - a)).toNat = (i - a).toNat by omega]
  · rw [n1 186 18 (by omega), e1, l2_u_self, e18, Int.sub_self]; rfl
theorem r175 (hT : TR T n σ) (h22 : σ 186 22 = 0) (s0 : 0 ≤ s) (sn : s ≤ n) (es : σ 186 18 = s) (h : ∀ τ : l2_m, (∀ b j, ¬ (b = 186 ∧ (18 ≤ j ∧ j ≤ 21 ∨ j = 23)) → τ b j = σ b j) → RS0 T n s τ → (0 ≤ σ 186 23 ∧ σ 186 23 < 9223372036854775808 → 0 ≤ τ 186 23 ∧ τ 186 23 < 9223372036854775808) → K 0 τ) : wC B 175 [vr 186] σ K := by
  refine o175 ?_
  unfold w175
  rw [h22]
  refine ⟨by decide, ?_⟩
  rw [if_neg (by decide)]
  unfold w175_8
  refine lz1_inv (fun t => s ≤ t 186 18 ∧ t 186 18 ≤ n ∧ (∀ j : Int, s ≤ j → j < t 186 18 → T j = 32) ∧ (∀ b j, ¬ (b = 186 ∧ j = 18) → t b j = σ b j)) (fun t => n - t 186 18) ?_ ⟨by omega, by omega, fun j a b => by omega, fun _ _ _ => rfl⟩
  intro X t hX ⟨i0, i1, hI, hf⟩
  obtain ⟨a, ea⟩ : ∃ a, a = t 186 18 := ⟨_, rfl⟩
  rw [← ea] at i0 i1 hI
  have Tt : TR T n t := TR_fr hT (fun b j w => hf b j (by omega))
  have t17 : t 186 17 = n := Tt.1
  have n7 := Tt.2.2.1
  have hby := byA_in Tt (k := a) (by omega)
  rw [← ea, t17]
  refine ⟨⟨by omega, by omega, ⟨by omega, by omega⟩, n7⟩, ?_⟩
  by_cases hc : byA t a = 32
  · rw [if_pos hc]
    have hin : a < n := by
      rcases Int.lt_or_le a n with z | z
      · exact z
      · have := hby.2 (by omega); omega
    intro t' et
    have t8 : t' 186 18 = a + 1 := by rw [et, l2_u_self]
    refine hX t' ⟨by omega, by omega, fun j x y => ?_, fun b j z => ?_⟩ (by rw [t8, ← ea]; omega)
    · rw [t8] at y
      by_cases hj : j = a
      · rw [hj, ← hby.1 hin]; exact hc
      · exact hI j x (by omega)
    · rw [et]; unfold l2_u; rw [if_neg z]; exact hf b j z
  · rw [if_neg hc]
    have ha : RunE (fun j => T j = 32) n s a := ⟨i0, i1, hI, fun z w => hc (by rw [hby.1 z]; exact w)⟩
    intro t1 e1
    have g : ∀ b j, ¬ (b = 186 ∧ j = 20) → t1 b j = t b j := fun b j w => by rw [e1]; unfold l2_u; rw [if_neg w]
    have g20 : t1 186 20 = a := by rw [e1, l2_u_self]
    have g18 : t1 186 18 = a := by rw [g 186 18 (by omega)]; exact ea.symm
    have T1 : TR T n t1 := TR_fr Tt (fun b j w => g b j (by omega))
    have t17' : t1 186 17 = n := T1.1
    have g22 : t1 186 22 = 0 := by rw [g 186 22 (by omega), hf 186 22 (by omega)]; exact h22
    have gall : ∀ b j, ¬ (b = 186 ∧ (j = 18 ∨ j = 20)) → t1 b j = σ b j := fun b j w => by rw [g b j (by omega)]; exact hf b j (by omega)
    have hby1 := byA_in T1 (k := a) (by omega)
    rw [g18, t17']
    refine ⟨⟨by omega, by omega, ⟨by omega, by omega⟩, n7⟩, ?_⟩
    intro x ex
    by_cases han : a < n
    · rw [hby1.1 han] at ex
      have xr : 0 ≤ x ∧ x < 256 := by
        have := Tt.2.2.2 a (by omega) han
        omega
      rw [if_neg (by omega)]
      by_cases hl : isL x
      · rw [if_pos hl]
        have hl' : isL (T a) := by rw [← ex]; exact hl
        refine r176 T1 (by omega) han g18 g20 (fun τ e f1 he f18 f19 f23 b0 b1 => ?_)
        obtain ⟨x1, x2, x3, x4⟩ := tk_w ha han hl' he
        refine h τ (fun b j w => by rw [f1 b j (by omega)]; exact gall b j (by omega)) ⟨TR_fr T1 (fun b j w => f1 b j (by omega)), s0, sn, by rw [f1 186 22 (by omega)]; exact g22, by rw [f18, x2], by rw [f1 186 20 (by omega), x1]; exact g20, ?_, ?_, ?_⟩ (fun _ => ⟨b0, b1⟩)
        · rw [f19, x3]
          by_cases h5 : e - a ≤ 5
          · rw [if_pos h5, if_pos h5]; rfl
          · rw [if_neg h5, if_neg h5]; rfl
        · rw [x3]; intro w; split at w <;> cases w
        · rw [x3, x1, x2]
          intro w
          split at w
          · rename_i h5; exact f23 h5
          · cases w
      · rw [if_neg hl]
        have hl' : ¬ isL (T a) := by rw [← ex]; exact hl
        by_cases hd : isD x
        · rw [if_pos hd]
          have hd' : isD (T a) := by rw [← ex]; exact hd
          refine r177 T1 (by omega) han g18 g20 (fun τ e f1 he f18 f19 f21 => ?_)
          obtain ⟨x1, x2, x3, x4⟩ := tk_d ha han hl' hd' he
          refine h τ (fun b j w => by rw [f1 b j (by omega)]; exact gall b j (by omega)) ⟨TR_fr T1 (fun b j w => f1 b j (by omega)), s0, sn, by rw [f1 186 22 (by omega)]; exact g22, by rw [f18, x2], by rw [f1 186 20 (by omega), x1]; exact g20, ?_, ?_, ?_⟩ (fun w => by rw [f1 186 23 (by omega), gall 186 23 (by omega)]; exact w)
          · rw [f19, x3]
            by_cases h5 : e - a ≤ 4
            · rw [if_pos h5, if_pos h5]; rfl
            · rw [if_neg h5, if_neg h5]; rfl
          · rw [x3, x4]
            intro w
            split at w
            · rename_i h5; exact f21 h5
            · cases w
          · rw [x3]; intro w; split at w <;> cases w
        · rw [if_neg hd]
          have hd' : ¬ isD (T a) := by rw [← ex]; exact hd
          obtain ⟨x1, x2, x3, x4⟩ := tk_s ha han hl' hd'
          have fin : ∀ (k : Int) (u u' : l2_m), k = kR (tK T n s) (tV T n s) → u = l2_u t1 186 19 k → u' = l2_u u 186 18 (u 186 18 + 1) → K 0 u' := by
            intro k u u' ek eu eu'
            have gg : ∀ b j, ¬ (b = 186 ∧ (j = 18 ∨ j = 19)) → u' b j = t1 b j := fun b j w => by rw [eu']; unfold l2_u; rw [if_neg (by omega), eu]; unfold l2_u; rw [if_neg (by omega)]
            refine h u' (fun b j w => by rw [gg b j (by omega)]; exact gall b j (by omega)) ⟨TR_fr T1 (fun b j w => gg b j (by omega)), s0, sn, by rw [gg 186 22 (by omega)]; exact g22, ?_, by rw [gg 186 20 (by omega), x1]; exact g20, ?_, ?_, ?_⟩ (fun w => by rw [gg 186 23 (by omega), gall 186 23 (by omega)]; exact w)
            · rw [eu', l2_u_self, eu, l2_u_nj (by decide), g18, x2]
            · rw [eu', l2_u_nj (by decide), eu, l2_u_self]; exact ek
            · rw [x3]; intro w; split at w <;> cases w
            · rw [x3]; intro w; split at w <;> cases w
          rw [← ex] at x3 x4
          rw [x3, x4] at fin
          by_cases h59 : x = 59
          · rw [if_pos h59]
            intro u eu u' eu'
            exact fin 4 u u' (by rw [h59]; rfl) eu eu'
          · rw [if_neg h59]
            by_cases h43 : x = 43
            · rw [if_pos h43]
              intro u eu u' eu'
              exact fin 5 u u' (by rw [h43]; rfl) eu eu'
            · rw [if_neg h43]
              by_cases h45 : x = 45
              · rw [if_pos h45]
                intro u eu u' eu'
                exact fin 6 u u' (by rw [h45]; rfl) eu eu'
              · rw [if_neg h45]
                intro u eu u' eu'
                exact fin 0 u u' (by rw [if_neg (by omega)]; rfl) eu eu'
    · rw [hby1.2 han] at ex
      rw [if_pos ex]
      obtain ⟨x1, x2, x3, x4⟩ := tk_e ha han
      intro u eu
      have gg : ∀ b j, ¬ (b = 186 ∧ j = 19) → u b j = t1 b j := fun b j w => by rw [eu]; unfold l2_u; rw [if_neg w]
      refine h u (fun b j w => by rw [gg b j (by omega)]; exact gall b j (by omega)) ⟨TR_fr T1 (fun b j w => gg b j (by omega)), s0, sn, by rw [gg 186 22 (by omega)]; exact g22, by rw [gg 186 18 (by omega), x2]; exact g18, by rw [gg 186 20 (by omega), x1]; exact g20, ?_, ?_, ?_⟩ (fun w => by rw [gg 186 23 (by omega), gall 186 23 (by omega)]; exact w)
      · rw [eu, l2_u_self, x3]; rfl
      · rw [x3]; intro w; cases w
      · rw [x3]; intro w; cases w
end RT
