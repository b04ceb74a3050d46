/-! ===== the reader: cells by their values of 32 bits; tokens ===== -/
def wrp (x : Int) : Int := (Int32.ofInt x).toInt
theorem wrp_rg (x : Int) : rg (wrp x) := ⟨Int32.le_toInt _, Int32.toInt_lt _⟩
theorem wrp_id {x : Int} (h : rg x) : wrp x = x := rg_to h
theorem wrp_of (x : Int) : Int32.ofInt (wrp x) = Int32.ofInt x := Int32.ofInt_toInt _
theorem wC_in {B : va_E} {k : Nat} {as : List Value} {σ σ' : l2_m} {K : Int → l2_m → Prop} (e : hp B σ = hp B σ') (h : wC B k as σ' K) : wC B k as σ K := fun M hM => by
  rw [e]; exact h M hM
theorem wC_out {B : va_E} {k : Nat} {as : List Value} {σ : l2_m} {K : Int → l2_m → Prop} (f : l2_m → l2_m) (hf : ∀ τ, hp B τ = hp B (f τ)) (h : wC B k as σ (fun x τ => K x (f τ))) : wC B k as σ K := fun M hM => (h M hM).mono (fun r M' S' hq => by
  obtain ⟨h1, x, τ, h2, h3, h4⟩ := hq
  exact ⟨h1, x, f τ, h2, h3.trans (hf τ), h4⟩)
theorem hp_cong {B : va_E} {σ σ' : l2_m} {a : Nat} (h : ∀ j, σ' a j = σ a j) : hp B σ a = hp B σ' a := by
  have e : σ' a = σ a := funext h
  unfold hp l2_cell l2_fv
  rw [e]
def n55 (σ : l2_m) : l2_m := fun b j => if b = 55 then wrp (σ b j) else σ b j
def n12 (σ : l2_m) : l2_m := l2_u σ 49 12 (wrp (σ 49 12))
theorem hp_55 (B : va_E) (σ : l2_m) : hp B σ = hp B (n55 σ) := by
  funext a
  by_cases h : a = 55
  · subst h
    rw [(hp_arr (n := 700) rfl).1, (hp_arr (n := 700) rfl).1]
    have : (fun j : Nat => Int32.ofInt (σ 55 j)) = (fun j : Nat => Int32.ofInt (n55 σ 55 j)) := funext (fun j => (wrp_of _).symm)
    rw [this]
  · exact hp_cong (fun j => if_neg h)
theorem hp_12 (B : va_E) (σ : l2_m) : hp B σ = hp B (n12 σ) := by
  funext a
  by_cases h : a = 49
  · subst h
    have q : l2_tab[49 - 32]? = some (18, 0, [50, 52, 54, 0, 0, 0, 55, 0, 0, 0, 0, 0, 0]) := rfl
    rw [hp_at q (by decide), hp_at q (by decide)]
    have key : ∀ s : l2_m, l2_cell s 49 (18, 0, [50, 52, 54, 0, 0, 0, 55, 0, 0, 0, 0, 0, 0]) = .inr (8, [.ref 50, .ref 52, .ref 54, vi (s 49 3), vi (s 49 4), vi (s 49 5), .ref 55, vi (s 49 7), vi (s 49 8), vi (s 49 9), vi (s 49 10), vi (s 49 11), vi (s 49 12)]) := fun s => rfl
    rw [key, key]
    have e : ∀ j : Int, j ≠ 12 → n12 σ 49 j = σ 49 j := fun j hj => l2_u_nj hj
    rw [e 3 (by decide), e 4 (by decide), e 5 (by decide), e 7 (by decide), e 8 (by decide), e 9 (by decide), e 10 (by decide), e 11 (by decide)]
    have e12 : vi (n12 σ 49 12) = vi (σ 49 12) := by
      show Value.int (Int32.ofInt (n12 σ 49 12)) = Value.int (Int32.ofInt (σ 49 12))
      rw [show n12 σ 49 12 = wrp (σ 49 12) from l2_u_self _ _ _ _, wrp_of]
    rw [e12]
  · exact hp_cong (fun j => l2_u_ne h)
/-! runs -/
def RunE (P : Int → Prop) (n s e : Int) : Prop := s ≤ e ∧ e ≤ n ∧ (∀ j : Int, s ≤ j → j < e → P j) ∧ (e < n → ¬ P e)
theorem RunE_uniq {P : Int → Prop} {n s e f : Int} (h : RunE P n s e) (h' : RunE P n s f) : e = f := by
  have a1 := h.1
  have a2 := h.2.1
  have b1 := h'.1
  have b2 := h'.2.1
  rcases Int.lt_trichotomy e f with z | z | z
  · exact absurd (h'.2.2.1 e a1 z) (h.2.2.2 (by omega))
  · exact z
  · exact absurd (h.2.2.1 f b1 z) (h'.2.2.2 (by omega))
noncomputable def runF (P : Int → Prop) (n s : Int) : Int := @dite Int (∃ e : Int, RunE P n s e) (Classical.propDecidable _) (fun h => h.choose) (fun _ => s)
theorem runF_eq {P : Int → Prop} {n s e : Int} (h : RunE P n s e) : runF P n s = e := by
  have hx : ∃ e : Int, RunE P n s e := ⟨e, h⟩
  have : runF P n s = hx.choose := dif_pos hx
  rw [this]; exact RunE_uniq hx.choose_spec h
theorem RunE_ex (P : Int → Prop) (n : Int) : ∀ (d : Nat) (s : Int), (n - s).toNat = d → s ≤ n → ∃ e : Int, RunE P n s e
  | 0, s, hd, hs => ⟨s, Int.le_refl _, hs, fun j a b => by omega, fun z => by omega⟩
  | d + 1, s, hd, hs => by
    by_cases h : P s
    · obtain ⟨e, e1, e2, e3, e4⟩ := RunE_ex P n d (s + 1) (by omega) (by omega)
      refine ⟨e, by omega, e2, fun j a b => ?_, e4⟩
      by_cases hj : j = s
      · rw [hj]; exact h
      · exact e3 j (by omega) b
    · exact ⟨s, Int.le_refl _, hs, fun j a b => by omega, fun _ => h⟩
theorem runF_ok {P : Int → Prop} {n s : Int} (hs : s ≤ n) : RunE P n s (runF P n s) := by
  obtain ⟨e, he⟩ := RunE_ex P n _ s rfl hs
  rw [runF_eq he]; exact he
/-! tokens of a text T of n letters, looked for from a place s on -/
abbrev isL (c : Int) : Prop := 97 ≤ c ∧ c ≤ 122
abbrev isD (c : Int) : Prop := 48 ≤ c ∧ c ≤ 57
abbrev isS (c : Int) : Prop := c = 59 ∨ c = 43 ∨ c = 45
def digN (T : Int → Int) (a : Int) : Nat → Int
  | 0 => 0
  | k + 1 => 10 * digN T a k + T (a + k) - 48
noncomputable def tA (T : Int → Int) (n s : Int) : Int := runF (fun j => T j = 32) n s
noncomputable def tE (T : Int → Int) (n s : Int) : Int := if tA T n s < n then (if isL (T (tA T n s)) then runF (fun j => isL (T j)) n (tA T n s) else if isD (T (tA T n s)) then runF (fun j => isD (T j)) n (tA T n s) else tA T n s + 1) else tA T n s
noncomputable def tK (T : Int → Int) (n s : Int) : Int := if tA T n s < n then (if isL (T (tA T n s)) then (if tE T n s - tA T n s ≤ 5 then 1 else 4) else if isD (T (tA T n s)) then (if tE T n s - tA T n s ≤ 4 then 2 else 4) else if isS (T (tA T n s)) then 3 else 4) else 0
noncomputable def tV (T : Int → Int) (n s : Int) : Int := if tA T n s < n then (if isL (T (tA T n s)) then 0 else if isD (T (tA T n s)) then digN T (tA T n s) (tE T n s - tA T n s).toNat else T (tA T n s)) else 0
section TK
variable {T : Int → Int} {n s a e : Int}
theorem tk_e (ha : RunE (fun j => T j = 32) n s a) (h : ¬ a < n) : tA T n s = a ∧ tE T n s = a ∧ tK T n s = 0 ∧ tV T n s = 0 := by
  have e1 : tA T n s = a := runF_eq ha
  unfold tK tV tE
  rw [e1, if_neg h, if_neg h, if_neg h]
  exact ⟨rfl, rfl, rfl, rfl⟩
theorem tk_w (ha : RunE (fun j => T j = 32) n s a) (h : a < n) (hl : isL (T a)) (he : RunE (fun j => isL (T j)) n a e) : tA T n s = a ∧ tE T n s = e ∧ tK T n s = (if e - a ≤ 5 then 1 else 4) ∧ tV T n s = 0 := by
  have e1 : tA T n s = a := runF_eq ha
  have e2 : tE T n s = e := by unfold tE; rw [e1, if_pos h, if_pos hl]; exact runF_eq he
  unfold tK tV
  rw [e2, e1, if_pos h, if_pos h, if_pos hl, if_pos hl]
  exact ⟨rfl, rfl, rfl, rfl⟩
theorem tk_d (ha : RunE (fun j => T j = 32) n s a) (h : a < n) (hl : ¬ isL (T a)) (hd : isD (T a)) (he : RunE (fun j => isD (T j)) n a e) : tA T n s = a ∧ tE T n s = e ∧ tK T n s = (if e - a ≤ 4 then 2 else 4) ∧ tV T n s = digN T a (e - a).toNat := by
  have e1 : tA T n s = a := runF_eq ha
  have e2 : tE T n s = e := by unfold tE; rw [e1, if_pos h, if_neg hl, if_pos hd]; exact runF_eq he
  unfold tK tV
  rw [e2, e1, if_pos h, if_pos h, if_neg hl, if_neg hl, if_pos hd, if_pos hd]
  exact ⟨rfl, rfl, rfl, rfl⟩
theorem tk_s (ha : RunE (fun j => T j = 32) n s a) (h : a < n) (hl : ¬ isL (T a)) (hd : ¬ isD (T a)) : tA T n s = a ∧ tE T n s = a + 1 ∧ tK T n s = (if isS (T a) then 3 else 4) ∧ tV T n s = T a := by
  have e1 : tA T n s = a := runF_eq ha
  have e2 : tE T n s = a + 1 := by unfold tE; rw [e1, if_pos h, if_neg hl, if_neg hd]
  unfold tK tV
  rw [e1, if_pos h, if_pos h, if_neg hl, if_neg hl, if_neg hd, if_neg hd]
  exact ⟨rfl, e2, rfl, rfl⟩
/-- all that a token may be -/
theorem tk_all (hs : s ≤ n) : ∃ a e : Int, RunE (fun j => T j = 32) n s a ∧ tA T n s = a ∧ tE T n s = e ∧ s ≤ a ∧ a ≤ e ∧ e ≤ n ∧ ((¬ a < n ∧ e = a ∧ tK T n s = 0 ∧ tV T n s = 0) ∨ (a < n ∧ a < e ∧ isL (T a) ∧ RunE (fun j => isL (T j)) n a e ∧ tK T n s = (if e - a ≤ 5 then 1 else 4) ∧ tV T n s = 0) ∨ (a < n ∧ a < e ∧ ¬ isL (T a) ∧ isD (T a) ∧ RunE (fun j => isD (T j)) n a e ∧ tK T n s = (if e - a ≤ 4 then 2 else 4) ∧ tV T n s = digN T a (e - a).toNat) ∨ (a < n ∧ e = a + 1 ∧ ¬ isL (T a) ∧ ¬ isD (T a) ∧ tK T n s = (if isS (T a) then 3 else 4) ∧ tV T n s = T a)) := by
  have ha := runF_ok (P := fun j => T j = 32) hs
  obtain ⟨a, ea⟩ : ∃ a, a = runF (fun j => T j = 32) n s := ⟨_, rfl⟩
  rw [← ea] at ha
  have a1 := ha.1
  have a2 := ha.2.1
  by_cases h : a < n
  · by_cases hl : isL (T a)
    · have he := runF_ok (P := fun j => isL (T j)) a2
      obtain ⟨e, ee⟩ : ∃ e, e = runF (fun j => isL (T j)) n a := ⟨_, rfl⟩
      rw [← ee] at he
      obtain ⟨x1, x2, x3, x4⟩ := tk_w ha h hl he
      have hae : a < e := by
        rcases Int.lt_or_le a e with z | z
        · exact z
        · have h1 := he.1
          have : e = a := by omega
          rw [this] at he
          exact absurd hl (he.2.2.2 h)
      exact ⟨a, e, ha, x1, x2, a1, by omega, he.2.1, Or.inr (Or.inl ⟨h, hae, hl, he, x3, x4⟩)⟩
    · by_cases hd : isD (T a)
      · have he := runF_ok (P := fun j => isD (T j)) a2
        obtain ⟨e, ee⟩ : ∃ e, e = runF (fun j => isD (T j)) n a := ⟨_, rfl⟩
        rw [← ee] at he
        obtain ⟨x1, x2, x3, x4⟩ := tk_d ha h hl hd he
        have hae : a < e := by
          rcases Int.lt_or_le a e with z | z
          · exact z
          · have h1 := he.1
            have : e = a := by omega
            rw [this] at he
            exact absurd hd (he.2.2.2 h)
        exact ⟨a, e, ha, x1, x2, a1, by omega, he.2.1, Or.inr (Or.inr (Or.inl ⟨h, hae, hl, hd, he, x3, x4⟩))⟩
      · obtain ⟨x1, x2, x3, x4⟩ := tk_s ha h hl hd
        exact ⟨a, a + 1, ha, x1, x2, a1, by omega, by omega, Or.inr (Or.inr (Or.inr ⟨h, rfl, hl, hd, x3, x4⟩))⟩
  · obtain ⟨x1, x2, x3, x4⟩ := tk_e ha h
    exact ⟨a, a, ha, x1, x2, a1, by omega, a2, Or.inl ⟨h, rfl, x3, x4⟩⟩
theorem tE_b (hs : s ≤ n) : s ≤ tA T n s ∧ tA T n s ≤ tE T n s ∧ tE T n s ≤ n ∧ (tK T n s ≠ 0 → tA T n s < tE T n s) ∧ (tK T n s ≠ 0 → tA T n s < n) ∧ 0 ≤ tK T n s ∧ tK T n s ≤ 4 := by
  obtain ⟨a, e, ha, e1, e2, h1, h2, h3, h⟩ := tk_all (T := T) hs
  rw [e1, e2]
  rcases h with ⟨z1, z2, z3, -⟩ | ⟨z1, z2, -, -, z3, -⟩ | ⟨z1, z2, -, -, -, z3, -⟩ | ⟨z1, z2, -, -, z3, -⟩
  · rw [z3]; exact ⟨h1, h2, h3, fun w => absurd rfl w, fun w => absurd rfl w, by decide, by decide⟩
  · refine ⟨h1, h2, h3, fun _ => z2, fun _ => z1, ?_, ?_⟩ <;> (rw [z3]; split <;> decide)
  · refine ⟨h1, h2, h3, fun _ => z2, fun _ => z1, ?_, ?_⟩ <;> (rw [z3]; split <;> decide)
  · refine ⟨h1, h2, h3, fun _ => by omega, fun _ => z1, ?_, ?_⟩ <;> (rw [z3]; split <;> decide)
end TK
/-- the class's text -/
def TX (T : Int → Int) (n : Int) (σ : l2_m) : Prop := σ 49 7 = n ∧ 0 ≤ n ∧ n ≤ 700 ∧ (∀ j : Int, rg (σ 55 j)) ∧ (∀ j : Int, 0 ≤ j → j < n → σ 55 j = T j)
def frTk (σ τ : l2_m) : Prop := ∀ b j, ¬ (b = 49 ∧ (j = 8 ∨ j = 10 ∨ j = 11 ∨ j = 12)) → τ b j = σ b j
theorem TX_fr {T : Int → Int} {n : Int} {σ τ : l2_m} (h : TX T n σ) (f : ∀ b j, b = 55 ∨ (b = 49 ∧ j = 7) → τ b j = σ b j) : TX T n τ := by
  obtain ⟨h1, h2, h3, h4, h5⟩ := h
  exact ⟨by rw [f 49 7 (by omega)]; exact h1, h2, h3, fun j => by rw [f 55 j (by omega)]; exact h4 j, fun j a b => by rw [f 55 j (by omega)]; exact h5 j a b⟩
theorem c103 {B : va_E} {T : Int → Int} {n s : Int} {σ : l2_m} {K : Int → l2_m → Prop} (hT : TX T n σ) (es : σ 49 8 = s) (s0 : 0 ≤ s) (sn : s ≤ n) (h : ∀ τ : l2_m, frTk σ τ → τ 49 8 = tE T n s → τ 49 10 = tK T n s → τ 49 11 = tA T n s → τ 49 12 = wrp (tV T n s) → K 0 τ) : wC B 103 [vr 49] σ K := by
  refine wC_out n12 (hp_12 B) ?_
  obtain ⟨h7, n0, n7, hrg0, hTj⟩ := hT
  have hrg : ∀ j : Int, 0 ≤ j → j < 700 → rg (σ 55 j) := fun j _ _ => hrg0 j
  have h' : ∀ τ : l2_m, frTk σ τ → τ 49 8 = tE T n s → τ 49 10 = tK T n s → τ 49 11 = tA T n s → τ 49 12 = tV T n s → K 0 (n12 τ) := by
    intro τ f1 f2 f3 f4 f5
    refine h _ (fun b j z => ?_) ?_ ?_ ?_ ?_
    · unfold n12 l2_u
      rw [if_neg (by omega)]
      exact f1 b j z
    · unfold n12; rw [l2_u_nj (by decide)]; exact f2
    · unfold n12; rw [l2_u_nj (by decide)]; exact f3
    · unfold n12; rw [l2_u_nj (by decide)]; exact f4
    · unfold n12; rw [l2_u_self, f5]
  clear h
  refine o103 ?_
  unfold w103
  refine lz1_inv (fun t => s ≤ t 49 8 ∧ t 49 8 ≤ n ∧ (∀ j : Int, s ≤ j → j < t 49 8 → T j = 32) ∧ frTk σ t) (fun t => n - t 49 8) ?_ ⟨by omega, by omega, fun j a b => by omega, fun _ _ _ => rfl⟩
  intro X t hX ⟨i0, i1, hI, hf⟩
  have t7 : t 49 7 = n := by rw [hf 49 7 (by omega)]; exact h7
  have tj : ∀ j : Int, 0 ≤ j → j < n → t 55 j = T j := fun j a b => by rw [hf 55 j (by omega)]; exact hTj j a b
  have tr : ∀ j : Int, 0 ≤ j → j < 700 → rg (t 55 j) := fun j a b => by rw [hf 55 j (by omega)]; exact hrg j a b
  rw [t7]
  refine ⟨⟨⟨by omega, by omega⟩, ⟨by omega, by omega⟩⟩, fun z => ⟨by omega, by omega, tr _ (by omega) (by omega)⟩, ?_⟩
  by_cases hc : t 49 8 < n ∧ t 55 (t 49 8) = 32
  · rw [if_pos hc]
    intro t' et
    have t8 : t' 49 8 = t 49 8 + 1 := by rw [et, l2_u_self]
    refine hX t' ⟨by omega, by omega, fun j a b => ?_, fun b j z => ?_⟩ (by rw [t8]; omega)
    · rw [t8] at b
      by_cases hj : j = t 49 8
      · rw [hj, ← tj (t 49 8) (by omega) hc.1]; exact hc.2
      · exact hI j a (by omega)
    · rw [et]; unfold l2_u; rw [if_neg (by omega)]; exact hf b j z
  · rw [if_neg hc]
    obtain ⟨a, ea⟩ : ∃ a, a = t 49 8 := ⟨_, rfl⟩
    rw [← ea] at i0 i1 hI hc
    have ha : RunE (fun j => T j = 32) n s a := ⟨i0, i1, hI, fun z w => hc ⟨z, by rw [tj a (by omega) z]; exact w⟩⟩
    unfold w103_38
    intro t1 e1 t2 e2
    have g : ∀ b j, t2 b j = if b = 49 ∧ j = 12 then 0 else if b = 49 ∧ j = 11 then a else t b j := fun b j => by rw [e2, e1, ← ea]; rfl
    have g8 : t2 49 8 = a := by rw [g, if_neg (by decide), if_neg (by decide)]; exact ea.symm
    have g7 : t2 49 7 = n := by rw [g, if_neg (by decide), if_neg (by decide)]; exact t7
    have g11 : t2 49 11 = a := by rw [g, if_neg (by decide), if_pos ⟨rfl, rfl⟩]
    have g12 : t2 49 12 = 0 := by rw [g, if_pos ⟨rfl, rfl⟩]
    have gf : frTk σ t2 := fun b j z => by rw [g, if_neg (by omega), if_neg (by omega)]; exact hf b j z
    have gT : ∀ j : Int, 0 ≤ j → j < n → t2 55 j = T j := fun j x y => by rw [gf 55 j (by omega)]; exact hTj j x y
    have gr : ∀ j : Int, 0 ≤ j → j < 700 → rg (t2 55 j) := fun j x y => by rw [gf 55 j (by omega)]; exact hrg j x y
    rw [g8, g7]
    refine ⟨⟨⟨by omega, by omega⟩, ⟨by omega, by omega⟩⟩, ?_⟩
    by_cases han : a < n
    · rw [if_pos han]
      refine ⟨⟨by omega, by omega, gr a (by omega) (by omega)⟩, ?_⟩
      rw [gT a (by omega) han]
      by_cases hl : isL (T a)
      · rw [if_pos hl]
        unfold w103_85
        refine lz1_inv (fun u => a ≤ u 49 8 ∧ u 49 8 ≤ n ∧ (∀ j : Int, a ≤ j → j < u 49 8 → isL (T j)) ∧ u 49 11 = a ∧ u 49 12 = 0 ∧ frTk σ u) (fun u => n - u 49 8) ?_ ⟨by omega, by omega, fun j x y => by omega, g11, g12, gf⟩
        intro Y u hY ⟨j0, j1, hJ, u11, u12, uf⟩
        have u7 : u 49 7 = n := by rw [uf 49 7 (by omega)]; exact h7
        have uj : ∀ j : Int, 0 ≤ j → j < n → u 55 j = T j := fun j x y => by rw [uf 55 j (by omega)]; exact hTj j x y
        have ur : ∀ j : Int, 0 ≤ j → j < 700 → rg (u 55 j) := fun j x y => by rw [uf 55 j (by omega)]; exact hrg j x y
        rw [u7]
        refine ⟨⟨⟨by omega, by omega⟩, ⟨by omega, by omega⟩⟩, fun z => ⟨by omega, by omega, ur _ (by omega) (by omega)⟩, ?_⟩
        by_cases hc2 : u 49 8 < n ∧ (97 ≤ u 55 (u 49 8) ∧ u 55 (u 49 8) ≤ 122)
        · rw [if_pos hc2]
          intro u' eu
          have u8 : u' 49 8 = u 49 8 + 1 := by rw [eu, l2_u_self]
          refine hY u' ⟨by omega, by omega, fun j x y => ?_, by rw [eu, l2_u_nj (by decide)]; exact u11, by rw [eu, l2_u_nj (by decide)]; exact u12, fun b j z => ?_⟩ (by rw [u8]; omega)
          · rw [u8] at y
            by_cases hj : j = u 49 8
            · rw [hj, ← uj (u 49 8) (by omega) hc2.1]; exact hc2.2
            · exact hJ j x (by omega)
          · rw [eu]; unfold l2_u; rw [if_neg (by omega)]; exact uf b j z
        · rw [if_neg hc2]
          obtain ⟨e, ee⟩ : ∃ e, e = u 49 8 := ⟨_, rfl⟩
          rw [← ee] at j0 j1 hJ hc2
          have he : RunE (fun j => isL (T j)) n a e := ⟨j0, j1, hJ, fun z w => hc2 ⟨z, by rw [uj e (by omega) z]; exact w⟩⟩
          obtain ⟨x1, x2, x3, x4⟩ := tk_w ha han hl he
          unfold w103_124
          rw [← ee, u11]
          refine ⟨⟨by omega, by omega⟩, ?_⟩
          by_cases h5 : 5 < e - a
          · rw [if_pos h5]
            intro v ev
            rw [if_neg (by omega)] at x3
            refine h' v (fun b j z => ?_) ?_ ?_ ?_ ?_
            · rw [ev]; unfold l2_u; rw [if_neg (by omega)]; exact uf b j z
            · rw [ev, l2_u_nj (by decide), x2]; exact ee.symm
            · rw [ev, l2_u_self, x3]
            · rw [ev, l2_u_nj (by decide), x1]; exact u11
            · rw [ev, l2_u_nj (by decide), x4]; exact u12
          · rw [if_neg h5]
            intro v ev
            rw [if_pos (by omega)] at x3
            refine h' v (fun b j z => ?_) ?_ ?_ ?_ ?_
            · rw [ev]; unfold l2_u; rw [if_neg (by omega)]; exact uf b j z
            · rw [ev, l2_u_nj (by decide), x2]; exact ee.symm
            · rw [ev, l2_u_self, x3]
            · rw [ev, l2_u_nj (by decide), x1]; exact u11
            · rw [ev, l2_u_nj (by decide), x4]; exact u12
      · rw [if_neg hl]
        by_cases hd : isD (T a)
        · rw [if_pos hd]
          unfold w103_164
          refine lz1_inv (fun u => a ≤ u 49 8 ∧ u 49 8 ≤ n ∧ (∀ j : Int, a ≤ j → j < u 49 8 → isD (T j)) ∧ u 49 11 = a ∧ u 49 12 = digN T a (u 49 8 - a).toNat ∧ frTk σ u) (fun u => n - u 49 8) ?_ ⟨by omega, by omega, fun j x y => by omega, g11, by rw [g8, Int.sub_self]; exact g12, gf⟩
          intro Y u hY ⟨j0, j1, hJ, u11, u12, uf⟩
          have u7 : u 49 7 = n := by rw [uf 49 7 (by omega)]; exact h7
          have uj : ∀ j : Int, 0 ≤ j → j < n → u 55 j = T j := fun j x y => by rw [uf 55 j (by omega)]; exact hTj j x y
          have ur : ∀ j : Int, 0 ≤ j → j < 700 → rg (u 55 j) := fun j x y => by rw [uf 55 j (by omega)]; exact hrg j x y
          rw [u7]
          refine ⟨⟨⟨by omega, by omega⟩, ⟨by omega, by omega⟩⟩, fun z => ⟨by omega, by omega, ur _ (by omega) (by omega)⟩, ?_⟩
          by_cases hc2 : u 49 8 < n ∧ (48 ≤ u 55 (u 49 8) ∧ u 55 (u 49 8) ≤ 57)
          · rw [if_pos hc2]
            intro u' eu' u'' eu
            have u8' : u' 49 8 = u 49 8 := by rw [eu', l2_u_nj (by decide)]
            have u8 : u'' 49 8 = u 49 8 + 1 := by rw [eu, l2_u_self, u8']
            have ut : u 55 (u 49 8) = T (u 49 8) := uj _ (by omega) hc2.1
            refine hY u'' ⟨by omega, by omega, fun j x y => ?_, by rw [eu, l2_u_nj (by decide), eu', l2_u_nj (by decide)]; exact u11, ?_, fun b j z => ?_⟩ (by rw [u8]; omega)
            · rw [u8] at y
              by_cases hj : j = u 49 8
              · rw [hj, ← ut]; exact hc2.2
              · exact hJ j x (by omega)
            · rw [u8, show (u 49 8 + 1 - a).toNat = (u 49 8 - a).toNat + 1 by omega, eu, l2_u_nj (by decide), eu', l2_u_self, u12, ut]
              show _ = 10 * digN T a (u 49 8 - a).toNat + T (a + ((u 49 8 - a).toNat : Int)) - 48
              rw [show a + ((u 49 8 - a).toNat : Int) = u 49 8 by omega]
            · rw [eu]; unfold l2_u; rw [if_neg (by omega), eu']; unfold l2_u; rw [if_neg (by omega)]; exact uf b j z
          · rw [if_neg hc2]
            obtain ⟨e, ee⟩ : ∃ e, e = u 49 8 := ⟨_, rfl⟩
            rw [← ee] at j0 j1 hJ hc2 u12
            have he : RunE (fun j => isD (T j)) n a e := ⟨j0, j1, hJ, fun z w => hc2 ⟨z, by rw [uj e (by omega) z]; exact w⟩⟩
            obtain ⟨x1, x2, x3, x4⟩ := tk_d ha han hl hd he
            unfold w103_227
            rw [← ee, u11]
            refine ⟨⟨by omega, by omega⟩, ?_⟩
            by_cases h5 : 4 < e - a
            · rw [if_pos h5]
              intro v ev
              rw [if_neg (by omega)] at x3
              refine h' v (fun b j z => ?_) ?_ ?_ ?_ ?_
              · rw [ev]; unfold l2_u; rw [if_neg (by omega)]; exact uf b j z
              · rw [ev, l2_u_nj (by decide), x2]; exact ee.symm
              · rw [ev, l2_u_self, x3]
              · rw [ev, l2_u_nj (by decide), x1]; exact u11
              · rw [ev, l2_u_nj (by decide), x4]; exact u12
            · rw [if_neg h5]
              intro v ev
              rw [if_pos (by omega)] at x3
              refine h' v (fun b j z => ?_) ?_ ?_ ?_ ?_
              · rw [ev]; unfold l2_u; rw [if_neg (by omega)]; exact uf b j z
              · rw [ev, l2_u_nj (by decide), x2]; exact ee.symm
              · rw [ev, l2_u_self, x3]
              · rw [ev, l2_u_nj (by decide), x1]; exact u11
              · rw [ev, l2_u_nj (by decide), x4]; exact u12
        · rw [if_neg hd]
          obtain ⟨x1, x2, x3, x4⟩ := tk_s ha han hl hd
          intro u eu
          have v12 : u 49 12 = T a := by rw [eu, l2_u_self]
          have v8 : u 49 8 = a := by rw [eu, l2_u_nj (by decide)]; exact g8
          rw [v12]
          refine ⟨by rw [← gT a (by omega) han]; exact gr a (by omega) (by omega), ?_⟩
          by_cases hS : T a = 59 ∨ (T a = 43 ∨ T a = 45)
          · rw [if_pos hS]
            rw [if_pos hS] at x3
            unfold w103_293
            intro v ev v' ev'
            refine h' v' (fun b j z => ?_) ?_ ?_ ?_ ?_
            · rw [ev']; unfold l2_u; rw [if_neg (by omega), ev]; unfold l2_u; rw [if_neg (by omega), eu]; unfold l2_u; rw [if_neg (by omega)]; exact gf b j z
            · rw [ev', l2_u_self, ev, l2_u_nj (by decide), v8, x2]
            · rw [ev', l2_u_nj (by decide), ev, l2_u_self, x3]
            · rw [ev', l2_u_nj (by decide), ev, l2_u_nj (by decide), eu, l2_u_nj (by decide), x1]; exact g11
            · rw [ev', l2_u_nj (by decide), ev, l2_u_nj (by decide), x4]; exact v12
          · rw [if_neg hS]
            rw [if_neg hS] at x3
            intro v ev v' ev'
            refine h' v' (fun b j z => ?_) ?_ ?_ ?_ ?_
            · rw [ev']; unfold l2_u; rw [if_neg (by omega), ev]; unfold l2_u; rw [if_neg (by omega), eu]; unfold l2_u; rw [if_neg (by omega)]; exact gf b j z
            · rw [ev', l2_u_self, ev, l2_u_nj (by decide), v8, x2]
            · rw [ev', l2_u_nj (by decide), ev, l2_u_self, x3]
            · rw [ev', l2_u_nj (by decide), ev, l2_u_nj (by decide), eu, l2_u_nj (by decide), x1]; exact g11
            · rw [ev', l2_u_nj (by decide), ev, l2_u_nj (by decide), x4]; exact v12
    · rw [if_neg han]
      obtain ⟨x1, x2, x3, x4⟩ := tk_e ha han
      intro v ev
      refine h' v (fun b j z => ?_) ?_ ?_ ?_ ?_
      · rw [ev]; unfold l2_u; rw [if_neg (by omega)]; exact gf b j z
      · rw [ev, l2_u_nj (by decide), x2]; exact g8
      · rw [ev, l2_u_self, x3]
      · rw [ev, l2_u_nj (by decide), x1]; exact g11
      · rw [ev, l2_u_nj (by decide), x4]; exact g12
