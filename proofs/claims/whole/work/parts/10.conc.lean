/-! ===== the pure machine's things as cells of a heap: thing a lies at ad a, its array class is ca a ===== -/
def pm_v (ad : Nat → Nat) (v : Value) : Value := match v with
  | .ref i => .ref (ad i)
  | .int x => .int x
  | .long x => .long x
  | .float x => .float x
  | .double x => .double x
  | .null => .null
  | .retAddr x => .retAddr x
theorem pm_v_cat (ad : Nat → Nat) (v : Value) : (pm_v ad v).category = v.category := by cases v <;> rfl
theorem pm_v_sum (ad : Nat → Nat) (st : List Value) : ((st.map (pm_v ad)).map fun v => v.category).sum = (st.map fun v => v.category).sum := by
  rw [List.map_map]
  congr 1
  exact List.map_congr_left (fun v _ => pm_v_cat ad v)
def pm_e (ad : Nat → Nat) (ca : ClassId) (e : va_E) : va_E := match e with
  | .inr (c, fs) => .inr (c, fs.map (pm_v ad))
  | .inl (_, n, .inl f) => .inl (ca, n, .inl f)
  | .inl (_, n, .inr (.inl f)) => .inl (ca, n, .inr (.inl f))
  | .inl (_, n, .inr (.inr (.inl f))) => .inl (ca, n, .inr (.inr (.inl f)))
  | .inl (_, n, .inr (.inr (.inr (.inl f)))) => .inl (ca, n, .inr (.inr (.inr (.inl f))))
  | .inl (_, n, .inr (.inr (.inr (.inr f)))) => .inl (ca, n, .inr (.inr (.inr (.inr (fun j => (f j).map ad)))))
def pm_w (ad : Nat → Nat) (ca : Nat → ClassId) (n : Nat) (S : pm_S) : va_W := (List.range (n - pm_k)).map (fun j => (ad (pm_k + j), pm_e ad (ca (pm_k + j)) (S (pm_k + j))))
/-- what is referred to is there -/
def pm_wv (n : Nat) (v : Value) : Prop := ∀ i, v = .ref i → i < n
def pm_we (n : Nat) (e : va_E) : Prop := match e with
  | .inr (_, fs) => ∀ v ∈ fs, pm_wv n v
  | .inl (_, _, .inr (.inr (.inr (.inr f)))) => ∀ j i, f j = some i → i < n
  | .inl _ => True
def pm_wS (n : Nat) (S : pm_S) : Prop := ∀ a, a < n → pm_we n (S a)
def pm_ag {α : Type} (n : Nat) (f g : Nat → α) : Prop := ∀ a, a < n → g a = f a
theorem pm_wv_int (n : Nat) (x : Int32) : pm_wv n (.int x) := fun i h => by cases h
theorem pm_wv_long (n : Nat) (x : Int64) : pm_wv n (.long x) := fun i h => by cases h
theorem pm_wv_null (n : Nat) : pm_wv n .null := fun i h => by cases h
theorem pm_wv_un (n : Nat) : pm_wv n pm_un := fun i h => by cases h
theorem pm_wv_ref {n a : Nat} (h : a < n) : pm_wv n (.ref a) := fun i e => by cases e; exact h
theorem pm_wv.le {n m : Nat} {v : Value} (h : pm_wv n v) (hm : n ≤ m) : pm_wv m v := fun i e => Nat.lt_of_lt_of_le (h i e) hm
theorem pm_we.le {n m : Nat} {e : va_E} (h : pm_we n e) (hm : n ≤ m) : pm_we m e := by
  obtain ⟨t, k, f | f | f | f | f⟩ | ⟨c, fs⟩ := e
  · trivial
  · trivial
  · trivial
  · trivial
  · exact fun j i e => Nat.lt_of_lt_of_le (h j i e) hm
  · exact fun v hv => (h v hv).le hm
theorem pm_v_ag {n : Nat} {ad ad' : Nat → Nat} (ha : pm_ag n ad ad') {v : Value} (h : pm_wv n v) : pm_v ad' v = pm_v ad v := by
  cases v with
  | ref i => exact congrArg Value.ref (ha i (h i rfl))
  | _ => rfl
theorem pm_vs_ag {n : Nat} {ad ad' : Nat → Nat} (ha : pm_ag n ad ad') {st : List Value} (h : ∀ v ∈ st, pm_wv n v) : st.map (pm_v ad') = st.map (pm_v ad) := List.map_congr_left (fun v hv => pm_v_ag ha (h v hv))
theorem pm_e_ag {n : Nat} {ad ad' : Nat → Nat} (ha : pm_ag n ad ad') {ca : ClassId} {e : va_E} (h : pm_we n e) : pm_e ad' ca e = pm_e ad ca e := by
  obtain ⟨t, k, f | f | f | f | f⟩ | ⟨c, fs⟩ := e
  · rfl
  · rfl
  · rfl
  · rfl
  · show (Sum.inl (ca, k, .inr (.inr (.inr (.inr (fun j => (f j).map ad'))))) : va_E) = Sum.inl (ca, k, .inr (.inr (.inr (.inr (fun j => (f j).map ad)))))
    have e9 : (fun j => (f j).map ad') = (fun j => (f j).map ad) := by
      funext j
      cases hj : f j with
      | none => rfl
      | some i => exact congrArg some (ha i (h j i hj))
    rw [e9]
  · show (Sum.inr (c, fs.map (pm_v ad')) : va_E) = Sum.inr (c, fs.map (pm_v ad))
    rw [pm_vs_ag ha h]
theorem pm_w_get {ad : Nat → Nat} {ca : Nat → ClassId} {n : Nat} {S : pm_S} {a : Nat} (h1 : pm_k ≤ a) (h2 : a < n) : (pm_w ad ca n S)[a - pm_k]? = some (ad a, pm_e ad (ca a) (S a)) := by
  unfold pm_w
  rw [List.getElem?_map, List.getElem?_range (by omega)]
  show some (ad (pm_k + (a - pm_k)), pm_e ad (ca (pm_k + (a - pm_k))) (S (pm_k + (a - pm_k)))) = _
  rw [show pm_k + (a - pm_k) = a by omega]
theorem pm_w_in {ad : Nat → Nat} {ca : Nat → ClassId} {n : Nat} {S : pm_S} {k : Nat} {q : Nat × va_E} (h : (pm_w ad ca n S)[k]? = some q) : k < n - pm_k ∧ q = (ad (pm_k + k), pm_e ad (ca (pm_k + k)) (S (pm_k + k))) := by
  have hl : k < (pm_w ad ca n S).length := (List.getElem?_eq_some_iff.mp h).1
  have hk : k < n - pm_k := by simpa [pm_w] using hl
  refine ⟨hk, ?_⟩
  have h2 := pm_w_get (ad := ad) (ca := ca) (n := n) (S := S) (a := pm_k + k) (by omega) (by omega)
  rw [show pm_k + k - pm_k = k by omega, h] at h2
  exact Option.some.inj h2
theorem pm_w_len (ad : Nat → Nat) (ca : Nat → ClassId) (n : Nat) (S : pm_S) : (pm_w ad ca n S).length = n - pm_k := by simp [pm_w]
theorem pm_w_set {ad : Nat → Nat} {ca : Nat → ClassId} {n : Nat} {S : pm_S} {a : Nat} (e : va_E) (h1 : pm_k ≤ a) (h2 : a < n) : (pm_w ad ca n S).set (a - pm_k) (ad a, pm_e ad (ca a) e) = pm_w ad ca n (va_up S a e) := by
  apply List.ext_getElem?
  intro k
  by_cases hk : k < n - pm_k
  · have e2 := pm_w_get (ad := ad) (ca := ca) (n := n) (S := va_up S a e) (a := pm_k + k) (by omega) (by omega)
    have e1 := pm_w_get (ad := ad) (ca := ca) (n := n) (S := S) (a := pm_k + k) (by omega) (by omega)
    rw [show pm_k + k - pm_k = k by omega] at e1 e2
    rw [e2]
    by_cases hka : pm_k + k = a
    · subst hka
      rw [show pm_k + k - pm_k = k by omega, List.getElem?_set_self (by rw [pm_w_len]; exact hk)]
      simp [va_up]
    · rw [List.getElem?_set_ne (by omega), e1]
      simp [va_up, hka]
  · rw [List.getElem?_eq_none (by rw [List.length_set, pm_w_len]; omega), List.getElem?_eq_none (by rw [pm_w_len]; omega)]
theorem pm_w_push {ad : Nat → Nat} {ca : Nat → ClassId} {n : Nat} {S : pm_S} {q : Nat} {cA : ClassId} {e e' : va_E} (hn : pm_k ≤ n) (hw : pm_wS n S) (he : pm_e (va_up ad n q) cA e = e') : pm_w ad ca n S ++ [(q, e')] = pm_w (va_up ad n q) (va_up ca n cA) (n + 1) (va_up S n e) := by
  apply List.ext_getElem?
  intro k
  have hag : pm_ag n ad (va_up ad n q) := fun a ha => by simp [va_up, Nat.ne_of_lt ha]
  by_cases hk : k < n - pm_k
  · rw [List.getElem?_append_left (by rw [pm_w_len]; exact hk)]
    have e1 := pm_w_get (ad := ad) (ca := ca) (n := n) (S := S) (a := pm_k + k) (by omega) (by omega)
    have e2 := pm_w_get (ad := va_up ad n q) (ca := va_up ca n cA) (n := n + 1) (S := va_up S n e) (a := pm_k + k) (by omega) (by omega)
    rw [show pm_k + k - pm_k = k by omega] at e1 e2
    rw [e1, e2]
    have hne : ¬ pm_k + k = n := by omega
    have hlt : pm_k + k < n := by omega
    simp only [va_up, if_neg hne]
    rw [pm_e_ag hag (hw _ hlt)]
  · by_cases hk2 : k = n - pm_k
    · have e2 := pm_w_get (ad := va_up ad n q) (ca := va_up ca n cA) (n := n + 1) (S := va_up S n e) (a := n) hn (by omega)
      rw [hk2, e2, List.getElem?_append_right (by rw [pm_w_len]; exact Nat.le_refl _), pm_w_len, Nat.sub_self]
      simp [va_up, ← he]
    · rw [List.getElem?_eq_none (by rw [List.length_append, pm_w_len]; simp; omega), List.getElem?_eq_none (by rw [pm_w_len]; omega)]
/-! the locals -/
def pm_lr (ad : Nat → Nat) (ls : Array Slot) (L : List Value) : Prop := ls.size = L.length ∧ lv_wf ls ∧ ∀ (i : Nat) (v : Value), L[i]? = some v → (∀ n, v ≠ .retAddr n) → ls[i]? = some (.val (pm_v ad v))
theorem pm_lr.ag {n : Nat} {ad ad' : Nat → Nat} (ha : pm_ag n ad ad') {ls : Array Slot} {L : List Value} (h : pm_lr ad ls L) (hw : ∀ v ∈ L, pm_wv n v) : pm_lr ad' ls L := ⟨h.1, h.2.1, fun i v hv hn => by rw [pm_v_ag ha (hw v (List.mem_of_getElem? hv))]; exact h.2.2 i v hv hn⟩
def pm_pr (ad : Nat → Nat) (L : List Value) : List (Nat × Value) := (List.range L.length).filterMap (fun i => match L[i]? with
  | some (Value.retAddr _) => none
  | some v => some (i, pm_v ad v)
  | none => none)
theorem pm_pr_in {ad : Nat → Nat} {L : List Value} {i : Nat} {v : Value} (h : L[i]? = some v) (hn : ∀ n, v ≠ .retAddr n) : (i, pm_v ad v) ∈ pm_pr ad L := by
  refine List.mem_filterMap.mpr ⟨i, List.mem_range.mpr (List.getElem?_eq_some_iff.mp h).1, ?_⟩
  rw [h]
  cases v with
  | retAddr n => exact absurd rfl (hn n)
  | _ => rfl
theorem pm_lr.has {ad : Nat → Nat} {ls : Array Slot} {L : List Value} (h : pm_lr ad ls L) : lv_has ls L.length (pm_pr ad L) := by
  refine ⟨h.1, h.2.1, fun q hq => ?_⟩
  obtain ⟨i, hi, he⟩ := List.mem_filterMap.mp hq
  cases hv : L[i]? with
  | none => rw [hv] at he; cases he
  | some v =>
    rw [hv] at he
    cases v with
    | retAddr n => cases he
    | _ => cases he; exact h.2.2 i _ hv (fun n e => by cases e)
theorem pm_kill_len (L : List Value) (i : Nat) : (pm_kill L i).length = L.length := by
  unfold pm_kill
  split
  · rfl
  · split
    · split <;> simp
    · rfl
theorem pm_kill_at {L : List Value} {i j : Nat} {w : Value} (h : (pm_kill L i)[j]? = some w) (hn : ∀ n, w ≠ .retAddr n) : L[j]? = some w ∧ ¬ (j + 1 = i ∧ w.category = 2) := by
  unfold pm_kill at h
  split at h
  · exact ⟨h, by omega⟩
  · rename_i i
    split at h
    · rename_i v hv
      split at h
      · rename_i hc
        by_cases hj : j = i
        · subst hj
          rw [List.getElem?_set_self (List.getElem?_eq_some_iff.mp hv).1] at h
          cases h
          exact absurd rfl (hn 0)
        · rw [List.getElem?_set_ne (Ne.symm hj)] at h
          exact ⟨h, by omega⟩
      · rename_i hc
        refine ⟨h, fun hh => ?_⟩
        have hj : j = i := by omega
        subst hj
        rw [hv] at h
        cases h
        exact hc hh.2
    · rename_i hv
      refine ⟨h, fun hh => ?_⟩
      have hj : j = i := by omega
      subst hj
      rw [hv] at h
      cases h
theorem pm_lr.st1 {ad : Nat → Nat} {ls' : Array Slot} {L : List Value} {i : Nat} {v : Value} (hi : i < L.length) (h : lv_has ls' L.length ((i, pm_v ad v) :: (pm_pr ad L).filter (fun q => !(q.1 == i) && !(q.1 + 1 == i && q.2.category == 2)))) : pm_lr ad ls' (pm_st1 L i v) := by
  obtain ⟨h1, h2, h3⟩ := h
  refine ⟨by rw [h1]; simp [pm_st1, pm_kill_len], h2, fun j w hw hn => ?_⟩
  by_cases hj : j = i
  · subst hj
    unfold pm_st1 at hw
    rw [List.getElem?_set_self (by rw [pm_kill_len]; exact hi)] at hw
    cases hw
    exact h3 _ List.mem_cons_self
  · unfold pm_st1 at hw
    rw [List.getElem?_set_ne (Ne.symm hj)] at hw
    obtain ⟨g1, g2⟩ := pm_kill_at hw hn
    refine h3 (j, pm_v ad w) (List.mem_cons_of_mem _ (List.mem_filter.mpr ⟨pm_pr_in g1 hn, ?_⟩))
    show (!(j == i) && !(j + 1 == i && (pm_v ad w).category == 2)) = true
    rw [pm_v_cat]
    by_cases h5 : j + 1 = i
    · have h6 : ¬ w.category = 2 := fun e => g2 ⟨h5, e⟩
      simp [hj, h6]
    · simp [hj, h5]
theorem pm_lr.st2 {ad : Nat → Nat} {ls' : Array Slot} {L : List Value} {i : Nat} {v : Value} (hi : i + 1 < L.length) (h : lv_has ls' L.length ((i, pm_v ad v) :: (pm_pr ad L).filter (fun q => !(q.1 == i) && (!(q.1 == i + 1) && !(q.1 + 1 == i && q.2.category == 2))))) : pm_lr ad ls' (pm_st2 L i v) := by
  obtain ⟨h1, h2, h3⟩ := h
  refine ⟨by rw [h1]; simp [pm_st2, pm_kill_len], h2, fun j w hw hn => ?_⟩
  by_cases hj1 : j = i + 1
  · subst hj1
    unfold pm_st2 at hw
    rw [List.getElem?_set_self (by simp [pm_kill_len]; exact hi)] at hw
    cases hw
    exact absurd rfl (hn 0)
  · unfold pm_st2 at hw
    rw [List.getElem?_set_ne (Ne.symm hj1)] at hw
    by_cases hj : j = i
    · subst hj
      rw [List.getElem?_set_self (by rw [pm_kill_len]; omega)] at hw
      cases hw
      exact h3 _ List.mem_cons_self
    · rw [List.getElem?_set_ne (Ne.symm hj)] at hw
      obtain ⟨g1, g2⟩ := pm_kill_at hw hn
      refine h3 (j, pm_v ad w) (List.mem_cons_of_mem _ (List.mem_filter.mpr ⟨pm_pr_in g1 hn, ?_⟩))
      show (!(j == i) && (!(j == i + 1) && !(j + 1 == i && (pm_v ad w).category == 2))) = true
      rw [pm_v_cat]
      by_cases h5 : j + 1 = i
      · have h6 : ¬ w.category = 2 := fun e => g2 ⟨h5, e⟩
        simp [hj, hj1, h6]
      · simp [hj, hj1, h5]
theorem pm_st1_wv {n : Nat} {L : List Value} {i : Nat} {v : Value} (h : ∀ w ∈ L, pm_wv n w) (hv : pm_wv n v) : ∀ w ∈ pm_st1 L i v, pm_wv n w := by
  intro w hw
  unfold pm_st1 at hw
  rcases List.mem_or_eq_of_mem_set hw with hw | rfl
  · unfold pm_kill at hw
    split at hw
    · exact h w hw
    · split at hw
      · split at hw
        · rcases List.mem_or_eq_of_mem_set hw with hw | rfl
          · exact h w hw
          · exact pm_wv_un n
        · exact h w hw
      · exact h w hw
  · exact hv
theorem pm_st2_wv {n : Nat} {L : List Value} {i : Nat} {v : Value} (h : ∀ w ∈ L, pm_wv n w) (hv : pm_wv n v) : ∀ w ∈ pm_st2 L i v, pm_wv n w := by
  intro w hw
  unfold pm_st2 at hw
  rcases List.mem_or_eq_of_mem_set hw with hw | rfl
  · exact pm_st1_wv h hv w hw
  · exact pm_wv_un n
