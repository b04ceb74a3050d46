/-! ===== what holds of a state beside the things: the rows that are read alone, statics, texts, links of nest mates ===== -/
def pm_txt : List (Nat × Nat × String × List Int32) := [(8, 86, "\x72ing", [114, 105, 110, 103]), (8, 95, "poly", [112, 111, 108, 121]), (8, 101, "prime", [112, 114, 105, 109, 101]), (8, 110, "order", [111, 114, 100, 101, 114]), (8, 112, "lex", [108, 101, 120]), (8, 114, "deg", [100, 101, 103]), (8, 116, "\x72ev", [114, 101, 118]), (10, 156, "x", [120]), (10, 158, "y", [121]), (10, 160, "z", [122]), (10, 171, "\x72ing", [114, 105, 110, 103]), (10, 176, "poly", [112, 111, 108, 121]), (10, 181, "prime", [112, 114, 105, 109, 101]), (10, 191, "order", [111, 114, 100, 101, 114]), (10, 193, "lex", [108, 101, 120]), (10, 195, "deg", [100, 101, 103]), (10, 197, "\x72ev", [114, 101, 118])]
def pm_isx (w : Cond) : Bool := match w with
  | .declares _ => true
  | .castable _ _ => true
  | _ => false
def pm_nx : List Cond := lw_tbl.filter pm_isx
/-- a text at a cell -/
def pm_tx (q : Nat × Nat × String × List Int32) (a : Nat) (A : Nat → Prop) (U : State) (H : Heap) : Prop := vk_R (pm_cn q.1) q.2.1 q.2.2.1 a U ∧ va_O "java/lang/String" a A U H ∧ va_OF "java/lang/String" "coder" "B" (.int 0) a A U H ∧ ∃ av : Nat, va_OF "java/lang/String" "value" "[B" (.ref av) a A U H ∧ va_T .byte av q.2.2.2.length (fun j => .int (q.2.2.2.getD j 0)) A U H
/-- the rows of ints that are read alone -/
def pm_Zr (ad : Nat → Nat) (A : Nat → Prop) (S : pm_S) (U : State) (H : Heap) : Prop := ∀ j, j < pm_k → ∀ t m x, S j = .inl (t, m, x) → t < 4 → t = 0 ∧ ∃ f, x = .inl f ∧ va_T .int (ad j) m (fun i => .int (f i)) A U H
def pm_Zs (ad : Nat → Nat) (A : Nat → Prop) (U : State) (H : Heap) : Prop := va_Z RX9 "PRIMES" "[I" (.ref (ad 1)) A U H ∧ va_Z RX3 "TAILS" "[I" (.ref (ad 2)) A U H ∧ va_Z "java/lang/String" "COMPACT_STRINGS" "Z" (.int 1) A U H ∧ va_Zq "jdk/internal/util/Preconditions" "SIOOBE_FORMATTER" "Ljava/util/function/BiFunction;" A U H ∧ vx_Zq Bundle.tN "UNASSIGNED_STACK" Bundle.steD A U H ∧ vx_Zq Bundle.tN "SUPPRESSED_SENTINEL" Bundle.listD A U H
def pm_Zw (U : State) : Prop := (∀ w ∈ pm_nw, va_Nw w U) ∧ (∀ w ∈ pm_nx, va_Nw w U) ∧ va_AO RX7 U ∧ ∃ sa : Nat, vk_R RX9 326 "no such constant" sa U
def pm_Zt (ad : Nat → Nat) (A : Nat → Prop) (S : pm_S) (U : State) (H : Heap) : Prop := (∀ i q, pm_txt[i]? = some q → S (3 + i) = .inl (7, q.2.2.2.length, .inl (fun j => q.2.2.2.getD j 0)) ∧ pm_tx q (ad (3 + i)) A U H) ∧ ∀ a, a < pm_k → ∀ m x, S a = .inl (7, m, x) → ∃ i q, a = 3 + i ∧ pm_txt[i]? = some q
def pm_Z (ad : Nat → Nat) (A : Nat → Prop) (S : pm_S) (U : State) (H : Heap) : Prop := pm_Zr ad A S U H ∧ pm_Zs ad A U H ∧ pm_Zw U ∧ pm_Zt ad A S U H
theorem pm_nw_ot {w : Cond} (h : w ∈ pm_nw) : w.onTables = true := by
  have := (List.mem_filter.mp h).2
  cases w <;> first | rfl | cases this
theorem pm_nx_ot {w : Cond} (h : w ∈ pm_nx) : w.onTables = true := by
  have := (List.mem_filter.mp h).2
  cases w <;> first | rfl | cases this
theorem pm_Zw.same {u U : State} (hv : U.vm = u.vm) (h : pm_Zw u) : pm_Zw U := by
  obtain ⟨h1, h2, h3, sa, h4⟩ := h
  refine ⟨fun w hw => va_Nw.same (pm_nw_ot hw) hv.symm (h1 w hw), fun w hw => va_Nw.same (pm_nx_ot hw) hv.symm (h2 w hw), va_AO.moved (by rw [hv]; exact Vm.Alike.refl _) h3, sa, vk_R.same hv h4⟩
theorem pm_Zw.warm {u U : State} (hW : u.WarmedH U.vm) (h : pm_Zw u) : pm_Zw U := by
  obtain ⟨h1, h2, h3, sa, h4⟩ := h
  refine ⟨fun w hw => ?_, fun w hw => ?_, va_AO.moved hW.alike h3, sa, vk_R.warm hW h4⟩
  · have h5 := h1 w hw
    have := (List.mem_filter.mp hw).2
    cases w with
    | methodLinkNest a b c d => exact va_Nw.warmM hW h5
    | fieldLinkNest a b c d e f => exact va_Nw.warmF hW h5
    | _ => cases this
  · have h5 := h2 w hw
    have := (List.mem_filter.mp hw).2
    cases w with
    | declares a => exact va_Nw.warmD hW h5
    | castable a b => exact va_Nw.warmC hW h5
    | _ => cases this
theorem pm_tx.go {q : Nat × Nat × String × List Int32} {a : Nat} {A B : Nat → Prop} {u U : State} {H H1 : Heap} (hr : ∀ {o k tx a}, vk_R o k tx a u → vk_R o k tx a U) (ha : u.vm.Alike U.vm) (hk : ∀ a : Nat, a < H.size → ¬ A a → H1[a]? = H[a]?) (hAB : ∀ q, B q → A q) (h : pm_tx q a A u H) : pm_tx q a B U H1 := by
  obtain ⟨h1, h2, h3, av, h4, h5⟩ := h
  exact ⟨hr h1, ((va_O.moved ha h2).kept hk).narrow hAB, ((va_OF.moved ha h3).kept hk).narrow hAB, av, ((va_OF.moved ha h4).kept hk).narrow hAB, ((va_T.moved ha h5).kept hk).narrow hAB⟩
theorem pm_Z.go {ad ad' : Nat → Nat} {A B : Nat → Prop} {S S' : pm_S} {u U : State} {H H1 : Heap} (hw : pm_Zw u → pm_Zw U) (hr : ∀ {o k tx a}, vk_R o k tx a u → vk_R o k tx a U) (ha : u.vm.Alike U.vm) (hz : H.size ≤ H1.size) (hk : ∀ a : Nat, a < H.size → ¬ A a → H1[a]? = H[a]?) (hAB : ∀ q, B q → A q) (hS : ∀ j, j < pm_k → S' j = S j) (hd : ∀ j, j < pm_k → ad' j = ad j) (h : pm_Z ad A S u H) : pm_Z ad' B S' U H1 := by
  obtain ⟨h1, ⟨a1, a2, a3, a4, a5, a6⟩, h3, h4⟩ := h
  refine ⟨fun j hj t m x hx ht => ?_, ⟨?_, ?_, ((va_Z.moved ha a3).kept hk).narrow hAB, ((va_Zq.moved ha a4).kept hk).narrow hAB, ((vx_Zq.moved ha a5).kept hk).narrow hAB, ((vx_Zq.moved ha a6).kept hk).narrow hAB⟩, hw h3, fun i q hq => ?_, fun a h8 m x hx => ?_⟩
  · rw [hS j hj] at hx
    obtain ⟨b1, f, b2, b3⟩ := h1 j hj t m x hx ht
    rw [hd j hj]
    exact ⟨b1, f, b2, ((va_T.moved ha b3).kept hk).narrow hAB⟩
  · rw [hd 1 (by decide)]; exact ((va_Z.moved ha a1).kept hk).narrow hAB
  · rw [hd 2 (by decide)]; exact ((va_Z.moved ha a2).kept hk).narrow hAB
  · have hi : i < 17 := (List.getElem?_eq_some_iff.mp hq).1
    obtain ⟨b1, b2⟩ := h4.1 i q hq
    rw [hS _ (by show 3 + i < 32; omega), hd _ (by show 3 + i < 32; omega)]
    exact ⟨b1, b2.go hr ha hk hAB⟩
  · rw [hS a h8] at hx
    exact h4.2 a h8 m x hx
/-- what holds between instructions -/
def pm_I (D : va_G) (A : Nat → Prop) (s : State) (H : Heap) (locs : List Loc) (ad : Nat → Nat) (ca : Nat → ClassId) (M : pm_M) (S : pm_S) : Prop :=
  va_K D vwCl [] s ∧ (∀ a, pm_k ≤ a → a < M.1 → ∀ t x, S a = .inl (t, x) → t < 4 ∧ ArrOfT s (ca a) (pm_tag t) ∧ va_RA s (ca a) (pm_tag t)) ∧ va_P D vwCl (pm_w ad ca M.1 S) H ∧ va_D A (pm_w ad ca M.1 S) ∧ va_S A s.heap H locs ∧ (∀ q, s.heap.size ≤ q → A q) ∧ pm_wS M.1 S ∧ pm_k ≤ M.1 ∧ pm_Z ad A S s s.heap
/-- an array's class, as the kit's rows take it -/
theorem pm_I.K {D : va_G} {A : Nat → Prop} {s : State} {H : Heap} {locs : List Loc} {ad : Nat → Nat} {ca : Nat → ClassId} {M : pm_M} {S : pm_S} (h : pm_I D A s H locs ad ca M S) {a t : Nat} {x : vp_A} (h1 : pm_k ≤ a) (h2 : a < M.1) (ha : S a = .inl (t, x)) : va_K D vwCl [(ca a, pm_tag t)] s := by
  refine ⟨h.1.1, fun k q hk => ?_⟩
  have hz : k < 1 := (List.getElem?_eq_some_iff.mp hk).1
  rw [show k = 0 by omega] at hk
  cases hk
  exact (h.2.1 a h1 h2 t x ha).2
/-- a cell of another content, of the same kind -/
theorem pm_I.put {D : va_G} {A : Nat → Prop} {s : State} {H H1 : Heap} {locs locs1 : List Loc} {ad : Nat → Nat} {ca : Nat → ClassId} {M : pm_M} {S : pm_S} (h : pm_I D A s H locs ad ca M S) {a : Nat} {e : va_E} (h1 : pm_k ≤ a) (h2 : a < M.1) (hk : ∀ t x, e = .inl (t, x) → ∃ x', S a = .inl (t, x')) (hw : pm_we M.1 e)
    (hP : va_P D vwCl ((pm_w ad ca M.1 S).set (a - pm_k) (ad a, pm_e ad (ca a) e)) H1) (hD : va_D A ((pm_w ad ca M.1 S).set (a - pm_k) (ad a, pm_e ad (ca a) e))) (hS : va_S A s.heap H1 locs1) : pm_I D A s H1 locs1 ad ca M (va_up S a e) := by
  rw [pm_w_set e h1 h2] at hP hD
  obtain ⟨g1, g2, -, -, -, g6, g7, g8, g9⟩ := h
  refine ⟨g1, fun b hb1 hb2 t x hx => ?_, hP, hD, hS, g6, fun b hb => ?_, g8, pm_Z.go (fun z => z) (fun z => z) (Vm.Alike.refl _) (Nat.le_refl _) (fun _ _ _ => rfl) (fun _ z => z) (fun j hj => ?_) (fun _ _ => rfl) g9⟩
  · by_cases hba : b = a
    · subst hba
      simp only [va_up, if_pos] at hx
      obtain ⟨x', hx'⟩ := hk t x hx
      exact g2 b hb1 hb2 t x' hx'
    · simp only [va_up, if_neg hba] at hx
      exact g2 b hb1 hb2 t x hx
  · by_cases hba : b = a
    · subst hba
      simp only [va_up, if_pos]
      exact hw
    · simp only [va_up, if_neg hba]
      exact g7 b hb
  · have : j ≠ a := by omega
    simp [va_up, this]
/-- a new cell -/
theorem pm_I.new {D : va_G} {A : Nat → Prop} {s : State} {H H1 : Heap} {locs locs1 : List Loc} {ad : Nat → Nat} {ca : Nat → ClassId} {M : pm_M} {S : pm_S} (h : pm_I D A s H locs ad ca M S) {q : Nat} {cA : ClassId} {e e' : va_E} {c1 s1 : Nat} (he : pm_e (va_up ad M.1 q) cA e = e') (hk : ∀ t x, e = .inl (t, x) → t < 4 ∧ ArrOfT s cA (pm_tag t) ∧ va_RA s cA (pm_tag t)) (hw : pm_we (M.1 + 1) e)
    (hP : va_P D vwCl (pm_w ad ca M.1 S ++ [(q, e')]) H1) (hD : va_D A (pm_w ad ca M.1 S ++ [(q, e')])) (hS : va_S A s.heap H1 locs1) : pm_I D A s H1 locs1 (va_up ad M.1 q) (va_up ca M.1 cA) (M.1 + 1, c1, s1) (va_up S M.1 e) := by
  obtain ⟨g1, g2, -, -, -, g6, g7, g8, g9⟩ := h
  rw [pm_w_push (cA := cA) g8 g7 he] at hP hD
  refine ⟨g1, fun b hb1 hb2 t x hx => ?_, hP, hD, hS, g6, fun b hb => ?_, Nat.le_succ_of_le g8, pm_Z.go (fun z => z) (fun z => z) (Vm.Alike.refl _) (Nat.le_refl _) (fun _ _ _ => rfl) (fun _ z => z) (fun j hj => ?_) (fun j hj => ?_) g9⟩
  · by_cases hba : b = M.1
    · subst hba
      simp only [va_up, if_pos] at hx ⊢
      exact hk t x hx
    · simp only [va_up, if_neg hba] at hx ⊢
      exact g2 b hb1 (by have : b < M.1 + 1 := hb2; omega) t x hx
  · by_cases hba : b = M.1
    · subst hba
      simp only [va_up, if_pos]
      exact hw
    · simp only [va_up, if_neg hba]
      exact (g7 b (by have : b < M.1 + 1 := hb; omega)).le (Nat.le_succ _)
  · have : j ≠ M.1 := by omega
    simp [va_up, this]
  · have : j ≠ M.1 := by omega
    simp [va_up, this]
/-- the classes -/
theorem pm_vw : ∀ ci, ci < 11 → vwCl[ci]? = some (pm_cn ci, pm_fT ci, pm_nf ci) := by
  intro ci h
  match ci, h with
  | 0, _ => rfl
  | 1, _ => rfl
  | 2, _ => rfl
  | 3, _ => rfl
  | 4, _ => rfl
  | 5, _ => rfl
  | 6, _ => rfl
  | 7, _ => rfl
  | 8, _ => rfl
  | 9, _ => rfl
  | 10, _ => rfl
theorem pm_lay : ∀ ci, ci < 11 → ∀ w ∈ u_ws (pm_cn ci) (pm_fT ci) (pm_nf ci), w ∈ pm_ws := by
  intro ci h
  match ci, h with
  | 0, _ => exact lay_0
  | 1, _ => exact lay_1
  | 2, _ => exact lay_2
  | 3, _ => exact lay_3
  | 4, _ => exact lay_4
  | 5, _ => exact lay_5
  | 6, _ => exact lay_6
  | 7, _ => exact lay_7
  | 8, _ => exact lay_8
  | 9, _ => exact lay_9
  | 10, _ => exact lay_10
theorem pm_ins : ∀ ci, ci < 11 → Cond.instantiable (pm_cn ci) (pm_nf ci) ∈ pm_ws ∧ Cond.initialized (pm_cn ci) ∈ pm_ws := by
  intro ci h
  match ci, h with
  | 0, _ => exact ⟨ins_0, pm_ini0⟩
  | 1, _ => exact ⟨ins_1, pm_ini1⟩
  | 2, _ => exact ⟨ins_2, pm_ini2⟩
  | 3, _ => exact ⟨ins_3, pm_ini3⟩
  | 4, _ => exact ⟨ins_4, pm_ini4⟩
  | 5, _ => exact ⟨ins_5, pm_ini5⟩
  | 6, _ => exact ⟨ins_6, pm_ini6⟩
  | 7, _ => exact ⟨ins_7, pm_ini7⟩
  | 8, _ => exact ⟨ins_8, pm_ini8⟩
  | 9, _ => exact ⟨ins_9, pm_ini9⟩
  | 10, _ => exact ⟨ins_10, pm_ini10⟩
theorem pm_tyk : ∀ ci, ci < 11 → ∀ k, k < pm_nf ci → parseFieldDescriptor (pm_fT ci k).2.2.1 = some (pm_ty ci k) := by
  intro ci h
  match ci, h with
  | 0, _ => exact tyX0_ok
  | 1, _ => exact tyX1_ok
  | 2, _ => exact tyX2_ok
  | 3, _ => exact tyX3_ok
  | 4, _ => exact tyX4_ok
  | 5, _ => exact tyX5_ok
  | 6, _ => exact tyX6_ok
  | 7, _ => exact tyX7_ok
  | 8, _ => exact tyX8_ok
  | 9, _ => exact tyX9_ok
  | 10, _ => exact tyX10_ok
theorem pm_nmk : ∀ ci, ci < 11 → ∀ a, a < pm_nf ci → ∀ b, b < pm_nf ci → a ≠ b → (pm_fT ci a).2.1 ≠ (pm_fT ci b).2.1 := by
  intro ci h
  match ci, h with
  | 0, _ => exact nmX0
  | 1, _ => exact nmX1
  | 2, _ => exact nmX2
  | 3, _ => exact nmX3
  | 4, _ => exact nmX4
  | 5, _ => exact nmX5
  | 6, _ => exact nmX6
  | 7, _ => exact nmX7
  | 8, _ => exact nmX8
  | 9, _ => exact nmX9
  | 10, _ => exact nmX10
theorem pm_own : ∀ ci, ci < 11 → ∀ k, k < pm_nf ci → (pm_fT ci k).1 = pm_cn ci := by
  intro ci h
  match ci, h with
  | 0, _ => decide +kernel
  | 1, _ => decide +kernel
  | 2, _ => decide +kernel
  | 3, _ => decide +kernel
  | 4, _ => decide +kernel
  | 5, _ => decide +kernel
  | 6, _ => decide +kernel
  | 7, _ => decide +kernel
  | 8, _ => decide +kernel
  | 9, _ => decide +kernel
  | 10, _ => decide +kernel
