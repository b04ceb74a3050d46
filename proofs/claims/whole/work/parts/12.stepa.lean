/-! ===== an instruction of the pure machine, by the kit's rows ===== -/
def pm_fx (p : Program) (R : Room) (s : State) (m : MethodId) (args : Array Value) (meth : Method) (c : Code) (k : Nat) : Prop :=
  p.tables.exec = Jvm.exec ∧ c.code = pm_B k ∧ c.maxLocals = pm_L k ∧ s.vm.findClass (pm_cn (pm_O k)) = some m.cls ∧ (∀ w ∈ pm_ws, w.before args s = true) ∧ (pm_K k = 2 → meth.name = "<init>") ∧ pm_F k ≤ R.frames ∧ pm_J k ≤ R.locals
def pm_X (D : va_G) (A : Nat → Prop) (s : State) (c0 s0 : Nat) (H : Heap) (locs : List Loc) (ls : Array Slot) (ad : Nat → Nat) (ca : Nat → ClassId) (L st : List Value) (M : pm_M) (S : pm_S) : Prop :=
  pm_I D A s H locs ad ca M S ∧ pm_lr ad ls L ∧ (∀ v ∈ st, pm_wv M.1 v) ∧ (∀ v ∈ L, pm_wv M.1 v) ∧ c0 ≤ M.2.1 ∧ s0 ≤ M.2.2
theorem pm_c1 {n : Nat} {v : Value} {r : List Value} (h : pm_wv n v) (hr : ∀ w ∈ r, pm_wv n w) : ∀ w ∈ v :: r, pm_wv n w := List.forall_mem_cons.mpr ⟨h, hr⟩
theorem pm_t1 {n : Nat} {a : Value} {r : List Value} (h : ∀ w ∈ a :: r, pm_wv n w) : ∀ w ∈ r, pm_wv n w := fun w hw => h w (List.mem_cons_of_mem _ hw)
theorem pm_h1 {n : Nat} {a : Value} {r : List Value} (h : ∀ w ∈ a :: r, pm_wv n w) : pm_wv n a := h a List.mem_cons_self
theorem pm_in_of {j : Int32} {n : Nat} (h : ¬ (j < 0 ∨ n ≤ j.toNatClampNeg)) : vp_in j n := h
theorem pm_find {α : Type} {l : List α} {f : α → Bool} {a : α} (h : l.find? f = some a) : a ∈ l ∧ f a = true := ⟨List.mem_of_find?_eq_some h, List.find?_some h⟩
theorem pm_tn {pc : Nat} {d : Int} (h : 0 ≤ (pc : Int) + d) : (pc : Int) + d = (((pc : Int) + d).toNat : Int) := (Int.toNat_of_nonneg h).symm
section PMS
variable {p : Program} {l : Launch} {e : Env} {R : Room} {s : State} {m : MethodId} {args : Array Value} {below : List Frame} {meth : Method} {c : Code} {H : Heap} {locs : List Loc} {Q : State → Prop} {D : va_G} {A : Nat → Prop} {c0 s0 : Nat} {ls : Array Slot} {ad : Nat → Nat} {ca : Nat → ClassId} {k n pc pc' : Nat} {L st L' st' : List Value} {M M' : pm_M} {S S' : pm_S} {i raw : Instr}
theorem ps_iconst {v : Int} (hf : pm_fx p R s m args meth c k) (hX : pm_X D A s c0 s0 H locs ls ad ca L st M S) (hLs : L.length = pm_L k) (hdec : decode (pm_B k) pc = .ok ((.iconst v), n)) (hlen : pm_len (.iconst v) = 0 ∨ pm_len (.iconst v) = n) (hres : pm_res (pm_O k) pc (.iconst v) = some i) (hs : pm_step i n pc L st M S = some (pc', L', st', M', S'))
    (kk : ∀ (H' : Heap) (locs' : List Loc) (ls' : Array Slot) (ad' : Nat → Nat) (ca' : Nat → ClassId), pm_ag M.1 ad ad' → pm_ag M.1 ca ca' → pm_X D A s c0 s0 H' locs' ls' ad' ca' L' st' M' S' → W p l e R s m args below meth c H' locs' (M'.2.1 - c0) (M'.2.2 - s0) Q (F0 m pc' ls' (st'.map (pm_v ad')))) : W p l e R s m args below meth c H locs (M.2.1 - c0) (M.2.2 - s0) Q (F0 m pc ls (st.map (pm_v ad))) := by
  obtain ⟨hx, hb, hml, hown, hts, hin, hRf, hRl⟩ := hf
  obtain ⟨hI, hl, hst, hL, hc0, hs0⟩ := id hX
  have hlen : n = 1 := by
    rcases hlen with h | h
    · exact absurd h (by intro q; cases q)
    · exact h.symm
  subst hlen
  cases hres
  simp only [pm_step] at hs
  cases hs

  refine lv_iconst (v := Int32.ofInt v) hx hb hdec rfl ?_
  refine kk H locs ls ad ca (fun _ _ => rfl) (fun _ _ => rfl) ⟨hI, hl, pm_c1 (pm_wv_int _ _) hst, hL, hc0, hs0⟩
theorem ps_bipush {v : Int} (hf : pm_fx p R s m args meth c k) (hX : pm_X D A s c0 s0 H locs ls ad ca L st M S) (hLs : L.length = pm_L k) (hdec : decode (pm_B k) pc = .ok ((.bipush v), n)) (hlen : pm_len (.bipush v) = 0 ∨ pm_len (.bipush v) = n) (hres : pm_res (pm_O k) pc (.bipush v) = some i) (hs : pm_step i n pc L st M S = some (pc', L', st', M', S'))
    (kk : ∀ (H' : Heap) (locs' : List Loc) (ls' : Array Slot) (ad' : Nat → Nat) (ca' : Nat → ClassId), pm_ag M.1 ad ad' → pm_ag M.1 ca ca' → pm_X D A s c0 s0 H' locs' ls' ad' ca' L' st' M' S' → W p l e R s m args below meth c H' locs' (M'.2.1 - c0) (M'.2.2 - s0) Q (F0 m pc' ls' (st'.map (pm_v ad')))) : W p l e R s m args below meth c H locs (M.2.1 - c0) (M.2.2 - s0) Q (F0 m pc ls (st.map (pm_v ad))) := by
  obtain ⟨hx, hb, hml, hown, hts, hin, hRf, hRl⟩ := hf
  obtain ⟨hI, hl, hst, hL, hc0, hs0⟩ := id hX
  have hlen : n = 2 := by
    rcases hlen with h | h
    · exact absurd h (by intro q; cases q)
    · exact h.symm
  subst hlen
  have hq : (Int8.ofInt v).toInt32 = Int32.ofInt v := by
    by_cases h : (Int8.ofInt v).toInt32 = Int32.ofInt v
    · exact h
    · simp [pm_res, h] at hres
  simp only [pm_res, if_pos hq] at hres
  cases hres
  simp only [pm_step] at hs
  cases hs

  refine lv_bipush (v := Int32.ofInt v) hx hb hdec hq ?_
  refine kk H locs ls ad ca (fun _ _ => rfl) (fun _ _ => rfl) ⟨hI, hl, pm_c1 (pm_wv_int _ _) hst, hL, hc0, hs0⟩
theorem ps_sipush {v : Int} (hf : pm_fx p R s m args meth c k) (hX : pm_X D A s c0 s0 H locs ls ad ca L st M S) (hLs : L.length = pm_L k) (hdec : decode (pm_B k) pc = .ok ((.sipush v), n)) (hlen : pm_len (.sipush v) = 0 ∨ pm_len (.sipush v) = n) (hres : pm_res (pm_O k) pc (.sipush v) = some i) (hs : pm_step i n pc L st M S = some (pc', L', st', M', S'))
    (kk : ∀ (H' : Heap) (locs' : List Loc) (ls' : Array Slot) (ad' : Nat → Nat) (ca' : Nat → ClassId), pm_ag M.1 ad ad' → pm_ag M.1 ca ca' → pm_X D A s c0 s0 H' locs' ls' ad' ca' L' st' M' S' → W p l e R s m args below meth c H' locs' (M'.2.1 - c0) (M'.2.2 - s0) Q (F0 m pc' ls' (st'.map (pm_v ad')))) : W p l e R s m args below meth c H locs (M.2.1 - c0) (M.2.2 - s0) Q (F0 m pc ls (st.map (pm_v ad))) := by
  obtain ⟨hx, hb, hml, hown, hts, hin, hRf, hRl⟩ := hf
  obtain ⟨hI, hl, hst, hL, hc0, hs0⟩ := id hX
  have hlen : n = 3 := by
    rcases hlen with h | h
    · exact absurd h (by intro q; cases q)
    · exact h.symm
  subst hlen
  have hq : (Int16.ofInt v).toInt32 = Int32.ofInt v := by
    by_cases h : (Int16.ofInt v).toInt32 = Int32.ofInt v
    · exact h
    · simp [pm_res, h] at hres
  simp only [pm_res, if_pos hq] at hres
  cases hres
  simp only [pm_step] at hs
  cases hs

  refine lv_sipush (v := Int32.ofInt v) hx hb hdec hq ?_
  refine kk H locs ls ad ca (fun _ _ => rfl) (fun _ _ => rfl) ⟨hI, hl, pm_c1 (pm_wv_int _ _) hst, hL, hc0, hs0⟩
theorem ps_lconst {v : Fin 2} (hf : pm_fx p R s m args meth c k) (hX : pm_X D A s c0 s0 H locs ls ad ca L st M S) (hLs : L.length = pm_L k) (hdec : decode (pm_B k) pc = .ok ((.lconst v), n)) (hlen : pm_len (.lconst v) = 0 ∨ pm_len (.lconst v) = n) (hres : pm_res (pm_O k) pc (.lconst v) = some i) (hs : pm_step i n pc L st M S = some (pc', L', st', M', S'))
    (kk : ∀ (H' : Heap) (locs' : List Loc) (ls' : Array Slot) (ad' : Nat → Nat) (ca' : Nat → ClassId), pm_ag M.1 ad ad' → pm_ag M.1 ca ca' → pm_X D A s c0 s0 H' locs' ls' ad' ca' L' st' M' S' → W p l e R s m args below meth c H' locs' (M'.2.1 - c0) (M'.2.2 - s0) Q (F0 m pc' ls' (st'.map (pm_v ad')))) : W p l e R s m args below meth c H locs (M.2.1 - c0) (M.2.2 - s0) Q (F0 m pc ls (st.map (pm_v ad))) := by
  obtain ⟨hx, hb, hml, hown, hts, hin, hRf, hRl⟩ := hf
  obtain ⟨hI, hl, hst, hL, hc0, hs0⟩ := id hX
  have hlen : n = 1 := by
    rcases hlen with h | h
    · exact absurd h (by intro q; cases q)
    · exact h.symm
  subst hlen
  cases hres
  simp only [pm_step] at hs
  cases hs

  refine lv_lconst (v := Int64.ofNat v) hx hb hdec rfl ?_
  refine kk H locs ls ad ca (fun _ _ => rfl) (fun _ _ => rfl) ⟨hI, hl, pm_c1 (pm_wv_long _ _) hst, hL, hc0, hs0⟩
theorem ps_iload {j : Nat} (hf : pm_fx p R s m args meth c k) (hX : pm_X D A s c0 s0 H locs ls ad ca L st M S) (hLs : L.length = pm_L k) (hdec : decode (pm_B k) pc = .ok ((.iload j), n)) (hlen : pm_len (.iload j) = 0 ∨ pm_len (.iload j) = n) (hres : pm_res (pm_O k) pc (.iload j) = some i) (hs : pm_step i n pc L st M S = some (pc', L', st', M', S'))
    (kk : ∀ (H' : Heap) (locs' : List Loc) (ls' : Array Slot) (ad' : Nat → Nat) (ca' : Nat → ClassId), pm_ag M.1 ad ad' → pm_ag M.1 ca ca' → pm_X D A s c0 s0 H' locs' ls' ad' ca' L' st' M' S' → W p l e R s m args below meth c H' locs' (M'.2.1 - c0) (M'.2.2 - s0) Q (F0 m pc' ls' (st'.map (pm_v ad')))) : W p l e R s m args below meth c H locs (M.2.1 - c0) (M.2.2 - s0) Q (F0 m pc ls (st.map (pm_v ad))) := by
  obtain ⟨hx, hb, hml, hown, hts, hin, hRf, hRl⟩ := hf
  obtain ⟨hI, hl, hst, hL, hc0, hs0⟩ := id hX
  have hlen : n = 2 := by
    rcases hlen with h | h
    · exact absurd h (by intro q; cases q)
    · exact h.symm
  subst hlen
  cases hres
  simp only [pm_step] at hs
  split at hs

  · rename_i v hv
    cases hs
    refine lv_iload hx hb hdec (hl.2.2 _ _ hv (fun n e => by cases e)) ?_
    refine kk H locs ls ad ca (fun _ _ => rfl) (fun _ _ => rfl) ⟨hI, hl, pm_c1 (pm_wv_int _ _) hst, hL, hc0, hs0⟩
  · cases hs
theorem ps_iload_n {j : Fin 4} (hf : pm_fx p R s m args meth c k) (hX : pm_X D A s c0 s0 H locs ls ad ca L st M S) (hLs : L.length = pm_L k) (hdec : decode (pm_B k) pc = .ok ((.iload_n j), n)) (hlen : pm_len (.iload_n j) = 0 ∨ pm_len (.iload_n j) = n) (hres : pm_res (pm_O k) pc (.iload_n j) = some i) (hs : pm_step i n pc L st M S = some (pc', L', st', M', S'))
    (kk : ∀ (H' : Heap) (locs' : List Loc) (ls' : Array Slot) (ad' : Nat → Nat) (ca' : Nat → ClassId), pm_ag M.1 ad ad' → pm_ag M.1 ca ca' → pm_X D A s c0 s0 H' locs' ls' ad' ca' L' st' M' S' → W p l e R s m args below meth c H' locs' (M'.2.1 - c0) (M'.2.2 - s0) Q (F0 m pc' ls' (st'.map (pm_v ad')))) : W p l e R s m args below meth c H locs (M.2.1 - c0) (M.2.2 - s0) Q (F0 m pc ls (st.map (pm_v ad))) := by
  obtain ⟨hx, hb, hml, hown, hts, hin, hRf, hRl⟩ := hf
  obtain ⟨hI, hl, hst, hL, hc0, hs0⟩ := id hX
  have hlen : n = 1 := by
    rcases hlen with h | h
    · exact absurd h (by intro q; cases q)
    · exact h.symm
  subst hlen
  cases hres
  simp only [pm_step] at hs
  split at hs

  · rename_i v hv
    cases hs
    refine lv_iload_n hx hb hdec rfl (hl.2.2 _ _ hv (fun n e => by cases e)) ?_
    refine kk H locs ls ad ca (fun _ _ => rfl) (fun _ _ => rfl) ⟨hI, hl, pm_c1 (pm_wv_int _ _) hst, hL, hc0, hs0⟩
  · cases hs
theorem ps_aload {j : Nat} (hf : pm_fx p R s m args meth c k) (hX : pm_X D A s c0 s0 H locs ls ad ca L st M S) (hLs : L.length = pm_L k) (hdec : decode (pm_B k) pc = .ok ((.aload j), n)) (hlen : pm_len (.aload j) = 0 ∨ pm_len (.aload j) = n) (hres : pm_res (pm_O k) pc (.aload j) = some i) (hs : pm_step i n pc L st M S = some (pc', L', st', M', S'))
    (kk : ∀ (H' : Heap) (locs' : List Loc) (ls' : Array Slot) (ad' : Nat → Nat) (ca' : Nat → ClassId), pm_ag M.1 ad ad' → pm_ag M.1 ca ca' → pm_X D A s c0 s0 H' locs' ls' ad' ca' L' st' M' S' → W p l e R s m args below meth c H' locs' (M'.2.1 - c0) (M'.2.2 - s0) Q (F0 m pc' ls' (st'.map (pm_v ad')))) : W p l e R s m args below meth c H locs (M.2.1 - c0) (M.2.2 - s0) Q (F0 m pc ls (st.map (pm_v ad))) := by
  obtain ⟨hx, hb, hml, hown, hts, hin, hRf, hRl⟩ := hf
  obtain ⟨hI, hl, hst, hL, hc0, hs0⟩ := id hX
  have hlen : n = 2 := by
    rcases hlen with h | h
    · exact absurd h (by intro q; cases q)
    · exact h.symm
  subst hlen
  cases hres
  simp only [pm_step] at hs
  split at hs

  · rename_i v hv
    cases hs
    refine lv_aload hx hb hdec (hl.2.2 _ _ hv (fun n e => by cases e)) ?_
    refine kk H locs ls ad ca (fun _ _ => rfl) (fun _ _ => rfl) ⟨hI, hl, pm_c1 (hL _ (List.mem_of_getElem? hv)) hst, hL, hc0, hs0⟩
  · cases hs
theorem ps_aload_n {j : Fin 4} (hf : pm_fx p R s m args meth c k) (hX : pm_X D A s c0 s0 H locs ls ad ca L st M S) (hLs : L.length = pm_L k) (hdec : decode (pm_B k) pc = .ok ((.aload_n j), n)) (hlen : pm_len (.aload_n j) = 0 ∨ pm_len (.aload_n j) = n) (hres : pm_res (pm_O k) pc (.aload_n j) = some i) (hs : pm_step i n pc L st M S = some (pc', L', st', M', S'))
    (kk : ∀ (H' : Heap) (locs' : List Loc) (ls' : Array Slot) (ad' : Nat → Nat) (ca' : Nat → ClassId), pm_ag M.1 ad ad' → pm_ag M.1 ca ca' → pm_X D A s c0 s0 H' locs' ls' ad' ca' L' st' M' S' → W p l e R s m args below meth c H' locs' (M'.2.1 - c0) (M'.2.2 - s0) Q (F0 m pc' ls' (st'.map (pm_v ad')))) : W p l e R s m args below meth c H locs (M.2.1 - c0) (M.2.2 - s0) Q (F0 m pc ls (st.map (pm_v ad))) := by
  obtain ⟨hx, hb, hml, hown, hts, hin, hRf, hRl⟩ := hf
  obtain ⟨hI, hl, hst, hL, hc0, hs0⟩ := id hX
  have hlen : n = 1 := by
    rcases hlen with h | h
    · exact absurd h (by intro q; cases q)
    · exact h.symm
  subst hlen
  cases hres
  simp only [pm_step] at hs
  split at hs

  · rename_i v hv
    cases hs
    refine lv_aload_n hx hb hdec rfl (hl.2.2 _ _ hv (fun n e => by cases e)) ?_
    refine kk H locs ls ad ca (fun _ _ => rfl) (fun _ _ => rfl) ⟨hI, hl, pm_c1 (hL _ (List.mem_of_getElem? hv)) hst, hL, hc0, hs0⟩
  · cases hs
theorem ps_lload_n {j : Fin 4} (hf : pm_fx p R s m args meth c k) (hX : pm_X D A s c0 s0 H locs ls ad ca L st M S) (hLs : L.length = pm_L k) (hdec : decode (pm_B k) pc = .ok ((.lload_n j), n)) (hlen : pm_len (.lload_n j) = 0 ∨ pm_len (.lload_n j) = n) (hres : pm_res (pm_O k) pc (.lload_n j) = some i) (hs : pm_step i n pc L st M S = some (pc', L', st', M', S'))
    (kk : ∀ (H' : Heap) (locs' : List Loc) (ls' : Array Slot) (ad' : Nat → Nat) (ca' : Nat → ClassId), pm_ag M.1 ad ad' → pm_ag M.1 ca ca' → pm_X D A s c0 s0 H' locs' ls' ad' ca' L' st' M' S' → W p l e R s m args below meth c H' locs' (M'.2.1 - c0) (M'.2.2 - s0) Q (F0 m pc' ls' (st'.map (pm_v ad')))) : W p l e R s m args below meth c H locs (M.2.1 - c0) (M.2.2 - s0) Q (F0 m pc ls (st.map (pm_v ad))) := by
  obtain ⟨hx, hb, hml, hown, hts, hin, hRf, hRl⟩ := hf
  obtain ⟨hI, hl, hst, hL, hc0, hs0⟩ := id hX
  have hlen : n = 1 := by
    rcases hlen with h | h
    · exact absurd h (by intro q; cases q)
    · exact h.symm
  subst hlen
  cases hres
  simp only [pm_step] at hs
  split at hs

  · rename_i v hv
    cases hs
    refine lv_lload_n hx hb hdec rfl (hl.2.2 _ _ hv (fun n e => by cases e)) ?_
    refine kk H locs ls ad ca (fun _ _ => rfl) (fun _ _ => rfl) ⟨hI, hl, pm_c1 (pm_wv_long _ _) hst, hL, hc0, hs0⟩
  · cases hs
theorem ps_istore {j : Nat} (hf : pm_fx p R s m args meth c k) (hX : pm_X D A s c0 s0 H locs ls ad ca L st M S) (hLs : L.length = pm_L k) (hdec : decode (pm_B k) pc = .ok ((.istore j), n)) (hlen : pm_len (.istore j) = 0 ∨ pm_len (.istore j) = n) (hres : pm_res (pm_O k) pc (.istore j) = some i) (hs : pm_step i n pc L st M S = some (pc', L', st', M', S'))
    (kk : ∀ (H' : Heap) (locs' : List Loc) (ls' : Array Slot) (ad' : Nat → Nat) (ca' : Nat → ClassId), pm_ag M.1 ad ad' → pm_ag M.1 ca ca' → pm_X D A s c0 s0 H' locs' ls' ad' ca' L' st' M' S' → W p l e R s m args below meth c H' locs' (M'.2.1 - c0) (M'.2.2 - s0) Q (F0 m pc' ls' (st'.map (pm_v ad')))) : W p l e R s m args below meth c H locs (M.2.1 - c0) (M.2.2 - s0) Q (F0 m pc ls (st.map (pm_v ad))) := by
  obtain ⟨hx, hb, hml, hown, hts, hin, hRf, hRl⟩ := hf
  obtain ⟨hI, hl, hst, hL, hc0, hs0⟩ := id hX
  have hlen : n = 2 := by
    rcases hlen with h | h
    · exact absurd h (by intro q; cases q)
    · exact h.symm
  subst hlen
  cases hres
  simp only [pm_step] at hs
  split at hs

  · rename_i v r
    split at hs
    · rename_i hj
      cases hs
      refine lv_istore (lv' := _) hx hb hdec hl.has hj rfl (fun ls' hl' => ?_)
      refine kk H locs ls' ad ca (fun _ _ => rfl) (fun _ _ => rfl) ⟨hI, pm_lr.st1 (v := .int v) hj hl', pm_t1 hst, pm_st1_wv hL (pm_h1 hst), hc0, hs0⟩
    · cases hs
  · cases hs
theorem ps_istore_n {j : Fin 4} (hf : pm_fx p R s m args meth c k) (hX : pm_X D A s c0 s0 H locs ls ad ca L st M S) (hLs : L.length = pm_L k) (hdec : decode (pm_B k) pc = .ok ((.istore_n j), n)) (hlen : pm_len (.istore_n j) = 0 ∨ pm_len (.istore_n j) = n) (hres : pm_res (pm_O k) pc (.istore_n j) = some i) (hs : pm_step i n pc L st M S = some (pc', L', st', M', S'))
    (kk : ∀ (H' : Heap) (locs' : List Loc) (ls' : Array Slot) (ad' : Nat → Nat) (ca' : Nat → ClassId), pm_ag M.1 ad ad' → pm_ag M.1 ca ca' → pm_X D A s c0 s0 H' locs' ls' ad' ca' L' st' M' S' → W p l e R s m args below meth c H' locs' (M'.2.1 - c0) (M'.2.2 - s0) Q (F0 m pc' ls' (st'.map (pm_v ad')))) : W p l e R s m args below meth c H locs (M.2.1 - c0) (M.2.2 - s0) Q (F0 m pc ls (st.map (pm_v ad))) := by
  obtain ⟨hx, hb, hml, hown, hts, hin, hRf, hRl⟩ := hf
  obtain ⟨hI, hl, hst, hL, hc0, hs0⟩ := id hX
  have hlen : n = 1 := by
    rcases hlen with h | h
    · exact absurd h (by intro q; cases q)
    · exact h.symm
  subst hlen
  cases hres
  simp only [pm_step] at hs
  split at hs

  · rename_i v r
    split at hs
    · rename_i hj
      cases hs
      refine lv_istore_n (lv' := _) hx hb hdec rfl hl.has hj rfl (fun ls' hl' => ?_)
      refine kk H locs ls' ad ca (fun _ _ => rfl) (fun _ _ => rfl) ⟨hI, pm_lr.st1 (v := .int v) hj hl', pm_t1 hst, pm_st1_wv hL (pm_h1 hst), hc0, hs0⟩
    · cases hs
  · cases hs
theorem ps_astore {j : Nat} (hf : pm_fx p R s m args meth c k) (hX : pm_X D A s c0 s0 H locs ls ad ca L st M S) (hLs : L.length = pm_L k) (hdec : decode (pm_B k) pc = .ok ((.astore j), n)) (hlen : pm_len (.astore j) = 0 ∨ pm_len (.astore j) = n) (hres : pm_res (pm_O k) pc (.astore j) = some i) (hs : pm_step i n pc L st M S = some (pc', L', st', M', S'))
    (kk : ∀ (H' : Heap) (locs' : List Loc) (ls' : Array Slot) (ad' : Nat → Nat) (ca' : Nat → ClassId), pm_ag M.1 ad ad' → pm_ag M.1 ca ca' → pm_X D A s c0 s0 H' locs' ls' ad' ca' L' st' M' S' → W p l e R s m args below meth c H' locs' (M'.2.1 - c0) (M'.2.2 - s0) Q (F0 m pc' ls' (st'.map (pm_v ad')))) : W p l e R s m args below meth c H locs (M.2.1 - c0) (M.2.2 - s0) Q (F0 m pc ls (st.map (pm_v ad))) := by
  obtain ⟨hx, hb, hml, hown, hts, hin, hRf, hRl⟩ := hf
  obtain ⟨hI, hl, hst, hL, hc0, hs0⟩ := id hX
  have hlen : n = 2 := by
    rcases hlen with h | h
    · exact absurd h (by intro q; cases q)
    · exact h.symm
  subst hlen
  cases hres
  simp only [pm_step] at hs
  split at hs

  · rename_i v r
    split at hs
    · rename_i hj
      cases hs
      refine lv_astore (lv' := _) hx hb hdec hl.has hj rfl (fun ls' hl' => ?_)
      refine kk H locs ls' ad ca (fun _ _ => rfl) (fun _ _ => rfl) ⟨hI, pm_lr.st1 (v := .ref v) hj hl', pm_t1 hst, pm_st1_wv hL (pm_h1 hst), hc0, hs0⟩
    · cases hs
  · cases hs
theorem ps_astore_n {j : Fin 4} (hf : pm_fx p R s m args meth c k) (hX : pm_X D A s c0 s0 H locs ls ad ca L st M S) (hLs : L.length = pm_L k) (hdec : decode (pm_B k) pc = .ok ((.astore_n j), n)) (hlen : pm_len (.astore_n j) = 0 ∨ pm_len (.astore_n j) = n) (hres : pm_res (pm_O k) pc (.astore_n j) = some i) (hs : pm_step i n pc L st M S = some (pc', L', st', M', S'))
    (kk : ∀ (H' : Heap) (locs' : List Loc) (ls' : Array Slot) (ad' : Nat → Nat) (ca' : Nat → ClassId), pm_ag M.1 ad ad' → pm_ag M.1 ca ca' → pm_X D A s c0 s0 H' locs' ls' ad' ca' L' st' M' S' → W p l e R s m args below meth c H' locs' (M'.2.1 - c0) (M'.2.2 - s0) Q (F0 m pc' ls' (st'.map (pm_v ad')))) : W p l e R s m args below meth c H locs (M.2.1 - c0) (M.2.2 - s0) Q (F0 m pc ls (st.map (pm_v ad))) := by
  obtain ⟨hx, hb, hml, hown, hts, hin, hRf, hRl⟩ := hf
  obtain ⟨hI, hl, hst, hL, hc0, hs0⟩ := id hX
  have hlen : n = 1 := by
    rcases hlen with h | h
    · exact absurd h (by intro q; cases q)
    · exact h.symm
  subst hlen
  cases hres
  simp only [pm_step] at hs
  split at hs

  · rename_i v r
    split at hs
    · rename_i hj
      cases hs
      refine lv_astore_n (lv' := _) hx hb hdec rfl hl.has hj rfl (fun ls' hl' => ?_)
      refine kk H locs ls' ad ca (fun _ _ => rfl) (fun _ _ => rfl) ⟨hI, pm_lr.st1 (v := .ref v) hj hl', pm_t1 hst, pm_st1_wv hL (pm_h1 hst), hc0, hs0⟩
    · cases hs
  · cases hs
theorem ps_lstore_n {j : Fin 4} (hf : pm_fx p R s m args meth c k) (hX : pm_X D A s c0 s0 H locs ls ad ca L st M S) (hLs : L.length = pm_L k) (hdec : decode (pm_B k) pc = .ok ((.lstore_n j), n)) (hlen : pm_len (.lstore_n j) = 0 ∨ pm_len (.lstore_n j) = n) (hres : pm_res (pm_O k) pc (.lstore_n j) = some i) (hs : pm_step i n pc L st M S = some (pc', L', st', M', S'))
    (kk : ∀ (H' : Heap) (locs' : List Loc) (ls' : Array Slot) (ad' : Nat → Nat) (ca' : Nat → ClassId), pm_ag M.1 ad ad' → pm_ag M.1 ca ca' → pm_X D A s c0 s0 H' locs' ls' ad' ca' L' st' M' S' → W p l e R s m args below meth c H' locs' (M'.2.1 - c0) (M'.2.2 - s0) Q (F0 m pc' ls' (st'.map (pm_v ad')))) : W p l e R s m args below meth c H locs (M.2.1 - c0) (M.2.2 - s0) Q (F0 m pc ls (st.map (pm_v ad))) := by
  obtain ⟨hx, hb, hml, hown, hts, hin, hRf, hRl⟩ := hf
  obtain ⟨hI, hl, hst, hL, hc0, hs0⟩ := id hX
  have hlen : n = 1 := by
    rcases hlen with h | h
    · exact absurd h (by intro q; cases q)
    · exact h.symm
  subst hlen
  cases hres
  simp only [pm_step] at hs
  split at hs

  · rename_i v r
    split at hs
    · rename_i hj
      cases hs
      refine lv_lstore_n (lv' := _) hx hb hdec rfl hl.has hj rfl (fun ls' hl' => ?_)
      refine kk H locs ls' ad ca (fun _ _ => rfl) (fun _ _ => rfl) ⟨hI, pm_lr.st2 (v := .long v) hj hl', pm_t1 hst, pm_st2_wv hL (pm_h1 hst), hc0, hs0⟩
    · cases hs
  · cases hs
theorem ps_iinc {j : Nat} {d : Int} (hf : pm_fx p R s m args meth c k) (hX : pm_X D A s c0 s0 H locs ls ad ca L st M S) (hLs : L.length = pm_L k) (hdec : decode (pm_B k) pc = .ok ((.iinc j d), n)) (hlen : pm_len (.iinc j d) = 0 ∨ pm_len (.iinc j d) = n) (hres : pm_res (pm_O k) pc (.iinc j d) = some i) (hs : pm_step i n pc L st M S = some (pc', L', st', M', S'))
    (kk : ∀ (H' : Heap) (locs' : List Loc) (ls' : Array Slot) (ad' : Nat → Nat) (ca' : Nat → ClassId), pm_ag M.1 ad ad' → pm_ag M.1 ca ca' → pm_X D A s c0 s0 H' locs' ls' ad' ca' L' st' M' S' → W p l e R s m args below meth c H' locs' (M'.2.1 - c0) (M'.2.2 - s0) Q (F0 m pc' ls' (st'.map (pm_v ad')))) : W p l e R s m args below meth c H locs (M.2.1 - c0) (M.2.2 - s0) Q (F0 m pc ls (st.map (pm_v ad))) := by
  obtain ⟨hx, hb, hml, hown, hts, hin, hRf, hRl⟩ := hf
  obtain ⟨hI, hl, hst, hL, hc0, hs0⟩ := id hX
  have hlen : n = 3 := by
    rcases hlen with h | h
    · exact absurd h (by intro q; cases q)
    · exact h.symm
  subst hlen
  cases hres
  simp only [pm_step] at hs
  split at hs

  · rename_i v hv
    split at hs
    · rename_i hj
      cases hs
      obtain ⟨q, hq⟩ := List.getElem?_of_mem (pm_pr_in (ad := ad) hv (fun n e => by cases e))
      refine lv_iinc (v := v + Int32.ofInt d) (lv' := _) hx hb hdec hl.has hq rfl hj rfl (fun ls' hl' => ?_)
      refine kk H locs ls' ad ca (fun _ _ => rfl) (fun _ _ => rfl) ⟨hI, pm_lr.st1 (v := .int (v + Int32.ofInt d)) hj hl', hst, pm_st1_wv hL (pm_wv_int _ _), hc0, hs0⟩
    · cases hs
  · cases hs
theorem ps_iadd (hf : pm_fx p R s m args meth c k) (hX : pm_X D A s c0 s0 H locs ls ad ca L st M S) (hLs : L.length = pm_L k) (hdec : decode (pm_B k) pc = .ok (.iadd, n)) (hlen : pm_len .iadd = 0 ∨ pm_len .iadd = n) (hres : pm_res (pm_O k) pc .iadd = some i) (hs : pm_step i n pc L st M S = some (pc', L', st', M', S'))
    (kk : ∀ (H' : Heap) (locs' : List Loc) (ls' : Array Slot) (ad' : Nat → Nat) (ca' : Nat → ClassId), pm_ag M.1 ad ad' → pm_ag M.1 ca ca' → pm_X D A s c0 s0 H' locs' ls' ad' ca' L' st' M' S' → W p l e R s m args below meth c H' locs' (M'.2.1 - c0) (M'.2.2 - s0) Q (F0 m pc' ls' (st'.map (pm_v ad')))) : W p l e R s m args below meth c H locs (M.2.1 - c0) (M.2.2 - s0) Q (F0 m pc ls (st.map (pm_v ad))) := by
  obtain ⟨hx, hb, hml, hown, hts, hin, hRf, hRl⟩ := hf
  obtain ⟨hI, hl, hst, hL, hc0, hs0⟩ := id hX
  have hlen : n = 1 := by
    rcases hlen with h | h
    · exact absurd h (by intro q; cases q)
    · exact h.symm
  subst hlen
  cases hres
  simp only [pm_step] at hs
  split at hs

  · cases hs
    refine lv_iadd hx hb hdec ?_
    refine kk H locs ls ad ca (fun _ _ => rfl) (fun _ _ => rfl) ⟨hI, hl, pm_c1 (pm_wv_int _ _) (pm_t1 (pm_t1 hst)), hL, hc0, hs0⟩
  · cases hs
theorem ps_isub (hf : pm_fx p R s m args meth c k) (hX : pm_X D A s c0 s0 H locs ls ad ca L st M S) (hLs : L.length = pm_L k) (hdec : decode (pm_B k) pc = .ok (.isub, n)) (hlen : pm_len .isub = 0 ∨ pm_len .isub = n) (hres : pm_res (pm_O k) pc .isub = some i) (hs : pm_step i n pc L st M S = some (pc', L', st', M', S'))
    (kk : ∀ (H' : Heap) (locs' : List Loc) (ls' : Array Slot) (ad' : Nat → Nat) (ca' : Nat → ClassId), pm_ag M.1 ad ad' → pm_ag M.1 ca ca' → pm_X D A s c0 s0 H' locs' ls' ad' ca' L' st' M' S' → W p l e R s m args below meth c H' locs' (M'.2.1 - c0) (M'.2.2 - s0) Q (F0 m pc' ls' (st'.map (pm_v ad')))) : W p l e R s m args below meth c H locs (M.2.1 - c0) (M.2.2 - s0) Q (F0 m pc ls (st.map (pm_v ad))) := by
  obtain ⟨hx, hb, hml, hown, hts, hin, hRf, hRl⟩ := hf
  obtain ⟨hI, hl, hst, hL, hc0, hs0⟩ := id hX
  have hlen : n = 1 := by
    rcases hlen with h | h
    · exact absurd h (by intro q; cases q)
    · exact h.symm
  subst hlen
  cases hres
  simp only [pm_step] at hs
  split at hs

  · cases hs
    refine lv_isub hx hb hdec ?_
    refine kk H locs ls ad ca (fun _ _ => rfl) (fun _ _ => rfl) ⟨hI, hl, pm_c1 (pm_wv_int _ _) (pm_t1 (pm_t1 hst)), hL, hc0, hs0⟩
  · cases hs
theorem ps_imul (hf : pm_fx p R s m args meth c k) (hX : pm_X D A s c0 s0 H locs ls ad ca L st M S) (hLs : L.length = pm_L k) (hdec : decode (pm_B k) pc = .ok (.imul, n)) (hlen : pm_len .imul = 0 ∨ pm_len .imul = n) (hres : pm_res (pm_O k) pc .imul = some i) (hs : pm_step i n pc L st M S = some (pc', L', st', M', S'))
    (kk : ∀ (H' : Heap) (locs' : List Loc) (ls' : Array Slot) (ad' : Nat → Nat) (ca' : Nat → ClassId), pm_ag M.1 ad ad' → pm_ag M.1 ca ca' → pm_X D A s c0 s0 H' locs' ls' ad' ca' L' st' M' S' → W p l e R s m args below meth c H' locs' (M'.2.1 - c0) (M'.2.2 - s0) Q (F0 m pc' ls' (st'.map (pm_v ad')))) : W p l e R s m args below meth c H locs (M.2.1 - c0) (M.2.2 - s0) Q (F0 m pc ls (st.map (pm_v ad))) := by
  obtain ⟨hx, hb, hml, hown, hts, hin, hRf, hRl⟩ := hf
  obtain ⟨hI, hl, hst, hL, hc0, hs0⟩ := id hX
  have hlen : n = 1 := by
    rcases hlen with h | h
    · exact absurd h (by intro q; cases q)
    · exact h.symm
  subst hlen
  cases hres
  simp only [pm_step] at hs
  split at hs

  · cases hs
    refine lv_imul hx hb hdec ?_
    refine kk H locs ls ad ca (fun _ _ => rfl) (fun _ _ => rfl) ⟨hI, hl, pm_c1 (pm_wv_int _ _) (pm_t1 (pm_t1 hst)), hL, hc0, hs0⟩
  · cases hs
theorem ps_iand (hf : pm_fx p R s m args meth c k) (hX : pm_X D A s c0 s0 H locs ls ad ca L st M S) (hLs : L.length = pm_L k) (hdec : decode (pm_B k) pc = .ok (.iand, n)) (hlen : pm_len .iand = 0 ∨ pm_len .iand = n) (hres : pm_res (pm_O k) pc .iand = some i) (hs : pm_step i n pc L st M S = some (pc', L', st', M', S'))
    (kk : ∀ (H' : Heap) (locs' : List Loc) (ls' : Array Slot) (ad' : Nat → Nat) (ca' : Nat → ClassId), pm_ag M.1 ad ad' → pm_ag M.1 ca ca' → pm_X D A s c0 s0 H' locs' ls' ad' ca' L' st' M' S' → W p l e R s m args below meth c H' locs' (M'.2.1 - c0) (M'.2.2 - s0) Q (F0 m pc' ls' (st'.map (pm_v ad')))) : W p l e R s m args below meth c H locs (M.2.1 - c0) (M.2.2 - s0) Q (F0 m pc ls (st.map (pm_v ad))) := by
  obtain ⟨hx, hb, hml, hown, hts, hin, hRf, hRl⟩ := hf
  obtain ⟨hI, hl, hst, hL, hc0, hs0⟩ := id hX
  have hlen : n = 1 := by
    rcases hlen with h | h
    · exact absurd h (by intro q; cases q)
    · exact h.symm
  subst hlen
  cases hres
  simp only [pm_step] at hs
  split at hs

  · cases hs
    refine lv_iand hx hb hdec ?_
    refine kk H locs ls ad ca (fun _ _ => rfl) (fun _ _ => rfl) ⟨hI, hl, pm_c1 (pm_wv_int _ _) (pm_t1 (pm_t1 hst)), hL, hc0, hs0⟩
  · cases hs
theorem ps_ior (hf : pm_fx p R s m args meth c k) (hX : pm_X D A s c0 s0 H locs ls ad ca L st M S) (hLs : L.length = pm_L k) (hdec : decode (pm_B k) pc = .ok (.ior, n)) (hlen : pm_len .ior = 0 ∨ pm_len .ior = n) (hres : pm_res (pm_O k) pc .ior = some i) (hs : pm_step i n pc L st M S = some (pc', L', st', M', S'))
    (kk : ∀ (H' : Heap) (locs' : List Loc) (ls' : Array Slot) (ad' : Nat → Nat) (ca' : Nat → ClassId), pm_ag M.1 ad ad' → pm_ag M.1 ca ca' → pm_X D A s c0 s0 H' locs' ls' ad' ca' L' st' M' S' → W p l e R s m args below meth c H' locs' (M'.2.1 - c0) (M'.2.2 - s0) Q (F0 m pc' ls' (st'.map (pm_v ad')))) : W p l e R s m args below meth c H locs (M.2.1 - c0) (M.2.2 - s0) Q (F0 m pc ls (st.map (pm_v ad))) := by
  obtain ⟨hx, hb, hml, hown, hts, hin, hRf, hRl⟩ := hf
  obtain ⟨hI, hl, hst, hL, hc0, hs0⟩ := id hX
  have hlen : n = 1 := by
    rcases hlen with h | h
    · exact absurd h (by intro q; cases q)
    · exact h.symm
  subst hlen
  cases hres
  simp only [pm_step] at hs
  split at hs

  · cases hs
    refine lv_ior hx hb hdec ?_
    refine kk H locs ls ad ca (fun _ _ => rfl) (fun _ _ => rfl) ⟨hI, hl, pm_c1 (pm_wv_int _ _) (pm_t1 (pm_t1 hst)), hL, hc0, hs0⟩
  · cases hs
theorem ps_ishl (hf : pm_fx p R s m args meth c k) (hX : pm_X D A s c0 s0 H locs ls ad ca L st M S) (hLs : L.length = pm_L k) (hdec : decode (pm_B k) pc = .ok (.ishl, n)) (hlen : pm_len .ishl = 0 ∨ pm_len .ishl = n) (hres : pm_res (pm_O k) pc .ishl = some i) (hs : pm_step i n pc L st M S = some (pc', L', st', M', S'))
    (kk : ∀ (H' : Heap) (locs' : List Loc) (ls' : Array Slot) (ad' : Nat → Nat) (ca' : Nat → ClassId), pm_ag M.1 ad ad' → pm_ag M.1 ca ca' → pm_X D A s c0 s0 H' locs' ls' ad' ca' L' st' M' S' → W p l e R s m args below meth c H' locs' (M'.2.1 - c0) (M'.2.2 - s0) Q (F0 m pc' ls' (st'.map (pm_v ad')))) : W p l e R s m args below meth c H locs (M.2.1 - c0) (M.2.2 - s0) Q (F0 m pc ls (st.map (pm_v ad))) := by
  obtain ⟨hx, hb, hml, hown, hts, hin, hRf, hRl⟩ := hf
  obtain ⟨hI, hl, hst, hL, hc0, hs0⟩ := id hX
  have hlen : n = 1 := by
    rcases hlen with h | h
    · exact absurd h (by intro q; cases q)
    · exact h.symm
  subst hlen
  cases hres
  simp only [pm_step] at hs
  split at hs

  · cases hs
    refine lv_ishl hx hb hdec ?_
    refine kk H locs ls ad ca (fun _ _ => rfl) (fun _ _ => rfl) ⟨hI, hl, pm_c1 (pm_wv_int _ _) (pm_t1 (pm_t1 hst)), hL, hc0, hs0⟩
  · cases hs
theorem ps_ishr (hf : pm_fx p R s m args meth c k) (hX : pm_X D A s c0 s0 H locs ls ad ca L st M S) (hLs : L.length = pm_L k) (hdec : decode (pm_B k) pc = .ok (.ishr, n)) (hlen : pm_len .ishr = 0 ∨ pm_len .ishr = n) (hres : pm_res (pm_O k) pc .ishr = some i) (hs : pm_step i n pc L st M S = some (pc', L', st', M', S'))
    (kk : ∀ (H' : Heap) (locs' : List Loc) (ls' : Array Slot) (ad' : Nat → Nat) (ca' : Nat → ClassId), pm_ag M.1 ad ad' → pm_ag M.1 ca ca' → pm_X D A s c0 s0 H' locs' ls' ad' ca' L' st' M' S' → W p l e R s m args below meth c H' locs' (M'.2.1 - c0) (M'.2.2 - s0) Q (F0 m pc' ls' (st'.map (pm_v ad')))) : W p l e R s m args below meth c H locs (M.2.1 - c0) (M.2.2 - s0) Q (F0 m pc ls (st.map (pm_v ad))) := by
  obtain ⟨hx, hb, hml, hown, hts, hin, hRf, hRl⟩ := hf
  obtain ⟨hI, hl, hst, hL, hc0, hs0⟩ := id hX
  have hlen : n = 1 := by
    rcases hlen with h | h
    · exact absurd h (by intro q; cases q)
    · exact h.symm
  subst hlen
  cases hres
  simp only [pm_step] at hs
  split at hs

  · cases hs
    refine lv_ishr hx hb hdec ?_
    refine kk H locs ls ad ca (fun _ _ => rfl) (fun _ _ => rfl) ⟨hI, hl, pm_c1 (pm_wv_int _ _) (pm_t1 (pm_t1 hst)), hL, hc0, hs0⟩
  · cases hs
theorem ps_idiv (hf : pm_fx p R s m args meth c k) (hX : pm_X D A s c0 s0 H locs ls ad ca L st M S) (hLs : L.length = pm_L k) (hdec : decode (pm_B k) pc = .ok (.idiv, n)) (hlen : pm_len .idiv = 0 ∨ pm_len .idiv = n) (hres : pm_res (pm_O k) pc .idiv = some i) (hs : pm_step i n pc L st M S = some (pc', L', st', M', S'))
    (kk : ∀ (H' : Heap) (locs' : List Loc) (ls' : Array Slot) (ad' : Nat → Nat) (ca' : Nat → ClassId), pm_ag M.1 ad ad' → pm_ag M.1 ca ca' → pm_X D A s c0 s0 H' locs' ls' ad' ca' L' st' M' S' → W p l e R s m args below meth c H' locs' (M'.2.1 - c0) (M'.2.2 - s0) Q (F0 m pc' ls' (st'.map (pm_v ad')))) : W p l e R s m args below meth c H locs (M.2.1 - c0) (M.2.2 - s0) Q (F0 m pc ls (st.map (pm_v ad))) := by
  obtain ⟨hx, hb, hml, hown, hts, hin, hRf, hRl⟩ := hf
  obtain ⟨hI, hl, hst, hL, hc0, hs0⟩ := id hX
  have hlen : n = 1 := by
    rcases hlen with h | h
    · exact absurd h (by intro q; cases q)
    · exact h.symm
  subst hlen
  cases hres
  simp only [pm_step] at hs
  split at hs

  · split at hs
    · cases hs
    · rename_i hne
      cases hs
      refine lv_idiv hx hb hdec hne ?_
      refine kk H locs ls ad ca (fun _ _ => rfl) (fun _ _ => rfl) ⟨hI, hl, pm_c1 (pm_wv_int _ _) (pm_t1 (pm_t1 hst)), hL, hc0, hs0⟩
  · cases hs
theorem ps_irem (hf : pm_fx p R s m args meth c k) (hX : pm_X D A s c0 s0 H locs ls ad ca L st M S) (hLs : L.length = pm_L k) (hdec : decode (pm_B k) pc = .ok (.irem, n)) (hlen : pm_len .irem = 0 ∨ pm_len .irem = n) (hres : pm_res (pm_O k) pc .irem = some i) (hs : pm_step i n pc L st M S = some (pc', L', st', M', S'))
    (kk : ∀ (H' : Heap) (locs' : List Loc) (ls' : Array Slot) (ad' : Nat → Nat) (ca' : Nat → ClassId), pm_ag M.1 ad ad' → pm_ag M.1 ca ca' → pm_X D A s c0 s0 H' locs' ls' ad' ca' L' st' M' S' → W p l e R s m args below meth c H' locs' (M'.2.1 - c0) (M'.2.2 - s0) Q (F0 m pc' ls' (st'.map (pm_v ad')))) : W p l e R s m args below meth c H locs (M.2.1 - c0) (M.2.2 - s0) Q (F0 m pc ls (st.map (pm_v ad))) := by
  obtain ⟨hx, hb, hml, hown, hts, hin, hRf, hRl⟩ := hf
  obtain ⟨hI, hl, hst, hL, hc0, hs0⟩ := id hX
  have hlen : n = 1 := by
    rcases hlen with h | h
    · exact absurd h (by intro q; cases q)
    · exact h.symm
  subst hlen
  cases hres
  simp only [pm_step] at hs
  split at hs

  · split at hs
    · cases hs
    · rename_i hne
      cases hs
      refine lv_irem hx hb hdec hne ?_
      refine kk H locs ls ad ca (fun _ _ => rfl) (fun _ _ => rfl) ⟨hI, hl, pm_c1 (pm_wv_int _ _) (pm_t1 (pm_t1 hst)), hL, hc0, hs0⟩
  · cases hs
theorem ps_ineg (hf : pm_fx p R s m args meth c k) (hX : pm_X D A s c0 s0 H locs ls ad ca L st M S) (hLs : L.length = pm_L k) (hdec : decode (pm_B k) pc = .ok (.ineg, n)) (hlen : pm_len .ineg = 0 ∨ pm_len .ineg = n) (hres : pm_res (pm_O k) pc .ineg = some i) (hs : pm_step i n pc L st M S = some (pc', L', st', M', S'))
    (kk : ∀ (H' : Heap) (locs' : List Loc) (ls' : Array Slot) (ad' : Nat → Nat) (ca' : Nat → ClassId), pm_ag M.1 ad ad' → pm_ag M.1 ca ca' → pm_X D A s c0 s0 H' locs' ls' ad' ca' L' st' M' S' → W p l e R s m args below meth c H' locs' (M'.2.1 - c0) (M'.2.2 - s0) Q (F0 m pc' ls' (st'.map (pm_v ad')))) : W p l e R s m args below meth c H locs (M.2.1 - c0) (M.2.2 - s0) Q (F0 m pc ls (st.map (pm_v ad))) := by
  obtain ⟨hx, hb, hml, hown, hts, hin, hRf, hRl⟩ := hf
  obtain ⟨hI, hl, hst, hL, hc0, hs0⟩ := id hX
  have hlen : n = 1 := by
    rcases hlen with h | h
    · exact absurd h (by intro q; cases q)
    · exact h.symm
  subst hlen
  cases hres
  simp only [pm_step] at hs
  split at hs

  · cases hs
    refine lv_ineg hx hb hdec ?_
    refine kk H locs ls ad ca (fun _ _ => rfl) (fun _ _ => rfl) ⟨hI, hl, pm_c1 (pm_wv_int _ _) (pm_t1 hst), hL, hc0, hs0⟩
  · cases hs
theorem ps_i2l (hf : pm_fx p R s m args meth c k) (hX : pm_X D A s c0 s0 H locs ls ad ca L st M S) (hLs : L.length = pm_L k) (hdec : decode (pm_B k) pc = .ok (.i2l, n)) (hlen : pm_len .i2l = 0 ∨ pm_len .i2l = n) (hres : pm_res (pm_O k) pc .i2l = some i) (hs : pm_step i n pc L st M S = some (pc', L', st', M', S'))
    (kk : ∀ (H' : Heap) (locs' : List Loc) (ls' : Array Slot) (ad' : Nat → Nat) (ca' : Nat → ClassId), pm_ag M.1 ad ad' → pm_ag M.1 ca ca' → pm_X D A s c0 s0 H' locs' ls' ad' ca' L' st' M' S' → W p l e R s m args below meth c H' locs' (M'.2.1 - c0) (M'.2.2 - s0) Q (F0 m pc' ls' (st'.map (pm_v ad')))) : W p l e R s m args below meth c H locs (M.2.1 - c0) (M.2.2 - s0) Q (F0 m pc ls (st.map (pm_v ad))) := by
  obtain ⟨hx, hb, hml, hown, hts, hin, hRf, hRl⟩ := hf
  obtain ⟨hI, hl, hst, hL, hc0, hs0⟩ := id hX
  have hlen : n = 1 := by
    rcases hlen with h | h
    · exact absurd h (by intro q; cases q)
    · exact h.symm
  subst hlen
  cases hres
  simp only [pm_step] at hs
  split at hs

  · cases hs
    refine lv_i2l hx hb hdec rfl ?_
    refine kk H locs ls ad ca (fun _ _ => rfl) (fun _ _ => rfl) ⟨hI, hl, pm_c1 (pm_wv_long _ _) (pm_t1 hst), hL, hc0, hs0⟩
  · cases hs
theorem ps_i2b (hf : pm_fx p R s m args meth c k) (hX : pm_X D A s c0 s0 H locs ls ad ca L st M S) (hLs : L.length = pm_L k) (hdec : decode (pm_B k) pc = .ok (.i2b, n)) (hlen : pm_len .i2b = 0 ∨ pm_len .i2b = n) (hres : pm_res (pm_O k) pc .i2b = some i) (hs : pm_step i n pc L st M S = some (pc', L', st', M', S'))
    (kk : ∀ (H' : Heap) (locs' : List Loc) (ls' : Array Slot) (ad' : Nat → Nat) (ca' : Nat → ClassId), pm_ag M.1 ad ad' → pm_ag M.1 ca ca' → pm_X D A s c0 s0 H' locs' ls' ad' ca' L' st' M' S' → W p l e R s m args below meth c H' locs' (M'.2.1 - c0) (M'.2.2 - s0) Q (F0 m pc' ls' (st'.map (pm_v ad')))) : W p l e R s m args below meth c H locs (M.2.1 - c0) (M.2.2 - s0) Q (F0 m pc ls (st.map (pm_v ad))) := by
  obtain ⟨hx, hb, hml, hown, hts, hin, hRf, hRl⟩ := hf
  obtain ⟨hI, hl, hst, hL, hc0, hs0⟩ := id hX
  have hlen : n = 1 := by
    rcases hlen with h | h
    · exact absurd h (by intro q; cases q)
    · exact h.symm
  subst hlen
  cases hres
  simp only [pm_step] at hs
  split at hs

  · cases hs
    refine lv_i2b hx hb hdec rfl ?_
    refine kk H locs ls ad ca (fun _ _ => rfl) (fun _ _ => rfl) ⟨hI, hl, pm_c1 (pm_wv_int _ _) (pm_t1 hst), hL, hc0, hs0⟩
  · cases hs
theorem ps_lshl (hf : pm_fx p R s m args meth c k) (hX : pm_X D A s c0 s0 H locs ls ad ca L st M S) (hLs : L.length = pm_L k) (hdec : decode (pm_B k) pc = .ok (.lshl, n)) (hlen : pm_len .lshl = 0 ∨ pm_len .lshl = n) (hres : pm_res (pm_O k) pc .lshl = some i) (hs : pm_step i n pc L st M S = some (pc', L', st', M', S'))
    (kk : ∀ (H' : Heap) (locs' : List Loc) (ls' : Array Slot) (ad' : Nat → Nat) (ca' : Nat → ClassId), pm_ag M.1 ad ad' → pm_ag M.1 ca ca' → pm_X D A s c0 s0 H' locs' ls' ad' ca' L' st' M' S' → W p l e R s m args below meth c H' locs' (M'.2.1 - c0) (M'.2.2 - s0) Q (F0 m pc' ls' (st'.map (pm_v ad')))) : W p l e R s m args below meth c H locs (M.2.1 - c0) (M.2.2 - s0) Q (F0 m pc ls (st.map (pm_v ad))) := by
  obtain ⟨hx, hb, hml, hown, hts, hin, hRf, hRl⟩ := hf
  obtain ⟨hI, hl, hst, hL, hc0, hs0⟩ := id hX
  have hlen : n = 1 := by
    rcases hlen with h | h
    · exact absurd h (by intro q; cases q)
    · exact h.symm
  subst hlen
  cases hres
  simp only [pm_step] at hs
  split at hs

  · cases hs
    refine lv_lshl hx hb hdec rfl ?_
    refine kk H locs ls ad ca (fun _ _ => rfl) (fun _ _ => rfl) ⟨hI, hl, pm_c1 (pm_wv_long _ _) (pm_t1 (pm_t1 hst)), hL, hc0, hs0⟩
  · cases hs
theorem ps_lor (hf : pm_fx p R s m args meth c k) (hX : pm_X D A s c0 s0 H locs ls ad ca L st M S) (hLs : L.length = pm_L k) (hdec : decode (pm_B k) pc = .ok (.lor, n)) (hlen : pm_len .lor = 0 ∨ pm_len .lor = n) (hres : pm_res (pm_O k) pc .lor = some i) (hs : pm_step i n pc L st M S = some (pc', L', st', M', S'))
    (kk : ∀ (H' : Heap) (locs' : List Loc) (ls' : Array Slot) (ad' : Nat → Nat) (ca' : Nat → ClassId), pm_ag M.1 ad ad' → pm_ag M.1 ca ca' → pm_X D A s c0 s0 H' locs' ls' ad' ca' L' st' M' S' → W p l e R s m args below meth c H' locs' (M'.2.1 - c0) (M'.2.2 - s0) Q (F0 m pc' ls' (st'.map (pm_v ad')))) : W p l e R s m args below meth c H locs (M.2.1 - c0) (M.2.2 - s0) Q (F0 m pc ls (st.map (pm_v ad))) := by
  obtain ⟨hx, hb, hml, hown, hts, hin, hRf, hRl⟩ := hf
  obtain ⟨hI, hl, hst, hL, hc0, hs0⟩ := id hX
  have hlen : n = 1 := by
    rcases hlen with h | h
    · exact absurd h (by intro q; cases q)
    · exact h.symm
  subst hlen
  cases hres
  simp only [pm_step] at hs
  split at hs

  · cases hs
    refine lv_lor hx hb hdec ?_
    refine kk H locs ls ad ca (fun _ _ => rfl) (fun _ _ => rfl) ⟨hI, hl, pm_c1 (pm_wv_long _ _) (pm_t1 (pm_t1 hst)), hL, hc0, hs0⟩
  · cases hs
theorem ps_lcmp (hf : pm_fx p R s m args meth c k) (hX : pm_X D A s c0 s0 H locs ls ad ca L st M S) (hLs : L.length = pm_L k) (hdec : decode (pm_B k) pc = .ok (.lcmp, n)) (hlen : pm_len .lcmp = 0 ∨ pm_len .lcmp = n) (hres : pm_res (pm_O k) pc .lcmp = some i) (hs : pm_step i n pc L st M S = some (pc', L', st', M', S'))
    (kk : ∀ (H' : Heap) (locs' : List Loc) (ls' : Array Slot) (ad' : Nat → Nat) (ca' : Nat → ClassId), pm_ag M.1 ad ad' → pm_ag M.1 ca ca' → pm_X D A s c0 s0 H' locs' ls' ad' ca' L' st' M' S' → W p l e R s m args below meth c H' locs' (M'.2.1 - c0) (M'.2.2 - s0) Q (F0 m pc' ls' (st'.map (pm_v ad')))) : W p l e R s m args below meth c H locs (M.2.1 - c0) (M.2.2 - s0) Q (F0 m pc ls (st.map (pm_v ad))) := by
  obtain ⟨hx, hb, hml, hown, hts, hin, hRf, hRl⟩ := hf
  obtain ⟨hI, hl, hst, hL, hc0, hs0⟩ := id hX
  have hlen : n = 1 := by
    rcases hlen with h | h
    · exact absurd h (by intro q; cases q)
    · exact h.symm
  subst hlen
  cases hres
  simp only [pm_step] at hs
  split at hs

  · cases hs
    refine W.lcmp hx hb hdec ?_
    refine kk H locs ls ad ca (fun _ _ => rfl) (fun _ _ => rfl) ⟨hI, hl, pm_c1 (pm_wv_int _ _) (pm_t1 (pm_t1 hst)), hL, hc0, hs0⟩
  · cases hs
theorem ps_dup (hf : pm_fx p R s m args meth c k) (hX : pm_X D A s c0 s0 H locs ls ad ca L st M S) (hLs : L.length = pm_L k) (hdec : decode (pm_B k) pc = .ok (.dup, n)) (hlen : pm_len .dup = 0 ∨ pm_len .dup = n) (hres : pm_res (pm_O k) pc .dup = some i) (hs : pm_step i n pc L st M S = some (pc', L', st', M', S'))
    (kk : ∀ (H' : Heap) (locs' : List Loc) (ls' : Array Slot) (ad' : Nat → Nat) (ca' : Nat → ClassId), pm_ag M.1 ad ad' → pm_ag M.1 ca ca' → pm_X D A s c0 s0 H' locs' ls' ad' ca' L' st' M' S' → W p l e R s m args below meth c H' locs' (M'.2.1 - c0) (M'.2.2 - s0) Q (F0 m pc' ls' (st'.map (pm_v ad')))) : W p l e R s m args below meth c H locs (M.2.1 - c0) (M.2.2 - s0) Q (F0 m pc ls (st.map (pm_v ad))) := by
  obtain ⟨hx, hb, hml, hown, hts, hin, hRf, hRl⟩ := hf
  obtain ⟨hI, hl, hst, hL, hc0, hs0⟩ := id hX
  have hlen : n = 1 := by
    rcases hlen with h | h
    · exact absurd h (by intro q; cases q)
    · exact h.symm
  subst hlen
  cases hres
  simp only [pm_step] at hs
  split at hs

  · rename_i a r
    split at hs
    · rename_i hc
      cases hs
      refine lv_dup hx hb hdec (by rw [pm_v_cat]; exact hc) ?_
      refine kk H locs ls ad ca (fun _ _ => rfl) (fun _ _ => rfl) ⟨hI, hl, pm_c1 (pm_h1 hst) hst, hL, hc0, hs0⟩
    · cases hs
  · cases hs
theorem ps_dup2 (hf : pm_fx p R s m args meth c k) (hX : pm_X D A s c0 s0 H locs ls ad ca L st M S) (hLs : L.length = pm_L k) (hdec : decode (pm_B k) pc = .ok (.dup2, n)) (hlen : pm_len .dup2 = 0 ∨ pm_len .dup2 = n) (hres : pm_res (pm_O k) pc .dup2 = some i) (hs : pm_step i n pc L st M S = some (pc', L', st', M', S'))
    (kk : ∀ (H' : Heap) (locs' : List Loc) (ls' : Array Slot) (ad' : Nat → Nat) (ca' : Nat → ClassId), pm_ag M.1 ad ad' → pm_ag M.1 ca ca' → pm_X D A s c0 s0 H' locs' ls' ad' ca' L' st' M' S' → W p l e R s m args below meth c H' locs' (M'.2.1 - c0) (M'.2.2 - s0) Q (F0 m pc' ls' (st'.map (pm_v ad')))) : W p l e R s m args below meth c H locs (M.2.1 - c0) (M.2.2 - s0) Q (F0 m pc ls (st.map (pm_v ad))) := by
  obtain ⟨hx, hb, hml, hown, hts, hin, hRf, hRl⟩ := hf
  obtain ⟨hI, hl, hst, hL, hc0, hs0⟩ := id hX
  have hlen : n = 1 := by
    rcases hlen with h | h
    · exact absurd h (by intro q; cases q)
    · exact h.symm
  subst hlen
  cases hres
  simp only [pm_step] at hs
  split at hs

  · rename_i a b r
    split at hs
    · rename_i hc
      cases hs
      refine lv_dup2_11 hx hb hdec (by rw [pm_v_cat]; exact hc.1) (by rw [pm_v_cat]; exact hc.2) ?_
      refine kk H locs ls ad ca (fun _ _ => rfl) (fun _ _ => rfl) ⟨hI, hl, pm_c1 (pm_h1 hst) (pm_c1 (pm_h1 (pm_t1 hst)) hst), hL, hc0, hs0⟩
    · cases hs
  · cases hs
theorem ps_pop (hf : pm_fx p R s m args meth c k) (hX : pm_X D A s c0 s0 H locs ls ad ca L st M S) (hLs : L.length = pm_L k) (hdec : decode (pm_B k) pc = .ok (.pop, n)) (hlen : pm_len .pop = 0 ∨ pm_len .pop = n) (hres : pm_res (pm_O k) pc .pop = some i) (hs : pm_step i n pc L st M S = some (pc', L', st', M', S'))
    (kk : ∀ (H' : Heap) (locs' : List Loc) (ls' : Array Slot) (ad' : Nat → Nat) (ca' : Nat → ClassId), pm_ag M.1 ad ad' → pm_ag M.1 ca ca' → pm_X D A s c0 s0 H' locs' ls' ad' ca' L' st' M' S' → W p l e R s m args below meth c H' locs' (M'.2.1 - c0) (M'.2.2 - s0) Q (F0 m pc' ls' (st'.map (pm_v ad')))) : W p l e R s m args below meth c H locs (M.2.1 - c0) (M.2.2 - s0) Q (F0 m pc ls (st.map (pm_v ad))) := by
  obtain ⟨hx, hb, hml, hown, hts, hin, hRf, hRl⟩ := hf
  obtain ⟨hI, hl, hst, hL, hc0, hs0⟩ := id hX
  have hlen : n = 1 := by
    rcases hlen with h | h
    · exact absurd h (by intro q; cases q)
    · exact h.symm
  subst hlen
  cases hres
  simp only [pm_step] at hs
  split at hs

  · rename_i a r
    split at hs
    · rename_i hc
      cases hs
      refine lv_pop hx hb hdec (by rw [pm_v_cat]; exact hc) ?_
      refine kk H locs ls ad ca (fun _ _ => rfl) (fun _ _ => rfl) ⟨hI, hl, pm_t1 hst, hL, hc0, hs0⟩
    · cases hs
  · cases hs
theorem ps_goto {d : Int} (hf : pm_fx p R s m args meth c k) (hX : pm_X D A s c0 s0 H locs ls ad ca L st M S) (hLs : L.length = pm_L k) (hdec : decode (pm_B k) pc = .ok ((.goto d), n)) (hlen : pm_len (.goto d) = 0 ∨ pm_len (.goto d) = n) (hres : pm_res (pm_O k) pc (.goto d) = some i) (hs : pm_step i n pc L st M S = some (pc', L', st', M', S'))
    (kk : ∀ (H' : Heap) (locs' : List Loc) (ls' : Array Slot) (ad' : Nat → Nat) (ca' : Nat → ClassId), pm_ag M.1 ad ad' → pm_ag M.1 ca ca' → pm_X D A s c0 s0 H' locs' ls' ad' ca' L' st' M' S' → W p l e R s m args below meth c H' locs' (M'.2.1 - c0) (M'.2.2 - s0) Q (F0 m pc' ls' (st'.map (pm_v ad')))) : W p l e R s m args below meth c H locs (M.2.1 - c0) (M.2.2 - s0) Q (F0 m pc ls (st.map (pm_v ad))) := by
  obtain ⟨hx, hb, hml, hown, hts, hin, hRf, hRl⟩ := hf
  obtain ⟨hI, hl, hst, hL, hc0, hs0⟩ := id hX
  have hlen : n = 3 := by
    rcases hlen with h | h
    · exact absurd h (by intro q; cases q)
    · exact h.symm
  subst hlen
  have hq : 0 ≤ (pc : Int) + d := by
    by_cases h : 0 ≤ (pc : Int) + d
    · exact h
    · simp [pm_res, h] at hres
  simp only [pm_res, if_pos hq] at hres
  cases hres
  simp only [pm_step] at hs
  cases hs

  refine lv_goto hx hb hdec (pm_tn hq) ?_
  refine kk H locs ls ad ca (fun _ _ => rfl) (fun _ _ => rfl) ⟨hI, hl, hst, hL, hc0, hs0⟩
theorem ps_if_eq {d : Int} (hf : pm_fx p R s m args meth c k) (hX : pm_X D A s c0 s0 H locs ls ad ca L st M S) (hLs : L.length = pm_L k) (hdec : decode (pm_B k) pc = .ok ((.ifCond .eq d), n)) (hlen : pm_len (.ifCond .eq d) = 0 ∨ pm_len (.ifCond .eq d) = n) (hres : pm_res (pm_O k) pc (.ifCond .eq d) = some i) (hs : pm_step i n pc L st M S = some (pc', L', st', M', S'))
    (kk : ∀ (H' : Heap) (locs' : List Loc) (ls' : Array Slot) (ad' : Nat → Nat) (ca' : Nat → ClassId), pm_ag M.1 ad ad' → pm_ag M.1 ca ca' → pm_X D A s c0 s0 H' locs' ls' ad' ca' L' st' M' S' → W p l e R s m args below meth c H' locs' (M'.2.1 - c0) (M'.2.2 - s0) Q (F0 m pc' ls' (st'.map (pm_v ad')))) : W p l e R s m args below meth c H locs (M.2.1 - c0) (M.2.2 - s0) Q (F0 m pc ls (st.map (pm_v ad))) := by
  obtain ⟨hx, hb, hml, hown, hts, hin, hRf, hRl⟩ := hf
  obtain ⟨hI, hl, hst, hL, hc0, hs0⟩ := id hX
  have hlen : n = 3 := by
    rcases hlen with h | h
    · exact absurd h (by intro q; cases q)
    · exact h.symm
  subst hlen
  have hq : 0 ≤ (pc : Int) + d := by
    by_cases h : 0 ≤ (pc : Int) + d
    · exact h
    · simp [pm_res, h] at hres
  simp only [pm_res, if_pos hq] at hres
  cases hres
  simp only [pm_step] at hs
  split at hs

  · rename_i a r
    refine lv_if_eq hx hb hdec (pm_tn hq) (fun h => ?_) (fun h => ?_)
    · rw [if_pos (by simp [pm_cmp, h])] at hs
      cases hs
      refine kk H locs ls ad ca (fun _ _ => rfl) (fun _ _ => rfl) ⟨hI, hl, pm_t1 hst, hL, hc0, hs0⟩
    · rw [if_neg (by first | (intro q; exact h (of_decide_eq_true q)) | (simp [pm_cmp, h]))] at hs
      cases hs
      refine kk H locs ls ad ca (fun _ _ => rfl) (fun _ _ => rfl) ⟨hI, hl, pm_t1 hst, hL, hc0, hs0⟩
  · cases hs
theorem ps_icmp_eq {d : Int} (hf : pm_fx p R s m args meth c k) (hX : pm_X D A s c0 s0 H locs ls ad ca L st M S) (hLs : L.length = pm_L k) (hdec : decode (pm_B k) pc = .ok ((.if_icmp .eq d), n)) (hlen : pm_len (.if_icmp .eq d) = 0 ∨ pm_len (.if_icmp .eq d) = n) (hres : pm_res (pm_O k) pc (.if_icmp .eq d) = some i) (hs : pm_step i n pc L st M S = some (pc', L', st', M', S'))
    (kk : ∀ (H' : Heap) (locs' : List Loc) (ls' : Array Slot) (ad' : Nat → Nat) (ca' : Nat → ClassId), pm_ag M.1 ad ad' → pm_ag M.1 ca ca' → pm_X D A s c0 s0 H' locs' ls' ad' ca' L' st' M' S' → W p l e R s m args below meth c H' locs' (M'.2.1 - c0) (M'.2.2 - s0) Q (F0 m pc' ls' (st'.map (pm_v ad')))) : W p l e R s m args below meth c H locs (M.2.1 - c0) (M.2.2 - s0) Q (F0 m pc ls (st.map (pm_v ad))) := by
  obtain ⟨hx, hb, hml, hown, hts, hin, hRf, hRl⟩ := hf
  obtain ⟨hI, hl, hst, hL, hc0, hs0⟩ := id hX
  have hlen : n = 3 := by
    rcases hlen with h | h
    · exact absurd h (by intro q; cases q)
    · exact h.symm
  subst hlen
  have hq : 0 ≤ (pc : Int) + d := by
    by_cases h : 0 ≤ (pc : Int) + d
    · exact h
    · simp [pm_res, h] at hres
  simp only [pm_res, if_pos hq] at hres
  cases hres
  simp only [pm_step] at hs
  split at hs

  · rename_i b a r
    refine lv_icmp_eq hx hb hdec (pm_tn hq) (fun h => ?_) (fun h => ?_)
    · rw [if_pos (by simp [pm_cmp, h])] at hs
      cases hs
      refine kk H locs ls ad ca (fun _ _ => rfl) (fun _ _ => rfl) ⟨hI, hl, pm_t1 (pm_t1 hst), hL, hc0, hs0⟩
    · rw [if_neg (by first | (intro q; exact h (of_decide_eq_true q)) | (simp [pm_cmp, h]))] at hs
      cases hs
      refine kk H locs ls ad ca (fun _ _ => rfl) (fun _ _ => rfl) ⟨hI, hl, pm_t1 (pm_t1 hst), hL, hc0, hs0⟩
  · cases hs
theorem ps_if_ne {d : Int} (hf : pm_fx p R s m args meth c k) (hX : pm_X D A s c0 s0 H locs ls ad ca L st M S) (hLs : L.length = pm_L k) (hdec : decode (pm_B k) pc = .ok ((.ifCond .ne d), n)) (hlen : pm_len (.ifCond .ne d) = 0 ∨ pm_len (.ifCond .ne d) = n) (hres : pm_res (pm_O k) pc (.ifCond .ne d) = some i) (hs : pm_step i n pc L st M S = some (pc', L', st', M', S'))
    (kk : ∀ (H' : Heap) (locs' : List Loc) (ls' : Array Slot) (ad' : Nat → Nat) (ca' : Nat → ClassId), pm_ag M.1 ad ad' → pm_ag M.1 ca ca' → pm_X D A s c0 s0 H' locs' ls' ad' ca' L' st' M' S' → W p l e R s m args below meth c H' locs' (M'.2.1 - c0) (M'.2.2 - s0) Q (F0 m pc' ls' (st'.map (pm_v ad')))) : W p l e R s m args below meth c H locs (M.2.1 - c0) (M.2.2 - s0) Q (F0 m pc ls (st.map (pm_v ad))) := by
  obtain ⟨hx, hb, hml, hown, hts, hin, hRf, hRl⟩ := hf
  obtain ⟨hI, hl, hst, hL, hc0, hs0⟩ := id hX
  have hlen : n = 3 := by
    rcases hlen with h | h
    · exact absurd h (by intro q; cases q)
    · exact h.symm
  subst hlen
  have hq : 0 ≤ (pc : Int) + d := by
    by_cases h : 0 ≤ (pc : Int) + d
    · exact h
    · simp [pm_res, h] at hres
  simp only [pm_res, if_pos hq] at hres
  cases hres
  simp only [pm_step] at hs
  split at hs

  · rename_i a r
    refine lv_if_ne hx hb hdec (pm_tn hq) (fun h => ?_) (fun h => ?_)
    · rw [if_pos (by simp [pm_cmp, h])] at hs
      cases hs
      refine kk H locs ls ad ca (fun _ _ => rfl) (fun _ _ => rfl) ⟨hI, hl, pm_t1 hst, hL, hc0, hs0⟩
    · rw [if_neg (by first | (intro q; exact h (of_decide_eq_true q)) | (simp [pm_cmp, h]))] at hs
      cases hs
      refine kk H locs ls ad ca (fun _ _ => rfl) (fun _ _ => rfl) ⟨hI, hl, pm_t1 hst, hL, hc0, hs0⟩
  · cases hs
theorem ps_icmp_ne {d : Int} (hf : pm_fx p R s m args meth c k) (hX : pm_X D A s c0 s0 H locs ls ad ca L st M S) (hLs : L.length = pm_L k) (hdec : decode (pm_B k) pc = .ok ((.if_icmp .ne d), n)) (hlen : pm_len (.if_icmp .ne d) = 0 ∨ pm_len (.if_icmp .ne d) = n) (hres : pm_res (pm_O k) pc (.if_icmp .ne d) = some i) (hs : pm_step i n pc L st M S = some (pc', L', st', M', S'))
    (kk : ∀ (H' : Heap) (locs' : List Loc) (ls' : Array Slot) (ad' : Nat → Nat) (ca' : Nat → ClassId), pm_ag M.1 ad ad' → pm_ag M.1 ca ca' → pm_X D A s c0 s0 H' locs' ls' ad' ca' L' st' M' S' → W p l e R s m args below meth c H' locs' (M'.2.1 - c0) (M'.2.2 - s0) Q (F0 m pc' ls' (st'.map (pm_v ad')))) : W p l e R s m args below meth c H locs (M.2.1 - c0) (M.2.2 - s0) Q (F0 m pc ls (st.map (pm_v ad))) := by
  obtain ⟨hx, hb, hml, hown, hts, hin, hRf, hRl⟩ := hf
  obtain ⟨hI, hl, hst, hL, hc0, hs0⟩ := id hX
  have hlen : n = 3 := by
    rcases hlen with h | h
    · exact absurd h (by intro q; cases q)
    · exact h.symm
  subst hlen
  have hq : 0 ≤ (pc : Int) + d := by
    by_cases h : 0 ≤ (pc : Int) + d
    · exact h
    · simp [pm_res, h] at hres
  simp only [pm_res, if_pos hq] at hres
  cases hres
  simp only [pm_step] at hs
  split at hs

  · rename_i b a r
    refine lv_icmp_ne hx hb hdec (pm_tn hq) (fun h => ?_) (fun h => ?_)
    · rw [if_pos (by simp [pm_cmp, h])] at hs
      cases hs
      refine kk H locs ls ad ca (fun _ _ => rfl) (fun _ _ => rfl) ⟨hI, hl, pm_t1 (pm_t1 hst), hL, hc0, hs0⟩
    · rw [if_neg (by first | (intro q; exact h (of_decide_eq_true q)) | (simp [pm_cmp, h]))] at hs
      cases hs
      refine kk H locs ls ad ca (fun _ _ => rfl) (fun _ _ => rfl) ⟨hI, hl, pm_t1 (pm_t1 hst), hL, hc0, hs0⟩
  · cases hs
theorem ps_if_lt {d : Int} (hf : pm_fx p R s m args meth c k) (hX : pm_X D A s c0 s0 H locs ls ad ca L st M S) (hLs : L.length = pm_L k) (hdec : decode (pm_B k) pc = .ok ((.ifCond .lt d), n)) (hlen : pm_len (.ifCond .lt d) = 0 ∨ pm_len (.ifCond .lt d) = n) (hres : pm_res (pm_O k) pc (.ifCond .lt d) = some i) (hs : pm_step i n pc L st M S = some (pc', L', st', M', S'))
    (kk : ∀ (H' : Heap) (locs' : List Loc) (ls' : Array Slot) (ad' : Nat → Nat) (ca' : Nat → ClassId), pm_ag M.1 ad ad' → pm_ag M.1 ca ca' → pm_X D A s c0 s0 H' locs' ls' ad' ca' L' st' M' S' → W p l e R s m args below meth c H' locs' (M'.2.1 - c0) (M'.2.2 - s0) Q (F0 m pc' ls' (st'.map (pm_v ad')))) : W p l e R s m args below meth c H locs (M.2.1 - c0) (M.2.2 - s0) Q (F0 m pc ls (st.map (pm_v ad))) := by
  obtain ⟨hx, hb, hml, hown, hts, hin, hRf, hRl⟩ := hf
  obtain ⟨hI, hl, hst, hL, hc0, hs0⟩ := id hX
  have hlen : n = 3 := by
    rcases hlen with h | h
    · exact absurd h (by intro q; cases q)
    · exact h.symm
  subst hlen
  have hq : 0 ≤ (pc : Int) + d := by
    by_cases h : 0 ≤ (pc : Int) + d
    · exact h
    · simp [pm_res, h] at hres
  simp only [pm_res, if_pos hq] at hres
  cases hres
  simp only [pm_step] at hs
  split at hs

  · rename_i a r
    refine lv_if_lt hx hb hdec (pm_tn hq) (fun h => ?_) (fun h => ?_)
    · rw [if_pos (by simp [pm_cmp, h])] at hs
      cases hs
      refine kk H locs ls ad ca (fun _ _ => rfl) (fun _ _ => rfl) ⟨hI, hl, pm_t1 hst, hL, hc0, hs0⟩
    · rw [if_neg (by first | (intro q; exact h (of_decide_eq_true q)) | (simp [pm_cmp, h]))] at hs
      cases hs
      refine kk H locs ls ad ca (fun _ _ => rfl) (fun _ _ => rfl) ⟨hI, hl, pm_t1 hst, hL, hc0, hs0⟩
  · cases hs
theorem ps_icmp_lt {d : Int} (hf : pm_fx p R s m args meth c k) (hX : pm_X D A s c0 s0 H locs ls ad ca L st M S) (hLs : L.length = pm_L k) (hdec : decode (pm_B k) pc = .ok ((.if_icmp .lt d), n)) (hlen : pm_len (.if_icmp .lt d) = 0 ∨ pm_len (.if_icmp .lt d) = n) (hres : pm_res (pm_O k) pc (.if_icmp .lt d) = some i) (hs : pm_step i n pc L st M S = some (pc', L', st', M', S'))
    (kk : ∀ (H' : Heap) (locs' : List Loc) (ls' : Array Slot) (ad' : Nat → Nat) (ca' : Nat → ClassId), pm_ag M.1 ad ad' → pm_ag M.1 ca ca' → pm_X D A s c0 s0 H' locs' ls' ad' ca' L' st' M' S' → W p l e R s m args below meth c H' locs' (M'.2.1 - c0) (M'.2.2 - s0) Q (F0 m pc' ls' (st'.map (pm_v ad')))) : W p l e R s m args below meth c H locs (M.2.1 - c0) (M.2.2 - s0) Q (F0 m pc ls (st.map (pm_v ad))) := by
  obtain ⟨hx, hb, hml, hown, hts, hin, hRf, hRl⟩ := hf
  obtain ⟨hI, hl, hst, hL, hc0, hs0⟩ := id hX
  have hlen : n = 3 := by
    rcases hlen with h | h
    · exact absurd h (by intro q; cases q)
    · exact h.symm
  subst hlen
  have hq : 0 ≤ (pc : Int) + d := by
    by_cases h : 0 ≤ (pc : Int) + d
    · exact h
    · simp [pm_res, h] at hres
  simp only [pm_res, if_pos hq] at hres
  cases hres
  simp only [pm_step] at hs
  split at hs

  · rename_i b a r
    refine lv_icmp_lt hx hb hdec (pm_tn hq) (fun h => ?_) (fun h => ?_)
    · rw [if_pos (by simp [pm_cmp, h])] at hs
      cases hs
      refine kk H locs ls ad ca (fun _ _ => rfl) (fun _ _ => rfl) ⟨hI, hl, pm_t1 (pm_t1 hst), hL, hc0, hs0⟩
    · rw [if_neg (by first | (intro q; exact h (of_decide_eq_true q)) | (simp [pm_cmp, h]))] at hs
      cases hs
      refine kk H locs ls ad ca (fun _ _ => rfl) (fun _ _ => rfl) ⟨hI, hl, pm_t1 (pm_t1 hst), hL, hc0, hs0⟩
  · cases hs
theorem ps_if_ge {d : Int} (hf : pm_fx p R s m args meth c k) (hX : pm_X D A s c0 s0 H locs ls ad ca L st M S) (hLs : L.length = pm_L k) (hdec : decode (pm_B k) pc = .ok ((.ifCond .ge d), n)) (hlen : pm_len (.ifCond .ge d) = 0 ∨ pm_len (.ifCond .ge d) = n) (hres : pm_res (pm_O k) pc (.ifCond .ge d) = some i) (hs : pm_step i n pc L st M S = some (pc', L', st', M', S'))
    (kk : ∀ (H' : Heap) (locs' : List Loc) (ls' : Array Slot) (ad' : Nat → Nat) (ca' : Nat → ClassId), pm_ag M.1 ad ad' → pm_ag M.1 ca ca' → pm_X D A s c0 s0 H' locs' ls' ad' ca' L' st' M' S' → W p l e R s m args below meth c H' locs' (M'.2.1 - c0) (M'.2.2 - s0) Q (F0 m pc' ls' (st'.map (pm_v ad')))) : W p l e R s m args below meth c H locs (M.2.1 - c0) (M.2.2 - s0) Q (F0 m pc ls (st.map (pm_v ad))) := by
  obtain ⟨hx, hb, hml, hown, hts, hin, hRf, hRl⟩ := hf
  obtain ⟨hI, hl, hst, hL, hc0, hs0⟩ := id hX
  have hlen : n = 3 := by
    rcases hlen with h | h
    · exact absurd h (by intro q; cases q)
    · exact h.symm
  subst hlen
  have hq : 0 ≤ (pc : Int) + d := by
    by_cases h : 0 ≤ (pc : Int) + d
    · exact h
    · simp [pm_res, h] at hres
  simp only [pm_res, if_pos hq] at hres
  cases hres
  simp only [pm_step] at hs
  split at hs

  · rename_i a r
    refine lv_if_ge hx hb hdec (pm_tn hq) (fun h => ?_) (fun h => ?_)
    · rw [if_pos (by simp [pm_cmp, h])] at hs
      cases hs
      refine kk H locs ls ad ca (fun _ _ => rfl) (fun _ _ => rfl) ⟨hI, hl, pm_t1 hst, hL, hc0, hs0⟩
    · rw [if_neg (by first | (intro q; exact h (of_decide_eq_true q)) | (simp [pm_cmp, h]))] at hs
      cases hs
      refine kk H locs ls ad ca (fun _ _ => rfl) (fun _ _ => rfl) ⟨hI, hl, pm_t1 hst, hL, hc0, hs0⟩
  · cases hs
theorem ps_icmp_ge {d : Int} (hf : pm_fx p R s m args meth c k) (hX : pm_X D A s c0 s0 H locs ls ad ca L st M S) (hLs : L.length = pm_L k) (hdec : decode (pm_B k) pc = .ok ((.if_icmp .ge d), n)) (hlen : pm_len (.if_icmp .ge d) = 0 ∨ pm_len (.if_icmp .ge d) = n) (hres : pm_res (pm_O k) pc (.if_icmp .ge d) = some i) (hs : pm_step i n pc L st M S = some (pc', L', st', M', S'))
    (kk : ∀ (H' : Heap) (locs' : List Loc) (ls' : Array Slot) (ad' : Nat → Nat) (ca' : Nat → ClassId), pm_ag M.1 ad ad' → pm_ag M.1 ca ca' → pm_X D A s c0 s0 H' locs' ls' ad' ca' L' st' M' S' → W p l e R s m args below meth c H' locs' (M'.2.1 - c0) (M'.2.2 - s0) Q (F0 m pc' ls' (st'.map (pm_v ad')))) : W p l e R s m args below meth c H locs (M.2.1 - c0) (M.2.2 - s0) Q (F0 m pc ls (st.map (pm_v ad))) := by
  obtain ⟨hx, hb, hml, hown, hts, hin, hRf, hRl⟩ := hf
  obtain ⟨hI, hl, hst, hL, hc0, hs0⟩ := id hX
  have hlen : n = 3 := by
    rcases hlen with h | h
    · exact absurd h (by intro q; cases q)
    · exact h.symm
  subst hlen
  have hq : 0 ≤ (pc : Int) + d := by
    by_cases h : 0 ≤ (pc : Int) + d
    · exact h
    · simp [pm_res, h] at hres
  simp only [pm_res, if_pos hq] at hres
  cases hres
  simp only [pm_step] at hs
  split at hs

  · rename_i b a r
    refine lv_icmp_ge hx hb hdec (pm_tn hq) (fun h => ?_) (fun h => ?_)
    · rw [if_pos (by simp [pm_cmp, h])] at hs
      cases hs
      refine kk H locs ls ad ca (fun _ _ => rfl) (fun _ _ => rfl) ⟨hI, hl, pm_t1 (pm_t1 hst), hL, hc0, hs0⟩
    · rw [if_neg (by first | (intro q; exact h (of_decide_eq_true q)) | (simp [pm_cmp, h]))] at hs
      cases hs
      refine kk H locs ls ad ca (fun _ _ => rfl) (fun _ _ => rfl) ⟨hI, hl, pm_t1 (pm_t1 hst), hL, hc0, hs0⟩
  · cases hs
theorem ps_if_gt {d : Int} (hf : pm_fx p R s m args meth c k) (hX : pm_X D A s c0 s0 H locs ls ad ca L st M S) (hLs : L.length = pm_L k) (hdec : decode (pm_B k) pc = .ok ((.ifCond .gt d), n)) (hlen : pm_len (.ifCond .gt d) = 0 ∨ pm_len (.ifCond .gt d) = n) (hres : pm_res (pm_O k) pc (.ifCond .gt d) = some i) (hs : pm_step i n pc L st M S = some (pc', L', st', M', S'))
    (kk : ∀ (H' : Heap) (locs' : List Loc) (ls' : Array Slot) (ad' : Nat → Nat) (ca' : Nat → ClassId), pm_ag M.1 ad ad' → pm_ag M.1 ca ca' → pm_X D A s c0 s0 H' locs' ls' ad' ca' L' st' M' S' → W p l e R s m args below meth c H' locs' (M'.2.1 - c0) (M'.2.2 - s0) Q (F0 m pc' ls' (st'.map (pm_v ad')))) : W p l e R s m args below meth c H locs (M.2.1 - c0) (M.2.2 - s0) Q (F0 m pc ls (st.map (pm_v ad))) := by
  obtain ⟨hx, hb, hml, hown, hts, hin, hRf, hRl⟩ := hf
  obtain ⟨hI, hl, hst, hL, hc0, hs0⟩ := id hX
  have hlen : n = 3 := by
    rcases hlen with h | h
    · exact absurd h (by intro q; cases q)
    · exact h.symm
  subst hlen
  have hq : 0 ≤ (pc : Int) + d := by
    by_cases h : 0 ≤ (pc : Int) + d
    · exact h
    · simp [pm_res, h] at hres
  simp only [pm_res, if_pos hq] at hres
  cases hres
  simp only [pm_step] at hs
  split at hs

  · rename_i a r
    refine lv_if_gt hx hb hdec (pm_tn hq) (fun h => ?_) (fun h => ?_)
    · rw [if_pos (by simp [pm_cmp, h])] at hs
      cases hs
      refine kk H locs ls ad ca (fun _ _ => rfl) (fun _ _ => rfl) ⟨hI, hl, pm_t1 hst, hL, hc0, hs0⟩
    · rw [if_neg (by first | (intro q; exact h (of_decide_eq_true q)) | (simp [pm_cmp, h]))] at hs
      cases hs
      refine kk H locs ls ad ca (fun _ _ => rfl) (fun _ _ => rfl) ⟨hI, hl, pm_t1 hst, hL, hc0, hs0⟩
  · cases hs
theorem ps_icmp_gt {d : Int} (hf : pm_fx p R s m args meth c k) (hX : pm_X D A s c0 s0 H locs ls ad ca L st M S) (hLs : L.length = pm_L k) (hdec : decode (pm_B k) pc = .ok ((.if_icmp .gt d), n)) (hlen : pm_len (.if_icmp .gt d) = 0 ∨ pm_len (.if_icmp .gt d) = n) (hres : pm_res (pm_O k) pc (.if_icmp .gt d) = some i) (hs : pm_step i n pc L st M S = some (pc', L', st', M', S'))
    (kk : ∀ (H' : Heap) (locs' : List Loc) (ls' : Array Slot) (ad' : Nat → Nat) (ca' : Nat → ClassId), pm_ag M.1 ad ad' → pm_ag M.1 ca ca' → pm_X D A s c0 s0 H' locs' ls' ad' ca' L' st' M' S' → W p l e R s m args below meth c H' locs' (M'.2.1 - c0) (M'.2.2 - s0) Q (F0 m pc' ls' (st'.map (pm_v ad')))) : W p l e R s m args below meth c H locs (M.2.1 - c0) (M.2.2 - s0) Q (F0 m pc ls (st.map (pm_v ad))) := by
  obtain ⟨hx, hb, hml, hown, hts, hin, hRf, hRl⟩ := hf
  obtain ⟨hI, hl, hst, hL, hc0, hs0⟩ := id hX
  have hlen : n = 3 := by
    rcases hlen with h | h
    · exact absurd h (by intro q; cases q)
    · exact h.symm
  subst hlen
  have hq : 0 ≤ (pc : Int) + d := by
    by_cases h : 0 ≤ (pc : Int) + d
    · exact h
    · simp [pm_res, h] at hres
  simp only [pm_res, if_pos hq] at hres
  cases hres
  simp only [pm_step] at hs
  split at hs

  · rename_i b a r
    refine lv_icmp_gt hx hb hdec (pm_tn hq) (fun h => ?_) (fun h => ?_)
    · rw [if_pos (by simp [pm_cmp, h])] at hs
      cases hs
      refine kk H locs ls ad ca (fun _ _ => rfl) (fun _ _ => rfl) ⟨hI, hl, pm_t1 (pm_t1 hst), hL, hc0, hs0⟩
    · rw [if_neg (by first | (intro q; exact h (of_decide_eq_true q)) | (simp [pm_cmp, h]))] at hs
      cases hs
      refine kk H locs ls ad ca (fun _ _ => rfl) (fun _ _ => rfl) ⟨hI, hl, pm_t1 (pm_t1 hst), hL, hc0, hs0⟩
  · cases hs
theorem ps_if_le {d : Int} (hf : pm_fx p R s m args meth c k) (hX : pm_X D A s c0 s0 H locs ls ad ca L st M S) (hLs : L.length = pm_L k) (hdec : decode (pm_B k) pc = .ok ((.ifCond .le d), n)) (hlen : pm_len (.ifCond .le d) = 0 ∨ pm_len (.ifCond .le d) = n) (hres : pm_res (pm_O k) pc (.ifCond .le d) = some i) (hs : pm_step i n pc L st M S = some (pc', L', st', M', S'))
    (kk : ∀ (H' : Heap) (locs' : List Loc) (ls' : Array Slot) (ad' : Nat → Nat) (ca' : Nat → ClassId), pm_ag M.1 ad ad' → pm_ag M.1 ca ca' → pm_X D A s c0 s0 H' locs' ls' ad' ca' L' st' M' S' → W p l e R s m args below meth c H' locs' (M'.2.1 - c0) (M'.2.2 - s0) Q (F0 m pc' ls' (st'.map (pm_v ad')))) : W p l e R s m args below meth c H locs (M.2.1 - c0) (M.2.2 - s0) Q (F0 m pc ls (st.map (pm_v ad))) := by
  obtain ⟨hx, hb, hml, hown, hts, hin, hRf, hRl⟩ := hf
  obtain ⟨hI, hl, hst, hL, hc0, hs0⟩ := id hX
  have hlen : n = 3 := by
    rcases hlen with h | h
    · exact absurd h (by intro q; cases q)
    · exact h.symm
  subst hlen
  have hq : 0 ≤ (pc : Int) + d := by
    by_cases h : 0 ≤ (pc : Int) + d
    · exact h
    · simp [pm_res, h] at hres
  simp only [pm_res, if_pos hq] at hres
  cases hres
  simp only [pm_step] at hs
  split at hs

  · rename_i a r
    refine lv_if_le hx hb hdec (pm_tn hq) (fun h => ?_) (fun h => ?_)
    · rw [if_pos (by simp [pm_cmp, h])] at hs
      cases hs
      refine kk H locs ls ad ca (fun _ _ => rfl) (fun _ _ => rfl) ⟨hI, hl, pm_t1 hst, hL, hc0, hs0⟩
    · rw [if_neg (by first | (intro q; exact h (of_decide_eq_true q)) | (simp [pm_cmp, h]))] at hs
      cases hs
      refine kk H locs ls ad ca (fun _ _ => rfl) (fun _ _ => rfl) ⟨hI, hl, pm_t1 hst, hL, hc0, hs0⟩
  · cases hs
theorem ps_icmp_le {d : Int} (hf : pm_fx p R s m args meth c k) (hX : pm_X D A s c0 s0 H locs ls ad ca L st M S) (hLs : L.length = pm_L k) (hdec : decode (pm_B k) pc = .ok ((.if_icmp .le d), n)) (hlen : pm_len (.if_icmp .le d) = 0 ∨ pm_len (.if_icmp .le d) = n) (hres : pm_res (pm_O k) pc (.if_icmp .le d) = some i) (hs : pm_step i n pc L st M S = some (pc', L', st', M', S'))
    (kk : ∀ (H' : Heap) (locs' : List Loc) (ls' : Array Slot) (ad' : Nat → Nat) (ca' : Nat → ClassId), pm_ag M.1 ad ad' → pm_ag M.1 ca ca' → pm_X D A s c0 s0 H' locs' ls' ad' ca' L' st' M' S' → W p l e R s m args below meth c H' locs' (M'.2.1 - c0) (M'.2.2 - s0) Q (F0 m pc' ls' (st'.map (pm_v ad')))) : W p l e R s m args below meth c H locs (M.2.1 - c0) (M.2.2 - s0) Q (F0 m pc ls (st.map (pm_v ad))) := by
  obtain ⟨hx, hb, hml, hown, hts, hin, hRf, hRl⟩ := hf
  obtain ⟨hI, hl, hst, hL, hc0, hs0⟩ := id hX
  have hlen : n = 3 := by
    rcases hlen with h | h
    · exact absurd h (by intro q; cases q)
    · exact h.symm
  subst hlen
  have hq : 0 ≤ (pc : Int) + d := by
    by_cases h : 0 ≤ (pc : Int) + d
    · exact h
    · simp [pm_res, h] at hres
  simp only [pm_res, if_pos hq] at hres
  cases hres
  simp only [pm_step] at hs
  split at hs

  · rename_i b a r
    refine lv_icmp_le hx hb hdec (pm_tn hq) (fun h => ?_) (fun h => ?_)
    · rw [if_pos (by simp [pm_cmp, h])] at hs
      cases hs
      refine kk H locs ls ad ca (fun _ _ => rfl) (fun _ _ => rfl) ⟨hI, hl, pm_t1 (pm_t1 hst), hL, hc0, hs0⟩
    · rw [if_neg (by first | (intro q; exact h (of_decide_eq_true q)) | (simp [pm_cmp, h]))] at hs
      cases hs
      refine kk H locs ls ad ca (fun _ _ => rfl) (fun _ _ => rfl) ⟨hI, hl, pm_t1 (pm_t1 hst), hL, hc0, hs0⟩
  · cases hs
end PMS
