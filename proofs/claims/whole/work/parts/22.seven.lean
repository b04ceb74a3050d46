/-! ===== the law's call of its own constant, which catches what TermDesk.constant throws ===== -/
abbrev sv_L : List Cond := (sv_own RX9 328).filter vx_no
theorem sv_k : Cond.classLink RX9 324 sv_E ∈ pm_ws := pm_in5 195 (by rfl) rfl
theorem sv_i : Cond.initialized sv_E ∈ pm_ws := pm_in1 23 (by rfl) rfl
theorem sv_lk : Cond.classLink RL 13 sv_E ∈ pm_ws := pm_in5 186 (by rfl) rfl
theorem sv_cs : Cond.castable sv_E sv_E ∈ pm_nx := List.mem_filter.mpr ⟨by
  have h : tables_1_5[197]? = some (Cond.castable sv_E sv_E) := by rfl
  have h := List.mem_of_getElem? h
  exact List.mem_append_right _ (List.mem_append_right _ (List.mem_append_right _ (List.mem_append_right _ (List.mem_append_right _ (List.mem_append_left _ h))))), rfl⟩
abbrev sv_hh : List (Nat × Nat × Nat × Nat) := [(0, 9, 12, 13)]
theorem sv_cw : Cond.codeWith yL_constant cL_constant 4 (some .int) sv_hh ∈ pm_ws := pm_in5 185 (by rfl) rfl
theorem sv_st : Cond.static yL_constant ∈ pm_ws := pm_in5 184 (by rfl) rfl
theorem sv_ml : Cond.methodLink RL 7 yX9_constant ∈ pm_ws := pm_in5 187 (by rfl) rfl
theorem sv_d38 : decode (pm_B 142) 38 = .ok (.new 324, 3) := by decide +kernel
theorem sv_d41 : decode (pm_B 142) (38 + 3) = .ok (.dup, 1) := by decide +kernel
theorem sv_d42 : decode (pm_B 142) (38 + 4) = .ok (.ldc_w 326, 3) := by decide +kernel
theorem sv_d45 : decode (pm_B 142) (38 + 7) = .ok (.invokespecial 328, 3) := by decide +kernel
theorem sv_d48 : decode (pm_B 142) (38 + 10) = .ok (.athrow, 1) := by decide +kernel
theorem sv_c0 : decode cL_constant 0 = .ok (.aload_n 2, 1) := by decide +kernel
theorem sv_c1 : decode cL_constant 1 = .ok (.iconst 0, 1) := by decide +kernel
theorem sv_c2 : decode cL_constant 2 = .ok (.aload_n 0, 1) := by decide +kernel
theorem sv_c3 : decode cL_constant 3 = .ok (.iload_n 1, 1) := by decide +kernel
theorem sv_c4 : decode cL_constant 4 = .ok (.invokevirtual 7, 3) := by decide +kernel
theorem sv_c7 : decode cL_constant 7 = .ok (.i2l, 1) := by decide +kernel
theorem sv_c8 : decode cL_constant 8 = .ok (.lastore, 1) := by decide +kernel
theorem sv_c9 : decode cL_constant 9 = .ok (.goto 6, 3) := by decide +kernel
theorem sv_c12 : decode cL_constant 12 = .ok (.astore_n 3, 1) := by decide +kernel
theorem sv_c13 : decode cL_constant 13 = .ok (.iconst 1, 1) := by decide +kernel
theorem sv_c14 : decode cL_constant 14 = .ok (.ireturn, 1) := by decide +kernel
theorem sv_c15 : decode cL_constant 15 = .ok (.iconst 0, 1) := by decide +kernel
theorem sv_c16 : decode cL_constant 16 = .ok (.ireturn, 1) := by decide +kernel
theorem sv_g : ∀ w ∈ sv_L, goodWord w = true ∨ pm_isx w = true := by decide +kernel
set_option maxRecDepth 20000 in
theorem sv_in : ∀ w ∈ sv_L, w ∈ tables_1_5 ∨ w ∈ tables_1_6 ∨ w ∈ tables_1_8 ∨ w ∈ tables_1_1 ∨ w ∈ tables_1_2 ∨ w ∈ tables_1_7 ∨ w ∈ tables_1_3 ∨ w ∈ tables_1_4 := by decide +kernel
theorem sv_tb : ∀ w ∈ sv_L, w ∈ lw_tbl := by
  intro w hw
  have h1 : w ∈ tables_1 := by
    unfold tables_1
    simp only [List.mem_append]
    rcases sv_in w hw with h | h | h | h | h | h | h | h <;> simp [h]
  exact List.mem_append_right _ h1
theorem sv_hat {s : State} {args : Array Value} (hts : ∀ w ∈ pm_ws, w.before args s = true) (hx : ∀ w ∈ pm_nx, va_Nw w s) : ∀ w ∈ sv_L, w.before args s = true := by
  intro w hw
  rcases sv_g w hw with h | h
  · exact hts w (List.mem_filter.mpr ⟨sv_tb w hw, h⟩)
  · have hm : w ∈ pm_nx := List.mem_filter.mpr ⟨sv_tb w hw, h⟩
    exact va_Nw.use (pm_nx_ot hm) (hx w hm)
set_option maxRecDepth 20000 in
theorem sv_ot : ∀ w ∈ Cond.classLink RX9 324 sv_E :: Cond.initialized sv_E :: sv_L, vx_ot w = true := by decide +kernel
/-- TermDesk.constant's throw: new NoSuchElementException(text), thrown, not caught here. After the kit's vx_throwSW. -/
theorem sv_throw {p : Program} {l : Launch} {e : Env} {R : Room} {s : State} {m : MethodId} {args : Array Value} {below : List Frame} {meth : Method} {c : Code} {H : Heap} {locs : List Loc} {cells slots mc ms sa : Nat} {free : Addr → Prop} {ls : Array Slot} {Qc : Array Value → State → Outcome → State → Prop} {XC : String → State → State → Prop} {A : Nat → Prop} (hexec : p.tables.exec = Jvm.exec) (hb : c.code = pm_B 142) (hl : l.stackTraces = false) (hown : s.vm.findClass RX9 = some m.cls) (hts : ∀ w ∈ pm_ws, w.before args s = true) (hnx : ∀ w ∈ pm_nx, va_Nw w s) (hstr : vk_R RX9 326 "no such constant" sa s) (hU : vx_Zq Bundle.tN "UNASSIGNED_STACK" Bundle.steD A s s.heap) (hN : vx_Zq Bundle.tN "SUPPRESSED_SENTINEL" Bundle.listD A s s.heap) (hS : va_S A s.heap H locs) (hsize : ls.size = c.maxLocals) (hout : ∀ x ∈ c.exceptionTable.toList, False) (hRframes : 5 < R.frames) (hRlocals : 82 ≤ R.locals) (hRcells : cells + 1 ≤ R.cells) (hRslots : slots + 6 ≤ R.slots) (hlocks : meth.locks = false)
    (hx : ∀ t : State, s.vm.Alike t.vm → H.size ≤ t.heap.size → (∀ q : Nat, q < H.size → t.heap[q]? = H[q]?) → XC sv_E s t) (hf : ∀ z ∈ locs, free z.base) (hc : cells + 1 ≤ mc) (hs : slots + 6 ≤ ms) : W p l e R s m args below meth c H locs cells slots (vx_MQ below Qc XC args s mc ms free) (F0 m 38 ls []) := by
  intro T hT X
  have htr : e.platform.stackTraces = false := (show e.platform.stackTraces = l.stackTraces by rw [X.admits.platform]).trans hl
  have Y := vx_rebase X (R' := { frames := R.frames, locals := R.locals, cells := 1, slots := 6 }) (Nat.le_refl _) (Nat.le_refl _) hRcells hRslots
  obtain ⟨s', hA⟩ : ∃ z, z = (T.setVm s.vm).setFrames (.invoking m args :: below) := ⟨_, rfl⟩
  rw [← hA] at Y
  have hvm : s'.vm = s.vm := by rw [hA]; rfl
  have hhp : s'.heap = H := by rw [hA]; exact hT
  have hW0 : s.WarmedH s'.vm := by rw [hvm]; exact State.WarmedH.refl s
  have hat' : ∀ w ∈ (sv_own RX9 328).filter vx_no, w.before args s' = true := fun w hw => vx_ot_at hW0 hvm.symm (sv_ot w (List.mem_cons_of_mem _ (List.mem_cons_of_mem _ hw))) (sv_hat hts hnx w hw)
  have hk' : (Cond.classLink RX9 324 sv_E).before args s' = true := vx_ot_at hW0 hvm.symm (sv_ot _ List.mem_cons_self) (hts _ sv_k)
  have hini' : (Cond.initialized sv_E).before args s' = true := vx_ot_at hW0 hvm.symm (sv_ot _ (List.mem_cons_of_mem _ List.mem_cons_self)) (hts _ sv_i)
  have hU' : vx_Zq Bundle.tN "UNASSIGNED_STACK" Bundle.steD A s' s'.heap := by rw [hhp]; exact vx_Zq.moved hW0.alike (hU.kept hS.2.1)
  have hN' : vx_Zq Bundle.tN "SUPPRESSED_SENTINEL" Bundle.listD A s' s'.heap := by rw [hhp]; exact vx_Zq.moved hW0.alike (hN.kept hS.2.1)
  have h : ∀ w ∈ sv_own RX9 328, w.before args s' = true := vx_own hat' (vx_isRefq hU'.1) (vx_isRefq hN'.1) hU'.2.word hN'.2.word
  have hown' : s'.vm.findClass RX9 = some m.cls := by rw [hvm]; exact hown
  have hins : (Cond.instantiable sv_E 6).before args s' = true := h _ (by simp [sv_own])
  obtain ⟨vm₁, cX, kX, hfX, hkX, -, -, X₁, st1⟩ := Y.newCold hexec (own := RX9) (C := sv_E) (index := 324) (n := 6) hown' hk' hins hini'
    (g := F0 m 38 ls []) rfl (by rw [hb]; exact sv_d38) (Nat.le_refl _) (Nat.le_refl _)
  generalize hT1 : (T.setVm vm₁).pushCell { cls := cX, slots := kX.instanceTypes.map defaultValue, vm := .none } = T1 at X₁ st1
  have hcat : (Value.ref T.heap.size).category = 1 := rfl
  have hcellA : T1.heap[T.heap.size]? = some (freshCell cX kX) := by rw [← hT1]; exact State.heap_pushCell_size _ _
  have d3' : decode c.code (38 + 3) = .ok (.dup, 1) := by rw [hb]; exact sv_d41
  have d4' : decode c.code (38 + 4) = .ok (.ldc_w 326, 3) := by rw [hb]; exact sv_d42
  have hstr' : vk_R RX9 326 "no such constant" sa s' := vk_R.warm hW0 hstr
  obtain ⟨U, hsteps, hrun, hend, hW, hsame, ce, hce, hO⟩ := sv_ctor X₁ hexec htr (own := RX9) (ic := 328) hown' h (fun x hx => nomatch hx) hfX hkX hcellA (by rw [hhp, hT]; exact Nat.le_refl _) (msg := .ref sa) rfl
    (g := { method := m, pc := 38 + 7, locals := ls, stack := .ref sa :: .ref T.heap.size :: .ref T.heap.size :: [], locked := none }) rfl hsize rfl rfl (rest := []) rfl
    (by rw [hb]; exact sv_d45) (by rw [hb]; exact sv_d48) (fun z hz => (hout z hz).elim) hRframes hRlocals hlocks
  obtain ⟨f1, f2⟩ := vx_frame hsame
  rw [hhp] at f1 f2
  have hWs : s.WarmedH U.vm := State.WarmedH.trans hW0 hW
  have hcl : s.vm.findClass sv_E = some ce.cls := by
    have h9 := hO.1
    rw [hvm] at h9
    exact h9
  have hall : s.sameButNew ({ U with vm := s.vm } : State) locs mc ms := by
    subst hA
    obtain ⟨e1, e2⟩ := hsame
    rw [State.setFrames_setFrames] at e1
    have h2 : (T.setVm s.vm).sameButNew ({ U with vm := s.vm } : State) [] (0 + 1) (0 + 6) := ⟨e1, e2⟩
    have h3 := X.same.trans h2
    rw [List.append_nil] at h3
    exact h3.mono hc hs
  refine ⟨U, ?_, .threw T.heap.size, hrun, hend, Or.inr ⟨T.heap.size, rfl, sv_E, ce, locs, hx U hWs.alike f1 (fun q hq => f2 q hq (fun z hz => nomatch hz)), hce, hO.2, hcl, hWs, hall, hf⟩⟩
  refine st1 _ ?_
  show Steps p.tables e below (T1.setTop { method := m, pc := 38 + 3, locals := ls, stack := .ref T.heap.size :: [], locked := none }) _
  jvm_step X₁.here [X₁.here.top, hexec, d3', Value.category]
  exact X₁.ldcStringW hexec (own := RX9) (text := "no such constant") (index := 326) (a := sa) hown' hstr'.1 hstr'.2
    (g := { method := m, pc := 38 + 4, locals := ls, stack := .ref T.heap.size :: .ref T.heap.size :: [], locked := none }) rfl d4' _ hsteps
theorem sv_all : ∀ j, j < 42 → ((pm_code 142)[j]?).all (fun q => decide (q.1 ≠ .athrow ∨ j = 38)) = true := by decide +kernel
theorem sv_len : (pm_code 142).length = 42 := by decide +kernel
theorem sv_38 {j nf : Nat} (h : (pm_code 142)[j]? = some (.athrow, nf)) : j = 38 := by
  have hl : j < 42 := by
    have := (List.getElem?_eq_some_iff.mp h).1
    rwa [sv_len] at this
  have h1 := sv_all j hl
  rw [h] at h1
  simp only [Option.all_some, decide_eq_true_eq] at h1
  rcases h1 with h2 | h2
  · exact absurd rfl h2
  · exact h2
/-- the pure state behind a call, without locals -/
theorem pm_I.back {D : va_G} {A : Nat → Prop} {s : State} {H : Heap} {locs : List Loc} {ad : Nat → Nat} {ca : Nat → ClassId} {M M1 : pm_M} {S S1 : pm_S} {r1 v : Option Value} {st₀ t : State} {Lc : List Loc} {a : Array Value} (hI : pm_I D A s H locs ad ca M S) (hlow : pm_low M S M1 S1) (h0 : st₀.heap = H) (hvm : s.vm.Alike t.vm) (hL : ∀ q ∈ Lc, va_A (pm_w ad ca M.1 S) H.size q.base) (hQ : pm_Qc D ad ca M S H.size r1 M1 S1 a st₀ (.returned v) t) : ∃ (ad' : Nat → Nat) (ca' : Nat → ClassId), pm_ag M.1 ad ad' ∧ pm_ag M.1 ca ca' ∧ v = r1.map (pm_v ad') ∧ pm_I D A s t.heap (locs ++ Lc) ad' ca' M1 S1 := by
  have hfree := hI.free
  obtain ⟨ad', ca', ag1, ag2, ho, hK, hP, hD, hF, hw, hrv⟩ := hQ
  obtain ⟨g1, g2, g3, g4, g5, g6, g7, g8, g9⟩ := hI
  have hv : v = r1.map (pm_v ad') := by cases ho; rfl
  obtain ⟨hz, hkp⟩ := hF
  rw [h0] at hz hkp
  have hle := hlow.2
  refine ⟨ad', ca', ag1, ag2, hv, g1, fun b hb1 hb2 q x hx => ⟨(hK b hb1 hb2 q x hx).1, arrOfT_moved hvm.symm (hK b hb1 hb2 q x hx).2.1, (hK b hb1 hb2 q x hx).2.2.moved hvm.symm⟩, hP, hD.weaken (fun _ q _ h => hfree q.1 h), ⟨Nat.le_trans g5.1 hz, fun q h1 h2 => ?_, fun q hq => ?_⟩, g6, hw, Nat.le_trans g8 hle.1, pm_Z.go (fun z => z) (fun z => z) (Vm.Alike.refl _) (Nat.le_refl _) (fun _ _ _ => rfl) (fun _ z => z) hlow.1 (fun j hj => ag1 j (Nat.lt_of_lt_of_le hj g8)) g9⟩
  · rw [hkp q (Nat.lt_of_lt_of_le h1 g5.1) (fun z => h2 (hfree q z))]
    exact g5.2.1 q h1 h2
  · rcases List.mem_append.mp hq with h | h
    · exact g5.2.2 q h
    · exact hfree _ (hL q h)
def sv_X (D : va_G) (ad : Nat → Nat) (ca : Nat → ClassId) (M : pm_M) (S : pm_S) (sz : Nat) (r1 : Option Value) (M1 : pm_M) (S1 : pm_S) : String → State → State → Prop := fun E st t => E = sv_E ∧ r1 = some .null ∧ pm_Qc D ad ca M S sz none M1 S1 #[] st (.returned none) t
def sv_Q (D : va_G) (ad : Nat → Nat) (ca : Nat → ClassId) (M : pm_M) (S : pm_S) (sz : Nat) (r1 : Option Value) (M1 : pm_M) (S1 : pm_S) : Array Value → State → Outcome → State → Prop := fun a st o t => pm_Qc D ad ca M S sz r1 M1 S1 a st o t ∧ r1 ≠ some .null
set_option maxHeartbeats 1000000 in
theorem sv_met {l : Launch} (htr : l.stackTraces = false) {n : Nat} (hsim : pm_SIM l n) {b x y : Nat} {j : Int32} {M M1 : pm_M} {S S1 : pm_S} {r1 : Option Value} (hrun : pm_run n 142 0 (pm_ent 142 [.ref b, .int j]) [] M S = some (r1, M1, S1)) (hwf : b < M.1) (hxy : r1 = some .null → x = 1 ∧ y = 6) (D : va_G) (ad : Nat → Nat) (ca : Nat → ClassId) (sz : Nat) : vx_Met l (pm_Y 142) (Cond.code (pm_Y 142) (pm_B 142) (pm_L 142) (pm_R 142) :: pm_ws) ({ frames := 6, cells := M1.2.1 - M.2.1 + x, slots := M1.2.2 - M.2.2 + y, locals := 90 } : Room) (pm_Pc D ad ca [.ref b, .int j] M S sz) (sv_Q D ad ca M S sz r1 M1 S1) (sv_X D ad ca M S sz r1 M1 S1) (M1.2.1 - M.2.1 + x) (M1.2.2 - M.2.2 + y) (va_A (pm_w ad ca M.1 S) sz) := by
  have hmk := mk_142
  refine vx_ofW (cc := pm_B 142) (maxL := pm_L 142) (ret := pm_R 142) hmk.2.2.2.1 rfl ?_
  intro p e s m args below meth c s₁ B hml hxt hv
  obtain ⟨rfl, hsz, hI⟩ := hv
  have hts0 := atoms_spec (ws := Cond.code (pm_Y 142) (pm_B 142) (pm_L 142) (pm_R 142) :: pm_ws) B.pre
  have hts : ∀ w ∈ pm_ws, w.before _ s = true := fun w hw => hts0 w (List.mem_cons_of_mem _ hw)
  have hown : s.vm.findClass (pm_cn (pm_O 142)) = some m.cls := by
    rw [← hmk.2.2.2.2.1]
    exact findClass_of_methodNamed B.named
  have hL4 : pm_L 142 = 4 := rfl
  have hl := lv_entry ([.ref b, .int j].map (pm_v ad)) (n := pm_L 142) (by rw [hL4]; exact Nat.le_of_ble_eq_true rfl)
  rw [lg_entry_eq]
  generalize (lg_sl ([.ref b, .int j].map (pm_v ad)) ++ List.replicate (pm_L 142 - (lg_sl ([.ref b, .int j].map (pm_v ad))).length) Slot.unset).toArray = ls at hl ⊢
  have hlr : pm_lr ad ls (pm_ent 142 [.ref b, .int j]) := pm_lr_ent (q := 142) (fun v hv => by
    simp only [List.mem_cons, List.not_mem_nil, or_false] at hv
    rcases hv with rfl | rfl <;> rfl) (by rw [hL4]; exact Nat.le_of_ble_eq_true rfl) hl
  have hLw : ∀ v ∈ pm_ent 142 [.ref b, .int j], pm_wv M.1 v := fun v hv => by
    rcases List.mem_append.mp hv with h | h
    · simp only [List.mem_cons, List.not_mem_nil, or_false] at h
      rcases h with rfl | rfl
      · exact pm_wv_ref hwf
      · exact pm_wv_int _ _
    · rw [(List.mem_replicate.mp h).2]; exact pm_wv_un _
  have hLl : (pm_ent 142 [.ref b, .int j]).length = pm_L 142 := rfl
  have hlow := pm_run_low _ _ _ _ _ _ _ _ _ _ hrun hI.2.2.2.2.2.2.2.1
  have h := hsim 142 0 (pm_ent 142 [.ref b, .int j]) [] M S r1 M1 S1 hrun p e (headSpec (Cond.code (pm_Y 142) (pm_B 142) (pm_L 142) (pm_R 142) :: pm_ws) ({ frames := 6, cells := M1.2.1 - M.2.1 + x, slots := M1.2.2 - M.2.2 + y, locals := 90 } : Room)).room s m ([.ref b, .int j].map (pm_v ad)).toArray below meth c s.heap [] (vx_MQ below (sv_Q D ad ca M S sz r1 M1 S1) (sv_X D ad ca M S sz r1 M1 S1) ([.ref b, .int j].map (pm_v ad)).toArray s (M1.2.1 - M.2.1 + x) (M1.2.2 - M.2.2 + y) (va_A (pm_w ad ca M.1 S) sz)) D (va_A (pm_w ad ca M.1 S) sz) M.2.1 M.2.2 ls ad ca
    ⟨B.exec, B.bytes, hml, hown, hts, (fun h => absurd h (by decide)), (show pm_F 142 ≤ 6 by decide), (show pm_J 142 ≤ 90 by decide)⟩ ⟨hI, hlr, (fun v hv => absurd hv List.not_mem_nil), hLw, Nat.le_refl _, Nat.le_refl _⟩ hLl (Nat.le_add_right _ _) (Nat.le_add_right _ _) ?_
  · rw [Nat.sub_self, Nat.sub_self] at h
    exact h
  · intro pcf Lf stf i nf H' locs' ls' ad' ca' hcd hrow hret hrok ag1 ag2 hX hLf
    obtain ⟨⟨g1, g2, g3, g4, g5, g6, g7, g8, g9⟩, hlr', hst, -, -, -⟩ := hX
    have hfr : ∀ z ∈ locs', va_A (pm_w ad ca M.1 S) sz z.base := g5.2.2
    by_cases hi : i = .athrow
    · subst hi
      have hpc := sv_38 hcd
      subst hpc
      simp only [pm_ret] at hret
      split at hret
      · cases hret
        obtain ⟨rfl, rfl⟩ := hxy rfl
        obtain ⟨-, hnx, -, sa, hsa⟩ := g9.2.2.1
        refine sv_throw B.exec B.bytes htr hown hts hnx hsa g9.2.1.2.2.2.2.1 g9.2.1.2.2.2.2.2 g5 (by rw [hlr'.1, hLf, hml]) hxt (Nat.le_of_ble_eq_true rfl) (Nat.le_of_ble_eq_true rfl) (Nat.le_refl _) (Nat.le_refl _) B.notSynchronized (fun t ha hz hk => ?_) hfr (Nat.le_refl _) (Nat.le_refl _)
        refine ⟨rfl, rfl, ad', ca', ag1, ag2, rfl, fun a h1 h2 z w hx => ⟨(g2 a h1 h2 z w hx).1, arrOfT_moved ha (g2 a h1 h2 z w hx).2.1, (g2 a h1 h2 z w hx).2.2.moved ha⟩, g3.kept (fun k q hq => hk q.1 ((g3 k q hq).lt)), g4, ⟨Nat.le_trans g5.1 hz, fun q h1 h2 => ?_⟩, g7, fun v hv => by cases hv⟩
        rw [hk q (Nat.lt_of_lt_of_le h1 g5.1)]
        exact g5.2.1 q h1 h2
      · cases hret
    · cases i with
      | ireturn =>
        simp only [pm_ret] at hret
        split at hret
        · rename_i v
          cases hret
          have hdec : decode (pm_B 142) pcf = .ok (.ireturn, 1) := by
            simp only [pm_row] at hrow
            split at hrow
            · rename_i raw n' hd9
              simp only [Bool.and_eq_true, decide_eq_true_eq] at hrow
              obtain ⟨⟨rfl, hlen, hres⟩, -⟩ := hrow
              have := pm_res_ir hres
              subst this
              rcases hlen with h | h
              · cases h
              · rw [hd9, ← h]; rfl
            · cases hrow
          refine vx_ret ?_
          refine W.widen (k := M1.2.1 - M.2.1 + x) (n := M1.2.2 - M.2.2 + y) (Nat.le_add_right _ _) (Nat.le_add_right _ _) ?_
          exact W.zret (ty := .int) B.exec B.bytes (by rw [B.returns]; rfl) rfl (fun t ht hW => ⟨⟨ad', ca', ag1, ag2, rfl, fun a h1 h2 z w hx => ⟨(g2 a h1 h2 z w hx).1, arrOfT_moved hW.alike (g2 a h1 h2 z w hx).2.1, (g2 a h1 h2 z w hx).2.2.moved hW.alike⟩, by rw [ht]; exact g3, g4, g5.F ht, g7, fun v hv => by cases hv; exact pm_wv_int _ _⟩, by intro z; cases z⟩) hfr hdec B.notSynchronized
        · cases hret
      | return_ =>
        simp only [pm_ret] at hret
        split at hret
        · cases hret
          rcases hrok with h | h
          · exact absurd h (by decide)
          · cases h
        · cases hret
      | athrow => exact absurd rfl hi
      | _ => simp only [pm_ret] at hret; cases hret
section SVA
variable {p : Program} {l : Launch} {e : Env} {R : Room} {s : State} {m : MethodId} {args : Array Value} {below : List Frame} {meth : Method} {c : Code} {H : Heap} {locs : List Loc} {cells slots mc ms : Nat} {Q : State → Prop} {pc : Nat} {ls : Array Slot} {st0 rest : List Value} {Qa : State → Outcome → State → Prop} {XC : String → State → State → Prop} {free : Addr → Prop}
theorem sv_after (hr : vx_Run p l e R s m args below meth c H locs cells slots mc ms (F0 m pc ls st0) rest Qa XC free)
    (kk : ∀ (v : Option Value) (st₀ t : State) (Lc : List Loc), st₀.heap = H → s.vm.Alike t.vm → (∀ q ∈ Lc, free q.base) → Qa st₀ (.returned v) t → W p l e R s m args below meth c t.heap (locs ++ Lc) (cells + mc) (slots + ms) Q (F0 m (pc + 3) ls (v.toList ++ rest)))
    (kx : ∀ (q : Addr) (st₀ t : State) (Lc : List Loc) (E : String) (ce : Cell), st₀.heap = H → s.vm.Alike t.vm → (∀ z ∈ Lc, free z.base) → XC E st₀ t → t.heap[q]? = some ce → ce.vm = .none → s.vm.findClass E = some ce.cls → vx_W p l e R s m args below meth c t.heap (locs ++ Lc) (cells + mc) (slots + ms) Q (F0 m pc ls rest) q) : W p l e R s m args below meth c H locs cells slots Q (F0 m pc ls st0) := by
  intro T hT X
  rcases hr T hT X with ⟨v, st₀, t, T', Lc, h0, X', hL, e1, e2, hQ, st⟩ | ⟨q, st₀, t, T', Lc, E, ce, h0, X', hL, e1, e2, hX, hce, hcv, hcl, st⟩
  · obtain ⟨t2, a1, b1⟩ := kk v st₀ t Lc h0 (by rw [← e2]; exact X'.warmed.alike) hL hQ T' e1 X'
    exact ⟨t2, st t2 a1, b1⟩
  · obtain ⟨t2, a1, b1⟩ := kx q st₀ t Lc E ce h0 (by rw [← e2]; exact X'.warmed.alike) hL hX hce hcv hcl T' e1 X'
    exact ⟨t2, st.trans a1, b1⟩
end SVA
/-- how a run of TermDesk.constant goes on in TermDeskLaw.constant -/
def sv_case (o : Nat) (M : pm_M) (r1 : Option Value) (M1 : pm_M) (S1 : pm_S) (res : Int32) (M2 : pm_M) (S2 : pm_S) : Prop :=
  (∃ (v : Int32) (m : Nat) (f : Nat → Int64), r1 = some (.int v) ∧ M1 = M ∧ S1 o = .inl (2, m, .inr (.inl f)) ∧ 0 < m ∧ res = 0 ∧ M2 = M ∧ S2 = va_up S1 o (.inl (2, m, .inr (.inl (vp_updL f 0 v.toInt64))))) ∨ (r1 = some .null ∧ M1 = M ∧ res = 1 ∧ M2 = (M.1, M.2.1 + 1, M.2.2 + 6) ∧ S2 = S1)
set_option maxHeartbeats 1000000 in
theorem sv_law {l : Launch} (htr : l.stackTraces = false) {n : Nat} (hsim : pm_SIM l n) {b o : Nat} {j res : Int32} {M M1 M2 : pm_M} {S S1 S2 : pm_S} {r1 : Option Value} (hrun : pm_run n 142 0 (pm_ent 142 [.ref b, .int j]) [] M S = some (r1, M1, S1)) (hb9 : pm_k ≤ b ∧ b < M.1) (hSb : ∃ fs, S b = .inr (9, fs)) (ho : pm_k ≤ o ∧ o < M.1) (hc : sv_case o M r1 M1 S1 res M2 S2) (D : va_G) (ad : Nat → Nat) (ca : Nat → ClassId) (sz : Nat) : Met l yL_constant (Cond.codeWith yL_constant cL_constant 4 (some .int) sv_hh :: pm_ws) ({ frames := 7, cells := M2.2.1 - M.2.1, slots := M2.2.2 - M.2.2, locals := 113 } : Room) (pm_Pc D ad ca [.ref b, .int j, .ref o] M S sz) (pm_Qc D ad ca M S sz (some (.int res)) M2 S2) (M2.2.1 - M.2.1) (M2.2.2 - M.2.2) (va_A (pm_w ad ca M.1 S) sz) := by
  obtain ⟨x, y, hxy, hx1, hx2⟩ : ∃ x y : Nat, (r1 = some .null → x = 1 ∧ y = 6) ∧ M2.2.1 - M.2.1 = M1.2.1 - M.2.1 + x ∧ M2.2.2 - M.2.2 = M1.2.2 - M.2.2 + y := by
    rcases hc with ⟨v, mm, f, rfl, rfl, -, -, -, rfl, -⟩ | ⟨rfl, rfl, -, rfl, -⟩
    · exact ⟨0, 0, (fun h => by cases h), rfl, rfl⟩
    · refine ⟨1, 6, (fun _ => ⟨rfl, rfl⟩), ?_, ?_⟩
      · show M1.2.1 + 1 - M1.2.1 = _; omega
      · show M1.2.2 + 6 - M1.2.2 = _; omega
  refine va_MetW (cc := cL_constant) (maxL := 4) (ret := some .int) (hh := sv_hh) (by decide) rfl ?_
  intro p e s m args below meth c s₁ B hml hv
  obtain ⟨rfl, hsz, hI⟩ := hv
  have hts0 := atoms_spec (ws := Cond.codeWith yL_constant cL_constant 4 (some .int) sv_hh :: pm_ws) B.pre
  have hts : ∀ w ∈ pm_ws, w.before _ s = true := fun w hw => hts0 w (List.mem_cons_of_mem _ hw)
  have hxx := B.exec
  have hbb := B.bytes
  have hown : s.vm.findClass RL = some m.cls := findClass_of_methodNamed B.named
  have htab : c.exceptionTable.toList = tableOf sv_hh := vx_table (x := yL_constant) B (hts0 _ List.mem_cons_self)
  have hl := lv_entry ([.ref (ad b), .int j, .ref (ad o)]) (n := 4) (Nat.le_of_ble_eq_true rfl)
  show W p l e _ s m ([.ref (ad b), .int j, .ref (ad o)] : List Value).toArray below meth c s.heap [] 0 0 _ (entryFrame m ([.ref (ad b), .int j, .ref (ad o)] : List Value).toArray 4)
  rw [lg_entry_eq]
  generalize (lg_sl ([.ref (ad b), .int j, .ref (ad o)]) ++ List.replicate (4 - (lg_sl ([.ref (ad b), .int j, .ref (ad o)])).length) Slot.unset).toArray = ls at hl ⊢
  have hl : lv_has ls 4 [(0, .ref (ad b)), (1, .int j), (2, .ref (ad o))] := hl
  have hfix : CallFix p m c cL_constant 4 s ([.ref (ad b), .int j, .ref (ad o)] : List Value).toArray pm_ws RL := ⟨hxx, hbb, hml, hown, hts⟩
  have hlow := pm_run_low _ _ _ _ _ _ _ _ _ _ hrun hI.2.2.2.2.2.2.2.1
  obtain ⟨fs, hSb⟩ := hSb
  have he9 : (pm_w ad ca M.1 S)[b - pm_k]? = some (ad b, .inr (9, fs.map (pm_v ad))) := by rw [pm_w_get hb9.1 hb9.2, hSb]; rfl
  have hrecv := va_recv hI.1 hI.2.2.1 (pm_vw 9 (by decide)) he9
  have hM := sv_met htr hsim hrun hb9.2 hxy D ad ca s.heap.size
  refine lv_aload_n hxx hbb sv_c0 rfl (lv_at hl 2 rfl) ?_
  refine lv_iconst (v := 0) hxx hbb sv_c1 (by decide) ?_
  refine lv_aload_n hxx hbb sv_c2 rfl (lv_at hl 0 rfl) ?_
  refine lv_iload_n hxx hbb sv_c3 rfl (lv_at hl 1 rfl) ?_
  refine sv_after (vx_runV (C := RX9) (b := ad b) (As := [.int j]) (rest := [.int 0, .ref (ad o)]) hfix hM (cwV 1 hts (fun w hw => ?_) rfl rfl rfl (by decide +kernel) ⟨Nat.le_of_ble_eq_true rfl, Nat.le_of_ble_eq_true rfl⟩) ⟨pm_blind _ _ _ _ _ _ _, hrecv, fun U hU hW => ⟨rfl, by rw [hU], hI.call hU hW⟩⟩ rfl rfl hl.1 rfl (lv_room (Nat.le_of_ble_eq_true rfl)) sv_c4 ⟨by rw [Nat.zero_add, ← hx1]; exact Nat.le_refl _, by rw [Nat.zero_add, ← hx2]; exact Nat.le_refl _⟩) (fun v st₀ t Lc h0 hvm hLc hQ => ?_) (fun q st₀ t Lc E ce h0 hvm hLc hX hce hcv hcl => ?_)
  · unfold wsV at hw
    rcases List.mem_append.mp hw with hw | hw
    · simp only [List.mem_cons, List.not_mem_nil, or_false] at hw
      rcases hw with rfl | rfl | rfl | rfl
      · exact pm_gi sv_ml
      · exact pm_gi (mk_142.2.2.2.2.2.1 rfl).1
      · exact pm_gi (mk_142.2.2.2.2.2.1 rfl).2
      · exact pm_gi pm_ini9
    · exact pm_gk mk_142 w hw
  · obtain ⟨hQ, hnn⟩ := hQ
    obtain ⟨ad', ca', ag1, ag2, hv, hI'⟩ := hI.back hlow h0 hvm hLc hQ
    rcases hc with ⟨v9, mm, f, rfl, rfl, hSo, hm0, rfl, rfl, rfl⟩ | ⟨rfl, rfl, rfl, rfl, rfl⟩
    · have hv : v = some (.int v9) := hv
      subst hv
      have hao : ad' o = ad o := ag1 o ho.2
      have he : (pm_w ad' ca' M2.1 S1)[o - pm_k]? = some (ad o, .inl (ca' o, mm, .inr (.inl f))) := by rw [pm_w_get ho.1 ho.2, hSo, hao]; rfl
      refine lv_i2l hxx hbb sv_c7 rfl ?_
      refine va_last hxx hbb (hI'.K ho.1 ho.2 hSo) hI'.2.2.1 hI'.2.2.2.1 hI'.2.2.2.2.1 (o - pm_k) 0 he rfl (fun h => by rcases h with h | h; exact absurd h (by decide); exact absurd h (Nat.not_le.mpr hm0)) sv_c8 (fun H1 locs1 hP hD hS => ?_)
      rw [← hao] at hP hD
      have hI2 := hI'.put (e := .inl (2, mm, .inr (.inl (vp_updL f 0 v9.toInt64)))) ho.1 ho.2 (fun t x h => by cases h; exact ⟨_, hSo⟩) trivial hP hD hS
      obtain ⟨g1, g2, g3, g4, g5, g6, g7, g8, g9⟩ := hI2
      refine lv_goto (tgt := 15) hxx hbb sv_c9 (by decide) ?_
      refine lv_iconst (v := 0) hxx hbb sv_c15 (by decide) ?_
      refine W.widen (k := M2.2.1 - M2.2.1) (n := M2.2.2 - M2.2.2) (by omega) (by omega) ?_
      exact W.zret (ty := .int) hxx hbb B.returns rfl (fun t ht hW => ⟨ad', ca', ag1, ag2, rfl, fun a h1 h2 z w hx => ⟨(g2 a h1 h2 z w hx).1, arrOfT_moved hW.alike (g2 a h1 h2 z w hx).2.1, (g2 a h1 h2 z w hx).2.2.moved hW.alike⟩, by rw [ht]; exact g3, g4, g5.F ht, g7, fun v hv => by cases hv; exact pm_wv_int _ _⟩) (g5.2.2) sv_c16 B.notSynchronized
    · exact absurd rfl hnn
  · obtain ⟨rfl, hr1, hQ⟩ := hX
    rcases hc with ⟨v9, mm, f, rfl, -⟩ | ⟨rfl, rfl, rfl, rfl, rfl⟩
    · cases hr1
    · obtain ⟨ad', ca', ag1, ag2, hv, hI'⟩ := hI.back hlow h0 hvm hLc hQ
      obtain ⟨g1, g2, g3, g4, g5, g6, g7, g8, g9⟩ := hI'
      obtain ⟨rfl, rfl⟩ := hxy rfl
      refine vx_catch (own := RL) (name := sv_E) hown [] (tableOf sv_hh).head! [] (by rw [htab]; rfl) (fun z hz => absurd hz List.not_mem_nil) rfl (by decide) (hts _ sv_lk) (va_Nw.use rfl (hI.2.2.2.2.2.2.2.2.2.2.1.2.1 _ sv_cs)) hce hcv hcl ?_
      refine lv_astore_n (lv' := _) hxx hbb sv_c12 rfl hl (by decide) rfl (fun ls' hl' => ?_)
      refine lv_iconst (v := 1) hxx hbb sv_c13 (by decide) ?_
      refine W.widen (k := (M1.1, M1.2.1 + 1, M1.2.2 + 6).2.1 - M1.2.1) (n := (M1.1, M1.2.1 + 1, M1.2.2 + 6).2.2 - M1.2.2) (by rw [Nat.zero_add, hx1]; exact Nat.le_refl _) (by rw [Nat.zero_add, hx2]; exact Nat.le_refl _) ?_
      exact W.zret (ty := .int) hxx hbb B.returns rfl (fun t9 ht hW => ⟨ad', ca', ag1, ag2, rfl, fun a h1 h2 z w hx => ⟨(g2 a h1 h2 z w hx).1, arrOfT_moved hW.alike (g2 a h1 h2 z w hx).2.1, (g2 a h1 h2 z w hx).2.2.moved hW.alike⟩, by rw [ht]; exact g3, g4, g5.F ht, g7, fun v hv => by cases hv; exact pm_wv_int _ _⟩) (g5.2.2) sv_c14 B.notSynchronized
set_option maxHeartbeats 1000000 in
/-- the law's call of its own constant is a walk -/
theorem pm_h7 {l : Launch} (htr : l.stackTraces = false) (n : Nat) (hsim : pm_SIM l n) : pm_S7 l n := by
  intro k pc ni L st M S r Mf Sf hrow hcst p e R s m args below meth c H locs Q D A c0 s0 ls ad ca hf hX hLs hrc hrs hfin
  obtain ⟨hx, hb, hml, hown, hts, hin, hRf, hRl⟩ := id hf
  obtain ⟨hI, hl, hst, hL, hc0, hs0⟩ := id hX
  have hpk : pm_k ≤ M.1 := hI.2.2.2.2.2.2.2.1
  unfold pm_cst at hcst
  split at hcst
  · rename_i o j b rr
    split at hcst
    · rename_i hc
      obtain ⟨hsum, ho1, ho2, hrcv⟩ := hc
      obtain ⟨hb9, hSb⟩ : (pm_k ≤ b ∧ b < M.1) ∧ ∃ fs, S b = .inr (9, fs) := by
        unfold pm_rcv at hrcv
        rw [if_neg (by decide)] at hrcv
        simp only [Bool.and_eq_true, decide_eq_true_eq] at hrcv
        obtain ⟨h1, h2⟩ := hrcv
        split at h2
        · rename_i ci fs hS9
          have : ci = 9 := by
            have h3 : ci = pm_O pm_kC := by simpa using h2
            rw [h3]; rfl
          subst this
          exact ⟨h1, fs, hS9⟩
        · cases h2
      obtain ⟨r1, M1, S1, res, M2, S2, hrun1, hcase, hrun2⟩ : ∃ (r1 : Option Value) (M1 : pm_M) (S1 : pm_S) (res : Int32) (M2 : pm_M) (S2 : pm_S), pm_run n 142 0 (pm_ent 142 [.ref b, .int j]) [] M S = some (r1, M1, S1) ∧ sv_case o M r1 M1 S1 res M2 S2 ∧ pm_run n k (pc + 3) L (.int res :: rr) M2 S2 = some (r, Mf, Sf) := by
        split at hcst
        · rename_i v M1 S1 he
          split at hcst
          · rename_i mm f hSo
            split at hcst
            · rename_i h3
              exact ⟨_, _, _, 0, _, _, he, Or.inl ⟨v, mm, f, rfl, h3.2, hSo, h3.1, rfl, rfl, rfl⟩, by rw [← h3.2]; exact hcst⟩
            · cases hcst
          · cases hcst
        · rename_i M1 S1 he
          split at hcst
          · rename_i h3
            exact ⟨_, _, _, 1, _, _, he, Or.inr ⟨rfl, h3, rfl, rfl, rfl⟩, by rw [← h3]; exact hcst⟩
          · cases hcst
        · cases hcst
      have hlow1 := pm_run_low _ _ _ _ _ _ _ _ _ _ hrun1 hpk
      have hlow : pm_low M S M2 S2 := by
        rcases hcase with ⟨v, mm, f, -, rfl, -, -, -, rfl, rfl⟩ | ⟨-, rfl, -, rfl, rfl⟩
        · exact hlow1.tr (pm_low.put ho1)
        · exact ⟨hlow1.1, Nat.le_refl _, Nat.le_succ _, Nat.le_add_right _ _⟩
      have hlow2 := pm_run_low _ _ _ _ _ _ _ _ _ _ hrun2 (Nat.le_trans hpk hlow.2.1)
      have hle1 := hlow.2
      have hle2 := hlow2.2
      simp only [pm_row] at hrow
      split at hrow
      · rename_i raw n' hdec
        simp only [Bool.and_eq_true, decide_eq_true_eq] at hrow
        obtain ⟨⟨rfl, hlen, hres⟩, hrm⟩ := hrow
        obtain ⟨cp, hraw, hlk⟩ : ∃ cp, raw = .invokestatic cp ∧ Cond.methodLink (pm_cn (pm_O k)) cp yL_constant ∈ pm_ws := by
          cases raw with
          | invokestatic cp =>
            simp only [pm_res] at hres
            split at hres
            · rename_i q hq
              split at hres
              · obtain ⟨hm, he⟩ := pm_find hq
                have hcp : q.1 = cp := by simpa using he
                have hq1 : q.2.1 = 1007 := by
                  have := Option.some.inj hres
                  injection this
                obtain ⟨hw0, -, -, -⟩ := pm_mqs (pm_O k) q hm
                have hns := pm_mn (pm_O k) q hm (by rw [hq1]; decide)
                have h9 := hw0 hns
                rw [hq1, hcp] at h9
                exact ⟨cp, rfl, h9⟩
              · cases hres
            · cases hres
          | if_acmp cnd d => cases cnd <;> simp only [pm_res] at hres <;> first | (cases hres; done) | (split at hres <;> cases hres)
          | ldc cp => simp only [pm_res] at hres; split at hres <;> first | (cases hres; done) | (split at hres <;> cases hres)
          | new cp => simp only [pm_res] at hres; split at hres <;> first | (cases hres; done) | (split at hres <;> cases hres)
          | invokevirtual cp => simp only [pm_res] at hres; split at hres <;> first | (cases hres; done) | (split at hres <;> cases hres)
          | invokespecial cp => simp only [pm_res] at hres; split at hres <;> first | (cases hres; done) | (split at hres <;> cases hres)
          | _ => simp only [pm_res] at hres; first | (cases hres; done) | (split at hres <;> cases hres)
        subst hraw
        have hlen : n' = 3 := by
          rcases hlen with h | h
          · exact absurd h (by intro z; cases z)
          · exact h.symm
        subst hlen
        have hrm9 : 8 ≤ R.frames ∧ 136 ≤ R.locals := by
          simp only [pm_rm, pm_call, show ¬ (1007 < 1000) by decide, if_false, show ¬ (1007 = 1003) by decide, if_true, decide_eq_true_eq] at hrm
          omega
        have hsz : ls.size = pm_L k := hl.1.trans hLs
        have hfix : CallFix p m c (pm_B k) (pm_L k) s args pm_ws (pm_cn (pm_O k)) := ⟨hx, hb, hml, hown, hts⟩
        refine pm_after (vx_runSW (As := [.ref (ad b), .int j, .ref (ad o)]) (rest := rr.map (pm_v ad)) hfix (sv_law htr hsim hrun1 hb9 hSb ⟨ho1, ho2⟩ hcase D ad ca H.size) (vx_cwSW 3 hts (fun w hw => ?_) rfl rfl rfl (by decide +kernel) ⟨hrm9.1, by show 8 + (4 + 11) + 113 ≤ _; exact hrm9.2⟩) ⟨pm_blind _ _ _ _ _ _ _, fun U hU hW => ⟨rfl, by rw [hU], hI.call hU hW⟩⟩ rfl rfl hsz rfl (lv_room (by rw [pm_v_sum]; exact hsum)) hdec ⟨by omega, by omega⟩) (fun v st₀ t9 Lc h0 hvm hLc hQ => pm_back hX (pm_t1 (pm_t1 (pm_t1 hst))) hlow h0 hvm hLc hQ (fun H' locs' ad' ca' ag1 ag2 hX' => hsim k (pc + 3) L _ M2 S2 r Mf Sf hrun2 p e R s m args below meth c H' locs' Q D A c0 s0 ls ad' ca' hf hX' hLs hrc hrs (hfin.tr hle1.1 ag1 ag2)))
        unfold va_wsS at hw
        rcases List.mem_append.mp hw with hw | hw
        · simp only [List.mem_cons, List.not_mem_nil, or_false] at hw
          rcases hw with rfl | rfl | rfl
          · exact pm_gi hlk
          · exact pm_gi sv_st
          · exact pm_gi pm_ini11
        · rcases List.mem_cons.mp hw with rfl | hw
          · exact pm_gi sv_cw
          · exact pm_gi hw
      · cases hrow
    · cases hcst
  · cases hcst
