/-! ===== String.length and String.charAt of a text ===== -/
/-- what holds of a text where nothing is written -/
def tx_F (a av : Nat) (bs : List Int32) (U : State) : Prop := va_O "java/lang/String" a (fun _ => False) U U.heap ∧ va_OF "java/lang/String" "coder" "B" (.int 0) a (fun _ => False) U U.heap ∧ va_OF "java/lang/String" "value" "[B" (.ref av) a (fun _ => False) U U.heap ∧ va_T .byte av bs.length (fun j => .int (bs.getD j 0)) (fun _ => False) U U.heap ∧ va_Z "java/lang/String" "COMPACT_STRINGS" "Z" (.int 1) (fun _ => False) U U.heap ∧ va_Zq "jdk/internal/util/Preconditions" "SIOOBE_FORMATTER" "Ljava/util/function/BiFunction;" (fun _ => False) U U.heap
theorem tx_F.go {a av : Nat} {bs : List Int32} {u U : State} (ha : u.vm.Alike U.vm) (hh : U.heap = u.heap) (h : tx_F a av bs u) : tx_F a av bs U := by
  obtain ⟨h1, h2, h3, h4, h5, h6⟩ := h
  unfold tx_F
  rw [hh]
  exact ⟨va_O.moved ha h1, va_OF.moved ha h2, va_OF.moved ha h3, va_T.moved ha h4, va_Z.moved ha h5, va_Zq.moved ha h6⟩
/-- a method that writes nothing, and answers v -/
def tx_Q (v : Option Value) : Array Value → State → Outcome → State → Prop := fun _ st oc t => oc = .returned v ∧ t.heap = st.heap
abbrev tx_N : Nat → Prop := fun _ => False
def tx_met (l : Launch) (y : MethodName) (cc : ByteArray) (maxL : Nat) (ret : Option FieldType) (fr lo : Nat) (as : List Value) (B : State → Prop) (v : Option Value) : Prop := Met l y (Cond.code y cc maxL ret :: pm_ws) ({ frames := fr, cells := 0, slots := 0, locals := lo } : Room) (va_Pc as B) (tx_Q v) 0 0 tx_N
theorem tx_bl {as : List Value} {a av : Nat} {bs : List Int32} : FrameBlind (va_Pc as (tx_F a av bs)) := fun _ U g mk h => ⟨h.1, h.2.go (u := U) (U := U.calling g mk _) (Vm.Alike.refl _) rfl⟩
theorem tx_gk {y : MethodName} {cc : ByteArray} {maxL : Nat} {ret : Option FieldType} (h : Cond.code y cc maxL ret ∈ pm_ws) : ∀ w ∈ Cond.code y cc maxL ret :: pm_ws, w ∈ pm_ws ∧ ((w.onTables && w.keeps) = true ∨ ∃ ty, w = .arrayClass ty) := fun w hw => by
  have g : ∀ {w : Cond}, w ∈ pm_ws → w ∈ pm_ws ∧ ((w.onTables && w.keeps) = true ∨ ∃ ty, w = .arrayClass ty) := fun h => ⟨h, good_of_word (List.mem_filter.mp h).2⟩
  rcases List.mem_cons.mp hw with rfl | hw
  · exact g h
  · exact g hw
section TXA
variable {p : Program} {l : Launch} {e : Env} {R : Room} {s : State} {m : MethodId} {args : Array Value} {below : List Frame} {meth : Method} {c : Code} {H : Heap} {locs : List Loc} {cells slots : Nat} {Q : State → Prop} {pc : Nat} {ls : Array Slot} {st0 rest : List Value}
theorem tx_after {v : Option Value} {a : Array Value} (hr : va_Run p l e R s m args below meth c H locs cells slots 0 0 (F0 m pc ls st0) rest (tx_Q v a) tx_N) (kk : W p l e R s m args below meth c H locs cells slots Q (F0 m (pc + 3) ls (v.toList ++ rest))) : W p l e R s m args below meth c H locs cells slots Q (F0 m pc ls st0) := by
  intro T hT X
  obtain ⟨v9, st₀, t, T', Lc, h0, X', hL, e1, e2, ⟨hq1, hq2⟩, st⟩ := hr T hT X
  cases hq1
  have hLc : Lc = [] := by
    cases Lc with
    | nil => rfl
    | cons z zs => exact (hL z List.mem_cons_self).elim
  subst hLc
  rw [List.append_nil] at X'
  obtain ⟨t2, a1, b1⟩ := kk T' (by rw [e1, hq2, h0]) X'
  exact ⟨t2, st t2 a1, b1⟩
end TXA
theorem jd_coder_0 : decode cJ0_coder_7d493 0 = .ok (.getstatic 38, 3) := by decide +kernel
theorem jd_coder_3 : decode cJ0_coder_7d493 3 = .ok (.ifCond .eq 10, 3) := by decide +kernel
theorem jd_coder_6 : decode cJ0_coder_7d493 6 = .ok (.aload_n 0, 1) := by decide +kernel
theorem jd_coder_7 : decode cJ0_coder_7d493 7 = .ok (.getfield 15, 3) := by decide +kernel
theorem jd_coder_10 : decode cJ0_coder_7d493 10 = .ok (.goto 4, 3) := by decide +kernel
theorem jd_coder_13 : decode cJ0_coder_7d493 13 = .ok (.iconst 1, 1) := by decide +kernel
theorem jd_coder_14 : decode cJ0_coder_7d493 14 = .ok (.ireturn, 1) := by decide +kernel
theorem jd_lat_0 : decode cJ0_isLatin1_aae02 0 = .ok (.getstatic 38, 3) := by decide +kernel
theorem jd_lat_3 : decode cJ0_isLatin1_aae02 3 = .ok (.ifCond .eq 14, 3) := by decide +kernel
theorem jd_lat_6 : decode cJ0_isLatin1_aae02 6 = .ok (.aload_n 0, 1) := by decide +kernel
theorem jd_lat_7 : decode cJ0_isLatin1_aae02 7 = .ok (.getfield 15, 3) := by decide +kernel
theorem jd_lat_10 : decode cJ0_isLatin1_aae02 10 = .ok (.ifCond .ne 7, 3) := by decide +kernel
theorem jd_lat_13 : decode cJ0_isLatin1_aae02 13 = .ok (.iconst 1, 1) := by decide +kernel
theorem jd_lat_14 : decode cJ0_isLatin1_aae02 14 = .ok (.goto 4, 3) := by decide +kernel
theorem jd_lat_17 : decode cJ0_isLatin1_aae02 17 = .ok (.iconst 0, 1) := by decide +kernel
theorem jd_lat_18 : decode cJ0_isLatin1_aae02 18 = .ok (.ireturn, 1) := by decide +kernel
theorem jd_len_0 : decode cJ0_length_8abf5 0 = .ok (.aload_n 0, 1) := by decide +kernel
theorem jd_len_1 : decode cJ0_length_8abf5 1 = .ok (.getfield 9, 3) := by decide +kernel
theorem jd_len_4 : decode cJ0_length_8abf5 4 = .ok (.arraylength, 1) := by decide +kernel
theorem jd_len_5 : decode cJ0_length_8abf5 5 = .ok (.aload_n 0, 1) := by decide +kernel
theorem jd_len_6 : decode cJ0_length_8abf5 6 = .ok (.invokevirtual 335, 3) := by decide +kernel
theorem jd_len_9 : decode cJ0_length_8abf5 9 = .ok (.ishr, 1) := by decide +kernel
theorem jd_len_10 : decode cJ0_length_8abf5 10 = .ok (.ireturn, 1) := by decide +kernel
theorem jd_chr_0 : decode cJ0_charAt_5068e 0 = .ok (.aload_n 0, 1) := by decide +kernel
theorem jd_chr_1 : decode cJ0_charAt_5068e 1 = .ok (.invokevirtual 492, 3) := by decide +kernel
theorem jd_chr_4 : decode cJ0_charAt_5068e 4 = .ok (.ifCond .eq 12, 3) := by decide +kernel
theorem jd_chr_7 : decode cJ0_charAt_5068e 7 = .ok (.aload_n 0, 1) := by decide +kernel
theorem jd_chr_8 : decode cJ0_charAt_5068e 8 = .ok (.getfield 9, 3) := by decide +kernel
theorem jd_chr_11 : decode cJ0_charAt_5068e 11 = .ok (.iload_n 1, 1) := by decide +kernel
theorem jd_chr_12 : decode cJ0_charAt_5068e 12 = .ok (.invokestatic 495, 3) := by decide +kernel
theorem jd_chr_15 : decode cJ0_charAt_5068e 15 = .ok (.ireturn, 1) := by decide +kernel
theorem jd_chr_16 : decode cJ0_charAt_5068e 16 = .ok (.aload_n 0, 1) := by decide +kernel
theorem jd_chr_17 : decode cJ0_charAt_5068e 17 = .ok (.getfield 9, 3) := by decide +kernel
theorem jd_chr_20 : decode cJ0_charAt_5068e 20 = .ok (.iload_n 1, 1) := by decide +kernel
theorem jd_chr_21 : decode cJ0_charAt_5068e 21 = .ok (.invokestatic 498, 3) := by decide +kernel
theorem jd_chr_24 : decode cJ0_charAt_5068e 24 = .ok (.ireturn, 1) := by decide +kernel
theorem jd_chk_0 : decode cJ0_checkIndex_df160 0 = .ok (.iload_n 0, 1) := by decide +kernel
theorem jd_chk_1 : decode cJ0_checkIndex_df160 1 = .ok (.iload_n 1, 1) := by decide +kernel
theorem jd_chk_2 : decode cJ0_checkIndex_df160 2 = .ok (.getstatic 1053, 3) := by decide +kernel
theorem jd_chk_5 : decode cJ0_checkIndex_df160 5 = .ok (.invokestatic 1059, 3) := by decide +kernel
theorem jd_chk_8 : decode cJ0_checkIndex_df160 8 = .ok (.pop, 1) := by decide +kernel
theorem jd_chk_9 : decode cJ0_checkIndex_df160 9 = .ok (.return_, 1) := by decide +kernel
theorem jd_lch_0 : decode cJ1_charAt_3b067 0 = .ok (.iload_n 1, 1) := by decide +kernel
theorem jd_lch_1 : decode cJ1_charAt_3b067 1 = .ok (.aload_n 0, 1) := by decide +kernel
theorem jd_lch_2 : decode cJ1_charAt_3b067 2 = .ok (.arraylength, 1) := by decide +kernel
theorem jd_lch_3 : decode cJ1_charAt_3b067 3 = .ok (.invokestatic 9, 3) := by decide +kernel
theorem jd_lch_6 : decode cJ1_charAt_3b067 6 = .ok (.aload_n 0, 1) := by decide +kernel
theorem jd_lch_7 : decode cJ1_charAt_3b067 7 = .ok (.iload_n 1, 1) := by decide +kernel
theorem jd_lch_8 : decode cJ1_charAt_3b067 8 = .ok (.baload, 1) := by decide +kernel
theorem jd_lch_9 : decode cJ1_charAt_3b067 9 = .ok (.sipush 255, 3) := by decide +kernel
theorem jd_lch_12 : decode cJ1_charAt_3b067 12 = .ok (.iand, 1) := by decide +kernel
theorem jd_lch_13 : decode cJ1_charAt_3b067 13 = .ok (.i2c, 1) := by decide +kernel
theorem jd_lch_14 : decode cJ1_charAt_3b067 14 = .ok (.ireturn, 1) := by decide +kernel
theorem jd_pre_0 : decode cJ3_checkIndex_8e157 0 = .ok (.iload_n 0, 1) := by decide +kernel
theorem jd_pre_1 : decode cJ3_checkIndex_8e157 1 = .ok (.ifCond .lt 8, 3) := by decide +kernel
theorem jd_pre_4 : decode cJ3_checkIndex_8e157 4 = .ok (.iload_n 0, 1) := by decide +kernel
theorem jd_pre_5 : decode cJ3_checkIndex_8e157 5 = .ok (.iload_n 1, 1) := by decide +kernel
theorem jd_pre_6 : decode cJ3_checkIndex_8e157 6 = .ok (.if_icmp .lt 10, 3) := by decide +kernel
theorem jd_pre_9 : decode cJ3_checkIndex_8e157 9 = .ok (.aload_n 2, 1) := by decide +kernel
theorem jd_pre_10 : decode cJ3_checkIndex_8e157 10 = .ok (.iload_n 0, 1) := by decide +kernel
theorem jd_pre_11 : decode cJ3_checkIndex_8e157 11 = .ok (.iload_n 1, 1) := by decide +kernel
theorem jd_pre_12 : decode cJ3_checkIndex_8e157 12 = .ok (.invokestatic 95, 3) := by decide +kernel
theorem jd_pre_15 : decode cJ3_checkIndex_8e157 15 = .ok (.athrow, 1) := by decide +kernel
theorem jd_pre_16 : decode cJ3_checkIndex_8e157 16 = .ok (.iload_n 0, 1) := by decide +kernel
theorem jd_pre_17 : decode cJ3_checkIndex_8e157 17 = .ok (.ireturn, 1) := by decide +kernel
theorem jc_coder : Cond.code yJ0_coder_7d493 cJ0_coder_7d493 1 (some .byte) ∈ pm_ws := pm_in2 228 (by rfl) rfl
theorem jc_lat : Cond.code yJ0_isLatin1_aae02 cJ0_isLatin1_aae02 1 (some .boolean) ∈ pm_ws := pm_in2 238 (by rfl) rfl
theorem jc_len : Cond.code yJ0_length_8abf5 cJ0_length_8abf5 1 (some .int) ∈ pm_ws := pm_in2 224 (by rfl) rfl
theorem jc_chr : Cond.code yJ0_charAt_5068e cJ0_charAt_5068e 2 (some .char) ∈ pm_ws := pm_in2 234 (by rfl) rfl
theorem jc_chk : Cond.code yJ0_checkIndex_df160 cJ0_checkIndex_df160 2 none ∈ pm_ws := pm_in3 4 (by rfl) rfl
theorem jc_lch : Cond.code yJ1_charAt_3b067 cJ1_charAt_3b067 2 (some .char) ∈ pm_ws := pm_in3 1 (by rfl) rfl
theorem jc_pre : Cond.code yJ3_checkIndex_8e157 cJ3_checkIndex_8e157 3 (some .int) ∈ pm_ws := pm_in3 9 (by rfl) rfl
theorem ji_coder : Cond.instanceMethod yJ0_coder_7d493 ∈ pm_ws := pm_in2 226 (by rfl) rfl
theorem js_coder : Cond.selects RJ0 yJ0_coder_7d493 yJ0_coder_7d493 ∈ pm_ws := pm_in2 227 (by rfl) rfl
theorem ji_lat : Cond.instanceMethod yJ0_isLatin1_aae02 ∈ pm_ws := pm_in2 236 (by rfl) rfl
theorem js_lat : Cond.selects RJ0 yJ0_isLatin1_aae02 yJ0_isLatin1_aae02 ∈ pm_ws := pm_in2 237 (by rfl) rfl
theorem ji_len : Cond.instanceMethod yJ0_length_8abf5 ∈ pm_ws := pm_in2 222 (by rfl) rfl
theorem js_len : Cond.selects RJ0 yJ0_length_8abf5 yJ0_length_8abf5 ∈ pm_ws := pm_in2 223 (by rfl) rfl
theorem ji_chr : Cond.instanceMethod yJ0_charAt_5068e ∈ pm_ws := pm_in2 232 (by rfl) rfl
theorem js_chr : Cond.selects RJ0 yJ0_charAt_5068e yJ0_charAt_5068e ∈ pm_ws := pm_in2 233 (by rfl) rfl
theorem jt_chk : Cond.static yJ0_checkIndex_df160 ∈ pm_ws := pm_in3 3 (by rfl) rfl
theorem jt_lch : Cond.static yJ1_charAt_3b067 ∈ pm_ws := pm_in3 0 (by rfl) rfl
theorem jt_pre : Cond.static yJ3_checkIndex_8e157 ∈ pm_ws := pm_in3 8 (by rfl) rfl
theorem jn_0 : Cond.initialized RJ0 ∈ pm_ws := pm_in1 13 (by rfl) rfl
theorem jn_1 : Cond.initialized RJ1 ∈ pm_ws := pm_in1 14 (by rfl) rfl
theorem jn_3 : Cond.initialized RJ3 ∈ pm_ws := pm_in1 15 (by rfl) rfl
theorem jf_cs : Cond.fieldLink RJ0 38 "java/lang/String" "COMPACT_STRINGS" "Z" ∈ pm_ws := pm_in2 229 (by rfl) rfl
theorem jf_co : Cond.fieldLink RJ0 15 "java/lang/String" "coder" "B" ∈ pm_ws := pm_in8 171 (by rfl) rfl
theorem jf_va : Cond.fieldLink RJ0 9 "java/lang/String" "value" "[B" ∈ pm_ws := pm_in8 170 (by rfl) rfl
theorem jf_si : Cond.fieldLink RJ0 1053 "jdk/internal/util/Preconditions" "SIOOBE_FORMATTER" "Ljava/util/function/BiFunction;" ∈ pm_ws := pm_in3 5 (by rfl) rfl
theorem jm_co : Cond.methodLink RJ0 335 yJ0_coder_7d493 ∈ pm_ws := pm_in2 225 (by rfl) rfl
theorem jm_la : Cond.methodLink RJ0 492 yJ0_isLatin1_aae02 ∈ pm_ws := pm_in2 235 (by rfl) rfl
theorem jm_lc : Cond.methodLink RJ0 495 yJ1_charAt_3b067 ∈ pm_ws := pm_in2 239 (by rfl) rfl
theorem jm_ck : Cond.methodLink RJ1 9 yJ0_checkIndex_df160 ∈ pm_ws := pm_in3 2 (by rfl) rfl
theorem jm_pr : Cond.methodLink RJ0 1059 yJ3_checkIndex_8e157 ∈ pm_ws := pm_in3 7 (by rfl) rfl
theorem tx_coder (l : Launch) (a av : Nat) (bs : List Int32) : tx_met l yJ0_coder_7d493 cJ0_coder_7d493 1 (some .byte) 0 0 [.ref a] (tx_F a av bs) (some (.int 0)) := by
  refine Met.ofW (cc := cJ0_coder_7d493) (maxL := 1) (ret := (some .byte)) (by decide) rfl ?_
  intro p e s m args below meth c s₁ B hml hv
  obtain ⟨rfl, hF⟩ := hv
  have hx := B.exec
  have hb := B.bytes
  have hr := B.returns
  have hlocks := B.notSynchronized
  have hts0 := atoms_spec (ws := Cond.code yJ0_coder_7d493 cJ0_coder_7d493 1 (some .byte) :: pm_ws) B.pre
  have hts : ∀ w ∈ pm_ws, w.before _ s = true := fun w hw => hts0 w (List.mem_cons_of_mem _ hw)
  have hown : s.vm.findClass RJ0 = some m.cls := findClass_of_methodNamed B.named
  have hS : va_S (fun _ => False) s.heap s.heap [] := va_S.rf
  have hl := lv_entry ([.ref a]) (n := 1) (Nat.le_of_ble_eq_true rfl)
  rw [lg_entry_eq]
  generalize (lg_sl ([.ref a]) ++ List.replicate (1 - (lg_sl ([.ref a])).length) Slot.unset).toArray = ls at hl ⊢
  have hl : lv_has ls 1 [(0, .ref a)] := hl
  have hfix : CallFix p m c cJ0_coder_7d493 1 s ([.ref a] : List Value).toArray pm_ws RJ0 := ⟨hx, hb, hml, hown, hts⟩
  refine va_gets hx hb hF.2.2.2.2.1 hS hown (hts _ jf_cs) (fun _ h => h) jd_coder_0 ?_
  refine lv_if_eq (tgt := 13) hx hb jd_coder_3 (by decide) (fun h => absurd h (by decide)) (fun _ => ?_)
  refine lv_aload_n hx hb jd_coder_6 rfl (lv_at hl 0 rfl) ?_
  refine vk_getf hx hb hF.2.1 hS hown (hts _ jf_co) (fun _ h => h) jd_coder_7 ?_
  refine lv_goto (tgt := 14) hx hb jd_coder_10 (by decide) ?_
  exact W.zret (ty := .byte) hx hb hr rfl (fun t ht hW => ⟨rfl, ht⟩) (fun q hq => nomatch hq) jd_coder_14 hlocks
theorem tx_lat (l : Launch) (a av : Nat) (bs : List Int32) : tx_met l yJ0_isLatin1_aae02 cJ0_isLatin1_aae02 1 (some .boolean) 0 0 [.ref a] (tx_F a av bs) (some (.int 1)) := by
  refine Met.ofW (cc := cJ0_isLatin1_aae02) (maxL := 1) (ret := (some .boolean)) (by decide) rfl ?_
  intro p e s m args below meth c s₁ B hml hv
  obtain ⟨rfl, hF⟩ := hv
  have hx := B.exec
  have hb := B.bytes
  have hr := B.returns
  have hlocks := B.notSynchronized
  have hts0 := atoms_spec (ws := Cond.code yJ0_isLatin1_aae02 cJ0_isLatin1_aae02 1 (some .boolean) :: pm_ws) B.pre
  have hts : ∀ w ∈ pm_ws, w.before _ s = true := fun w hw => hts0 w (List.mem_cons_of_mem _ hw)
  have hown : s.vm.findClass RJ0 = some m.cls := findClass_of_methodNamed B.named
  have hS : va_S (fun _ => False) s.heap s.heap [] := va_S.rf
  have hl := lv_entry ([.ref a]) (n := 1) (Nat.le_of_ble_eq_true rfl)
  rw [lg_entry_eq]
  generalize (lg_sl ([.ref a]) ++ List.replicate (1 - (lg_sl ([.ref a])).length) Slot.unset).toArray = ls at hl ⊢
  have hl : lv_has ls 1 [(0, .ref a)] := hl
  have hfix : CallFix p m c cJ0_isLatin1_aae02 1 s ([.ref a] : List Value).toArray pm_ws RJ0 := ⟨hx, hb, hml, hown, hts⟩
  refine va_gets hx hb hF.2.2.2.2.1 hS hown (hts _ jf_cs) (fun _ h => h) jd_lat_0 ?_
  refine lv_if_eq (tgt := 17) hx hb jd_lat_3 (by decide) (fun h => absurd h (by decide)) (fun _ => ?_)
  refine lv_aload_n hx hb jd_lat_6 rfl (lv_at hl 0 rfl) ?_
  refine vk_getf hx hb hF.2.1 hS hown (hts _ jf_co) (fun _ h => h) jd_lat_7 ?_
  refine lv_if_ne (tgt := 17) hx hb jd_lat_10 (by decide) (fun h => absurd rfl h) (fun _ => ?_)
  refine lv_iconst (v := 1) hx hb jd_lat_13 (by decide) ?_
  refine lv_goto (tgt := 18) hx hb jd_lat_14 (by decide) ?_
  exact W.zret (ty := .boolean) hx hb hr rfl (fun t ht hW => ⟨rfl, ht⟩) (fun q hq => nomatch hq) jd_lat_18 hlocks
theorem tx_len (l : Launch) (a av : Nat) (bs : List Int32) : tx_met l yJ0_length_8abf5 cJ0_length_8abf5 1 (some .int) 1 20 [.ref a] (tx_F a av bs) (some (.int (Int32.ofNat bs.length))) := by
  refine Met.ofW (cc := cJ0_length_8abf5) (maxL := 1) (ret := (some .int)) (by decide) rfl ?_
  intro p e s m args below meth c s₁ B hml hv
  obtain ⟨rfl, hF⟩ := hv
  have hx := B.exec
  have hb := B.bytes
  have hr := B.returns
  have hlocks := B.notSynchronized
  have hts0 := atoms_spec (ws := Cond.code yJ0_length_8abf5 cJ0_length_8abf5 1 (some .int) :: pm_ws) B.pre
  have hts : ∀ w ∈ pm_ws, w.before _ s = true := fun w hw => hts0 w (List.mem_cons_of_mem _ hw)
  have hown : s.vm.findClass RJ0 = some m.cls := findClass_of_methodNamed B.named
  have hS : va_S (fun _ => False) s.heap s.heap [] := va_S.rf
  have hl := lv_entry ([.ref a]) (n := 1) (Nat.le_of_ble_eq_true rfl)
  rw [lg_entry_eq]
  generalize (lg_sl ([.ref a]) ++ List.replicate (1 - (lg_sl ([.ref a])).length) Slot.unset).toArray = ls at hl ⊢
  have hl : lv_has ls 1 [(0, .ref a)] := hl
  have hfix : CallFix p m c cJ0_length_8abf5 1 s ([.ref a] : List Value).toArray pm_ws RJ0 := ⟨hx, hb, hml, hown, hts⟩
  refine lv_aload_n hx hb jd_len_0 rfl (lv_at hl 0 rfl) ?_
  refine vk_getf hx hb hF.2.2.1 hS hown (hts _ jf_va) (fun _ h => h) jd_len_1 ?_
  refine va_tlen hx hb hF.2.2.2.1 hS rfl jd_len_4 ?_
  refine lv_aload_n hx hb jd_len_5 rfl (lv_at hl 0 rfl) ?_
  refine tx_after (va_runV (C := RJ0) (b := a) (As := []) (rest := [.int (Int32.ofNat bs.length)]) hfix (tx_coder l a av bs) (cwV 0 hts (fun w hw => by
    unfold wsV at hw
    rcases List.mem_append.mp hw with hw | hw
    · simp only [List.mem_cons, List.not_mem_nil, or_false] at hw
      rcases hw with rfl | rfl | rfl | rfl
      · exact tx_gk jc_coder _ (List.mem_cons_of_mem _ jm_co)
      · exact tx_gk jc_coder _ (List.mem_cons_of_mem _ ji_coder)
      · exact tx_gk jc_coder _ (List.mem_cons_of_mem _ js_coder)
      · exact tx_gk jc_coder _ (List.mem_cons_of_mem _ jn_0)
    · exact tx_gk jc_coder w hw) rfl rfl rfl (by decide +kernel) ⟨Nat.le_of_ble_eq_true rfl, Nat.le_of_ble_eq_true rfl⟩) ⟨tx_bl, (by obtain ⟨cell, h1, h2, h3, -⟩ := hF.1; exact ⟨cell, h1, h2, h3⟩), fun U hU hW => ⟨rfl, hF.go hW.alike hU⟩⟩ rfl rfl hl.1 rfl (lv_room (Nat.le_of_ble_eq_true rfl)) jd_len_6 ⟨Nat.le_of_ble_eq_true rfl, Nat.le_of_ble_eq_true rfl⟩) ?_
  refine lv_ishr hx hb jd_len_9 ?_
  rw [show Int32.ofNat bs.length >>> ((0 : Int32) &&& 31) = Int32.ofNat bs.length by rw [show ((0 : Int32) &&& 31) = 0 from rfl]; exact Int32.shiftRight_zero]
  exact W.zret (ty := .int) hx hb hr rfl (fun t ht hW => ⟨rfl, ht⟩) (fun q hq => nomatch hq) jd_len_10 hlocks
theorem tx_sl3 {i n : Int32} {fv : Value} (h : fv.category = 1) : (lg_sl [.int i, .int n, fv]).length = 3 := by
  rw [show lg_sl [.int i, .int n, fv] = [.val (.int i), .val (.int n)] ++ lg_sl [fv] from rfl, List.length_append]
  simp [lg_sl, show ¬ fv.category = 2 by omega]
theorem tx_pre (l : Launch) (i n : Int32) (fv : Value) (hfv : fv.category = 1) : tx_met l yJ3_checkIndex_8e157 cJ3_checkIndex_8e157 3 (some .int) 0 0 [.int i, .int n, fv] (fun U => 0 ≤ i ∧ i < n) (some (.int i)) := by
  refine Met.ofW (cc := cJ3_checkIndex_8e157) (maxL := 3) (ret := (some .int)) (by decide) rfl ?_
  intro p e s m args below meth c s₁ B hml hv
  obtain ⟨rfl, hF⟩ := hv
  have hx := B.exec
  have hb := B.bytes
  have hr := B.returns
  have hlocks := B.notSynchronized
  have hts0 := atoms_spec (ws := Cond.code yJ3_checkIndex_8e157 cJ3_checkIndex_8e157 3 (some .int) :: pm_ws) B.pre
  have hts : ∀ w ∈ pm_ws, w.before _ s = true := fun w hw => hts0 w (List.mem_cons_of_mem _ hw)
  have hown : s.vm.findClass RJ3 = some m.cls := findClass_of_methodNamed B.named
  have hS : va_S (fun _ => False) s.heap s.heap [] := va_S.rf
  have hl := lv_entry ([.int i, .int n, fv]) (n := 3) (by rw [tx_sl3 hfv]; exact Nat.le_refl _)
  rw [lg_entry_eq]
  generalize (lg_sl ([.int i, .int n, fv]) ++ List.replicate (3 - (lg_sl ([.int i, .int n, fv])).length) Slot.unset).toArray = ls at hl ⊢
  have hl : lv_has ls 3 [(0, .int i), (1, .int n)] := ⟨hl.1, hl.2.1, fun q hq => hl.2.2 q (by
    simp only [List.mem_cons, List.not_mem_nil, or_false] at hq
    rcases hq with rfl | rfl
    · exact List.mem_cons_self
    · exact List.mem_cons_of_mem _ List.mem_cons_self)⟩
  have hfix : CallFix p m c cJ3_checkIndex_8e157 3 s ([.int i, .int n, fv] : List Value).toArray pm_ws RJ3 := ⟨hx, hb, hml, hown, hts⟩
  refine lv_iload_n hx hb jd_pre_0 rfl (lv_at hl 0 rfl) ?_
  refine lv_if_lt (tgt := 9) hx hb jd_pre_1 (by decide) (fun h => absurd h (Int32.not_lt.mpr hF.1)) (fun _ => ?_)
  refine lv_iload_n hx hb jd_pre_4 rfl (lv_at hl 0 rfl) ?_
  refine lv_iload_n hx hb jd_pre_5 rfl (lv_at hl 1 rfl) ?_
  refine lv_icmp_lt (tgt := 16) hx hb jd_pre_6 (by decide) (fun _ => ?_) (fun h => absurd hF.2 h)
  refine lv_iload_n hx hb jd_pre_16 rfl (lv_at hl 0 rfl) ?_
  exact W.zret (ty := .int) hx hb hr rfl (fun t ht hW => ⟨rfl, ht⟩) (fun q hq => nomatch hq) jd_pre_17 hlocks
theorem tx_chk (l : Launch) (i n : Int32) : tx_met l yJ0_checkIndex_df160 cJ0_checkIndex_df160 2 none 1 22 [.int i, .int n] (fun U => (0 ≤ i ∧ i < n) ∧ va_Zq "jdk/internal/util/Preconditions" "SIOOBE_FORMATTER" "Ljava/util/function/BiFunction;" (fun _ => False) U U.heap) (none) := by
  refine Met.ofW (cc := cJ0_checkIndex_df160) (maxL := 2) (ret := none) (by decide) rfl ?_
  intro p e s m args below meth c s₁ B hml hv
  obtain ⟨rfl, hF⟩ := hv
  have hx := B.exec
  have hb := B.bytes
  have hr := B.returns
  have hlocks := B.notSynchronized
  have hts0 := atoms_spec (ws := Cond.code yJ0_checkIndex_df160 cJ0_checkIndex_df160 2 none :: pm_ws) B.pre
  have hts : ∀ w ∈ pm_ws, w.before _ s = true := fun w hw => hts0 w (List.mem_cons_of_mem _ hw)
  have hown : s.vm.findClass RJ0 = some m.cls := findClass_of_methodNamed B.named
  have hS : va_S (fun _ => False) s.heap s.heap [] := va_S.rf
  have hl := lv_entry ([.int i, .int n]) (n := 2) (Nat.le_of_ble_eq_true rfl)
  rw [lg_entry_eq]
  generalize (lg_sl ([.int i, .int n]) ++ List.replicate (2 - (lg_sl ([.int i, .int n])).length) Slot.unset).toArray = ls at hl ⊢
  have hl : lv_has ls 2 [(0, .int i), (1, .int n)] := hl
  have hfix : CallFix p m c cJ0_checkIndex_df160 2 s ([.int i, .int n] : List Value).toArray pm_ws RJ0 := ⟨hx, hb, hml, hown, hts⟩
  refine lv_iload_n hx hb jd_chk_0 rfl (lv_at hl 0 rfl) ?_
  refine lv_iload_n hx hb jd_chk_1 rfl (lv_at hl 1 rfl) ?_
  have hcall : ∀ fv : Value, fv.category = 1 → va_Z "jdk/internal/util/Preconditions" "SIOOBE_FORMATTER" "Ljava/util/function/BiFunction;" fv (fun _ => False) s s.heap → W p l e (headSpec (Cond.code yJ0_checkIndex_df160 cJ0_checkIndex_df160 2 none :: pm_ws) ({ frames := 1, cells := 0, slots := 0, locals := 22 } : Room)).room s m ([.int i, .int n] : List Value).toArray below meth c s.heap [] 0 0 (MQ below (tx_Q none) ([.int i, .int n] : List Value).toArray s 0 0 tx_N) (F0 m 2 ls [.int n, .int i]) := by
    intro fv hfv hZ
    refine va_gets hx hb hZ hS hown (hts _ jf_si) (fun _ h => h) jd_chk_2 ?_
    refine tx_after (va_runS (As := [.int i, .int n, fv]) (rest := []) hfix (tx_pre l i n fv hfv) (va_cwS 3 hts (fun w hw => by
      unfold va_wsS at hw
      rcases List.mem_append.mp hw with hw | hw
      · simp only [List.mem_cons, List.not_mem_nil, or_false] at hw
        rcases hw with rfl | rfl | rfl
        · exact tx_gk jc_pre _ (List.mem_cons_of_mem _ jm_pr)
        · exact tx_gk jc_pre _ (List.mem_cons_of_mem _ jt_pre)
        · exact tx_gk jc_pre _ (List.mem_cons_of_mem _ jn_3)
      · exact tx_gk jc_pre w hw) rfl rfl rfl (by decide +kernel) ⟨Nat.le_of_ble_eq_true rfl, Nat.le_of_ble_eq_true rfl⟩) ⟨fun _ U g mk h => h, fun U hU hW => ⟨rfl, hF.1⟩⟩ rfl rfl hl.1 rfl (lv_room (Nat.le_of_ble_eq_true rfl)) jd_chk_5 ⟨Nat.le_of_ble_eq_true rfl, Nat.le_of_ble_eq_true rfl⟩) ?_
    refine lv_pop hx hb jd_chk_8 rfl ?_
    exact W.vret hx hb hr (fun t ht hW => ⟨rfl, ht⟩) (fun q hq => nomatch hq) jd_chk_9 hlocks
  rcases hF.2 with h | ⟨t, h⟩
  · exact hcall .null rfl h
  · exact hcall (.ref t) rfl h
theorem tx_lch (l : Launch) (av : Nat) (bs : List Int32) (i : Int32) : tx_met l yJ1_charAt_3b067 cJ1_charAt_3b067 2 (some .char) 2 43 [.ref av, .int i] (fun U => (0 ≤ i ∧ i < Int32.ofNat bs.length ∧ vp_in i bs.length) ∧ va_T .byte av bs.length (fun j => .int (bs.getD j 0)) (fun _ => False) U U.heap ∧ va_Zq "jdk/internal/util/Preconditions" "SIOOBE_FORMATTER" "Ljava/util/function/BiFunction;" (fun _ => False) U U.heap) (some (.int (((bs.getD i.toNatClampNeg 0) &&& 255).toUInt32 % 65536).toInt32)) := by
  refine Met.ofW (cc := cJ1_charAt_3b067) (maxL := 2) (ret := (some .char)) (by decide) rfl ?_
  intro p e s m args below meth c s₁ B hml hv
  obtain ⟨rfl, hF⟩ := hv
  have hx := B.exec
  have hb := B.bytes
  have hr := B.returns
  have hlocks := B.notSynchronized
  have hts0 := atoms_spec (ws := Cond.code yJ1_charAt_3b067 cJ1_charAt_3b067 2 (some .char) :: pm_ws) B.pre
  have hts : ∀ w ∈ pm_ws, w.before _ s = true := fun w hw => hts0 w (List.mem_cons_of_mem _ hw)
  have hown : s.vm.findClass RJ1 = some m.cls := findClass_of_methodNamed B.named
  have hS : va_S (fun _ => False) s.heap s.heap [] := va_S.rf
  have hl := lv_entry ([.ref av, .int i]) (n := 2) (Nat.le_of_ble_eq_true rfl)
  rw [lg_entry_eq]
  generalize (lg_sl ([.ref av, .int i]) ++ List.replicate (2 - (lg_sl ([.ref av, .int i])).length) Slot.unset).toArray = ls at hl ⊢
  have hl : lv_has ls 2 [(0, .ref av), (1, .int i)] := hl
  have hfix : CallFix p m c cJ1_charAt_3b067 2 s ([.ref av, .int i] : List Value).toArray pm_ws RJ1 := ⟨hx, hb, hml, hown, hts⟩
  refine lv_iload_n hx hb jd_lch_0 rfl (lv_at hl 1 rfl) ?_
  refine lv_aload_n hx hb jd_lch_1 rfl (lv_at hl 0 rfl) ?_
  refine va_tlen hx hb hF.2.1 hS rfl jd_lch_2 ?_
  refine tx_after (va_runS (As := [.int i, .int (Int32.ofNat bs.length)]) (rest := []) hfix (tx_chk l i (Int32.ofNat bs.length)) (va_cwS 2 hts (fun w hw => by
    unfold va_wsS at hw
    rcases List.mem_append.mp hw with hw | hw
    · simp only [List.mem_cons, List.not_mem_nil, or_false] at hw
      rcases hw with rfl | rfl | rfl
      · exact tx_gk jc_chk _ (List.mem_cons_of_mem _ jm_ck)
      · exact tx_gk jc_chk _ (List.mem_cons_of_mem _ jt_chk)
      · exact tx_gk jc_chk _ (List.mem_cons_of_mem _ jn_0)
    · exact tx_gk jc_chk w hw) rfl rfl rfl (by decide +kernel) ⟨Nat.le_of_ble_eq_true rfl, Nat.le_of_ble_eq_true rfl⟩) ⟨fun _ U g mk h => ⟨h.1, h.2.1, va_Zq.moved (u := U) (U := U.calling g mk _) (Vm.Alike.refl _) h.2.2⟩, fun U hU hW => ⟨rfl, ⟨hF.1.1, hF.1.2.1⟩, by rw [hU]; exact va_Zq.moved hW.alike hF.2.2⟩⟩ rfl rfl hl.1 rfl (lv_room (Nat.le_of_ble_eq_true rfl)) jd_lch_3 ⟨Nat.le_of_ble_eq_true rfl, Nat.le_of_ble_eq_true rfl⟩) ?_
  refine lv_aload_n hx hb jd_lch_6 rfl (lv_at hl 0 rfl) ?_
  refine lv_iload_n hx hb jd_lch_7 rfl (lv_at hl 1 rfl) ?_
  refine va_tb hx hb hF.2.1 hS hF.1.2.2 rfl jd_lch_8 ?_
  refine lv_sipush (v := 255) hx hb jd_lch_9 (by decide) ?_
  refine lv_iand hx hb jd_lch_12 ?_
  refine lv_i2c hx hb jd_lch_13 rfl ?_
  exact W.zret (ty := .char) hx hb hr (pk_nc _) (fun t ht hW => ⟨rfl, ht⟩) (fun q hq => nomatch hq) jd_lch_14 hlocks
theorem tx_chr (l : Launch) (a av : Nat) (bs : List Int32) (i : Int32) : tx_met l yJ0_charAt_5068e cJ0_charAt_5068e 2 (some .char) 3 64 [.ref a, .int i] (fun U => (0 ≤ i ∧ i < Int32.ofNat bs.length ∧ vp_in i bs.length) ∧ tx_F a av bs U) (some (.int (((bs.getD i.toNatClampNeg 0) &&& 255).toUInt32 % 65536).toInt32)) := by
  refine Met.ofW (cc := cJ0_charAt_5068e) (maxL := 2) (ret := (some .char)) (by decide) rfl ?_
  intro p e s m args below meth c s₁ B hml hv
  obtain ⟨rfl, hF⟩ := hv
  have hx := B.exec
  have hb := B.bytes
  have hr := B.returns
  have hlocks := B.notSynchronized
  have hts0 := atoms_spec (ws := Cond.code yJ0_charAt_5068e cJ0_charAt_5068e 2 (some .char) :: pm_ws) B.pre
  have hts : ∀ w ∈ pm_ws, w.before _ s = true := fun w hw => hts0 w (List.mem_cons_of_mem _ hw)
  have hown : s.vm.findClass RJ0 = some m.cls := findClass_of_methodNamed B.named
  have hS : va_S (fun _ => False) s.heap s.heap [] := va_S.rf
  have hl := lv_entry ([.ref a, .int i]) (n := 2) (Nat.le_of_ble_eq_true rfl)
  rw [lg_entry_eq]
  generalize (lg_sl ([.ref a, .int i]) ++ List.replicate (2 - (lg_sl ([.ref a, .int i])).length) Slot.unset).toArray = ls at hl ⊢
  have hl : lv_has ls 2 [(0, .ref a), (1, .int i)] := hl
  have hfix : CallFix p m c cJ0_charAt_5068e 2 s ([.ref a, .int i] : List Value).toArray pm_ws RJ0 := ⟨hx, hb, hml, hown, hts⟩
  refine lv_aload_n hx hb jd_chr_0 rfl (lv_at hl 0 rfl) ?_
  refine tx_after (va_runV (C := RJ0) (b := a) (As := []) (rest := []) hfix (tx_lat l a av bs) (cwV 0 hts (fun w hw => by
    unfold wsV at hw
    rcases List.mem_append.mp hw with hw | hw
    · simp only [List.mem_cons, List.not_mem_nil, or_false] at hw
      rcases hw with rfl | rfl | rfl | rfl
      · exact tx_gk jc_lat _ (List.mem_cons_of_mem _ jm_la)
      · exact tx_gk jc_lat _ (List.mem_cons_of_mem _ ji_lat)
      · exact tx_gk jc_lat _ (List.mem_cons_of_mem _ js_lat)
      · exact tx_gk jc_lat _ (List.mem_cons_of_mem _ jn_0)
    · exact tx_gk jc_lat w hw) rfl rfl rfl (by decide +kernel) ⟨Nat.le_of_ble_eq_true rfl, Nat.le_of_ble_eq_true rfl⟩) ⟨tx_bl, (by obtain ⟨cell, h1, h2, h3, -⟩ := hF.2.1; exact ⟨cell, h1, h2, h3⟩), fun U hU hW => ⟨rfl, hF.2.go hW.alike hU⟩⟩ rfl rfl hl.1 rfl (lv_room (Nat.le_of_ble_eq_true rfl)) jd_chr_1 ⟨Nat.le_of_ble_eq_true rfl, Nat.le_of_ble_eq_true rfl⟩) ?_
  refine lv_if_eq (tgt := 16) hx hb jd_chr_4 (by decide) (fun h => absurd h (by decide)) (fun _ => ?_)
  refine lv_aload_n hx hb jd_chr_7 rfl (lv_at hl 0 rfl) ?_
  refine vk_getf hx hb hF.2.2.2.1 hS hown (hts _ jf_va) (fun _ h => h) jd_chr_8 ?_
  refine lv_iload_n hx hb jd_chr_11 rfl (lv_at hl 1 rfl) ?_
  refine tx_after (va_runS (As := [.ref av, .int i]) (rest := []) hfix (tx_lch l av bs i) (va_cwS 2 hts (fun w hw => by
    unfold va_wsS at hw
    rcases List.mem_append.mp hw with hw | hw
    · simp only [List.mem_cons, List.not_mem_nil, or_false] at hw
      rcases hw with rfl | rfl | rfl
      · exact tx_gk jc_lch _ (List.mem_cons_of_mem _ jm_lc)
      · exact tx_gk jc_lch _ (List.mem_cons_of_mem _ jt_lch)
      · exact tx_gk jc_lch _ (List.mem_cons_of_mem _ jn_1)
    · exact tx_gk jc_lch w hw) rfl rfl rfl (by decide +kernel) ⟨Nat.le_of_ble_eq_true rfl, Nat.le_of_ble_eq_true rfl⟩) ⟨fun _ U g mk h => ⟨h.1, h.2.1, va_T.moved (u := U) (U := U.calling g mk _) (Vm.Alike.refl _) h.2.2.1, va_Zq.moved (u := U) (U := U.calling g mk _) (Vm.Alike.refl _) h.2.2.2⟩, fun U hU hW => ⟨rfl, hF.1, by rw [hU]; exact va_T.moved hW.alike hF.2.2.2.2.1, by rw [hU]; exact va_Zq.moved hW.alike hF.2.2.2.2.2.2⟩⟩ rfl rfl hl.1 rfl (lv_room (Nat.le_of_ble_eq_true rfl)) jd_chr_12 ⟨Nat.le_of_ble_eq_true rfl, Nat.le_of_ble_eq_true rfl⟩) ?_
  exact W.zret (ty := .char) hx hb hr (pk_nc _) (fun t ht hW => ⟨rfl, ht⟩) (fun q hq => nomatch hq) jd_chr_15 hlocks
