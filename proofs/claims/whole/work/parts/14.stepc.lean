/-- the rows that are read alone -/
theorem pm_I.ro {D : va_G} {A : Nat → Prop} {s : State} {H : Heap} {locs : List Loc} {ad : Nat → Nat} {ca : Nat → ClassId} {M : pm_M} {S : pm_S} (h : pm_I D A s H locs ad ca M S) {a t n : Nat} {x} (ha : a < pm_k) (hS : S a = .inl (t, n, x)) (ht : t < 4) : t = 0 ∧ ∃ f, x = .inl f ∧ va_T .int (ad a) n (fun i => .int (f i)) A s s.heap := h.2.2.2.2.2.2.2.2.1 a ha t n x hS ht
theorem pm_df_V (ci : Nat) : ∀ j, j < pm_nf ci → defaultValue (pm_ty ci j) = vp_V (pm_df ci) j := by
  intro j hj
  unfold pm_df vp_V
  rw [List.getD_eq_getElem?_getD, List.getElem?_map, List.getElem?_range hj]
  rfl
theorem pm_df_nr (ci : Nat) : ∀ v ∈ pm_df ci, ∀ i, v ≠ .ref i := by
  intro v hv i
  obtain ⟨j, -, rfl⟩ := List.mem_map.mp hv
  cases pm_ty ci j <;> intro h <;> cases h
theorem pm_df_v (ad : Nat → Nat) (ci : Nat) : (pm_df ci).map (pm_v ad) = pm_df ci := by
  have : ∀ v ∈ pm_df ci, pm_v ad v = v := by
    intro v hv
    have := pm_df_nr ci v hv
    cases v with
    | ref i => exact absurd rfl (this i)
    | _ => rfl
  exact (List.map_congr_left this).trans (List.map_id' _)
section PMU
variable {p : Program} {l : Launch} {e : Env} {R : Room} {s : State} {m : MethodId} {args : Array Value} {below : List Frame} {meth : Method} {c : Code} {H : Heap} {locs : List Loc} {Q : State → Prop} {D : va_G} {A : Nat → Prop} {c0 s0 : Nat} {ls : Array Slot} {ad : Nat → Nat} {ca : Nat → ClassId} {k n pc pc' : Nat} {L st L' st' : List Value} {M M' : pm_M} {S S' : pm_S} {i raw : Instr}
theorem pm_alloc {N q : Nat} {cA : ClassId} {ev e' : va_E} {H1 : Heap} {locs1 : List Loc} {st : List Value} {pc' : Nat} (hX : pm_X D A s c0 s0 H locs ls ad ca L st M S) {r : List Value} (hr : ∀ v ∈ r, pm_wv M.1 v)
    (kk : ∀ (H' : Heap) (locs' : List Loc) (ls' : Array Slot) (ad' : Nat → Nat) (ca' : Nat → ClassId), pm_ag M.1 ad ad' → pm_ag M.1 ca ca' → pm_X D A s c0 s0 H' locs' ls' ad' ca' L (.ref M.1 :: r) (M.1 + 1, M.2.1 + 1, M.2.2 + N) (va_up S M.1 ev) → W p l e R s m args below meth c H' locs' (M.2.1 + 1 - c0) (M.2.2 + N - s0) Q (F0 m pc' ls' ((.ref M.1 :: r).map (pm_v ad'))))
    (he : pm_e (va_up ad M.1 q) cA ev = e') (hk : ∀ t x, ev = .inl (t, x) → t < 4 ∧ ArrOfT s cA (pm_tag t) ∧ va_RA s cA (pm_tag t)) (hw : pm_we (M.1 + 1) ev)
    (hP : va_P D vwCl (pm_w ad ca M.1 S ++ [(q, e')]) H1) (hD : va_D A (pm_w ad ca M.1 S ++ [(q, e')])) (hS : va_S A s.heap H1 locs1) : W p l e R s m args below meth c H1 locs1 (M.2.1 - c0 + 1) (M.2.2 - s0 + N) Q (F0 m pc' ls (.ref q :: r.map (pm_v ad))) := by
  obtain ⟨hI, hl, hst, hL, hc0, hs0⟩ := hX
  have ag : pm_ag M.1 ad (va_up ad M.1 q) := fun a ha => by simp [va_up, Nat.ne_of_lt ha]
  have ag2 : pm_ag M.1 ca (va_up ca M.1 cA) := fun a ha => by simp [va_up, Nat.ne_of_lt ha]
  have h := kk H1 locs1 ls (va_up ad M.1 q) (va_up ca M.1 cA) ag ag2 ⟨hI.new he hk hw hP hD hS, hl.ag ag hL, pm_c1 (pm_wv_ref (Nat.lt_succ_self _)) (fun v hv => (hr v hv).le (Nat.le_succ _)), fun v hv => (hL v hv).le (Nat.le_succ _), by dsimp only; omega, by dsimp only; omega⟩
  rw [show M.2.1 + 1 - c0 = M.2.1 - c0 + 1 by omega, show M.2.2 + N - s0 = M.2.2 - s0 + N by omega, List.map_cons, pm_vs_ag ag hr, show pm_v (va_up ad M.1 q) (.ref M.1) = .ref q by simp [pm_v, va_up]] at h
  exact h
theorem ps_new {cp : Nat} (hf : pm_fx p R s m args meth c k) (hX : pm_X D A s c0 s0 H locs ls ad ca L st M S) (hLs : L.length = pm_L k) (hdec : decode (pm_B k) pc = .ok ((.new cp), n)) (hlen : pm_len (.new cp) = 0 ∨ pm_len (.new cp) = n) (hres : pm_res (pm_O k) pc (.new cp) = some i) (hrc : M'.2.1 - c0 ≤ R.cells) (hrs : M'.2.2 - s0 ≤ R.slots) (hs : pm_step i n pc L st M S = some (pc', L', st', M', S'))
    (kk : ∀ (H' : Heap) (locs' : List Loc) (ls' : Array Slot) (ad' : Nat → Nat) (ca' : Nat → ClassId), pm_ag M.1 ad ad' → pm_ag M.1 ca ca' → pm_X D A s c0 s0 H' locs' ls' ad' ca' L' st' M' S' → W p l e R s m args below meth c H' locs' (M'.2.1 - c0) (M'.2.2 - s0) Q (F0 m pc' ls' (st'.map (pm_v ad')))) : W p l e R s m args below meth c H locs (M.2.1 - c0) (M.2.2 - s0) Q (F0 m pc ls (st.map (pm_v ad))) := by
  obtain ⟨hx, hb, hml, hown, hts, hin, hRf, hRl⟩ := hf
  obtain ⟨hI, hl, hst, hL, hc0, hs0⟩ := id hX
  have hpk : 32 ≤ M.1 := hI.2.2.2.2.2.2.2.1
  have hlen : n = 3 := by
    rcases hlen with h | h
    · exact absurd h (by intro q; cases q)
    · exact h.symm
  subst hlen
  simp only [pm_res] at hres
  split at hres
  · cases hres
    simp only [pm_step] at hs
    cases hs
  · split at hres
    · rename_i q hq
      cases hres
      obtain ⟨hm, he⟩ := pm_find hq
      have hcp : q.1 = cp := by simpa using he
      obtain ⟨hw, hci⟩ := pm_cqs (pm_O k) q hm
      obtain ⟨q1, ci⟩ := q
      dsimp only at hcp hw hci hs
      subst hcp
      simp only [pm_step] at hs
      cases hs
      dsimp only at hrc hrs
      refine va_new (own := pm_cn (pm_O k)) (C := pm_cn ci) (T := pm_fT ci) (N := pm_nf ci) (ci := ci) (fs := pm_df ci) hx hb hts (pm_lay ci hci) (pm_ty ci) (pm_tyk ci hci) hown (hts _ hw) (hts _ (pm_ins ci hci).1) (hts _ (pm_ins ci hci).2) hI.1 hI.2.2.1 hI.2.2.2.1 hI.2.2.2.2.1 hI.2.2.2.2.2.1 (pm_vw ci hci) (pm_df_V ci) (by omega) (by omega) hdec (fun q H1 hP hD hS => ?_)
      exact pm_alloc (cA := 0) (ev := .inr (ci, pm_df ci)) hX hst kk (by show (Sum.inr (ci, (pm_df ci).map (pm_v _)) : va_E) = _; rw [pm_df_v]) (fun t x h => by cases h) (fun v hv i e9 => absurd e9 (pm_df_nr ci v hv i)) hP hD hS
    · cases hres
theorem ps_newarray {t : ArrayType} (hf : pm_fx p R s m args meth c k) (hX : pm_X D A s c0 s0 H locs ls ad ca L st M S) (hLs : L.length = pm_L k) (hdec : decode (pm_B k) pc = .ok ((.newarray t), n)) (hlen : pm_len (.newarray t) = 0 ∨ pm_len (.newarray t) = n) (hres : pm_res (pm_O k) pc (.newarray t) = some i) (hrc : M'.2.1 - c0 ≤ R.cells) (hrs : M'.2.2 - s0 ≤ R.slots) (hs : pm_step i n pc L st M S = some (pc', L', st', M', S'))
    (kk : ∀ (H' : Heap) (locs' : List Loc) (ls' : Array Slot) (ad' : Nat → Nat) (ca' : Nat → ClassId), pm_ag M.1 ad ad' → pm_ag M.1 ca ca' → pm_X D A s c0 s0 H' locs' ls' ad' ca' L' st' M' S' → W p l e R s m args below meth c H' locs' (M'.2.1 - c0) (M'.2.2 - s0) Q (F0 m pc' ls' (st'.map (pm_v ad')))) : W p l e R s m args below meth c H locs (M.2.1 - c0) (M.2.2 - s0) Q (F0 m pc ls (st.map (pm_v ad))) := by
  obtain ⟨hx, hb, hml, hown, hts, hin, hRf, hRl⟩ := hf
  obtain ⟨hI, hl, hst, hL, hc0, hs0⟩ := id hX
  have hpk : 32 ≤ M.1 := hI.2.2.2.2.2.2.2.1
  have hlen : n = 2 := by
    rcases hlen with h | h
    · exact absurd h (by intro q; cases q)
    · exact h.symm
  subst hlen
  cases hres
  simp only [pm_step] at hs
  split at hs
  · rename_i v r
    split at hs
    · cases hs
    · rename_i hv
      split at hs
      · cases hs
        dsimp only at hrc hrs
        refine va_newa (atype := .int) (ty := .int) (a0 := (v.toNatClampNeg, .inl (fun _ => 0))) (N' := v.toNatClampNeg) hx hb (hts _ pw_ai) rfl hI.1 hI.2.2.1 hI.2.2.2.1 hI.2.2.2.2.1 hI.2.2.2.2.2.1 (fun cA => rfl) (fun h => hv (Or.inl h)) rfl (by have : ¬ 1000000 < v.toNatClampNeg := fun h => hv (Or.inr h); show v.toNatClampNeg * 4 ≤ 536870912; omega) (by omega) (by omega) hdec (fun q cA H1 hK hP hD hS => ?_)
        exact pm_alloc (cA := cA) (ev := .inl (0, v.toNatClampNeg, .inl (fun _ => 0))) hX (pm_t1 hst) kk rfl (fun t x h => by cases h; exact ⟨by decide, hK.2 0 _ rfl⟩) trivial hP hD hS
      · cases hs
        dsimp only at hrc hrs
        refine va_newa (atype := .byte) (ty := .byte) (a0 := (v.toNatClampNeg, .inl (fun _ => 0))) (N' := v.toNatClampNeg) hx hb (hts _ pw_ab) rfl hI.1 hI.2.2.1 hI.2.2.2.1 hI.2.2.2.2.1 hI.2.2.2.2.2.1 (fun cA => rfl) (fun h => hv (Or.inl h)) rfl (by have : ¬ 1000000 < v.toNatClampNeg := fun h => hv (Or.inr h); show v.toNatClampNeg * 1 ≤ 536870912; omega) (by omega) (by omega) hdec (fun q cA H1 hK hP hD hS => ?_)
        exact pm_alloc (cA := cA) (ev := .inl (1, v.toNatClampNeg, .inl (fun _ => 0))) hX (pm_t1 hst) kk rfl (fun t x h => by cases h; exact ⟨by decide, hK.2 0 _ rfl⟩) trivial hP hD hS
      · cases hs
        dsimp only at hrc hrs
        refine va_newa (atype := .long) (ty := .long) (a0 := (v.toNatClampNeg, .inr (.inl (fun _ => 0)))) (N' := v.toNatClampNeg) hx hb (hts _ pw_al) rfl hI.1 hI.2.2.1 hI.2.2.2.1 hI.2.2.2.2.1 hI.2.2.2.2.2.1 (fun cA => rfl) (fun h => hv (Or.inl h)) rfl (by have : ¬ 1000000 < v.toNatClampNeg := fun h => hv (Or.inr h); show v.toNatClampNeg * 8 ≤ 536870912; omega) (by omega) (by omega) hdec (fun q cA H1 hK hP hD hS => ?_)
        exact pm_alloc (cA := cA) (ev := .inl (2, v.toNatClampNeg, .inr (.inl (fun _ => 0)))) hX (pm_t1 hst) kk rfl (fun t x h => by cases h; exact ⟨by decide, hK.2 0 _ rfl⟩) trivial hP hD hS
      · cases hs
  · cases hs
theorem ps_anewarray {cp : Nat} (hf : pm_fx p R s m args meth c k) (hX : pm_X D A s c0 s0 H locs ls ad ca L st M S) (hLs : L.length = pm_L k) (hdec : decode (pm_B k) pc = .ok ((.anewarray cp), n)) (hlen : pm_len (.anewarray cp) = 0 ∨ pm_len (.anewarray cp) = n) (hres : pm_res (pm_O k) pc (.anewarray cp) = some i) (hrc : M'.2.1 - c0 ≤ R.cells) (hrs : M'.2.2 - s0 ≤ R.slots) (hs : pm_step i n pc L st M S = some (pc', L', st', M', S'))
    (kk : ∀ (H' : Heap) (locs' : List Loc) (ls' : Array Slot) (ad' : Nat → Nat) (ca' : Nat → ClassId), pm_ag M.1 ad ad' → pm_ag M.1 ca ca' → pm_X D A s c0 s0 H' locs' ls' ad' ca' L' st' M' S' → W p l e R s m args below meth c H' locs' (M'.2.1 - c0) (M'.2.2 - s0) Q (F0 m pc' ls' (st'.map (pm_v ad')))) : W p l e R s m args below meth c H locs (M.2.1 - c0) (M.2.2 - s0) Q (F0 m pc ls (st.map (pm_v ad))) := by
  obtain ⟨hx, hb, hml, hown, hts, hin, hRf, hRl⟩ := hf
  obtain ⟨hI, hl, hst, hL, hc0, hs0⟩ := id hX
  have hpk : 32 ≤ M.1 := hI.2.2.2.2.2.2.2.1
  have hlen : n = 3 := by
    rcases hlen with h | h
    · exact absurd h (by intro q; cases q)
    · exact h.symm
  subst hlen
  simp only [pm_res] at hres
  split at hres
  · rename_i q hq
    cases hres
    obtain ⟨hm, he⟩ := pm_find hq
    have hcp : q = cp := by simpa using he
    have hw := pm_aqs (pm_O k) q hm
    subst hcp
    have hw : Cond.classLink (pm_cn (pm_O k)) q RX7 ∈ pm_ws := hw
    simp only [pm_step] at hs
    split at hs
    · rename_i v r
      split at hs
      · cases hs
      · rename_i hv
        cases hs
        dsimp only at hrc hrs
        refine va_newq (C := RX7) (N' := v.toNatClampNeg) hx hb hown (hts _ hw) hI.2.2.2.2.2.2.2.2.2.2.1.2.2.1 hI.1 hI.2.2.1 hI.2.2.2.1 hI.2.2.2.2.1 hI.2.2.2.2.2.1 (fun h => hv (Or.inl h)) rfl (by have : ¬ 1000000 < v.toNatClampNeg := fun h => hv (Or.inr h); omega) (by omega) (by omega) hdec (fun q9 cA H1 hK hP hD hS => ?_)
        exact pm_alloc (cA := cA) (ev := .inl (3, v.toNatClampNeg, .inr (.inr (.inr (.inr (fun _ => none)))))) hX (pm_t1 hst) kk rfl (fun t x h => by cases h; exact ⟨by decide, hK.2 0 _ rfl⟩) (fun j i9 e9 => by cases e9) hP hD hS
    · cases hs
  · cases hres
theorem ps_alen (hf : pm_fx p R s m args meth c k) (hX : pm_X D A s c0 s0 H locs ls ad ca L st M S) (hLs : L.length = pm_L k) (hdec : decode (pm_B k) pc = .ok (.arraylength, n)) (hlen : pm_len .arraylength = 0 ∨ pm_len .arraylength = n) (hres : pm_res (pm_O k) pc .arraylength = some i) (hs : pm_step i n pc L st M S = some (pc', L', st', M', S'))
    (kk : ∀ (H' : Heap) (locs' : List Loc) (ls' : Array Slot) (ad' : Nat → Nat) (ca' : Nat → ClassId), pm_ag M.1 ad ad' → pm_ag M.1 ca ca' → pm_X D A s c0 s0 H' locs' ls' ad' ca' L' st' M' S' → W p l e R s m args below meth c H' locs' (M'.2.1 - c0) (M'.2.2 - s0) Q (F0 m pc' ls' (st'.map (pm_v ad')))) : W p l e R s m args below meth c H locs (M.2.1 - c0) (M.2.2 - s0) Q (F0 m pc ls (st.map (pm_v ad))) := by
  obtain ⟨hx, hb, hml, hown, hts, hin, hRf, hRl⟩ := hf
  obtain ⟨hI, hl, hst, hL, hc0, hs0⟩ := id hX
  have hpk : 32 ≤ M.1 := hI.2.2.2.2.2.2.2.1
  have hlen : n = 1 := by
    rcases hlen with h | h
    · exact absurd h (by intro q; cases q)
    · exact h.symm
  subst hlen
  cases hres
  simp only [pm_step] at hs
  split at hs
  · rename_i a r
    split at hs
    · rename_i t n9 x hSa
      split at hs
      · rename_i hc
        cases hs
        by_cases hap : pm_k ≤ a
        · have he9 : (pm_w ad ca M.1 S)[a - pm_k]? = some (ad a, pm_e ad (ca a) (.inl (t, n9, x))) := by rw [pm_w_get hap hc.1, hSa]
          have hK := hI.K hap hc.1 hSa
          have hfin : W p l e R s m args below meth c H locs (M.2.1 - c0) (M.2.2 - s0) Q (F0 m (pc + 1) ls (.int (Int32.ofNat n9) :: r.map (pm_v ad))) := by
            refine kk H locs ls ad ca (fun _ _ => rfl) (fun _ _ => rfl) ⟨hI, hl, pm_c1 (pm_wv_int _ _) (pm_t1 hst), hL, hc0, hs0⟩
          obtain f | f | f | f | f := x
          · exact va_alen hx hb hK hI.2.2.1 (a - pm_k) 0 he9 rfl rfl hdec hfin
          · exact va_alen hx hb hK hI.2.2.1 (a - pm_k) 0 he9 rfl rfl hdec hfin
          · exact va_alen hx hb hK hI.2.2.1 (a - pm_k) 0 he9 rfl rfl hdec hfin
          · exact va_alen hx hb hK hI.2.2.1 (a - pm_k) 0 he9 rfl rfl hdec hfin
          · exact va_alen hx hb hK hI.2.2.1 (a - pm_k) 0 he9 rfl rfl hdec hfin
        · obtain ⟨-, f, rfl, hXf⟩ := hI.ro (Nat.lt_of_not_le hap) hSa hc.2
          refine va_tlen hx hb hXf hI.2.2.2.2.1 rfl hdec ?_
          refine kk H locs ls ad ca (fun _ _ => rfl) (fun _ _ => rfl) ⟨hI, hl, pm_c1 (pm_wv_int _ _) (pm_t1 hst), hL, hc0, hs0⟩
      · cases hs
    · cases hs
  · cases hs
theorem ps_iaload (hf : pm_fx p R s m args meth c k) (hX : pm_X D A s c0 s0 H locs ls ad ca L st M S) (hLs : L.length = pm_L k) (hdec : decode (pm_B k) pc = .ok (.iaload, n)) (hlen : pm_len .iaload = 0 ∨ pm_len .iaload = n) (hres : pm_res (pm_O k) pc .iaload = some i) (hs : pm_step i n pc L st M S = some (pc', L', st', M', S'))
    (kk : ∀ (H' : Heap) (locs' : List Loc) (ls' : Array Slot) (ad' : Nat → Nat) (ca' : Nat → ClassId), pm_ag M.1 ad ad' → pm_ag M.1 ca ca' → pm_X D A s c0 s0 H' locs' ls' ad' ca' L' st' M' S' → W p l e R s m args below meth c H' locs' (M'.2.1 - c0) (M'.2.2 - s0) Q (F0 m pc' ls' (st'.map (pm_v ad')))) : W p l e R s m args below meth c H locs (M.2.1 - c0) (M.2.2 - s0) Q (F0 m pc ls (st.map (pm_v ad))) := by
  obtain ⟨hx, hb, hml, hown, hts, hin, hRf, hRl⟩ := hf
  obtain ⟨hI, hl, hst, hL, hc0, hs0⟩ := id hX
  have hpk : 32 ≤ M.1 := hI.2.2.2.2.2.2.2.1
  have hlen : n = 1 := by
    rcases hlen with h | h
    · exact absurd h (by intro q; cases q)
    · exact h.symm
  subst hlen
  cases hres
  simp only [pm_step] at hs
  split at hs
  · rename_i j a r
    split at hs
    · rename_i n9 f hSa
      split at hs
      · rename_i hc
        cases hs
        by_cases hap : pm_k ≤ a
        · have he9 : (pm_w ad ca M.1 S)[a - pm_k]? = some (ad a, .inl (ca a, n9, .inl f)) := by rw [pm_w_get hap hc.1, hSa]; rfl
          refine va_iald hx hb (hI.K hap hc.1 hSa) hI.2.2.1 (a - pm_k) 0 he9 rfl (pm_in_of hc.2) hdec ?_
          refine kk H locs ls ad ca (fun _ _ => rfl) (fun _ _ => rfl) ⟨hI, hl, pm_c1 (pm_wv_int _ _) (pm_t1 (pm_t1 hst)), hL, hc0, hs0⟩
        · obtain ⟨-, f9, e9, hXf⟩ := hI.ro (Nat.lt_of_not_le hap) hSa (by decide)
          cases e9
          refine va_ti hx hb hXf hI.2.2.2.2.1 (pm_in_of hc.2) rfl hdec ?_
          refine kk H locs ls ad ca (fun _ _ => rfl) (fun _ _ => rfl) ⟨hI, hl, pm_c1 (pm_wv_int _ _) (pm_t1 (pm_t1 hst)), hL, hc0, hs0⟩
      · cases hs
    · cases hs
  · cases hs
theorem ps_baload (hf : pm_fx p R s m args meth c k) (hX : pm_X D A s c0 s0 H locs ls ad ca L st M S) (hLs : L.length = pm_L k) (hdec : decode (pm_B k) pc = .ok (.baload, n)) (hlen : pm_len .baload = 0 ∨ pm_len .baload = n) (hres : pm_res (pm_O k) pc .baload = some i) (hs : pm_step i n pc L st M S = some (pc', L', st', M', S'))
    (kk : ∀ (H' : Heap) (locs' : List Loc) (ls' : Array Slot) (ad' : Nat → Nat) (ca' : Nat → ClassId), pm_ag M.1 ad ad' → pm_ag M.1 ca ca' → pm_X D A s c0 s0 H' locs' ls' ad' ca' L' st' M' S' → W p l e R s m args below meth c H' locs' (M'.2.1 - c0) (M'.2.2 - s0) Q (F0 m pc' ls' (st'.map (pm_v ad')))) : W p l e R s m args below meth c H locs (M.2.1 - c0) (M.2.2 - s0) Q (F0 m pc ls (st.map (pm_v ad))) := by
  obtain ⟨hx, hb, hml, hown, hts, hin, hRf, hRl⟩ := hf
  obtain ⟨hI, hl, hst, hL, hc0, hs0⟩ := id hX
  have hpk : 32 ≤ M.1 := hI.2.2.2.2.2.2.2.1
  have hlen : n = 1 := by
    rcases hlen with h | h
    · exact absurd h (by intro q; cases q)
    · exact h.symm
  subst hlen
  cases hres
  simp only [pm_step] at hs
  split at hs
  · rename_i j a r
    split at hs
    · rename_i n9 f hSa
      split at hs
      · rename_i hc
        cases hs
        have he9 : (pm_w ad ca M.1 S)[a - pm_k]? = some (ad a, .inl (ca a, n9, .inl f)) := by rw [pm_w_get hc.1 hc.2.1, hSa]; rfl
        refine va_bald hx hb (hI.K hc.1 hc.2.1 hSa) hI.2.2.1 (a - pm_k) 0 he9 rfl (pm_in_of hc.2.2) hdec ?_
        refine kk H locs ls ad ca (fun _ _ => rfl) (fun _ _ => rfl) ⟨hI, hl, pm_c1 (pm_wv_int _ _) (pm_t1 (pm_t1 hst)), hL, hc0, hs0⟩
      · cases hs
    · cases hs
  · cases hs
theorem ps_laload (hf : pm_fx p R s m args meth c k) (hX : pm_X D A s c0 s0 H locs ls ad ca L st M S) (hLs : L.length = pm_L k) (hdec : decode (pm_B k) pc = .ok (.laload, n)) (hlen : pm_len .laload = 0 ∨ pm_len .laload = n) (hres : pm_res (pm_O k) pc .laload = some i) (hs : pm_step i n pc L st M S = some (pc', L', st', M', S'))
    (kk : ∀ (H' : Heap) (locs' : List Loc) (ls' : Array Slot) (ad' : Nat → Nat) (ca' : Nat → ClassId), pm_ag M.1 ad ad' → pm_ag M.1 ca ca' → pm_X D A s c0 s0 H' locs' ls' ad' ca' L' st' M' S' → W p l e R s m args below meth c H' locs' (M'.2.1 - c0) (M'.2.2 - s0) Q (F0 m pc' ls' (st'.map (pm_v ad')))) : W p l e R s m args below meth c H locs (M.2.1 - c0) (M.2.2 - s0) Q (F0 m pc ls (st.map (pm_v ad))) := by
  obtain ⟨hx, hb, hml, hown, hts, hin, hRf, hRl⟩ := hf
  obtain ⟨hI, hl, hst, hL, hc0, hs0⟩ := id hX
  have hpk : 32 ≤ M.1 := hI.2.2.2.2.2.2.2.1
  have hlen : n = 1 := by
    rcases hlen with h | h
    · exact absurd h (by intro q; cases q)
    · exact h.symm
  subst hlen
  cases hres
  simp only [pm_step] at hs
  split at hs
  · rename_i j a r
    split at hs
    · rename_i n9 f hSa
      split at hs
      · rename_i hc
        cases hs
        have he9 : (pm_w ad ca M.1 S)[a - pm_k]? = some (ad a, .inl (ca a, n9, .inr (.inl f))) := by rw [pm_w_get hc.1 hc.2.1, hSa]; rfl
        refine va_lald hx hb (hI.K hc.1 hc.2.1 hSa) hI.2.2.1 (a - pm_k) 0 he9 rfl (pm_in_of hc.2.2) hdec ?_
        refine kk H locs ls ad ca (fun _ _ => rfl) (fun _ _ => rfl) ⟨hI, hl, pm_c1 (pm_wv_long _ _) (pm_t1 (pm_t1 hst)), hL, hc0, hs0⟩
      · cases hs
    · cases hs
  · cases hs
theorem ps_aaload (hf : pm_fx p R s m args meth c k) (hX : pm_X D A s c0 s0 H locs ls ad ca L st M S) (hLs : L.length = pm_L k) (hdec : decode (pm_B k) pc = .ok (.aaload, n)) (hlen : pm_len .aaload = 0 ∨ pm_len .aaload = n) (hres : pm_res (pm_O k) pc .aaload = some i) (hs : pm_step i n pc L st M S = some (pc', L', st', M', S'))
    (kk : ∀ (H' : Heap) (locs' : List Loc) (ls' : Array Slot) (ad' : Nat → Nat) (ca' : Nat → ClassId), pm_ag M.1 ad ad' → pm_ag M.1 ca ca' → pm_X D A s c0 s0 H' locs' ls' ad' ca' L' st' M' S' → W p l e R s m args below meth c H' locs' (M'.2.1 - c0) (M'.2.2 - s0) Q (F0 m pc' ls' (st'.map (pm_v ad')))) : W p l e R s m args below meth c H locs (M.2.1 - c0) (M.2.2 - s0) Q (F0 m pc ls (st.map (pm_v ad))) := by
  obtain ⟨hx, hb, hml, hown, hts, hin, hRf, hRl⟩ := hf
  obtain ⟨hI, hl, hst, hL, hc0, hs0⟩ := id hX
  have hpk : 32 ≤ M.1 := hI.2.2.2.2.2.2.2.1
  have hlen : n = 1 := by
    rcases hlen with h | h
    · exact absurd h (by intro q; cases q)
    · exact h.symm
  subst hlen
  cases hres
  simp only [pm_step] at hs
  split at hs
  · rename_i j a r
    split at hs
    · rename_i n9 f hSa
      split at hs
      · rename_i hc
        cases hs
        have he9 : (pm_w ad ca M.1 S)[a - pm_k]? = some (ad a, .inl (ca a, n9, .inr (.inr (.inr (.inr (fun j => (f j).map ad)))))) := by rw [pm_w_get hc.1 hc.2.1, hSa]; rfl
        refine va_aldq (C := RX7) hx hb (hI.K hc.1 hc.2.1 hSa) hI.2.2.1 (a - pm_k) 0 he9 rfl (pm_in_of hc.2.2) hdec ?_
        have hwe : pm_we M.1 (S a) := hI.2.2.2.2.2.2.1 a hc.2.1
        rw [hSa] at hwe
        have hfin : W p l e R s m args below meth c H locs (M.2.1 - c0) (M.2.2 - s0) Q (F0 m (pc + 1) ls ((va_rf (f j.toNatClampNeg) :: r).map (pm_v ad))) := by
          refine kk H locs ls ad ca (fun _ _ => rfl) (fun _ _ => rfl) ⟨hI, hl, pm_c1 (fun i9 e9 => ?_) (pm_t1 (pm_t1 hst)), hL, hc0, hs0⟩
          cases hj : f j.toNatClampNeg with
          | none => rw [hj] at e9; cases e9
          | some b9 => rw [hj] at e9; cases e9; exact hwe _ _ hj
        cases hj : f j.toNatClampNeg with
        | none => rw [hj] at hfin; exact hfin
        | some b9 => rw [hj] at hfin; exact hfin
      · cases hs
    · cases hs
  · cases hs
theorem ps_iastore (hf : pm_fx p R s m args meth c k) (hX : pm_X D A s c0 s0 H locs ls ad ca L st M S) (hLs : L.length = pm_L k) (hdec : decode (pm_B k) pc = .ok (.iastore, n)) (hlen : pm_len .iastore = 0 ∨ pm_len .iastore = n) (hres : pm_res (pm_O k) pc .iastore = some i) (hs : pm_step i n pc L st M S = some (pc', L', st', M', S'))
    (kk : ∀ (H' : Heap) (locs' : List Loc) (ls' : Array Slot) (ad' : Nat → Nat) (ca' : Nat → ClassId), pm_ag M.1 ad ad' → pm_ag M.1 ca ca' → pm_X D A s c0 s0 H' locs' ls' ad' ca' L' st' M' S' → W p l e R s m args below meth c H' locs' (M'.2.1 - c0) (M'.2.2 - s0) Q (F0 m pc' ls' (st'.map (pm_v ad')))) : W p l e R s m args below meth c H locs (M.2.1 - c0) (M.2.2 - s0) Q (F0 m pc ls (st.map (pm_v ad))) := by
  obtain ⟨hx, hb, hml, hown, hts, hin, hRf, hRl⟩ := hf
  obtain ⟨hI, hl, hst, hL, hc0, hs0⟩ := id hX
  have hpk : 32 ≤ M.1 := hI.2.2.2.2.2.2.2.1
  have hlen : n = 1 := by
    rcases hlen with h | h
    · exact absurd h (by intro q; cases q)
    · exact h.symm
  subst hlen
  cases hres
  simp only [pm_step] at hs
  split at hs
  · rename_i v j a r
    split at hs
    · rename_i n9 f hSa
      split at hs
      · rename_i hc
        cases hs
        have he9 : (pm_w ad ca M.1 S)[a - pm_k]? = some (ad a, .inl (ca a, n9, .inl f)) := by rw [pm_w_get hc.1 hc.2.1, hSa]; rfl
        refine va_iast hx hb (hI.K hc.1 hc.2.1 hSa) hI.2.2.1 hI.2.2.2.1 hI.2.2.2.2.1 (a - pm_k) 0 he9 rfl (pm_in_of hc.2.2) hdec (fun H1 locs1 hP hD hS => ?_)
        exact kk H1 locs1 ls ad ca (fun _ _ => rfl) (fun _ _ => rfl) ⟨hI.put (e := .inl (0, n9, .inl (upd f j.toNatClampNeg v))) hc.1 hc.2.1 (fun t x h => by cases h; exact ⟨_, hSa⟩) trivial hP hD hS, hl, pm_t1 (pm_t1 (pm_t1 hst)), hL, hc0, hs0⟩
      · cases hs
    · cases hs
  · cases hs
theorem ps_bastore (hf : pm_fx p R s m args meth c k) (hX : pm_X D A s c0 s0 H locs ls ad ca L st M S) (hLs : L.length = pm_L k) (hdec : decode (pm_B k) pc = .ok (.bastore, n)) (hlen : pm_len .bastore = 0 ∨ pm_len .bastore = n) (hres : pm_res (pm_O k) pc .bastore = some i) (hs : pm_step i n pc L st M S = some (pc', L', st', M', S'))
    (kk : ∀ (H' : Heap) (locs' : List Loc) (ls' : Array Slot) (ad' : Nat → Nat) (ca' : Nat → ClassId), pm_ag M.1 ad ad' → pm_ag M.1 ca ca' → pm_X D A s c0 s0 H' locs' ls' ad' ca' L' st' M' S' → W p l e R s m args below meth c H' locs' (M'.2.1 - c0) (M'.2.2 - s0) Q (F0 m pc' ls' (st'.map (pm_v ad')))) : W p l e R s m args below meth c H locs (M.2.1 - c0) (M.2.2 - s0) Q (F0 m pc ls (st.map (pm_v ad))) := by
  obtain ⟨hx, hb, hml, hown, hts, hin, hRf, hRl⟩ := hf
  obtain ⟨hI, hl, hst, hL, hc0, hs0⟩ := id hX
  have hpk : 32 ≤ M.1 := hI.2.2.2.2.2.2.2.1
  have hlen : n = 1 := by
    rcases hlen with h | h
    · exact absurd h (by intro q; cases q)
    · exact h.symm
  subst hlen
  cases hres
  simp only [pm_step] at hs
  split at hs
  · rename_i v j a r
    split at hs
    · rename_i n9 f hSa
      split at hs
      · rename_i hc
        cases hs
        have he9 : (pm_w ad ca M.1 S)[a - pm_k]? = some (ad a, .inl (ca a, n9, .inl f)) := by rw [pm_w_get hc.1 hc.2.1, hSa]; rfl
        refine va_bast hx hb (hI.K hc.1 hc.2.1 hSa) hI.2.2.1 hI.2.2.2.1 hI.2.2.2.2.1 (a - pm_k) 0 he9 rfl (pm_in_of hc.2.2) hdec (fun H1 locs1 hP hD hS => ?_)
        exact kk H1 locs1 ls ad ca (fun _ _ => rfl) (fun _ _ => rfl) ⟨hI.put (e := .inl (1, n9, .inl (upd f j.toNatClampNeg (vp_nar .byte v)))) hc.1 hc.2.1 (fun t x h => by cases h; exact ⟨_, hSa⟩) trivial hP hD hS, hl, pm_t1 (pm_t1 (pm_t1 hst)), hL, hc0, hs0⟩
      · cases hs
    · cases hs
  · cases hs
theorem ps_aastore (hf : pm_fx p R s m args meth c k) (hX : pm_X D A s c0 s0 H locs ls ad ca L st M S) (hLs : L.length = pm_L k) (hdec : decode (pm_B k) pc = .ok (.aastore, n)) (hlen : pm_len .aastore = 0 ∨ pm_len .aastore = n) (hres : pm_res (pm_O k) pc .aastore = some i) (hs : pm_step i n pc L st M S = some (pc', L', st', M', S'))
    (kk : ∀ (H' : Heap) (locs' : List Loc) (ls' : Array Slot) (ad' : Nat → Nat) (ca' : Nat → ClassId), pm_ag M.1 ad ad' → pm_ag M.1 ca ca' → pm_X D A s c0 s0 H' locs' ls' ad' ca' L' st' M' S' → W p l e R s m args below meth c H' locs' (M'.2.1 - c0) (M'.2.2 - s0) Q (F0 m pc' ls' (st'.map (pm_v ad')))) : W p l e R s m args below meth c H locs (M.2.1 - c0) (M.2.2 - s0) Q (F0 m pc ls (st.map (pm_v ad))) := by
  obtain ⟨hx, hb, hml, hown, hts, hin, hRf, hRl⟩ := hf
  obtain ⟨hI, hl, hst, hL, hc0, hs0⟩ := id hX
  have hpk : 32 ≤ M.1 := hI.2.2.2.2.2.2.2.1
  have hlen : n = 1 := by
    rcases hlen with h | h
    · exact absurd h (by intro q; cases q)
    · exact h.symm
  subst hlen
  cases hres
  simp only [pm_step] at hs
  split at hs
  · rename_i v j a r
    split at hs
    · rename_i n9 f vs hSa hSv
      split at hs
      · rename_i hc
        cases hs
        have he9 : (pm_w ad ca M.1 S)[a - pm_k]? = some (ad a, .inl (ca a, n9, .inr (.inr (.inr (.inr (fun j => (f j).map ad)))))) := by rw [pm_w_get hc.1 hc.2.1, hSa]; rfl
        have hv9 : (pm_w ad ca M.1 S)[v - pm_k]? = some (ad v, .inr (7, vs.map (pm_v ad))) := by rw [pm_w_get hc.2.2.1 hc.2.2.2.1, hSv]; rfl
        have hwe : pm_we M.1 (S a) := hI.2.2.2.2.2.2.1 a hc.2.1
        rw [hSa] at hwe
        refine va_astq (r := (RX7, TX7, 3)) hx hb (hI.K hc.1 hc.2.1 hSa) hI.2.2.1 hI.2.2.2.1 hI.2.2.2.2.1 (a - pm_k) 0 (v - pm_k) 7 he9 rfl hv9 rfl (pm_in_of hc.2.2.2.2) hdec (fun H1 locs1 hP hD hS => ?_)
        have hup : va_up (fun j => (f j).map ad) j.toNatClampNeg (some (ad v)) = fun q => ((va_up f j.toNatClampNeg (some v)) q).map ad := by
          funext q
          by_cases hq : q = j.toNatClampNeg
          · simp [va_up, hq]
          · simp [va_up, hq]
        rw [hup] at hP hD
        refine kk H1 locs1 ls ad ca (fun _ _ => rfl) (fun _ _ => rfl) ⟨hI.put (e := .inl (3, n9, .inr (.inr (.inr (.inr (va_up f j.toNatClampNeg (some v))))))) hc.1 hc.2.1 (fun t x h => by cases h; exact ⟨_, hSa⟩) (fun q i9 e9 => ?_) hP hD hS, hl, pm_t1 (pm_t1 (pm_t1 hst)), hL, hc0, hs0⟩
        by_cases hq : q = j.toNatClampNeg
        · simp [va_up, hq] at e9
          subst e9
          exact hc.2.2.2.1
        · simp [va_up, hq] at e9
          exact hwe q i9 e9
      · cases hs
    · cases hs
  · cases hs
end PMU
