theorem pm_nar {t : FieldType} {v : Value} (h : fits t v = true) (ht : t ≠ .byte ∧ t ≠ .char ∧ t ≠ .short) : narrow t v = v := by
  obtain ⟨h1, h2, h3⟩ := ht
  cases t <;> cases v <;> simp [fits] at h <;> try rfl
  · exact absurd rfl h1
  · exact absurd rfl h2
  · exact absurd rfl h3
  · rcases h with rfl | rfl <;> rfl
theorem pm_tyn : ∀ ci, ci < 11 → ∀ k, k < pm_nf ci → pm_ty ci k ≠ .byte ∧ pm_ty ci k ≠ .char ∧ pm_ty ci k ≠ .short := by
  intro ci h
  match ci, h with
  | 0, _ => decide +kernel
  | 1, _ => decide +kernel
  | 2, _ => decide +kernel
  | 3, _ => decide +kernel
  | 4, _ => decide +kernel
  | 5, _ => decide +kernel
  | 6, _ => decide +kernel
  | 7, _ => decide +kernel
  | 8, _ => decide +kernel
  | 9, _ => decide +kernel
  | 10, _ => decide +kernel
theorem pm_ldt : ∀ (o : Nat), ∀ q ∈ pm_lds.getD o [], q.2.1 ≠ 0 → 3 ≤ q.2.2 ∧ (pm_txt[q.2.2 - 3]?).any (fun e => e.1 == o && e.2.1 == q.1) = true := by
  intro o
  match o with
  | 0 => decide
  | 1 => decide
  | 2 => decide
  | 3 => decide
  | 4 => decide
  | 5 => decide
  | 6 => decide
  | 7 => decide
  | 8 => decide
  | 9 => decide
  | 10 => decide
  | 11 => decide
  | 12 => decide
  | 13 => decide
  | n + 14 => intro q h; exact absurd h List.not_mem_nil
theorem pm_I.inj {D : va_G} {A : Nat → Prop} {s : State} {H : Heap} {locs : List Loc} {ad : Nat → Nat} {ca : Nat → ClassId} {M : pm_M} {S : pm_S} (h : pm_I D A s H locs ad ca M S) {a b : Nat} (ha : pm_k ≤ a ∧ a < M.1) (hb : pm_k ≤ b ∧ b < M.1) (e : ad a = ad b) : a = b := by
  have := h.2.2.2.1.1 (a - pm_k) (b - pm_k) _ _ (pm_w_get ha.1 ha.2) (pm_w_get hb.1 hb.2) e
  omega
section PMT
variable {p : Program} {l : Launch} {e : Env} {R : Room} {s : State} {m : MethodId} {args : Array Value} {below : List Frame} {meth : Method} {c : Code} {H : Heap} {locs : List Loc} {Q : State → Prop} {D : va_G} {A : Nat → Prop} {c0 s0 : Nat} {ls : Array Slot} {ad : Nat → Nat} {ca : Nat → ClassId} {k n pc pc' : Nat} {L st L' st' : List Value} {M M' : pm_M} {S S' : pm_S} {i raw : Instr}
theorem ps_acmp {d : Int} (hf : pm_fx p R s m args meth c k) (hX : pm_X D A s c0 s0 H locs ls ad ca L st M S) (hdec : decode (pm_B k) pc = .ok (.if_acmp .eq d, n)) (hlen : pm_len (.if_acmp .eq d) = 0 ∨ pm_len (.if_acmp .eq d) = n) (hres : pm_res (pm_O k) pc (.if_acmp .eq d) = some i) (hs : pm_step i n pc L st M S = some (pc', L', st', M', S'))
    (kk : ∀ (H' : Heap) (locs' : List Loc) (ls' : Array Slot) (ad' : Nat → Nat) (ca' : Nat → ClassId), pm_ag M.1 ad ad' → pm_ag M.1 ca ca' → pm_X D A s c0 s0 H' locs' ls' ad' ca' L' st' M' S' → W p l e R s m args below meth c H' locs' (M'.2.1 - c0) (M'.2.2 - s0) Q (F0 m pc' ls' (st'.map (pm_v ad')))) : W p l e R s m args below meth c H locs (M.2.1 - c0) (M.2.2 - s0) Q (F0 m pc ls (st.map (pm_v ad))) := by
  obtain ⟨hx, hb, hml, hown, hts, hin, hRf, hRl⟩ := hf
  obtain ⟨hI, hl, hst, hL, hc0, hs0⟩ := id hX
  have hlen : n = 3 := by
    rcases hlen with h | h
    · exact absurd h (by intro q; cases q)
    · exact h.symm
  subst hlen
  have hq : 0 ≤ (pc : Int) + d := by
    by_cases h : 0 ≤ (pc : Int) + d
    · exact h
    · simp [pm_res, h] at hres
  simp only [pm_res, if_pos hq] at hres
  cases hres
  simp only [pm_step] at hs
  split at hs
  · rename_i b a r
    split at hs
    · rename_i hab
      refine lv_acmp_eq (rx := some (ad a)) (ry := some (ad b)) hx hb hdec (pm_tn hq) (fun h => ?_) (fun h => ?_)
      · rw [if_pos (hI.inj ⟨hab.1, hab.2.2.1⟩ ⟨hab.2.1, hab.2.2.2⟩ (Option.some.inj h))] at hs
        cases hs
        refine kk H locs ls ad ca (fun _ _ => rfl) (fun _ _ => rfl) ⟨hI, hl, pm_t1 (pm_t1 hst), hL, hc0, hs0⟩
      · rw [if_neg (fun e => h (by rw [e]))] at hs
        cases hs
        refine kk H locs ls ad ca (fun _ _ => rfl) (fun _ _ => rfl) ⟨hI, hl, pm_t1 (pm_t1 hst), hL, hc0, hs0⟩
    · cases hs
  · cases hs
theorem ps_tsw {d lo hi : Int} {offs : Array Int} (hf : pm_fx p R s m args meth c k) (hX : pm_X D A s c0 s0 H locs ls ad ca L st M S) (hdec : decode (pm_B k) pc = .ok (.tableswitch d lo hi offs, n)) (hs : pm_step (.tableswitch d lo hi offs) n pc L st M S = some (pc', L', st', M', S'))
    (kk : ∀ (H' : Heap) (locs' : List Loc) (ls' : Array Slot) (ad' : Nat → Nat) (ca' : Nat → ClassId), pm_ag M.1 ad ad' → pm_ag M.1 ca ca' → pm_X D A s c0 s0 H' locs' ls' ad' ca' L' st' M' S' → W p l e R s m args below meth c H' locs' (M'.2.1 - c0) (M'.2.2 - s0) Q (F0 m pc' ls' (st'.map (pm_v ad')))) : W p l e R s m args below meth c H locs (M.2.1 - c0) (M.2.2 - s0) Q (F0 m pc ls (st.map (pm_v ad))) := by
  obtain ⟨hx, hb, hml, hown, hts, hin, hRf, hRl⟩ := hf
  obtain ⟨hI, hl, hst, hL, hc0, hs0⟩ := id hX
  simp only [pm_step] at hs
  split at hs
  · rename_i a r
    split at hs
    · rename_i ho
      split at hs
      · rename_i hq
        cases hs
        refine lv_tableOut hx hb hdec ho (pm_tn hq) ?_
        refine kk H locs ls ad ca (fun _ _ => rfl) (fun _ _ => rfl) ⟨hI, hl, pm_t1 hst, hL, hc0, hs0⟩
      · cases hs
    · rename_i ho
      split at hs
      · rename_i off hoff
        split at hs
        · rename_i hq
          cases hs
          refine lv_tableIn hx hb hdec (fun h => ho (Or.inl h)) (fun h => ho (Or.inr h)) hoff (pm_tn hq) ?_
          refine kk H locs ls ad ca (fun _ _ => rfl) (fun _ _ => rfl) ⟨hI, hl, pm_t1 hst, hL, hc0, hs0⟩
        · cases hs
      · cases hs
  · cases hs
theorem ps_lsw {d : Int} {ps : Array (Int × Int)} (hf : pm_fx p R s m args meth c k) (hX : pm_X D A s c0 s0 H locs ls ad ca L st M S) (hdec : decode (pm_B k) pc = .ok (.lookupswitch d ps, n)) (hs : pm_step (.lookupswitch d ps) n pc L st M S = some (pc', L', st', M', S'))
    (kk : ∀ (H' : Heap) (locs' : List Loc) (ls' : Array Slot) (ad' : Nat → Nat) (ca' : Nat → ClassId), pm_ag M.1 ad ad' → pm_ag M.1 ca ca' → pm_X D A s c0 s0 H' locs' ls' ad' ca' L' st' M' S' → W p l e R s m args below meth c H' locs' (M'.2.1 - c0) (M'.2.2 - s0) Q (F0 m pc' ls' (st'.map (pm_v ad')))) : W p l e R s m args below meth c H locs (M.2.1 - c0) (M.2.2 - s0) Q (F0 m pc ls (st.map (pm_v ad))) := by
  obtain ⟨hx, hb, hml, hown, hts, hin, hRf, hRl⟩ := hf
  obtain ⟨hI, hl, hst, hL, hc0, hs0⟩ := id hX
  simp only [pm_step] at hs
  split at hs
  · rename_i a r
    split at hs
    · rename_i hq
      cases hs
      refine lv_lookup hx hb hdec hq.1 rfl (pm_tn hq.2) ?_
      refine kk H locs ls ad ca (fun _ _ => rfl) (fun _ _ => rfl) ⟨hI, hl, pm_t1 hst, hL, hc0, hs0⟩
    · cases hs
  · cases hs
theorem ps_getfield {cp : Nat} (hf : pm_fx p R s m args meth c k) (hX : pm_X D A s c0 s0 H locs ls ad ca L st M S) (hdec : decode (pm_B k) pc = .ok (.getfield cp, n)) (hlen : pm_len (.getfield cp) = 0 ∨ pm_len (.getfield cp) = n) (hres : pm_res (pm_O k) pc (.getfield cp) = some i) (hs : pm_step i n pc L st M S = some (pc', L', st', M', S'))
    (kk : ∀ (H' : Heap) (locs' : List Loc) (ls' : Array Slot) (ad' : Nat → Nat) (ca' : Nat → ClassId), pm_ag M.1 ad ad' → pm_ag M.1 ca ca' → pm_X D A s c0 s0 H' locs' ls' ad' ca' L' st' M' S' → W p l e R s m args below meth c H' locs' (M'.2.1 - c0) (M'.2.2 - s0) Q (F0 m pc' ls' (st'.map (pm_v ad')))) : W p l e R s m args below meth c H locs (M.2.1 - c0) (M.2.2 - s0) Q (F0 m pc ls (st.map (pm_v ad))) := by
  obtain ⟨hx, hb, hml, hown, hts, hin, hRf, hRl⟩ := hf
  obtain ⟨hI, hl, hst, hL, hc0, hs0⟩ := id hX
  have hlen : n = 3 := by
    rcases hlen with h | h
    · exact absurd h (by intro q; cases q)
    · exact h.symm
  subst hlen
  simp only [pm_res] at hres
  split at hres
  · rename_i q hq
    cases hres
    obtain ⟨hm, he⟩ := pm_find hq
    have hcp : q.1 = cp := by simpa using he
    obtain ⟨hw, hk1, hk2, hk3⟩ := pm_fqs (pm_O k) q hm
    obtain ⟨q1, ci, kf⟩ := q
    dsimp only at hcp hw hk1 hk2 hk3 hs
    subst hcp
    simp only [pm_step] at hs
    rw [show (64 * ci + kf) % 64 = kf by omega, show (64 * ci + kf) / 64 = ci by omega] at hs
    split at hs
    · rename_i a r
      split at hs
      · rename_i ci' fs hSa
        split at hs
        · rename_i hc
          obtain ⟨ha1, ha2, hci, hkf⟩ := hc
          subst hci
          split at hs
          · rename_i v hv
            cases hs
            have he9 : (pm_w ad ca M.1 S)[a - pm_k]? = some (ad a, .inr (ci', fs.map (pm_v ad))) := by rw [pm_w_get ha1 ha2, hSa]; rfl
            refine va_get (own := pm_cn (pm_O k)) (C := pm_cn ci') (T := pm_fT ci') (N := pm_nf ci') (v := pm_v ad v) hx hb hts (pm_lay ci' hk2) hown hI.1 hI.2.2.1 (a - pm_k) he9 (pm_vw ci' hk2) kf hk1 (hts _ hw) (fun _ h => h) (by rw [List.getElem?_map, hv]; rfl) hdec ?_
            have hwe : pm_we M.1 (S a) := hI.2.2.2.2.2.2.1 a ha2
            rw [hSa] at hwe
            refine kk H locs ls ad ca (fun _ _ => rfl) (fun _ _ => rfl) ⟨hI, hl, pm_c1 (hwe v (List.mem_of_getElem? hv)) (pm_t1 hst), hL, hc0, hs0⟩
          · cases hs
        · cases hs
      · cases hs
    · cases hs
  · cases hres
theorem ps_putfield {cp : Nat} (hf : pm_fx p R s m args meth c k) (hX : pm_X D A s c0 s0 H locs ls ad ca L st M S) (hdec : decode (pm_B k) pc = .ok (.putfield cp, n)) (hlen : pm_len (.putfield cp) = 0 ∨ pm_len (.putfield cp) = n) (hres : pm_res (pm_O k) pc (.putfield cp) = some i) (hrm : pm_rm k i = true) (hs : pm_step i n pc L st M S = some (pc', L', st', M', S'))
    (kk : ∀ (H' : Heap) (locs' : List Loc) (ls' : Array Slot) (ad' : Nat → Nat) (ca' : Nat → ClassId), pm_ag M.1 ad ad' → pm_ag M.1 ca ca' → pm_X D A s c0 s0 H' locs' ls' ad' ca' L' st' M' S' → W p l e R s m args below meth c H' locs' (M'.2.1 - c0) (M'.2.2 - s0) Q (F0 m pc' ls' (st'.map (pm_v ad')))) : W p l e R s m args below meth c H locs (M.2.1 - c0) (M.2.2 - s0) Q (F0 m pc ls (st.map (pm_v ad))) := by
  obtain ⟨hx, hb, hml, hown, hts, hin, hRf, hRl⟩ := hf
  obtain ⟨hI, hl, hst, hL, hc0, hs0⟩ := id hX
  have hlen : n = 3 := by
    rcases hlen with h | h
    · exact absurd h (by intro q; cases q)
    · exact h.symm
  subst hlen
  simp only [pm_res] at hres
  split at hres
  · rename_i q hq
    cases hres
    obtain ⟨hm, he⟩ := pm_find hq
    have hcp : q.1 = cp := by simpa using he
    obtain ⟨hw, hk1, hk2, hk3⟩ := pm_fqs (pm_O k) q hm
    obtain ⟨q1, ci, kf⟩ := q
    dsimp only at hcp hw hk1 hk2 hk3 hs hrm
    subst hcp
    simp only [pm_step] at hs
    simp only [pm_rm, pm_call, decide_eq_true_eq] at hrm
    rw [show (64 * ci + kf) % 64 = kf by omega, show (64 * ci + kf) / 64 = ci by omega] at hs hrm
    split at hs
    · rename_i v a r
      split at hs
      · rename_i ci' fs hSa
        split at hs
        · rename_i hc
          obtain ⟨ha1, ha2, hci, hkf, hlf, hft⟩ := hc
          subst hci
          cases hs
          have he9 : (pm_w ad ca M.1 S)[a - pm_k]? = some (ad a, .inr (ci', fs.map (pm_v ad))) := by rw [pm_w_get ha1 ha2, hSa]; rfl
          have hwe : pm_we M.1 (S a) := hI.2.2.2.2.2.2.1 a ha2
          rw [hSa] at hwe
          have hfv : fits (pm_ty ci' kf) (pm_v ad v) = true := by cases v <;> first | exact hft | (cases hty : pm_ty ci' kf <;> rw [hty] at hft <;> first | rfl | cases hft)
          have hnv : narrow (pm_ty ci' kf) (pm_v ad v) = pm_v ad v := pm_nar hfv (pm_tyn ci' hk2 kf hkf)
          have hset : ((fs.map (pm_v ad)).set kf (pm_v ad v)) = (fs.set kf v).map (pm_v ad) := by rw [List.map_set]
          have hfin : ∀ (H1 : Heap) (locs1 : List Loc), va_P D vwCl ((pm_w ad ca M.1 S).set (a - pm_k) (ad a, .inr (ci', (fs.map (pm_v ad)).set kf (pm_v ad v)))) H1 → va_D A ((pm_w ad ca M.1 S).set (a - pm_k) (ad a, .inr (ci', (fs.map (pm_v ad)).set kf (pm_v ad v)))) → va_S A s.heap H1 locs1 → W p l e R s m args below meth c H1 locs1 (M.2.1 - c0) (M.2.2 - s0) Q (F0 m (pc + 3) ls (st'.map (pm_v ad))) := by
            intro H1 locs1 hP hD hS
            rw [hset] at hP hD
            refine kk H1 locs1 ls ad ca (fun _ _ => rfl) (fun _ _ => rfl) ⟨hI.put (e := .inr (ci', fs.set kf v)) ha1 ha2 (fun t x h => by cases h) (fun w hw9 => ?_) hP hD hS, hl, pm_t1 (pm_t1 hst), hL, hc0, hs0⟩
            rcases List.mem_or_eq_of_mem_set hw9 with h | rfl
            · exact hwe w h
            · exact pm_h1 hst
          cases hfb : (pm_fT ci' kf).2.2.2 with
          | false =>
            exact va_put (own := pm_cn (pm_O k)) (C := pm_cn ci') (T := pm_fT ci') (N := pm_nf ci') (v := pm_v ad v) hx hb hts (pm_lay ci' hk2) (pm_ty ci') (pm_tyk ci' hk2) (pm_nmk ci' hk2) hown hI.1 hI.2.2.1 hI.2.2.2.1 hI.2.2.2.2.1 (a - pm_k) he9 (pm_vw ci' hk2) kf hk1 (hts _ hw) (fun _ h => h) hfb (pm_tyk ci' hk2 kf hkf) hnv hfv (by rw [List.length_map]; exact hlf) hdec hfin
          | true =>
            obtain ⟨hk2c, hoc⟩ := hrm hfb
            exact va_putF (own := pm_cn (pm_O k)) (C := pm_cn ci') (T := pm_fT ci') (N := pm_nf ci') (v := pm_v ad v) hx hb hts (pm_lay ci' hk2) (pm_ty ci') (pm_tyk ci' hk2) (pm_nmk ci' hk2) hown hI.1 hI.2.2.1 hI.2.2.2.1 hI.2.2.2.2.1 (a - pm_k) he9 (pm_vw ci' hk2) kf hk1 (hts _ hw) (fun _ h => h) hfb (hin hk2c) (by rw [hoc]; exact pm_own ci' hk2 kf hkf) (pm_tyk ci' hk2 kf hkf) hnv hfv (by rw [List.length_map]; exact hlf) hdec hfin
        · cases hs
      · cases hs
    · cases hs
  · cases hres
theorem ps_getstatic {cp : Nat} (hf : pm_fx p R s m args meth c k) (hX : pm_X D A s c0 s0 H locs ls ad ca L st M S) (hdec : decode (pm_B k) pc = .ok (.getstatic cp, n)) (hlen : pm_len (.getstatic cp) = 0 ∨ pm_len (.getstatic cp) = n) (hres : pm_res (pm_O k) pc (.getstatic cp) = some i) (hs : pm_step i n pc L st M S = some (pc', L', st', M', S'))
    (kk : ∀ (H' : Heap) (locs' : List Loc) (ls' : Array Slot) (ad' : Nat → Nat) (ca' : Nat → ClassId), pm_ag M.1 ad ad' → pm_ag M.1 ca ca' → pm_X D A s c0 s0 H' locs' ls' ad' ca' L' st' M' S' → W p l e R s m args below meth c H' locs' (M'.2.1 - c0) (M'.2.2 - s0) Q (F0 m pc' ls' (st'.map (pm_v ad')))) : W p l e R s m args below meth c H locs (M.2.1 - c0) (M.2.2 - s0) Q (F0 m pc ls (st.map (pm_v ad))) := by
  obtain ⟨hx, hb, hml, hown, hts, hin, hRf, hRl⟩ := hf
  obtain ⟨hI, hl, hst, hL, hc0, hs0⟩ := id hX
  have hlen : n = 3 := by
    rcases hlen with h | h
    · exact absurd h (by intro q; cases q)
    · exact h.symm
  subst hlen
  simp only [pm_res] at hres
  split at hres
  · rename_i q hq
    cases hres
    obtain ⟨hm, he⟩ := pm_find hq
    have hcp : q.1 = cp := by simpa using he
    obtain ⟨hw0, hw1, hns, hj⟩ := pm_gqs (pm_O k) q hm
    obtain ⟨q1, j, ns⟩ := q
    dsimp only at hcp hw0 hw1 hns hj hs
    subst hcp
    simp only [pm_step] at hs
    cases hs
    have hpk : 32 ≤ M.1 := hI.2.2.2.2.2.2.2.1
    have hZ : va_Z (pm_gf j).1 (pm_gf j).2 "[I" (.ref (ad j)) A s s.heap := by
      rcases hj with rfl | rfl
      · exact hI.2.2.2.2.2.2.2.2.2.1.1
      · exact hI.2.2.2.2.2.2.2.2.2.1.2.1
    have hjl : j < M.1 := by rcases hj with rfl | rfl <;> omega
    have hfin : W p l e R s m args below meth c H locs (M.2.1 - c0) (M.2.2 - s0) Q (F0 m (pc + 3) ls (.ref (ad j) :: st.map (pm_v ad))) := by
      refine kk H locs ls ad ca (fun _ _ => rfl) (fun _ _ => rfl) ⟨hI, hl, pm_c1 (pm_wv_ref hjl) hst, hL, hc0, hs0⟩
    rcases (show ns = 0 ∨ ns = 1 by omega) with rfl | rfl
    · exact va_gets hx hb hZ hI.2.2.2.2.1 hown (hts _ (hw0 rfl)) (fun _ h => h) hdec hfin
    · exact va_getsN hx hb hZ hI.2.2.2.2.1 hown (va_Nw.use rfl (hI.2.2.2.2.2.2.2.2.2.2.1.1 _ (hw1 rfl))) (fun _ h => h) hdec hfin
  · cases hres
theorem ps_ldc {cp : Nat} (hf : pm_fx p R s m args meth c k) (hX : pm_X D A s c0 s0 H locs ls ad ca L st M S) (hdec : decode (pm_B k) pc = .ok (.ldc cp, n)) (hlen : pm_len (.ldc cp) = 0 ∨ pm_len (.ldc cp) = n) (hres : pm_res (pm_O k) pc (.ldc cp) = some i) (hs : pm_step i n pc L st M S = some (pc', L', st', M', S'))
    (kk : ∀ (H' : Heap) (locs' : List Loc) (ls' : Array Slot) (ad' : Nat → Nat) (ca' : Nat → ClassId), pm_ag M.1 ad ad' → pm_ag M.1 ca ca' → pm_X D A s c0 s0 H' locs' ls' ad' ca' L' st' M' S' → W p l e R s m args below meth c H' locs' (M'.2.1 - c0) (M'.2.2 - s0) Q (F0 m pc' ls' (st'.map (pm_v ad')))) : W p l e R s m args below meth c H locs (M.2.1 - c0) (M.2.2 - s0) Q (F0 m pc ls (st.map (pm_v ad))) := by
  obtain ⟨hx, hb, hml, hown, hts, hin, hRf, hRl⟩ := hf
  obtain ⟨hI, hl, hst, hL, hc0, hs0⟩ := id hX
  have hlen : n = 2 := by
    rcases hlen with h | h
    · exact absurd h (by intro q; cases q)
    · exact h.symm
  subst hlen
  simp only [pm_res] at hres
  split at hres
  · rename_i q hq
    obtain ⟨hm, he⟩ := pm_find hq
    have hcp : q.1 = cp := by simpa using he
    have hw := pm_lqs (pm_O k) q hm
    have hw2 := pm_ldt (pm_O k) q hm
    obtain ⟨q1, t, j⟩ := q
    dsimp only at hcp hres hw2
    subst hcp
    have hw : t = 0 → Cond.constant (pm_cn (pm_O k)) q1 (Int32.ofInt (j : Int)) ∈ pm_ws := hw
    split at hres
    · rename_i ht
      cases hres
      simp only [pm_step] at hs
      cases hs
      refine lv_ldc hx hb hown (hts _ (hw ht)) hdec ?_
      refine kk H locs ls ad ca (fun _ _ => rfl) (fun _ _ => rfl) ⟨hI, hl, pm_c1 (pm_wv_int _ _) hst, hL, hc0, hs0⟩
    · rename_i ht
      cases hres
      simp only [pm_step] at hs
      cases hs
      obtain ⟨h3, h4⟩ := hw2 ht
      cases hq9 : pm_txt[j - 3]? with
      | none => rw [hq9] at h4; cases h4
      | some e9 =>
        rw [hq9] at h4
        simp only [Option.any_some, Bool.and_eq_true, beq_iff_eq] at h4
        obtain ⟨h5, h6⟩ := h4
        have h7 := hI.2.2.2.2.2.2.2.2.2.2.2.1 (j - 3) e9 hq9
        rw [show 3 + (j - 3) = j by omega] at h7
        have h8 := h7.2.1
        rw [h5, h6] at h8
        have hi17 : j - 3 < 17 := (List.getElem?_eq_some_iff.mp hq9).1
        have hpk : 32 ≤ M.1 := hI.2.2.2.2.2.2.2.1
        refine va_ldcS hx hb hown h8 hdec ?_
        refine kk H locs ls ad ca (fun _ _ => rfl) (fun _ _ => rfl) ⟨hI, hl, pm_c1 (pm_wv_ref (by omega)) hst, hL, hc0, hs0⟩
  · cases hres
end PMT
