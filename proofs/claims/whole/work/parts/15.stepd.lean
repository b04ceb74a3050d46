theorem pm_mn : ∀ (o : Nat), ∀ q ∈ pm_mls.getD o [], 1000 ≤ q.2.1 → q.2.2 = 0 := by
  intro o
  match o with
  | 0 => decide +kernel
  | 1 => decide +kernel
  | 2 => decide +kernel
  | 3 => decide +kernel
  | 4 => decide +kernel
  | 5 => decide +kernel
  | 6 => decide +kernel
  | 7 => decide +kernel
  | 8 => decide +kernel
  | 9 => decide +kernel
  | 10 => decide +kernel
  | 11 => decide +kernel
  | 12 => decide +kernel
  | 13 => decide +kernel
  | n + 14 => intro q h; exact absurd h List.not_mem_nil
section PMV
variable {p : Program} {l : Launch} {e : Env} {R : Room} {s : State} {m : MethodId} {args : Array Value} {below : List Frame} {meth : Method} {c : Code} {H : Heap} {locs : List Loc} {Q : State → Prop} {D : va_G} {A : Nat → Prop} {c0 s0 : Nat} {ls : Array Slot} {ad : Nat → Nat} {ca : Nat → ClassId} {k n pc pc' : Nat} {L st L' st' : List Value} {M M' : pm_M} {S S' : pm_S} {i raw : Instr}
theorem ps_special {cp : Nat} (hf : pm_fx p R s m args meth c k) (hX : pm_X D A s c0 s0 H locs ls ad ca L st M S) (hLs : L.length = pm_L k) (hdec : decode (pm_B k) pc = .ok ((.invokespecial cp), n)) (hlen : pm_len (.invokespecial cp) = 0 ∨ pm_len (.invokespecial cp) = n) (hres : pm_res (pm_O k) pc (.invokespecial cp) = some i) (hrm : pm_rm k i = true) (hcall : pm_call i = none) (hs : pm_step i n pc L st M S = some (pc', L', st', M', S'))
    (kk : ∀ (H' : Heap) (locs' : List Loc) (ls' : Array Slot) (ad' : Nat → Nat) (ca' : Nat → ClassId), pm_ag M.1 ad ad' → pm_ag M.1 ca ca' → pm_X D A s c0 s0 H' locs' ls' ad' ca' L' st' M' S' → W p l e R s m args below meth c H' locs' (M'.2.1 - c0) (M'.2.2 - s0) Q (F0 m pc' ls' (st'.map (pm_v ad')))) : W p l e R s m args below meth c H locs (M.2.1 - c0) (M.2.2 - s0) Q (F0 m pc ls (st.map (pm_v ad))) := by
  obtain ⟨hx, hb, hml, hown, hts, hin, hRf, hRl⟩ := hf
  obtain ⟨hI, hl, hst, hL, hc0, hs0⟩ := id hX
  have hpk : 32 ≤ M.1 := hI.2.2.2.2.2.2.2.1
  have hsz : c.maxLocals = ls.size := by rw [hl.1, hLs, hml]
  have hlen : n = 3 := by
    rcases hlen with h | h
    · exact absurd h (by intro q; cases q)
    · exact h.symm
  subst hlen
  simp only [pm_res] at hres
  split at hres
  · rename_i q hq
    split at hres
    · rename_i hqk
      cases hres
      obtain ⟨hm, he⟩ := pm_find hq
      have hcp : q.1 = cp := by simpa using he
      obtain ⟨hw0, -, -, -⟩ := pm_mqs (pm_O k) q hm
      have hns := pm_mn (pm_O k) q hm
      obtain ⟨q1, t, ns⟩ := q
      dsimp only at hcp hs hrm hns hcall
      subst hcp
      simp only [pm_step] at hs
      simp only [pm_rm, hcall, decide_eq_true_eq] at hrm
      obtain ⟨rfl, hr1, hr2⟩ := hrm
      have hw : Cond.methodLink (pm_cn (pm_O k)) q1 objectInit ∈ pm_ws := hw0 (hns (by decide))
      split at hs
      · rename_i a r
        split at hs
        · rename_i hsum
          cases hs
          refine W.objInit hx hb hown (hts _ hw) (hts _ pw_oi) (hts _ pw_oc) (g := F0 m pc ls (.ref (ad a) :: st'.map (pm_v ad))) rfl hsz.symm rfl hdec (by omega) (by show 2 * 0 + _ + 12 ≤ _; rw [pm_v_sum]; omega) ?_
          refine kk H locs ls ad ca (fun _ _ => rfl) (fun _ _ => rfl) ⟨hI, hl, pm_t1 hst, hL, hc0, hs0⟩
        · cases hs
      · cases hs
    · cases hres
  · cases hres
theorem ps_static {cp : Nat} (hf : pm_fx p R s m args meth c k) (hX : pm_X D A s c0 s0 H locs ls ad ca L st M S) (hLs : L.length = pm_L k) (hdec : decode (pm_B k) pc = .ok ((.invokestatic cp), n)) (hlen : pm_len (.invokestatic cp) = 0 ∨ pm_len (.invokestatic cp) = n) (hres : pm_res (pm_O k) pc (.invokestatic cp) = some i) (hrm : pm_rm k i = true) (hcall : pm_call i = none) (hrc : M'.2.1 - c0 ≤ R.cells) (hrs : M'.2.2 - s0 ≤ R.slots) (hs : pm_step i n pc L st M S = some (pc', L', st', M', S'))
    (kk : ∀ (H' : Heap) (locs' : List Loc) (ls' : Array Slot) (ad' : Nat → Nat) (ca' : Nat → ClassId), pm_ag M.1 ad ad' → pm_ag M.1 ca ca' → pm_X D A s c0 s0 H' locs' ls' ad' ca' L' st' M' S' → W p l e R s m args below meth c H' locs' (M'.2.1 - c0) (M'.2.2 - s0) Q (F0 m pc' ls' (st'.map (pm_v ad')))) : W p l e R s m args below meth c H locs (M.2.1 - c0) (M.2.2 - s0) Q (F0 m pc ls (st.map (pm_v ad))) := by
  obtain ⟨hx, hb, hml, hown, hts, hin, hRf, hRl⟩ := hf
  obtain ⟨hI, hl, hst, hL, hc0, hs0⟩ := id hX
  have hpk : 32 ≤ M.1 := hI.2.2.2.2.2.2.2.1
  have hsz : c.maxLocals = ls.size := by rw [hl.1, hLs, hml]
  have hlen : n = 3 := by
    rcases hlen with h | h
    · exact absurd h (by intro q; cases q)
    · exact h.symm
  subst hlen
  simp only [pm_res] at hres
  split at hres
  · rename_i q hq
    split at hres
    · rename_i hqk
      cases hres
      obtain ⟨hm, he⟩ := pm_find hq
      have hcp : q.1 = cp := by simpa using he
      obtain ⟨hw0, -, -, -⟩ := pm_mqs (pm_O k) q hm
      have hns := pm_mn (pm_O k) q hm
      obtain ⟨q1, t, ns⟩ := q
      dsimp only at hcp hs hrm hns hcall
      subst hcp
      simp only [pm_step] at hs
      simp only [pm_rm, hcall] at hrm
      split at hs
      · rename_i ht
        subst ht
        have hw : Cond.methodLink (pm_cn (pm_O k)) q1 Lib.Math.max.name ∈ pm_ws := hw0 (hns (by decide))
        simp only [show ¬ (1001 = 1003) by decide, show ¬ (1001 = 1007) by decide, if_false, decide_eq_true_eq] at hrm
        split at hs
        · rename_i b a r
          split at hs
          · rename_i hsum
            cases hs
            refine va_mmax hx hb hsz hown (hts _ hw) (hts _ pw_xs) (hts _ pw_mi) (hts _ pw_xc) (by omega) (by rw [pm_v_sum]; omega) hrc hrs hdec ?_
            refine kk H locs ls ad ca (fun _ _ => rfl) (fun _ _ => rfl) ⟨hI, hl, pm_c1 (pm_wv_int _ _) (pm_t1 (pm_t1 hst)), hL, hc0, hs0⟩
          · cases hs
        · cases hs
      · split at hs
        · rename_i ht
          subst ht
          have hw : Cond.methodLink (pm_cn (pm_O k)) q1 Lib.Math.min.name ∈ pm_ws := hw0 (hns (by decide))
          simp only [show ¬ (1002 = 1003) by decide, show ¬ (1002 = 1007) by decide, if_false, decide_eq_true_eq] at hrm
          split at hs
          · rename_i b a r
            split at hs
            · rename_i hsum
              cases hs
              refine va_mmin hx hb hsz hown (hts _ hw) (hts _ pw_ns) (hts _ pw_mi) (hts _ pw_nc) (by omega) (by rw [pm_v_sum]; omega) hrc hrs hdec ?_
              refine kk H locs ls ad ca (fun _ _ => rfl) (fun _ _ => rfl) ⟨hI, hl, pm_c1 (pm_wv_int _ _) (pm_t1 (pm_t1 hst)), hL, hc0, hs0⟩
            · cases hs
          · cases hs
        · split at hs
          · rename_i ht
            subst ht
            have hw : Cond.methodLink (pm_cn (pm_O k)) q1 arraycopyName ∈ pm_ws := hw0 (hns (by decide))
            simp only [if_true, decide_eq_true_eq] at hrm
            split at hs
            · rename_i n9 dp d sp a r
              split at hs
              · rename_i n0 f n1 g hSa hSd
                split at hs
                · rename_i hc
                  obtain ⟨ha1, ha2, hd1, hd2, hsp, hdp, hn9, hb1, hb2, hsum⟩ := hc
                  cases hs
                  have he9 : (pm_w ad ca M.1 S)[a - pm_k]? = some (ad a, .inl (ca a, n0, .inl f)) := by rw [pm_w_get ha1 ha2, hSa]; rfl
                  have hd9 : (pm_w ad ca M.1 S)[d - pm_k]? = some (ad d, .inl (ca d, n1, .inl g)) := by rw [pm_w_get hd1 hd2, hSd]; rfl
                  refine va_copyi (ty := .int) hx hb hsz hown (hts _ hw) (hts _ pw_yn) (hts _ pw_ys) (hts _ pw_yi) ((hI.K ha1 ha2 hSa).app (hI.K hd1 hd2 hSd)) hI.2.2.1 hI.2.2.2.1 hI.2.2.2.2.1 (a - pm_k) (d - pm_k) 0 1 he9 hd9 rfl rfl rfl hsp hdp hn9 hb1 hb2 (fun _ _ => rfl) (by omega) (by rw [pm_v_sum]; show _ + (7 + 11) ≤ _; omega) hdec (fun H1 locs1 hP hD hS => ?_)
                  exact kk H1 locs1 ls ad ca (fun _ _ => rfl) (fun _ _ => rfl) ⟨hI.put (e := .inl (0, n1, .inl (va_cpy f g sp.toNatClampNeg dp.toNatClampNeg n9.toNatClampNeg))) hd1 hd2 (fun t x h => by cases h; exact ⟨_, hSd⟩) trivial hP hD hS, hl, pm_t1 (pm_t1 (pm_t1 (pm_t1 (pm_t1 hst)))), hL, hc0, hs0⟩
                · cases hs
              · cases hs
            · cases hs
          · cases hs
    · cases hres
  · cases hres
end PMV
