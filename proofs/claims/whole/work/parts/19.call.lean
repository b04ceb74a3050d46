section PMD
variable {p : Program} {l : Launch} {e : Env} {R : Room} {s : State} {m : MethodId} {args : Array Value} {below : List Frame} {meth : Method} {c : Code} {H : Heap} {locs : List Loc} {Q : State → Prop} {D : va_G} {A : Nat → Prop} {c0 s0 : Nat} {ls : Array Slot} {ad : Nat → Nat} {ca : Nat → ClassId} {k n pc : Nat} {L st : List Value} {M : pm_M} {S : pm_S} {i : Instr}
set_option maxHeartbeats 1000000 in
theorem pm_callW {q : Nat} {b : Bool} {r1 : Option Value} {M1 : pm_M} {S1 : pm_S} {as rest : List Value} (hf : pm_fx p R s m args meth c k) (hX : pm_X D A s c0 s0 H locs ls ad ca L st M S) (hLs : L.length = pm_L k) (hrow : pm_row k pc i n = true) (hcall : pm_call i = some (q, b)) (hst9 : st = as.reverse ++ rest) (hna : as.length = pm_na q) (hcok : pm_cok q as rest M S = true) (hM : pm_mk q → q ≠ pm_kC → pm_na q ≤ pm_L q → pm_met l q as M S r1 M1 S1) (hlow : pm_low M S M1 S1) (hrc : M1.2.1 - c0 ≤ R.cells) (hrs : M1.2.2 - s0 ≤ R.slots)
    (kk : ∀ (H' : Heap) (locs' : List Loc) (ad' : Nat → Nat) (ca' : Nat → ClassId), pm_ag M.1 ad ad' → pm_ag M.1 ca ca' → pm_X D A s c0 s0 H' locs' ls ad' ca' L (r1.toList ++ rest) M1 S1 → W p l e R s m args below meth c H' locs' (M1.2.1 - c0) (M1.2.2 - s0) Q (F0 m (pc + 3) ls ((r1.toList ++ rest).map (pm_v ad')))) : W p l e R s m args below meth c H locs (M.2.1 - c0) (M.2.2 - s0) Q (F0 m pc ls (st.map (pm_v ad))) := by
  obtain ⟨hx, hb, hml, hown, hts, hin, hRf, hRl⟩ := hf
  obtain ⟨hI, hl, hst, hL, hc0, hs0⟩ := id hX
  simp only [pm_row] at hrow
  split at hrow
  · rename_i raw n' hdec
    simp only [Bool.and_eq_true, decide_eq_true_eq] at hrow
    obtain ⟨⟨rfl, hlen, hres⟩, hrm⟩ := hrow
    simp only [pm_rm, hcall, decide_eq_true_eq] at hrm
    obtain ⟨hF, hJ, hL1, hqC⟩ := hrm
    simp only [pm_cok, Bool.and_eq_true, decide_eq_true_eq] at hcok
    obtain ⟨hsum, hcat, hrcv⟩ := hcok
    have hrw : ∀ w ∈ rest, pm_wv M.1 w := fun w hw => hst w (by rw [hst9]; exact List.mem_append_right _ hw)
    have hsz : ls.size = pm_L k := hl.1.trans hLs
    have hle := hlow.2
    have hcs : M.2.1 - c0 + (M1.2.1 - M.2.1) ≤ R.cells ∧ M.2.2 - s0 + (M1.2.2 - M.2.2) ≤ R.slots := ⟨by omega, by omega⟩
    have hroom : 2 * (F0 m pc ls (st.map (pm_v ad))).monitorRoom + ((rest.map (pm_v ad)).map fun v => v.category).sum ≤ 8 := lv_room (by rw [pm_v_sum]; exact hsum)
    have hfix : CallFix p m c (pm_B k) (pm_L k) s args pm_ws (pm_cn (pm_O k)) := ⟨hx, hb, hml, hown, hts⟩
    have hR9 : pm_F q + 1 ≤ R.frames ∧ 8 + (pm_L q + 11) + pm_J q ≤ R.locals := ⟨by omega, by omega⟩
    have hpre : ∀ U : State, U.heap = H → s.WarmedH U.vm → pm_Pc D ad ca as M S H.size (as.map (pm_v ad)).toArray U := fun U hU hW => ⟨rfl, by rw [hU], hI.call hU hW⟩
    cases raw with
    | invokevirtual cp =>
      have hlen : n' = 3 := by
        rcases hlen with h | h
        · exact absurd h (by intro z; cases z)
        · exact h.symm
      subst hlen
      simp only [pm_res] at hres
      split at hres
      · rename_i q9 hq9
        split at hres
        · rename_i hqk
          cases hres
          obtain ⟨hm, he⟩ := pm_find hq9
          have hcp : q9.1 = cp := by simpa using he
          obtain ⟨hw0, hw1, hmk, hns⟩ := pm_mqs (pm_O k) q9 hm
          obtain ⟨q1, t, ns⟩ := q9
          dsimp only at hcp hw0 hw1 hmk hns hcall hqk
          subst hcp
          simp only [pm_call] at hcall
          split at hcall
          · rename_i ht
            cases hcall
            obtain ⟨hmk, hnk⟩ := hmk ht
            have hK0 : pm_K q = 0 := hqk ht
            have hns0 : ns = 0 := by
              rcases (show ns = 0 ∨ ns = 1 by omega) with h | h
              · exact h
              · have := hnk h; omega
            have hlk : Cond.methodLink (pm_cn (pm_O k)) q1 (pm_Y q) ∈ pm_ws := by
              have := hw0 hns0
              unfold pm_Yp at this
              rw [if_neg (by omega), if_neg (by omega), if_neg (by omega), if_neg (by omega), if_neg (by omega), if_neg (by omega), if_neg (by omega)] at this
              exact this
            have hM := hM hmk hqC hL1 D ad ca H.size
            obtain ⟨hcode, hini, hd, hpn, hcn, hV, -, -⟩ := id hmk
            unfold pm_rcv at hrcv
            rw [if_neg (by omega)] at hrcv
            obtain ⟨b9, as', has9⟩ : ∃ b9 as', as = Value.ref b9 :: as' := by
              cases as with
              | nil => cases hrcv
              | cons a9 as' =>
                cases a9 with
                | ref b9 => exact ⟨b9, as', rfl⟩
                | _ => cases hrcv
            subst has9
            · simp only [Bool.and_eq_true, decide_eq_true_eq] at hrcv
              obtain ⟨⟨hb1, hb2⟩, hcls⟩ := hrcv
              split at hcls
              · rename_i ci fs hSb
                have hci : ci = pm_O q := by simpa using hcls
                subst hci
                have he9 : (pm_w ad ca M.1 S)[b9 - pm_k]? = some (ad b9, .inr (pm_O q, fs.map (pm_v ad))) := by rw [pm_w_get hb1 hb2, hSb]; rfl
                obtain ⟨r9, hr9, -⟩ := hI.2.2.1 _ _ he9
                have hlt : pm_O q < 11 := (List.getElem?_eq_some_iff.mp hr9).1
                have hrecv := va_recv hI.1 hI.2.2.1 (pm_vw _ hlt) he9
                refine pm_after (va_runV (C := (pm_Y q).cls) (b := ad b9) (As := as'.map (pm_v ad)) (rest := rest.map (pm_v ad)) hfix hM (cwV (pm_N q) hts (fun w hw => ?_) rfl rfl rfl ⟨rfl, hd⟩ hR9) ⟨pm_blind _ _ _ _ _ _ _, by rw [hcn]; exact hrecv, fun U hU hW => hpre U hU hW⟩ rfl (by unfold pm_na at hna; rw [if_neg (by omega)] at hna; simp at hna ⊢; omega) hsz (by show st.map (pm_v ad) = _; rw [hst9]; simp [pm_v]) hroom hdec hcs) (fun v st₀ t9 Lc h0 hvm hLc hQ => pm_back hX hrw hlow h0 hvm hLc hQ kk)
                unfold wsV at hw
                rcases List.mem_append.mp hw with hw | hw
                · simp only [List.mem_cons, List.not_mem_nil, or_false] at hw
                  rcases hw with rfl | rfl | rfl | rfl
                  · exact pm_gi hlk
                  · exact pm_gi (hV hK0).1
                  · exact pm_gi (hV hK0).2
                  · exact pm_gi hini
                · exact pm_gk hmk w hw
              · cases hcls
          · cases hcall
        · cases hres
      · cases hres
    | invokespecial cp =>
      have hlen : n' = 3 := by
        rcases hlen with h | h
        · exact absurd h (by intro z; cases z)
        · exact h.symm
      subst hlen
      simp only [pm_res] at hres
      split at hres
      · rename_i q9 hq9
        split at hres
        · rename_i hqk
          cases hres
          obtain ⟨hm, he⟩ := pm_find hq9
          have hcp : q9.1 = cp := by simpa using he
          obtain ⟨hw0, hw1, hmk, hns⟩ := pm_mqs (pm_O k) q9 hm
          obtain ⟨q1, t, ns⟩ := q9
          dsimp only at hcp hw0 hw1 hmk hns hcall hqk
          subst hcp
          simp only [pm_call] at hcall
          split at hcall
          · rename_i ht
            cases hcall
            obtain ⟨hmk, hnk⟩ := hmk ht
            have hK2 : pm_K q = 2 := hqk ht
            have hyp : pm_Yp q = pm_Y q := by
              unfold pm_Yp
              rw [if_neg (by omega), if_neg (by omega), if_neg (by omega), if_neg (by omega), if_neg (by omega), if_neg (by omega), if_neg (by omega)]
            rw [hyp] at hw0 hw1
            have hM := hM hmk hqC hL1 D ad ca H.size
            obtain ⟨hcode, hini, hd, hpn, hcn, -, -, hI2⟩ := id hmk
            obtain ⟨hinm, hnm, hret⟩ := hI2 hK2
            rw [hret] at hM
            have hgk := pm_gk hmk
            rw [hret] at hgk
            unfold pm_rcv at hrcv
            rw [if_neg (by omega)] at hrcv
            obtain ⟨b9, as', has9⟩ : ∃ b9 as', as = Value.ref b9 :: as' := by
              cases as with
              | nil => cases hrcv
              | cons a9 as' =>
                cases a9 with
                | ref b9 => exact ⟨b9, as', rfl⟩
                | _ => cases hrcv
            subst has9
            · rcases (show ns = 0 ∨ ns = 1 by omega) with h | h
              · exact pm_after (va_runI (b := ad b9) (As := as'.map (pm_v ad)) (rest := rest.map (pm_v ad)) hfix hM (cwI (pm_N q) hts hgk rfl rfl rfl (hts _ hini) (hts _ (hw0 h)) (hts _ hinm) hnm hd hR9) ⟨pm_blind _ _ _ _ _ _ _, fun U hU hW => hpre U hU hW⟩ rfl (by unfold pm_na at hna; rw [if_neg (by omega)] at hna; simp at hna ⊢; omega) hsz (by show st.map (pm_v ad) = _; rw [hst9]; simp [pm_v]) hroom hdec hcs) (fun v st₀ t9 Lc h0 hvm hLc hQ => pm_back hX hrw hlow h0 hvm hLc hQ kk)
              · exact pm_after (va_runIN (b := ad b9) (As := as'.map (pm_v ad)) (rest := rest.map (pm_v ad)) hfix hM ⟨va_cnB (pm_N q) hts hgk rfl rfl rfl (hI.2.2.2.2.2.2.2.2.2.2.1.1 _ (hw1 h)) (hts _ hini) hd hR9, hnm, hts _ hinm⟩ ⟨pm_blind _ _ _ _ _ _ _, fun U hU hW => hpre U hU hW⟩ rfl (by unfold pm_na at hna; rw [if_neg (by omega)] at hna; simp at hna ⊢; omega) hsz (by show st.map (pm_v ad) = _; rw [hst9]; simp [pm_v]) hroom hdec hcs) (fun v st₀ t9 Lc h0 hvm hLc hQ => pm_back hX hrw hlow h0 hvm hLc hQ kk)
          · cases hcall
        · cases hres
      · cases hres
    | invokestatic cp =>
      have hlen : n' = 3 := by
        rcases hlen with h | h
        · exact absurd h (by intro z; cases z)
        · exact h.symm
      subst hlen
      simp only [pm_res] at hres
      split at hres
      · rename_i q9 hq9
        split at hres
        · rename_i hqk
          cases hres
          obtain ⟨hm, he⟩ := pm_find hq9
          have hcp : q9.1 = cp := by simpa using he
          obtain ⟨hw0, hw1, hmk, hns⟩ := pm_mqs (pm_O k) q9 hm
          obtain ⟨q1, t, ns⟩ := q9
          dsimp only at hcp hw0 hw1 hmk hns hcall hqk
          subst hcp
          simp only [pm_call] at hcall
          split at hcall
          · rename_i ht
            cases hcall
            obtain ⟨hmk, hnk⟩ := hmk ht
            have hK1 : pm_K q = 1 := hqk ht
            have hyp : pm_Yp q = pm_Y q := by
              unfold pm_Yp
              rw [if_neg (by omega), if_neg (by omega), if_neg (by omega), if_neg (by omega), if_neg (by omega), if_neg (by omega), if_neg (by omega)]
            rw [hyp] at hw0 hw1
            have hM := hM hmk hqC hL1 D ad ca H.size
            obtain ⟨hcode, hini, hd, hpn, hcn, -, hI1, -⟩ := id hmk
            have hstt := hI1 hK1
            have hn9 : (as.map (pm_v ad)).length = pm_N q := by unfold pm_na at hna; rw [if_pos hK1] at hna; simpa using hna
            rcases (show ns = 0 ∨ ns = 1 by omega) with h | h
            · refine pm_after (va_runS (As := as.map (pm_v ad)) (rest := rest.map (pm_v ad)) hfix hM (va_cwS (pm_N q) hts (fun w hw => ?_) rfl rfl rfl hd hR9) ⟨pm_blind _ _ _ _ _ _ _, fun U hU hW => hpre U hU hW⟩ rfl hn9 hsz (by show st.map (pm_v ad) = _; rw [hst9]; simp) hroom hdec hcs) (fun v st₀ t9 Lc h0 hvm hLc hQ => pm_back hX hrw hlow h0 hvm hLc hQ kk)
              unfold va_wsS at hw
              rcases List.mem_append.mp hw with hw | hw
              · simp only [List.mem_cons, List.not_mem_nil, or_false] at hw
                rcases hw with rfl | rfl | rfl
                · exact pm_gi (hw0 h)
                · exact pm_gi hstt
                · exact pm_gi hini
              · exact pm_gk hmk w hw
            · exact pm_after (va_runSN (As := as.map (pm_v ad)) (rest := rest.map (pm_v ad)) hfix hM ⟨va_cnB (pm_N q) hts (pm_gk hmk) rfl rfl rfl (hI.2.2.2.2.2.2.2.2.2.2.1.1 _ (hw1 h)) (hts _ hini) hd hR9, hts _ hstt, trivial⟩ ⟨pm_blind _ _ _ _ _ _ _, fun U hU hW => hpre U hU hW⟩ rfl hn9 hsz (by show st.map (pm_v ad) = _; rw [hst9]; simp) hroom hdec hcs) (fun v st₀ t9 Lc h0 hvm hLc hQ => pm_back hX hrw hlow h0 hvm hLc hQ kk)
          · cases hcall
        · cases hres
      · cases hres
    | ldc cp => simp only [pm_res] at hres; split at hres <;> first | (cases hres; done) | (split at hres <;> (cases hres; cases hcall))
    | new cp => simp only [pm_res] at hres; split at hres <;> first | (cases hres; cases hcall; done) | (split at hres <;> (cases hres; try cases hcall))
    | getfield cp => simp only [pm_res] at hres; split at hres <;> (cases hres; try cases hcall)
    | putfield cp => simp only [pm_res] at hres; split at hres <;> (cases hres; try cases hcall)
    | getstatic cp => simp only [pm_res] at hres; split at hres <;> (cases hres; try cases hcall)
    | anewarray cp => simp only [pm_res] at hres; split at hres <;> (cases hres; try cases hcall)
    | bipush v => simp only [pm_res] at hres; split at hres <;> (cases hres; try cases hcall)
    | sipush v => simp only [pm_res] at hres; split at hres <;> (cases hres; try cases hcall)
    | goto v => simp only [pm_res] at hres; split at hres <;> (cases hres; try cases hcall)
    | ifCond c v => simp only [pm_res] at hres; split at hres <;> (cases hres; try cases hcall)
    | if_icmp c v => simp only [pm_res] at hres; split at hres <;> (cases hres; try cases hcall)
    | if_acmp c v => cases c <;> simp only [pm_res] at hres <;> first | (cases hres; done) | (split at hres <;> (cases hres; try cases hcall))
    | _ => simp only [pm_res] at hres; first | (cases hres; done) | (cases hres; cases hcall)
  · cases hrow
end PMD
