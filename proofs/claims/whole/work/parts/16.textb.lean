theorem tx_asc : ∀ q ∈ pm_txt, ∀ j, j < q.2.2.2.length → (((q.2.2.2.getD j 0) &&& 255).toUInt32 % 65536).toInt32 = q.2.2.2.getD j 0 := by decide
theorem tx_len31 : ∀ q ∈ pm_txt, q.2.2.2.length < 2 ^ 31 := by decide
theorem tx_of {D : va_G} {A : Nat → Prop} {s : State} {H : Heap} {locs : List Loc} {ad : Nat → Nat} {ca : Nat → ClassId} {M : pm_M} {S : pm_S} (hI : pm_I D A s H locs ad ca M S) {q : Nat × Nat × String × List Int32} {a : Nat} (h : pm_tx q a A s s.heap) : ∃ av : Nat, ∀ U : State, U.heap = H → s.WarmedH U.vm → tx_F a av q.2.2.2 U := by
  obtain ⟨-, h2, h3, av, h4, h5⟩ := h
  have hS := hI.2.2.2.2.1
  obtain ⟨-, -, z3, z4, -, -⟩ := hI.2.2.2.2.2.2.2.2.2.1
  refine ⟨av, fun U hU hW => ?_⟩
  unfold tx_F
  rw [hU]
  have hN : ∀ q : Nat, (fun _ : Nat => False) q → A q := fun _ h => h.elim
  exact ⟨((va_O.moved hW.alike h2).kept hS.2.1).narrow hN, ((va_OF.moved hW.alike h3).kept hS.2.1).narrow hN, ((va_OF.moved hW.alike h4).kept hS.2.1).narrow hN, ((va_T.moved hW.alike h5).kept hS.2.1).narrow hN, ((va_Z.moved hW.alike z3).kept hS.2.1).narrow hN, ((va_Zq.moved hW.alike z4).kept hS.2.1).narrow hN⟩
theorem tx_in {j : Int32} {n : Nat} (hn : n < 2 ^ 31) (h : ¬ (j < 0 ∨ n ≤ j.toNatClampNeg)) : 0 ≤ j ∧ j < Int32.ofNat n ∧ vp_in j n := by
  have hv : vp_in j n := h
  obtain ⟨i, hi, rfl⟩ := vp_in_of hv hn
  exact ⟨nI_pos' (by omega), nI_lt hi hn, hv⟩
section PMTX
variable {p : Program} {l : Launch} {e : Env} {R : Room} {s : State} {m : MethodId} {args : Array Value} {below : List Frame} {meth : Method} {c : Code} {H : Heap} {locs : List Loc} {Q : State → Prop} {D : va_G} {A : Nat → Prop} {c0 s0 : Nat} {ls : Array Slot} {ad : Nat → Nat} {ca : Nat → ClassId} {k n pc pc' : Nat} {L st L' st' : List Value} {M M' : pm_M} {S S' : pm_S} {i raw : Instr}
set_option maxHeartbeats 1000000 in
theorem ps_virtual {cp : Nat} (hf : pm_fx p R s m args meth c k) (hX : pm_X D A s c0 s0 H locs ls ad ca L st M S) (hLs : L.length = pm_L k) (hdec : decode (pm_B k) pc = .ok (.invokevirtual cp, n)) (hlen : pm_len (.invokevirtual cp) = 0 ∨ pm_len (.invokevirtual cp) = n) (hres : pm_res (pm_O k) pc (.invokevirtual cp) = some i) (hrm : pm_rm k i = true) (hcall : pm_call i = none) (hrc : M'.2.1 - c0 ≤ R.cells) (hrs : M'.2.2 - s0 ≤ R.slots) (hs : pm_step i n pc L st M S = some (pc', L', st', M', S'))
    (kk : ∀ (H' : Heap) (locs' : List Loc) (ls' : Array Slot) (ad' : Nat → Nat) (ca' : Nat → ClassId), pm_ag M.1 ad ad' → pm_ag M.1 ca ca' → pm_X D A s c0 s0 H' locs' ls' ad' ca' L' st' M' S' → W p l e R s m args below meth c H' locs' (M'.2.1 - c0) (M'.2.2 - s0) Q (F0 m pc' ls' (st'.map (pm_v ad')))) : W p l e R s m args below meth c H locs (M.2.1 - c0) (M.2.2 - s0) Q (F0 m pc ls (st.map (pm_v ad))) := by
  obtain ⟨hx, hb, hml, hown, hts, hin, hRf, hRl⟩ := hf
  obtain ⟨hI, hl, hst, hL, hc0, hs0⟩ := id hX
  have hsz : ls.size = pm_L k := hl.1.trans hLs
  have hfix : CallFix p m c (pm_B k) (pm_L k) s args pm_ws (pm_cn (pm_O k)) := ⟨hx, hb, hml, hown, hts⟩
  have hlen : n = 3 := by
    rcases hlen with h | h
    · exact absurd h (by intro q; cases q)
    · exact h.symm
  subst hlen
  simp only [pm_res] at hres
  split at hres
  · rename_i q hq
    split at hres
    · rename_i hqk
      cases hres
      obtain ⟨hm, he⟩ := pm_find hq
      have hcp : q.1 = cp := by simpa using he
      obtain ⟨hw0, -, -, -⟩ := pm_mqs (pm_O k) q hm
      have hns := pm_mn (pm_O k) q hm
      obtain ⟨q1, t, ns⟩ := q
      dsimp only at hcp hs hrm hns hcall
      subst hcp
      simp only [pm_step] at hs
      simp only [pm_rm, hcall, decide_eq_true_eq] at hrm
      split at hs
      · rename_i ht
        subst ht
        have hlk9 : Cond.methodLink (pm_cn (pm_O k)) q1 yJ0_length_8abf5 ∈ pm_ws := hw0 (hns (by decide))
        split at hs
        · rename_i a r
          split at hs
          · rename_i m9 x hSa
            split at hs
            · rename_i hc
              cases hs
              obtain ⟨i9, e9, hae, hi9⟩ := hI.2.2.2.2.2.2.2.2.2.2.2.2 a hc.1 m9 x hSa
              subst hae
              obtain ⟨hS9, htx⟩ := hI.2.2.2.2.2.2.2.2.2.2.2.1 i9 e9 hi9
              rw [hSa] at hS9
              cases hS9
              obtain ⟨av, hF⟩ := tx_of hI htx
              refine tx_after (va_runV (C := RJ0) (b := ad (3 + i9)) (As := []) (rest := r.map (pm_v ad)) hfix (tx_len l (ad (3 + i9)) av e9.2.2.2) (cwV 0 hts (fun w hw => by
            unfold wsV at hw
            rcases List.mem_append.mp hw with hw | hw
            · simp only [List.mem_cons, List.not_mem_nil, or_false] at hw
              rcases hw with rfl | rfl | rfl | rfl
              · exact tx_gk jc_len _ (List.mem_cons_of_mem _ hlk9)
              · exact tx_gk jc_len _ (List.mem_cons_of_mem _ ji_len)
              · exact tx_gk jc_len _ (List.mem_cons_of_mem _ js_len)
              · exact tx_gk jc_len _ (List.mem_cons_of_mem _ jn_0)
            · exact tx_gk jc_len w hw) rfl rfl rfl (by decide +kernel) ⟨by show 1 + 1 ≤ _; omega, by show 8 + (1 + 11) + 20 ≤ _; omega⟩) ⟨tx_bl, (by obtain ⟨cell, h1, h2, h3, -⟩ := htx.2.1.kept hI.2.2.2.2.1.2.1; exact ⟨cell, h1, h2, h3⟩), fun U hU hW => ⟨rfl, hF U hU hW⟩⟩ rfl rfl hsz rfl (lv_room (by rw [pm_v_sum]; exact hc.2)) hdec ⟨hrc, hrs⟩) ?_
              refine kk H locs ls ad ca (fun _ _ => rfl) (fun _ _ => rfl) ⟨hI, hl, pm_c1 (pm_wv_int _ _) (pm_t1 hst), hL, hc0, hs0⟩
            · cases hs
          · cases hs
        · cases hs
      · split at hs
        · rename_i ht
          subst ht
          have hlk9 : Cond.methodLink (pm_cn (pm_O k)) q1 yJ0_charAt_5068e ∈ pm_ws := hw0 (hns (by decide))
          split at hs
          · rename_i j a r
            split at hs
            · rename_i m9 f hSa
              split at hs
              · rename_i hc
                cases hs
                obtain ⟨i9, e9, hae, hi9⟩ := hI.2.2.2.2.2.2.2.2.2.2.2.2 a hc.1 m9 _ hSa
                subst hae
                obtain ⟨hS9, htx⟩ := hI.2.2.2.2.2.2.2.2.2.2.2.1 i9 e9 hi9
                rw [hSa] at hS9
                cases hS9
                obtain ⟨av, hF⟩ := tx_of hI htx
                have hj := tx_in (tx_len31 e9 (List.mem_of_getElem? hi9)) hc.2.1
                have hjl : j.toNatClampNeg < e9.2.2.2.length := Nat.lt_of_not_le (fun h => hc.2.1 (Or.inr h))
                have hval := tx_asc e9 (List.mem_of_getElem? hi9) j.toNatClampNeg hjl
                have hM := tx_chr l (ad (3 + i9)) av e9.2.2.2 j
                rw [hval] at hM
                refine tx_after (va_runV (C := RJ0) (b := ad (3 + i9)) (As := [.int j]) (rest := r.map (pm_v ad)) hfix hM (cwV 1 hts (fun w hw => by
            unfold wsV at hw
            rcases List.mem_append.mp hw with hw | hw
            · simp only [List.mem_cons, List.not_mem_nil, or_false] at hw
              rcases hw with rfl | rfl | rfl | rfl
              · exact tx_gk jc_chr _ (List.mem_cons_of_mem _ hlk9)
              · exact tx_gk jc_chr _ (List.mem_cons_of_mem _ ji_chr)
              · exact tx_gk jc_chr _ (List.mem_cons_of_mem _ js_chr)
              · exact tx_gk jc_chr _ (List.mem_cons_of_mem _ jn_0)
            · exact tx_gk jc_chr w hw) rfl rfl rfl (by decide +kernel) ⟨by show 3 + 1 ≤ _; omega, by show 8 + (2 + 11) + 64 ≤ _; omega⟩) ⟨fun _ U g mk h => ⟨h.1, h.2.1, h.2.2.go (u := U) (U := U.calling g mk _) (Vm.Alike.refl _) rfl⟩, (by obtain ⟨cell, h1, h2, h3, -⟩ := htx.2.1.kept hI.2.2.2.2.1.2.1; exact ⟨cell, h1, h2, h3⟩), fun U hU hW => ⟨rfl, hj, hF U hU hW⟩⟩ rfl rfl hsz rfl (lv_room (by rw [pm_v_sum]; exact hc.2.2)) hdec ⟨hrc, hrs⟩) ?_
                refine kk H locs ls ad ca (fun _ _ => rfl) (fun _ _ => rfl) ⟨hI, hl, pm_c1 (pm_wv_int _ _) (pm_t1 (pm_t1 hst)), hL, hc0, hs0⟩
              · cases hs
            · cases hs
          · cases hs
        · cases hs
    · cases hres
  · cases hres
end PMTX
