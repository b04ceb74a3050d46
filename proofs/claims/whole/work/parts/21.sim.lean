set_option maxHeartbeats 1000000 in
theorem pm_met_of {l : Launch} {n q : Nat} {as : List Value} {M M1 : pm_M} {S S1 : pm_S} {r1 : Option Value} (hsim : pm_SIM l n) (hrun : pm_run n q 0 (pm_ent q as) [] M S = some (r1, M1, S1)) (hmk : pm_mk q) (hqC : q ≠ pm_kC) (hwf : ∀ v ∈ as, pm_wv M.1 v) (hcat : ∀ v ∈ as, v.category = 1) (hlen : as.length ≤ pm_L q) : pm_met l q as M S r1 M1 S1 := by
  intro D ad ca sz
  refine Met.ofW (cc := pm_B q) (maxL := pm_L q) (ret := pm_R q) hmk.2.2.2.1 rfl ?_
  intro p e s m args below meth c s₁ B hml hv
  obtain ⟨rfl, hsz, hI⟩ := hv
  have hts := atoms_spec (ws := Cond.code (pm_Y q) (pm_B q) (pm_L q) (pm_R q) :: pm_ws) B.pre
  have hown : s.vm.findClass (pm_cn (pm_O q)) = some m.cls := by
    rw [← hmk.2.2.2.2.1]
    exact findClass_of_methodNamed B.named
  have hin : pm_K q = 2 → meth.name = "<init>" := fun h => by
    rw [(name_of_methodNamed B.named B.method).1]
    exact (hmk.2.2.2.2.2.2.2 h).2.1
  have hcat' : ∀ v ∈ as.map (pm_v ad), v.category = 1 := fun w hw => by
    obtain ⟨z, hz, rfl⟩ := List.mem_map.mp hw
    rw [pm_v_cat]; exact hcat z hz
  have hl := lv_entry (as.map (pm_v ad)) (n := pm_L q) (by rw [pm_sl_len _ hcat', List.length_map]; exact hlen)
  rw [lg_entry_eq]
  generalize (lg_sl (as.map (pm_v ad)) ++ List.replicate (pm_L q - (lg_sl (as.map (pm_v ad))).length) Slot.unset).toArray = ls at hl ⊢
  have hlr := pm_lr_ent (q := q) hcat hlen hl
  have hLw : ∀ v ∈ pm_ent q as, pm_wv M.1 v := fun v hv => by
    rcases List.mem_append.mp hv with h | h
    · exact hwf v h
    · rw [(List.mem_replicate.mp h).2]; exact pm_wv_un _
  have hLl : (pm_ent q as).length = pm_L q := by simp [pm_ent]; omega
  have hlow := pm_run_low _ _ _ _ _ _ _ _ _ _ hrun hI.2.2.2.2.2.2.2.1
  have h := hsim q 0 (pm_ent q as) [] M S r1 M1 S1 hrun p e (headSpec (Cond.code (pm_Y q) (pm_B q) (pm_L q) (pm_R q) :: pm_ws) ({ frames := pm_F q, cells := M1.2.1 - M.2.1, slots := M1.2.2 - M.2.2, locals := pm_J q } : Room)).room s m (as.map (pm_v ad)).toArray below meth c s.heap [] (MQ below (pm_Qc D ad ca M S sz r1 M1 S1) (as.map (pm_v ad)).toArray s (M1.2.1 - M.2.1) (M1.2.2 - M.2.2) (va_A (pm_w ad ca M.1 S) sz)) D (va_A (pm_w ad ca M.1 S) sz) M.2.1 M.2.2 ls ad ca
    ⟨B.exec, B.bytes, hml, hown, fun w hw => hts w (List.mem_cons_of_mem _ hw), hin, Nat.le_refl _, Nat.le_refl _⟩ ⟨hI, hlr, (fun v hv => absurd hv List.not_mem_nil), hLw, Nat.le_refl _, Nat.le_refl _⟩ hLl (Nat.le_refl _) (Nat.le_refl _) ?_
  · rw [Nat.sub_self, Nat.sub_self] at h
    exact h
  · intro pcf Lf stf i nf H' locs' ls' ad' ca' hcd hrow hret hrok ag1 ag2 hX hLf
    obtain ⟨⟨g1, g2, g3, g4, g5, g6, g7, g8, g9⟩, -, hst, -, -, -⟩ := hX
    have hfr : ∀ z ∈ locs', va_A (pm_w ad ca M.1 S) sz z.base := g5.2.2
    have hQ : ∀ t : State, t.heap = H' → s.WarmedH t.vm → (∀ v, r1 = some v → pm_wv M1.1 v) → pm_Qc D ad ca M S sz r1 M1 S1 (as.map (pm_v ad)).toArray s (.returned (r1.map (pm_v ad'))) t := fun t ht hW hrw => ⟨ad', ca', ag1, ag2, rfl, fun a h1 h2 z x hx => ⟨(g2 a h1 h2 z x hx).1, arrOfT_moved hW.alike (g2 a h1 h2 z x hx).2.1, (g2 a h1 h2 z x hx).2.2.moved hW.alike⟩, by rw [ht]; exact g3, g4, g5.F ht, g7, hrw⟩
    rcases pm_row_ret hrow hret hqC with ⟨v, rfl, rfl, rfl, hdec⟩ | ⟨rfl, rfl, rfl, hdec⟩
    · have hrok : pm_rok (pm_R q) (some (.int v)) = true := by
        rcases hrok with h | h
        · exact h
        · cases h
      rcases pm_R_ok q with hR | hR | hR
      · rw [hR] at hrok; cases hrok
      · exact W.zret (ty := .int) B.exec B.bytes (by rw [B.returns, hR]) rfl (fun t ht hW => hQ t ht hW (fun w hw => by cases hw; exact pm_wv_int _ _)) hfr hdec B.notSynchronized
      · rw [hR] at hrok
        exact W.zret (ty := .boolean) B.exec B.bytes (by rw [B.returns, hR]) (pm_nar hrok ⟨by decide, by decide, by decide⟩) (fun t ht hW => hQ t ht hW (fun w hw => by cases hw; exact pm_wv_int _ _)) hfr hdec B.notSynchronized
    · have hrok : pm_rok (pm_R q) none = true := by
        rcases hrok with h | h
        · exact h
        · cases h
      rcases pm_R_ok q with hR | hR | hR
      · exact W.vret B.exec B.bytes (by rw [B.returns, hR]) (fun t ht hW => hQ t ht hW (fun w hw => by cases hw)) hfr hdec B.notSynchronized
      · rw [hR] at hrok; cases hrok
      · rw [hR] at hrok; cases hrok
set_option maxHeartbeats 1000000 in
/-- every run of the pure machine is a walk of the machine -/
theorem pm_sim {l : Launch} (hck : ∀ k, pm_chk k 0 (pm_code k) = true) (h7 : ∀ n, pm_SIM l n → pm_S7 l n) : ∀ n, pm_SIM l n := by
  intro n
  induction n with
  | zero => intro k pc L st M S r Mf Sf hrun; cases hrun
  | succ n ih =>
    intro k pc L st M S r Mf Sf hrun p e R s m args below meth c H locs Q D A c0 s0 ls ad ca hf hX hLs hrc hrs hfin
    have hrun : pm_body (pm_run n) k pc L st M S = some (r, Mf, Sf) := hrun
    have hpk : pm_k ≤ M.1 := hX.1.2.2.2.2.2.2.2.1
    unfold pm_body at hrun
    split at hrun
    · cases hrun
    · rename_i i len hcode
      have hnop : i ≠ .nop := by
        rintro rfl
        simp [pm_call, pm_ret, pm_step] at hrun
      have hrow : pm_row k pc i len = true := by
        have := pm_chk_at (hck k) hcode hnop
        rwa [Nat.zero_add] at this
      split at hrun
      · rename_i q b hcall
        split at hrun
        · rename_i hc
          split at hrun
          · rename_i r1 M1 S1 hcal
            have hlow1 := pm_run_low _ _ _ _ _ _ _ _ _ _ hcal hpk
            have hlow2 := pm_run_low _ _ _ _ _ _ _ _ _ _ hrun (Nat.le_trans hpk hlow1.2.1)
            have hle1 := hlow1.2
            have hle2 := hlow2.2
            have hcat : ∀ v ∈ (st.take (pm_na q)).reverse, v.category = 1 := by
              have h9 := hc.2
              simp only [pm_cok, Bool.and_eq_true, List.all_eq_true, beq_iff_eq] at h9
              exact h9.2.1
            refine pm_callW (as := (st.take (pm_na q)).reverse) (rest := st.drop (pm_na q)) hf hX hLs hrow hcall (by rw [List.reverse_reverse, List.take_append_drop]) (by rw [List.length_reverse, List.length_take]; omega) hc.2 (fun hmk hqC hL1 => pm_met_of ih hcal hmk hqC (fun v hv => hX.2.2.1 v (List.mem_of_mem_take (List.mem_reverse.mp hv))) hcat (by rw [List.length_reverse, List.length_take]; omega)) hlow1 (by omega) (by omega) (fun H' locs' ad' ca' ag1 ag2 hX' => ?_)
            exact ih k (pc + 3) L _ M1 S1 r Mf Sf hrun p e R s m args below meth c H' locs' Q D A c0 s0 ls ad' ca' hf hX' hLs hrc hrs (hfin.tr hle1.1 ag1 ag2)
          · cases hrun
        · cases hrun
      · rename_i hcall
        split at hrun
        · rename_i r1 hret
          split at hrun
          · rename_i hrok
            cases hrun
            exact hfin pc L st i len H locs ls ad ca hcode hrow hret hrok (fun _ _ => rfl) (fun _ _ => rfl) hX hLs
          · cases hrun
        · split at hrun
          · rename_i h9
            subst h9
            exact h7 n ih k pc len L st M S r Mf Sf hrow hrun p e R s m args below meth c H locs Q D A c0 s0 ls ad ca hf hX hLs hrc hrs hfin
          · split at hrun
            · rename_i pc' L' st' M' S' hstep
              have hlow1 := pm_step_low hstep hpk
              have hlow2 := pm_run_low _ _ _ _ _ _ _ _ _ _ hrun (Nat.le_trans hpk hlow1.2.1)
              have hle1 := hlow1.2
              have hle2 := hlow2.2
              refine pm_sim1 hf hX hLs hrow hcall (by omega) (by omega) hstep (fun H' locs' ls' ad' ca' ag1 ag2 hX' => ?_)
              exact ih k pc' L' st' M' S' r Mf Sf hrun p e R s m args below meth c H' locs' Q D A c0 s0 ls' ad' ca' hf hX' ((pm_step_len hstep).trans hLs) hrc hrs (hfin.tr hle1.1 ag1 ag2)
            · cases hrun
