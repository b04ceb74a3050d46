/-- WHAT IS LEFT TO PROVE, in the pure machine's words: on every script the law (method 279) ends with 1, within the room -/
def pm_PURE : Prop := ∀ (L : Nat) (xs : Nat → Int32), L ≤ 3584 → pm_W 279 0 (pm_ent 279 [.ref 0]) [] pm_M0 (pm_S0 L xs) (fun r M' _ => r = some (.int 1) ∧ M'.2.1 ≤ 601024 ∧ M'.2.2 ≤ 7293034)
set_option maxRecDepth 20000 in
theorem k279 : pm_B 279 = code ∧ pm_L 279 = 7 ∧ pm_cn (pm_O 279) = R_law ∧ pm_K 279 = 0 ∧ pm_F 279 ≤ 14 ∧ pm_J 279 ≤ 528 := ⟨rfl, rfl, rfl, rfl, by decide, by decide⟩
set_option maxHeartbeats 1000000 in
theorem pm_whole (hck : ∀ k, pm_chk k 0 (pm_code k) = true) {l : Launch} (h7 : ∀ n, pm_SIM l n → pm_S7 l n) (hP : pm_PURE) {p : Program} {e : Env} {s : State} {m : MethodId} {below : List Frame} {meth : Method} {c : Code} {b L : Nat} {xs : Nat → Int32} (hL : L ≤ 3584) (C0 : lw_At p s m meth c b L xs) : W p l e room_1 s m #[Value.ref b] below meth c s.heap [] 0 0 (lw_Z below #[Value.ref b] s) (entryFrame m ([Value.ref b] : List Value).toArray 7) := by
  obtain ⟨D, ad, had, hI⟩ := pm_init C0
  obtain ⟨hx, hb, hr, hml, hown, hts, hX, hbl, hlocks, hgv⟩ := id C0
  obtain ⟨n, r, Mf, Sf, hrun, hr1, hcf, hsf⟩ := hP L xs hL
  obtain ⟨kB, kL, kO, kK, kF, kJ⟩ := k279
  have hl := lv_entry ([.ref b]) (n := 7) (Nat.le_of_ble_eq_true rfl)
  rw [lg_entry_eq]
  generalize (lg_sl ([.ref b]) ++ List.replicate (7 - (lg_sl ([.ref b])).length) Slot.unset).toArray = ls at hl ⊢
  have hlr : pm_lr ad ls (pm_ent 279 [.ref 0]) := pm_lr_ent (by decide) (by rw [kL]; decide) (by
    rw [kL]
    show lv_has ls 7 (lv_args 0 [.ref (ad 0)])
    rw [had]
    exact hl)
  have hLl : (pm_ent 279 [.ref 0]).length = pm_L 279 := by simp [pm_ent, kL]
  have hpk : (32 : Nat) ≤ pm_M0.1 := Nat.le_refl _
  have hLw : ∀ v ∈ pm_ent 279 [.ref 0], pm_wv pm_M0.1 v := fun v hv => by
    rcases List.mem_append.mp hv with h | h
    · rw [List.mem_singleton.mp h]; exact pm_wv_ref (by decide)
    · rw [(List.mem_replicate.mp h).2]; exact pm_wv_un _
  have h := pm_sim hck h7 n 279 0 (pm_ent 279 [.ref 0]) [] pm_M0 (pm_S0 L xs) r Mf Sf hrun p e room_1 s m #[Value.ref b] below meth c s.heap [] (lw_Z below #[Value.ref b] s) D (fun q : Nat => s.heap.size ≤ q) 0 0 ls ad (fun _ => 0)
    ⟨hx, by rw [hb, kB], by rw [hml, kL], by rw [kO]; exact hown, fun w hw => hts w (List.mem_filter.mp hw).1, fun h => by rw [kK] at h; exact absurd h (by decide), kF, kJ⟩ ⟨hI, hlr, (fun v hv => absurd hv List.not_mem_nil), hLw, Nat.zero_le _, Nat.zero_le _⟩ hLl hcf hsf ?_
  · exact h
  · intro pcf Lf stf i nf H' locs' ls' ad' ca' hcd hrow hret hrok ag1 ag2 hX9 hLf
    rcases pm_row_ret hrow hret (by decide) with ⟨v, rfl, rfl, hv, hdec⟩ | ⟨rfl, rfl, hv, hdec⟩
    · rw [hr1] at hv
      cases hv
      rw [kB] at hdec
      refine va_forget (fun q hq => hX9.1.2.2.2.2.1.2.2 q hq) ?_
      refine W.widen (k := 601024) (n := 7293034) hcf hsf ?_
      exact lw_ret hx hb hr hlocks hdec
    · rw [hr1] at hv
      cases hv
