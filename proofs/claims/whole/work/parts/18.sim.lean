theorem pm_cst_low {g : pm_G} (hg : ∀ k pc L st M S r M' S', g k pc L st M S = some (r, M', S') → pm_k ≤ M.1 → pm_low M S M' S') {k pc : Nat} {L st : List Value} {M M' : pm_M} {S S' : pm_S} {r : Option Value} (h : pm_cst g k pc L st M S = some (r, M', S')) (hk : pm_k ≤ M.1) : pm_low M S M' S' := by
  unfold pm_cst at h
  split at h
  · rename_i o j b rr
    split at h
    · rename_i hc
      split at h
      · rename_i v M1 S1 he
        have h1 := hg _ _ _ _ _ _ _ _ _ he hk
        split at h
        · rename_i m f hS
          split at h
          · rename_i h3
            exact h1.tr ((pm_low.put (M := M1) (S := S1) hc.2.1).tr (hg _ _ _ _ _ _ _ _ _ h (Nat.le_trans hk h1.2.1)))
          · cases h
        · cases h
      · rename_i M1 S1 he
        have h1 := hg _ _ _ _ _ _ _ _ _ he hk
        split at h
        · have h2 := hg _ _ _ _ _ _ _ _ _ h (Nat.le_trans hk h1.2.1)
          exact h1.tr ⟨h2.1, h2.2.1, Nat.le_trans (Nat.le_succ _) h2.2.2.1, Nat.le_trans (Nat.le_add_right _ 6) h2.2.2.2⟩
        · cases h
      · cases h
    · cases h
  · cases h
theorem pm_body_low {g : pm_G} (hg : ∀ k pc L st M S r M' S', g k pc L st M S = some (r, M', S') → pm_k ≤ M.1 → pm_low M S M' S') {k pc : Nat} {L st : List Value} {M M' : pm_M} {S S' : pm_S} {r : Option Value} (h : pm_body g k pc L st M S = some (r, M', S')) (hk : pm_k ≤ M.1) : pm_low M S M' S' := by
  unfold pm_body at h
  split at h
  · cases h
  · split at h
    · split at h
      · split at h
        · rename_i r1 M1 S1 he
          have h1 := hg _ _ _ _ _ _ _ _ _ he hk
          exact h1.tr (hg _ _ _ _ _ _ _ _ _ h (Nat.le_trans hk h1.2.1))
        · cases h
      · cases h
    · split at h
      · split at h
        · cases h
          exact pm_low.rf _ _
        · cases h
      · split at h
        · exact pm_cst_low hg h hk
        · split at h
          · rename_i a1 a2 a3 a4 a5 he
            have h1 := pm_step_low he hk
            exact h1.tr (hg _ _ _ _ _ _ _ _ _ h (Nat.le_trans hk h1.2.1))
          · cases h
theorem pm_run_low : ∀ (n k pc : Nat) (L st : List Value) (M : pm_M) (S : pm_S) (r : Option Value) (M' : pm_M) (S' : pm_S), pm_run n k pc L st M S = some (r, M', S') → pm_k ≤ M.1 → pm_low M S M' S'
  | 0, _, _, _, _, _, _, _, _, _, h, _ => by cases h
  | n + 1, _, _, _, _, _, _, _, _, _, h, hk => pm_body_low (pm_run_low n) h hk
/-! ===== contracts ===== -/
def pm_Pc (D : va_G) (ad : Nat → Nat) (ca : Nat → ClassId) (as : List Value) (M : pm_M) (S : pm_S) (sz : Nat) : Array Value → State → Prop := va_Pc (as.map (pm_v ad)) (fun U => U.heap.size = sz ∧ pm_I D (va_A (pm_w ad ca M.1 S) sz) U U.heap [] ad ca M S)
def pm_Qc (D : va_G) (ad : Nat → Nat) (ca : Nat → ClassId) (M : pm_M) (S : pm_S) (sz : Nat) (r : Option Value) (M' : pm_M) (S' : pm_S) : Array Value → State → Outcome → State → Prop := fun _ st o t => ∃ (ad' : Nat → Nat) (ca' : Nat → ClassId), pm_ag M.1 ad ad' ∧ pm_ag M.1 ca ca' ∧ o = .returned (r.map (pm_v ad')) ∧ (∀ a, pm_k ≤ a → a < M'.1 → ∀ q x, S' a = .inl (q, x) → q < 4 ∧ ArrOfT t (ca' a) (pm_tag q) ∧ va_RA t (ca' a) (pm_tag q)) ∧ va_P D vwCl (pm_w ad' ca' M'.1 S') t.heap ∧ va_D (va_A (pm_w ad ca M.1 S) sz) (pm_w ad' ca' M'.1 S') ∧ va_F (va_A (pm_w ad ca M.1 S) sz) st t ∧ pm_wS M'.1 S' ∧ (∀ v, r = some v → pm_wv M'.1 v)
def pm_met (l : Launch) (k : Nat) (as : List Value) (M : pm_M) (S : pm_S) (r : Option Value) (M' : pm_M) (S' : pm_S) : Prop := ∀ (D : va_G) (ad : Nat → Nat) (ca : Nat → ClassId) (sz : Nat), Met l (pm_Y k) (Cond.code (pm_Y k) (pm_B k) (pm_L k) (pm_R k) :: pm_ws) ({ frames := pm_F k, cells := M'.2.1 - M.2.1, slots := M'.2.2 - M.2.2, locals := pm_J k } : Room) (pm_Pc D ad ca as M S sz) (pm_Qc D ad ca M S sz r M' S') (M'.2.1 - M.2.1) (M'.2.2 - M.2.2) (va_A (pm_w ad ca M.1 S) sz)
theorem pm_I.same {D : va_G} {A : Nat → Prop} {u U : State} {ad : Nat → Nat} {ca : Nat → ClassId} {M : pm_M} {S : pm_S} (hv : U.vm = u.vm) (hh : U.heap = u.heap) (h : pm_I D A u u.heap [] ad ca M S) : pm_I D A U U.heap [] ad ca M S := by
  obtain ⟨g1, g2, g3, g4, g5, g6, g7, g8, g9⟩ := h
  have ha : u.vm.Alike U.vm := by rw [hv]; exact Vm.Alike.refl _
  refine ⟨va_K.moved ha g1, fun a h1 h2 t x hx => ⟨(g2 a h1 h2 t x hx).1, arrOfT_moved ha (g2 a h1 h2 t x hx).2.1, (g2 a h1 h2 t x hx).2.2.moved ha⟩, by rw [hh]; exact g3, g4, va_S.rf, by rw [hh]; exact g6, g7, g8, ?_⟩
  rw [hh]
  exact pm_Z.go (pm_Zw.same hv) (vk_R.same hv) ha (Nat.le_refl _) (fun _ _ _ => rfl) (fun _ z => z) (fun _ _ => rfl) (fun _ _ => rfl) g9
theorem pm_I.free {D : va_G} {A : Nat → Prop} {s : State} {H : Heap} {locs : List Loc} {ad : Nat → Nat} {ca : Nat → ClassId} {M : pm_M} {S : pm_S} (h : pm_I D A s H locs ad ca M S) : ∀ q, va_A (pm_w ad ca M.1 S) H.size q → A q := by
  obtain ⟨g1, g2, g3, g4, g5, g6, -⟩ := h
  rintro q (⟨k, e, hk⟩ | hq)
  · exact g4.2 k (q, e) hk
  · exact g6 q (Nat.le_trans g5.1 hq)
theorem pm_I.call {D : va_G} {A : Nat → Prop} {s U : State} {H : Heap} {locs : List Loc} {ad : Nat → Nat} {ca : Nat → ClassId} {M : pm_M} {S : pm_S} (h : pm_I D A s H locs ad ca M S) (hU : U.heap = H) (hW : s.WarmedH U.vm) : pm_I D (va_A (pm_w ad ca M.1 S) H.size) U U.heap [] ad ca M S := by
  have hfree := h.free
  obtain ⟨g1, g2, g3, g4, g5, g6, g7, g8, g9⟩ := h
  refine ⟨va_K.moved hW.alike g1, fun a h1 h2 t x hx => ⟨(g2 a h1 h2 t x hx).1, arrOfT_moved hW.alike (g2 a h1 h2 t x hx).2.1, (g2 a h1 h2 t x hx).2.2.moved hW.alike⟩, by rw [hU]; exact g3, g4.self, va_S.rf, by rw [hU]; exact fun q hq => Or.inr hq, g7, g8, ?_⟩
  rw [hU]
  exact pm_Z.go (pm_Zw.warm hW) (vk_R.warm hW) hW.alike g5.1 g5.2.1 hfree (fun _ _ => rfl) (fun _ _ => rfl) g9
theorem pm_blind (D : va_G) (ad : Nat → Nat) (ca : Nat → ClassId) (as : List Value) (M : pm_M) (S : pm_S) (sz : Nat) : FrameBlind (pm_Pc D ad ca as M S sz) := fun a U g mk h => ⟨h.1, h.2.1, pm_I.same (u := U) (U := U.calling g mk a) rfl rfl h.2.2⟩
theorem pm_gi {w : Cond} (h : w ∈ pm_ws) : w ∈ pm_ws ∧ ((w.onTables && w.keeps) = true ∨ ∃ ty, w = .arrayClass ty) := ⟨h, good_of_word (List.mem_filter.mp h).2⟩
theorem pm_gk {k : Nat} (h : pm_mk k) : GoodIn pm_ws (Cond.code (pm_Y k) (pm_B k) (pm_L k) (pm_R k) :: pm_ws) := fun w hw => by
  rcases List.mem_cons.mp hw with rfl | hw
  · exact pm_gi h.1
  · exact pm_gi hw
section PMC
variable {p : Program} {l : Launch} {e : Env} {R : Room} {s : State} {m : MethodId} {args : Array Value} {below : List Frame} {meth : Method} {c : Code} {H : Heap} {locs : List Loc} {Q : State → Prop} {D : va_G} {A : Nat → Prop} {c0 s0 : Nat} {ls : Array Slot} {ad : Nat → Nat} {ca : Nat → ClassId} {k n pc : Nat} {L st : List Value} {M : pm_M} {S : pm_S} {i : Instr}
theorem pm_after {cells slots mc ms : Nat} {st0 rest : List Value} {Qa : State → Outcome → State → Prop} {free : Addr → Prop} (hr : va_Run p l e R s m args below meth c H locs cells slots mc ms (F0 m pc ls st0) rest Qa free)
    (kk : ∀ (v : Option Value) (st₀ t : State) (Lc : List Loc), st₀.heap = H → s.vm.Alike t.vm → (∀ q ∈ Lc, free q.base) → Qa st₀ (.returned v) t → W p l e R s m args below meth c t.heap (locs ++ Lc) (cells + mc) (slots + ms) Q (F0 m (pc + 3) ls (v.toList ++ rest))) : W p l e R s m args below meth c H locs cells slots Q (F0 m pc ls st0) := by
  intro T hT X
  obtain ⟨v, st₀, t, T', Lc, h0, X', hL, e1, e2, hQ, st⟩ := hr T hT X
  obtain ⟨t2, a1, b1⟩ := kk v st₀ t Lc h0 (by rw [← e2]; exact X'.warmed.alike) hL hQ T' e1 X'
  exact ⟨t2, st t2 a1, b1⟩
/-- behind a call -/
theorem pm_back {r1 : Option Value} {M1 : pm_M} {S1 : pm_S} {rest : List Value} {v : Option Value} {st₀ t : State} {Lc : List Loc} {a : Array Value} (hX : pm_X D A s c0 s0 H locs ls ad ca L st M S) (hrest : ∀ w ∈ rest, pm_wv M.1 w) (hlow : pm_low M S M1 S1) (h0 : st₀.heap = H) (hvm : s.vm.Alike t.vm) (hL : ∀ q ∈ Lc, va_A (pm_w ad ca M.1 S) H.size q.base) (hQ : pm_Qc D ad ca M S H.size r1 M1 S1 a st₀ (.returned v) t)
    (kk : ∀ (H' : Heap) (locs' : List Loc) (ad' : Nat → Nat) (ca' : Nat → ClassId), pm_ag M.1 ad ad' → pm_ag M.1 ca ca' → pm_X D A s c0 s0 H' locs' ls ad' ca' L (r1.toList ++ rest) M1 S1 → W p l e R s m args below meth c H' locs' (M1.2.1 - c0) (M1.2.2 - s0) Q (F0 m (pc + 3) ls ((r1.toList ++ rest).map (pm_v ad')))) :
    W p l e R s m args below meth c t.heap (locs ++ Lc) (M.2.1 - c0 + (M1.2.1 - M.2.1)) (M.2.2 - s0 + (M1.2.2 - M.2.2)) Q (F0 m (pc + 3) ls (v.toList ++ rest.map (pm_v ad))) := by
  obtain ⟨hI, hl, hst, hLw, hc0, hs0⟩ := hX
  have hfree := hI.free
  obtain ⟨ad', ca', ag1, ag2, ho, hK, hP, hD, hF, hw, hrv⟩ := hQ
  obtain ⟨g1, g2, g3, g4, g5, g6, g7, g8, g9⟩ := hI
  have hv : v = r1.map (pm_v ad') := by cases ho; rfl
  obtain ⟨hz, hkp⟩ := hF
  rw [h0] at hz hkp
  have hle := hlow.2
  have hX' : pm_X D A s c0 s0 t.heap (locs ++ Lc) ls ad' ca' L (r1.toList ++ rest) M1 S1 := by
    refine ⟨⟨g1, fun b hb1 hb2 q x hx => ⟨(hK b hb1 hb2 q x hx).1, arrOfT_moved hvm.symm (hK b hb1 hb2 q x hx).2.1, (hK b hb1 hb2 q x hx).2.2.moved hvm.symm⟩, hP, hD.weaken (fun _ q _ h => hfree q.1 h), ⟨Nat.le_trans g5.1 hz, fun q h1 h2 => ?_, fun q hq => ?_⟩, g6, hw, Nat.le_trans g8 hle.1, pm_Z.go (fun z => z) (fun z => z) (Vm.Alike.refl _) (Nat.le_refl _) (fun _ _ _ => rfl) (fun _ z => z) hlow.1 (fun j hj => ag1 j (Nat.lt_of_lt_of_le hj g8)) g9⟩, hl.ag ag1 hLw, fun w hw9 => ?_, fun w hw9 => (hLw w hw9).le hle.1, Nat.le_trans hc0 hle.2.1, Nat.le_trans hs0 hle.2.2⟩
    · rw [hkp q (Nat.lt_of_lt_of_le h1 g5.1) (fun z => h2 (hfree q z))]
      exact g5.2.1 q h1 h2
    · rcases List.mem_append.mp hq with h | h
      · exact g5.2.2 q h
      · exact hfree _ (hL q h)
    · rcases List.mem_append.mp hw9 with h | h
      · exact hrv w (by cases r1 <;> simp at h; rw [h])
      · exact (hrest w h).le hle.1
  have h := kk t.heap (locs ++ Lc) ad' ca' ag1 ag2 hX'
  rw [List.map_append, pm_vs_ag ag1 hrest] at h
  rw [hv, show M.2.1 - c0 + (M1.2.1 - M.2.1) = M1.2.1 - c0 by omega, show M.2.2 - s0 + (M1.2.2 - M.2.2) = M1.2.2 - s0 by omega]
  have hr9 : (r1.map (pm_v ad')).toList = r1.toList.map (pm_v ad') := by cases r1 <;> rfl
  rw [hr9]
  exact h
end PMC
