theorem pm_step_len {i : Instr} {n pc pc' : Nat} {L st L' st' : List Value} {M M' : pm_M} {S S' : pm_S} (h : pm_step i n pc L st M S = some (pc', L', st', M', S')) : L'.length = L.length := by
  cases i with
  | if_acmp cnd t => cases cnd <;> simp only [pm_step] at h <;> repeat' (first | (cases h; done) | (cases h; rfl) | split at h)
  | _ => simp only [pm_step] at h; repeat' (first | (cases h; done) | (cases h; rfl) | (cases h; simp [pm_st1, pm_st2, pm_kill_len]; done) | split at h)
theorem pm_ag.tr {α : Type} {n m : Nat} {f g h : Nat → α} (h1 : pm_ag n f g) (hnm : n ≤ m) (h2 : pm_ag m g h) : pm_ag n f h := fun a ha => (h2 a (Nat.lt_of_lt_of_le ha hnm)).trans (h1 a ha)
def pm_FIN (l : Launch) (p : Program) (e : Env) (R : Room) (s : State) (m : MethodId) (args : Array Value) (below : List Frame) (meth : Method) (c : Code) (Q : State → Prop) (D : va_G) (A : Nat → Prop) (c0 s0 : Nat) (ad : Nat → Nat) (ca : Nat → ClassId) (k n0 : Nat) (r : Option Value) (Mf : pm_M) (Sf : pm_S) : Prop :=
  ∀ (pcf : Nat) (Lf stf : List Value) (i : Instr) (nf : Nat) (H' : Heap) (locs' : List Loc) (ls' : Array Slot) (ad' : Nat → Nat) (ca' : Nat → ClassId), (pm_code k)[pcf]? = some (i, nf) → pm_row k pcf i nf = true → pm_ret i stf = some r → (pm_rok (pm_R k) r = true ∨ r = some .null) → pm_ag n0 ad ad' → pm_ag n0 ca ca' → pm_X D A s c0 s0 H' locs' ls' ad' ca' Lf stf Mf Sf → Lf.length = pm_L k → W p l e R s m args below meth c H' locs' (Mf.2.1 - c0) (Mf.2.2 - s0) Q (F0 m pcf ls' (stf.map (pm_v ad')))
theorem pm_FIN.tr {l : Launch} {p : Program} {e : Env} {R : Room} {s : State} {m : MethodId} {args : Array Value} {below : List Frame} {meth : Method} {c : Code} {Q : State → Prop} {D : va_G} {A : Nat → Prop} {c0 s0 : Nat} {ad ad1 : Nat → Nat} {ca ca1 : Nat → ClassId} {k n0 n1 : Nat} {r : Option Value} {Mf : pm_M} {Sf : pm_S} (h : pm_FIN l p e R s m args below meth c Q D A c0 s0 ad ca k n0 r Mf Sf) (hn : n0 ≤ n1) (h1 : pm_ag n0 ad ad1) (h2 : pm_ag n0 ca ca1) : pm_FIN l p e R s m args below meth c Q D A c0 s0 ad1 ca1 k n1 r Mf Sf :=
  fun pcf Lf stf i nf H' locs' ls' ad' ca' a0 a1 a2 a3 a4 a5 a6 a7 => h pcf Lf stf i nf H' locs' ls' ad' ca' a0 a1 a2 a3 (h1.tr hn a4) (h2.tr hn a5) a6 a7
/-- a run of so much fuel is a walk -/
def pm_SIM (l : Launch) (n : Nat) : Prop := ∀ (k pc : Nat) (L st : List Value) (M : pm_M) (S : pm_S) (r : Option Value) (Mf : pm_M) (Sf : pm_S), pm_run n k pc L st M S = some (r, Mf, Sf) → ∀ (p : Program) (e : Env) (R : Room) (s : State) (m : MethodId) (args : Array Value) (below : List Frame) (meth : Method) (c : Code) (H : Heap) (locs : List Loc) (Q : State → Prop) (D : va_G) (A : Nat → Prop) (c0 s0 : Nat) (ls : Array Slot) (ad : Nat → Nat) (ca : Nat → ClassId), pm_fx p R s m args meth c k → pm_X D A s c0 s0 H locs ls ad ca L st M S → L.length = pm_L k → Mf.2.1 - c0 ≤ R.cells → Mf.2.2 - s0 ≤ R.slots → pm_FIN l p e R s m args below meth c Q D A c0 s0 ad ca k M.1 r Mf Sf → W p l e R s m args below meth c H locs (M.2.1 - c0) (M.2.2 - s0) Q (F0 m pc ls (st.map (pm_v ad)))
/-- the law's call of its own constant -/
def pm_S7 (l : Launch) (n : Nat) : Prop := ∀ (k pc ni : Nat) (L st : List Value) (M : pm_M) (S : pm_S) (r : Option Value) (Mf : pm_M) (Sf : pm_S), pm_row k pc (.invokestatic 1007) ni = true → pm_cst (pm_run n) k pc L st M S = some (r, Mf, Sf) → ∀ (p : Program) (e : Env) (R : Room) (s : State) (m : MethodId) (args : Array Value) (below : List Frame) (meth : Method) (c : Code) (H : Heap) (locs : List Loc) (Q : State → Prop) (D : va_G) (A : Nat → Prop) (c0 s0 : Nat) (ls : Array Slot) (ad : Nat → Nat) (ca : Nat → ClassId), pm_fx p R s m args meth c k → pm_X D A s c0 s0 H locs ls ad ca L st M S → L.length = pm_L k → Mf.2.1 - c0 ≤ R.cells → Mf.2.2 - s0 ≤ R.slots → pm_FIN l p e R s m args below meth c Q D A c0 s0 ad ca k M.1 r Mf Sf → W p l e R s m args below meth c H locs (M.2.1 - c0) (M.2.2 - s0) Q (F0 m pc ls (st.map (pm_v ad)))
theorem pm_args_at : ∀ (vs : List Value) (i : Nat), (∀ v ∈ vs, v.category = 1) → ∀ (j : Nat) (v : Value), vs[j]? = some v → (i + j, v) ∈ lv_args i vs
  | [], _, _, j, v, h => by simp at h
  | a :: vs, i, hc, j, v, h => by
    have h1 : a.category = 1 := hc a List.mem_cons_self
    have e : lv_args i (a :: vs) = (i, a) :: lv_args (i + 1) vs := by
      show (i, a) :: lv_args (if a.category = 2 then i + 2 else i + 1) vs = _
      rw [if_neg (by omega)]
    rw [e]
    cases j with
    | zero =>
      rw [List.getElem?_cons_zero] at h
      cases h
      exact List.mem_cons_self
    | succ j =>
      rw [List.getElem?_cons_succ] at h
      have := pm_args_at vs (i + 1) (fun v hv => hc v (List.mem_cons_of_mem _ hv)) j v h
      rw [show i + 1 + j = i + (j + 1) by omega] at this
      exact List.mem_cons_of_mem _ this
theorem pm_sl_len : ∀ (vs : List Value), (∀ v ∈ vs, v.category = 1) → (lg_sl vs).length = vs.length
  | [], _ => rfl
  | a :: vs, hc => by
    have h1 : a.category = 1 := hc a List.mem_cons_self
    have h2 := pm_sl_len vs (fun v hv => hc v (List.mem_cons_of_mem _ hv))
    have e : lg_sl (a :: vs) = .val a :: lg_sl vs := by
      simp [lg_sl, show ¬ a.category = 2 by omega]
    rw [e, List.length_cons, List.length_cons, h2]
theorem pm_lr_ent {ad : Nat → Nat} {q : Nat} {as : List Value} {ls : Array Slot} (hc : ∀ v ∈ as, v.category = 1) (hn : as.length ≤ pm_L q) (h : lv_has ls (pm_L q) (lv_args 0 (as.map (pm_v ad)))) : pm_lr ad ls (pm_ent q as) := by
  refine ⟨?_, h.2.1, fun i v hv hr => ?_⟩
  · rw [h.1]; simp [pm_ent]; omega
  · by_cases hi : i < as.length
    · unfold pm_ent at hv
      rw [List.getElem?_append_left hi] at hv
      have h1 := pm_args_at (as.map (pm_v ad)) 0 (fun w hw => by
        obtain ⟨z, hz, rfl⟩ := List.mem_map.mp hw
        rw [pm_v_cat]; exact hc z hz) i (pm_v ad v) (by rw [List.getElem?_map, hv]; rfl)
      rw [Nat.zero_add] at h1
      exact h.2.2 _ h1
    · unfold pm_ent at hv
      rw [List.getElem?_append_right (by omega)] at hv
      have hm := List.mem_of_getElem? hv
      exact absurd (List.mem_replicate.mp hm).2 (hr 0)
theorem pm_Rs_ok : ∀ r ∈ pm_Rs, r = none ∨ r = some .int ∨ r = some .boolean := by decide +kernel
theorem pm_R_ok (k : Nat) : pm_R k = none ∨ pm_R k = some .int ∨ pm_R k = some .boolean := by
  unfold pm_R
  rw [List.getD_eq_getElem?_getD]
  cases h : pm_Rs[k]? with
  | none => exact Or.inl rfl
  | some r => exact pm_Rs_ok r (List.mem_of_getElem? h)
theorem pm_res_ir {o pc : Nat} {raw : Instr} (h : pm_res o pc raw = some .ireturn) : raw = .ireturn := by
  cases raw with
  | ireturn => rfl
  | if_acmp cnd d => cases cnd <;> simp only [pm_res] at h <;> first | (cases h; done) | (split at h <;> cases h)
  | ldc cp => simp only [pm_res] at h; split at h <;> first | (cases h; done) | (split at h <;> cases h)
  | new cp => simp only [pm_res] at h; split at h <;> first | (cases h; done) | (split at h <;> cases h)
  | invokevirtual cp => simp only [pm_res] at h; split at h <;> first | (cases h; done) | (split at h <;> cases h)
  | invokespecial cp => simp only [pm_res] at h; split at h <;> first | (cases h; done) | (split at h <;> cases h)
  | invokestatic cp => simp only [pm_res] at h; split at h <;> first | (cases h; done) | (split at h <;> cases h)
  | _ => simp only [pm_res] at h; first | (cases h; done) | (split at h <;> cases h)
theorem pm_res_vr {o pc : Nat} {raw : Instr} (h : pm_res o pc raw = some .return_) : raw = .return_ := by
  cases raw with
  | return_ => rfl
  | if_acmp cnd d => cases cnd <;> simp only [pm_res] at h <;> first | (cases h; done) | (split at h <;> cases h)
  | ldc cp => simp only [pm_res] at h; split at h <;> first | (cases h; done) | (split at h <;> cases h)
  | new cp => simp only [pm_res] at h; split at h <;> first | (cases h; done) | (split at h <;> cases h)
  | invokevirtual cp => simp only [pm_res] at h; split at h <;> first | (cases h; done) | (split at h <;> cases h)
  | invokespecial cp => simp only [pm_res] at h; split at h <;> first | (cases h; done) | (split at h <;> cases h)
  | invokestatic cp => simp only [pm_res] at h; split at h <;> first | (cases h; done) | (split at h <;> cases h)
  | _ => simp only [pm_res] at h; first | (cases h; done) | (split at h <;> cases h)
/-- what a return's row says -/
theorem pm_row_ret {k pc n : Nat} {i : Instr} {st : List Value} {r : Option Value} (hrow : pm_row k pc i n = true) (hret : pm_ret i st = some r) (hk : k ≠ pm_kC) : (∃ v, i = .ireturn ∧ st = [.int v] ∧ r = some (.int v) ∧ decode (pm_B k) pc = .ok (.ireturn, 1)) ∨ (i = .return_ ∧ st = [] ∧ r = none ∧ decode (pm_B k) pc = .ok (.return_, 1)) := by
  simp only [pm_row] at hrow
  split at hrow
  · rename_i raw n' hdec
    simp only [Bool.and_eq_true, decide_eq_true_eq] at hrow
    obtain ⟨⟨rfl, hlen, hres⟩, hrm⟩ := hrow
    cases i with
    | ireturn =>
      have := pm_res_ir hres
      subst this
      simp only [pm_ret] at hret
      split at hret
      · rename_i v
        cases hret
        refine Or.inl ⟨v, rfl, rfl, rfl, ?_⟩
        rcases hlen with h | h
        · cases h
        · rw [hdec, ← h]; rfl
      · cases hret
    | return_ =>
      have := pm_res_vr hres
      subst this
      simp only [pm_ret] at hret
      split at hret
      · cases hret
        refine Or.inr ⟨rfl, rfl, rfl, ?_⟩
        rcases hlen with h | h
        · cases h
        · rw [hdec, ← h]; rfl
      · cases hret
    | athrow =>
      simp only [pm_rm, pm_call, decide_eq_true_eq] at hrm
      exact absurd hrm hk
    | _ => simp only [pm_ret] at hret; cases hret
  · cases hrow
