section PMZ
variable {p : Program} {l : Launch} {e : Env} {R : Room} {s : State} {m : MethodId} {args : Array Value} {below : List Frame} {meth : Method} {c : Code} {H : Heap} {locs : List Loc} {Q : State → Prop} {D : va_G} {A : Nat → Prop} {c0 s0 : Nat} {ls : Array Slot} {ad : Nat → Nat} {ca : Nat → ClassId} {k n pc pc' : Nat} {L st L' st' : List Value} {M M' : pm_M} {S S' : pm_S} {i raw : Instr}
theorem pm_sim1 (hf : pm_fx p R s m args meth c k) (hX : pm_X D A s c0 s0 H locs ls ad ca L st M S) (hLs : L.length = pm_L k) (hrow : pm_row k pc i n = true) (hcall : pm_call i = none) (hrc : M'.2.1 - c0 ≤ R.cells) (hrs : M'.2.2 - s0 ≤ R.slots) (hs : pm_step i n pc L st M S = some (pc', L', st', M', S'))
    (kk : ∀ (H' : Heap) (locs' : List Loc) (ls' : Array Slot) (ad' : Nat → Nat) (ca' : Nat → ClassId), pm_ag M.1 ad ad' → pm_ag M.1 ca ca' → pm_X D A s c0 s0 H' locs' ls' ad' ca' L' st' M' S' → W p l e R s m args below meth c H' locs' (M'.2.1 - c0) (M'.2.2 - s0) Q (F0 m pc' ls' (st'.map (pm_v ad')))) : W p l e R s m args below meth c H locs (M.2.1 - c0) (M.2.2 - s0) Q (F0 m pc ls (st.map (pm_v ad))) := by
  simp only [pm_row] at hrow
  split at hrow
  · rename_i raw n' hdec
    simp only [Bool.and_eq_true, decide_eq_true_eq] at hrow
    obtain ⟨⟨rfl, hlen, hres⟩, hrm⟩ := hrow
    cases raw with
    | iconst v => exact ps_iconst hf hX hLs hdec hlen hres hs kk
    | bipush v => exact ps_bipush hf hX hLs hdec hlen hres hs kk
    | sipush v => exact ps_sipush hf hX hLs hdec hlen hres hs kk
    | lconst v => exact ps_lconst hf hX hLs hdec hlen hres hs kk
    | iload j => exact ps_iload hf hX hLs hdec hlen hres hs kk
    | iload_n j => exact ps_iload_n hf hX hLs hdec hlen hres hs kk
    | aload j => exact ps_aload hf hX hLs hdec hlen hres hs kk
    | aload_n j => exact ps_aload_n hf hX hLs hdec hlen hres hs kk
    | lload_n j => exact ps_lload_n hf hX hLs hdec hlen hres hs kk
    | istore j => exact ps_istore hf hX hLs hdec hlen hres hs kk
    | istore_n j => exact ps_istore_n hf hX hLs hdec hlen hres hs kk
    | astore j => exact ps_astore hf hX hLs hdec hlen hres hs kk
    | astore_n j => exact ps_astore_n hf hX hLs hdec hlen hres hs kk
    | lstore_n j => exact ps_lstore_n hf hX hLs hdec hlen hres hs kk
    | iinc j d => exact ps_iinc hf hX hLs hdec hlen hres hs kk
    | iadd => exact ps_iadd hf hX hLs hdec hlen hres hs kk
    | isub => exact ps_isub hf hX hLs hdec hlen hres hs kk
    | imul => exact ps_imul hf hX hLs hdec hlen hres hs kk
    | iand => exact ps_iand hf hX hLs hdec hlen hres hs kk
    | ior => exact ps_ior hf hX hLs hdec hlen hres hs kk
    | ishl => exact ps_ishl hf hX hLs hdec hlen hres hs kk
    | ishr => exact ps_ishr hf hX hLs hdec hlen hres hs kk
    | idiv => exact ps_idiv hf hX hLs hdec hlen hres hs kk
    | irem => exact ps_irem hf hX hLs hdec hlen hres hs kk
    | ineg => exact ps_ineg hf hX hLs hdec hlen hres hs kk
    | i2l => exact ps_i2l hf hX hLs hdec hlen hres hs kk
    | i2b => exact ps_i2b hf hX hLs hdec hlen hres hs kk
    | lshl => exact ps_lshl hf hX hLs hdec hlen hres hs kk
    | lor => exact ps_lor hf hX hLs hdec hlen hres hs kk
    | lcmp => exact ps_lcmp hf hX hLs hdec hlen hres hs kk
    | dup => exact ps_dup hf hX hLs hdec hlen hres hs kk
    | dup2 => exact ps_dup2 hf hX hLs hdec hlen hres hs kk
    | pop => exact ps_pop hf hX hLs hdec hlen hres hs kk
    | goto d => exact ps_goto hf hX hLs hdec hlen hres hs kk
    | ifCond cnd d =>
      cases cnd with
      | eq => exact ps_if_eq hf hX hLs hdec hlen hres hs kk
      | ne => exact ps_if_ne hf hX hLs hdec hlen hres hs kk
      | lt => exact ps_if_lt hf hX hLs hdec hlen hres hs kk
      | ge => exact ps_if_ge hf hX hLs hdec hlen hres hs kk
      | gt => exact ps_if_gt hf hX hLs hdec hlen hres hs kk
      | le => exact ps_if_le hf hX hLs hdec hlen hres hs kk
    | if_icmp cnd d =>
      cases cnd with
      | eq => exact ps_icmp_eq hf hX hLs hdec hlen hres hs kk
      | ne => exact ps_icmp_ne hf hX hLs hdec hlen hres hs kk
      | lt => exact ps_icmp_lt hf hX hLs hdec hlen hres hs kk
      | ge => exact ps_icmp_ge hf hX hLs hdec hlen hres hs kk
      | gt => exact ps_icmp_gt hf hX hLs hdec hlen hres hs kk
      | le => exact ps_icmp_le hf hX hLs hdec hlen hres hs kk
    | if_acmp cnd d =>
      cases cnd with
      | eq => exact ps_acmp hf hX hdec hlen hres hs kk
      | ne => simp [pm_res] at hres
    | tableswitch d lo hi offs => cases hres; exact ps_tsw hf hX hdec hs kk
    | lookupswitch d ps => cases hres; exact ps_lsw hf hX hdec hs kk
    | getfield cp => exact ps_getfield hf hX hdec hlen hres hs kk
    | putfield cp => exact ps_putfield hf hX hdec hlen hres hrm hs kk
    | getstatic cp => exact ps_getstatic hf hX hdec hlen hres hs kk
    | ldc cp => exact ps_ldc hf hX hdec hlen hres hs kk
    | new cp => exact ps_new hf hX hLs hdec hlen hres hrc hrs hs kk
    | newarray t => exact ps_newarray hf hX hLs hdec hlen hres hrc hrs hs kk
    | anewarray cp => exact ps_anewarray hf hX hLs hdec hlen hres hrc hrs hs kk
    | arraylength => exact ps_alen hf hX hLs hdec hlen hres hs kk
    | iaload => exact ps_iaload hf hX hLs hdec hlen hres hs kk
    | baload => exact ps_baload hf hX hLs hdec hlen hres hs kk
    | laload => exact ps_laload hf hX hLs hdec hlen hres hs kk
    | aaload => exact ps_aaload hf hX hLs hdec hlen hres hs kk
    | iastore => exact ps_iastore hf hX hLs hdec hlen hres hs kk
    | bastore => exact ps_bastore hf hX hLs hdec hlen hres hs kk
    | aastore => exact ps_aastore hf hX hLs hdec hlen hres hs kk
    | invokespecial cp => exact ps_special hf hX hLs hdec hlen hres hrm hcall hs kk
    | invokestatic cp => exact ps_static hf hX hLs hdec hlen hres hrm hcall hrc hrs hs kk
    | invokevirtual cp => exact ps_virtual hf hX hLs hdec hlen hres hrm hcall hrc hrs hs kk
    | ireturn => cases hres; simp only [pm_step] at hs; cases hs
    | return_ => cases hres; simp only [pm_step] at hs; cases hs
    | _ => simp only [pm_res] at hres; cases hres
  · cases hrow
end PMZ
/-- what the pure machine's steps never do: change a thing that is read alone, take a thing away -/
def pm_low (M : pm_M) (S : pm_S) (M' : pm_M) (S' : pm_S) : Prop := (∀ j, j < pm_k → S' j = S j) ∧ M.1 ≤ M'.1 ∧ M.2.1 ≤ M'.2.1 ∧ M.2.2 ≤ M'.2.2
theorem pm_low.rf (M : pm_M) (S : pm_S) : pm_low M S M S := ⟨fun _ _ => rfl, Nat.le_refl _, Nat.le_refl _, Nat.le_refl _⟩
theorem pm_low.put {M : pm_M} {S : pm_S} {a : Nat} {e : va_E} (h : pm_k ≤ a) : pm_low M S M (va_up S a e) := ⟨fun j hj => by simp [va_up, Nat.ne_of_lt (Nat.lt_of_lt_of_le hj h)], Nat.le_refl _, Nat.le_refl _, Nat.le_refl _⟩
theorem pm_low.new {M : pm_M} {S : pm_S} {e : va_E} {x : Nat} (h : pm_k ≤ M.1) : pm_low M S (M.1 + 1, M.2.1 + 1, M.2.2 + x) (va_up S M.1 e) := ⟨fun j hj => by simp [va_up, Nat.ne_of_lt (Nat.lt_of_lt_of_le hj h)], Nat.le_succ _, Nat.le_succ _, Nat.le_add_right _ _⟩
theorem pm_low.tr {M M1 M2 : pm_M} {S S1 S2 : pm_S} (h1 : pm_low M S M1 S1) (h2 : pm_low M1 S1 M2 S2) : pm_low M S M2 S2 := ⟨fun j hj => (h2.1 j hj).trans (h1.1 j hj), Nat.le_trans h1.2.1 h2.2.1, Nat.le_trans h1.2.2.1 h2.2.2.1, Nat.le_trans h1.2.2.2 h2.2.2.2⟩
theorem pm_step_low {i : Instr} {n pc pc' : Nat} {L st L' st' : List Value} {M M' : pm_M} {S S' : pm_S} (h : pm_step i n pc L st M S = some (pc', L', st', M', S')) (hk : pm_k ≤ M.1) : pm_low M S M' S' := by
  cases i with

  | iconst _ => simp only [pm_step] at h; repeat' (first | (cases h; done) | (cases h; exact pm_low.rf _ _) | split at h)
  | lconst _ => simp only [pm_step] at h; repeat' (first | (cases h; done) | (cases h; exact pm_low.rf _ _) | split at h)
  | iload _ => simp only [pm_step] at h; repeat' (first | (cases h; done) | (cases h; exact pm_low.rf _ _) | split at h)
  | lload _ => simp only [pm_step] at h; repeat' (first | (cases h; done) | (cases h; exact pm_low.rf _ _) | split at h)
  | aload _ => simp only [pm_step] at h; repeat' (first | (cases h; done) | (cases h; exact pm_low.rf _ _) | split at h)
  | istore _ => simp only [pm_step] at h; repeat' (first | (cases h; done) | (cases h; exact pm_low.rf _ _) | split at h)
  | astore _ => simp only [pm_step] at h; repeat' (first | (cases h; done) | (cases h; exact pm_low.rf _ _) | split at h)
  | lstore _ => simp only [pm_step] at h; repeat' (first | (cases h; done) | (cases h; exact pm_low.rf _ _) | split at h)
  | iinc _ _ => simp only [pm_step] at h; repeat' (first | (cases h; done) | (cases h; exact pm_low.rf _ _) | split at h)
  | iadd => simp only [pm_step] at h; repeat' (first | (cases h; done) | (cases h; exact pm_low.rf _ _) | split at h)
  | isub => simp only [pm_step] at h; repeat' (first | (cases h; done) | (cases h; exact pm_low.rf _ _) | split at h)
  | imul => simp only [pm_step] at h; repeat' (first | (cases h; done) | (cases h; exact pm_low.rf _ _) | split at h)
  | idiv => simp only [pm_step] at h; repeat' (first | (cases h; done) | (cases h; exact pm_low.rf _ _) | split at h)
  | irem => simp only [pm_step] at h; repeat' (first | (cases h; done) | (cases h; exact pm_low.rf _ _) | split at h)
  | iand => simp only [pm_step] at h; repeat' (first | (cases h; done) | (cases h; exact pm_low.rf _ _) | split at h)
  | ior => simp only [pm_step] at h; repeat' (first | (cases h; done) | (cases h; exact pm_low.rf _ _) | split at h)
  | ishl => simp only [pm_step] at h; repeat' (first | (cases h; done) | (cases h; exact pm_low.rf _ _) | split at h)
  | ishr => simp only [pm_step] at h; repeat' (first | (cases h; done) | (cases h; exact pm_low.rf _ _) | split at h)
  | ineg => simp only [pm_step] at h; repeat' (first | (cases h; done) | (cases h; exact pm_low.rf _ _) | split at h)
  | i2l => simp only [pm_step] at h; repeat' (first | (cases h; done) | (cases h; exact pm_low.rf _ _) | split at h)
  | i2b => simp only [pm_step] at h; repeat' (first | (cases h; done) | (cases h; exact pm_low.rf _ _) | split at h)
  | lshl => simp only [pm_step] at h; repeat' (first | (cases h; done) | (cases h; exact pm_low.rf _ _) | split at h)
  | lor => simp only [pm_step] at h; repeat' (first | (cases h; done) | (cases h; exact pm_low.rf _ _) | split at h)
  | lcmp => simp only [pm_step] at h; repeat' (first | (cases h; done) | (cases h; exact pm_low.rf _ _) | split at h)
  | dup => simp only [pm_step] at h; repeat' (first | (cases h; done) | (cases h; exact pm_low.rf _ _) | split at h)
  | dup2 => simp only [pm_step] at h; repeat' (first | (cases h; done) | (cases h; exact pm_low.rf _ _) | split at h)
  | pop => simp only [pm_step] at h; repeat' (first | (cases h; done) | (cases h; exact pm_low.rf _ _) | split at h)
  | goto _ => simp only [pm_step] at h; repeat' (first | (cases h; done) | (cases h; exact pm_low.rf _ _) | split at h)
  | ifCond _ _ => simp only [pm_step] at h; repeat' (first | (cases h; done) | (cases h; exact pm_low.rf _ _) | split at h)
  | if_icmp _ _ => simp only [pm_step] at h; repeat' (first | (cases h; done) | (cases h; exact pm_low.rf _ _) | split at h)
  | tableswitch _ _ _ _ => simp only [pm_step] at h; repeat' (first | (cases h; done) | (cases h; exact pm_low.rf _ _) | split at h)
  | lookupswitch _ _ => simp only [pm_step] at h; repeat' (first | (cases h; done) | (cases h; exact pm_low.rf _ _) | split at h)
  | getfield _ => simp only [pm_step] at h; repeat' (first | (cases h; done) | (cases h; exact pm_low.rf _ _) | split at h)
  | getstatic _ => simp only [pm_step] at h; repeat' (first | (cases h; done) | (cases h; exact pm_low.rf _ _) | split at h)
  | ldc _ => simp only [pm_step] at h; repeat' (first | (cases h; done) | (cases h; exact pm_low.rf _ _) | split at h)
  | arraylength => simp only [pm_step] at h; repeat' (first | (cases h; done) | (cases h; exact pm_low.rf _ _) | split at h)
  | iaload => simp only [pm_step] at h; repeat' (first | (cases h; done) | (cases h; exact pm_low.rf _ _) | split at h)
  | baload => simp only [pm_step] at h; repeat' (first | (cases h; done) | (cases h; exact pm_low.rf _ _) | split at h)
  | laload => simp only [pm_step] at h; repeat' (first | (cases h; done) | (cases h; exact pm_low.rf _ _) | split at h)
  | aaload => simp only [pm_step] at h; repeat' (first | (cases h; done) | (cases h; exact pm_low.rf _ _) | split at h)
  | invokespecial _ => simp only [pm_step] at h; repeat' (first | (cases h; done) | (cases h; exact pm_low.rf _ _) | split at h)
  | invokevirtual _ => simp only [pm_step] at h; repeat' (first | (cases h; done) | (cases h; exact pm_low.rf _ _) | split at h)
  | if_acmp cnd t => cases cnd <;> simp only [pm_step] at h <;> repeat' (first | (cases h; done) | (cases h; exact pm_low.rf _ _) | split at h)
  | putfield _ => simp only [pm_step] at h; repeat' (first | (cases h; done) | (rename_i hc; cases h; exact pm_low.put hc.1) | split at h)
  | iastore => simp only [pm_step] at h; repeat' (first | (cases h; done) | (rename_i hc; cases h; exact pm_low.put hc.1) | split at h)
  | bastore => simp only [pm_step] at h; repeat' (first | (cases h; done) | (rename_i hc; cases h; exact pm_low.put hc.1) | split at h)
  | aastore => simp only [pm_step] at h; repeat' (first | (cases h; done) | (rename_i hc; cases h; exact pm_low.put hc.1) | split at h)
  | invokestatic _ => simp only [pm_step] at h; repeat' (first | (cases h; done) | (cases h; exact pm_low.rf _ _) | (rename_i hc; cases h; exact pm_low.put hc.2.2.1) | split at h)
  | new _ => simp only [pm_step] at h; repeat' (first | (cases h; done) | (cases h; exact pm_low.new hk) | split at h)
  | newarray _ => simp only [pm_step] at h; repeat' (first | (cases h; done) | (cases h; exact pm_low.new hk) | split at h)
  | anewarray _ => simp only [pm_step] at h; repeat' (first | (cases h; done) | (cases h; exact pm_low.new hk) | split at h)
  | _ => simp only [pm_step] at h; cases h
