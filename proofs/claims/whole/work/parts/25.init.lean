theorem tb_in1 {w : Cond} (i : Nat) (h : tables_1_1[i]? = some w) : w ∈ lw_tbl := by
  have h := List.mem_of_getElem? h
  exact List.mem_append_right _ (List.mem_append_left _ h)
theorem tb_in2 {w : Cond} (i : Nat) (h : tables_1_2[i]? = some w) : w ∈ lw_tbl := by
  have h := List.mem_of_getElem? h
  exact List.mem_append_right _ (List.mem_append_right _ (List.mem_append_left _ h))
theorem tb_in3 {w : Cond} (i : Nat) (h : tables_1_3[i]? = some w) : w ∈ lw_tbl := by
  have h := List.mem_of_getElem? h
  exact List.mem_append_right _ (List.mem_append_right _ (List.mem_append_right _ (List.mem_append_left _ h)))
theorem tb_in4 {w : Cond} (i : Nat) (h : tables_1_4[i]? = some w) : w ∈ lw_tbl := by
  have h := List.mem_of_getElem? h
  exact List.mem_append_right _ (List.mem_append_right _ (List.mem_append_right _ (List.mem_append_right _ (List.mem_append_left _ h))))
theorem tb_in5 {w : Cond} (i : Nat) (h : tables_1_5[i]? = some w) : w ∈ lw_tbl := by
  have h := List.mem_of_getElem? h
  exact List.mem_append_right _ (List.mem_append_right _ (List.mem_append_right _ (List.mem_append_right _ (List.mem_append_right _ (List.mem_append_left _ h)))))
theorem tb_in6 {w : Cond} (i : Nat) (h : tables_1_6[i]? = some w) : w ∈ lw_tbl := by
  have h := List.mem_of_getElem? h
  exact List.mem_append_right _ (List.mem_append_right _ (List.mem_append_right _ (List.mem_append_right _ (List.mem_append_right _ (List.mem_append_right _ (List.mem_append_left _ h))))))
theorem tb_in7 {w : Cond} (i : Nat) (h : tables_1_7[i]? = some w) : w ∈ lw_tbl := by
  have h := List.mem_of_getElem? h
  exact List.mem_append_right _ (List.mem_append_right _ (List.mem_append_right _ (List.mem_append_right _ (List.mem_append_right _ (List.mem_append_right _ (List.mem_append_right _ (List.mem_append_left _ h)))))))
theorem tb_in8 {w : Cond} (i : Nat) (h : tables_1_8[i]? = some w) : w ∈ lw_tbl := by
  have h := List.mem_of_getElem? h
  exact List.mem_append_right _ (List.mem_append_right _ (List.mem_append_right _ (List.mem_append_right _ (List.mem_append_right _ (List.mem_append_right _ (List.mem_append_right _ (List.mem_append_right _ (h))))))))
set_option maxRecDepth 20000 in
theorem nr_R : ∀ q ∈ pm_txt, Cond.stringRef (pm_cn q.1) q.2.1 q.2.2.1 ∈ lw_tbl := List.forall_mem_cons.mpr ⟨tb_in2 216 (by rfl), List.forall_mem_cons.mpr ⟨tb_in3 77 (by rfl), List.forall_mem_cons.mpr ⟨tb_in3 37 (by rfl), List.forall_mem_cons.mpr ⟨tb_in3 48 (by rfl), List.forall_mem_cons.mpr ⟨tb_in3 49 (by rfl), List.forall_mem_cons.mpr ⟨tb_in3 50 (by rfl), List.forall_mem_cons.mpr ⟨tb_in3 51 (by rfl), List.forall_mem_cons.mpr ⟨tb_in7 26 (by rfl), List.forall_mem_cons.mpr ⟨tb_in7 27 (by rfl), List.forall_mem_cons.mpr ⟨tb_in7 28 (by rfl), List.forall_mem_cons.mpr ⟨tb_in6 231 (by rfl), List.forall_mem_cons.mpr ⟨tb_in7 29 (by rfl), List.forall_mem_cons.mpr ⟨tb_in7 6 (by rfl), List.forall_mem_cons.mpr ⟨tb_in7 14 (by rfl), List.forall_mem_cons.mpr ⟨tb_in7 15 (by rfl), List.forall_mem_cons.mpr ⟨tb_in7 16 (by rfl), List.forall_mem_cons.mpr ⟨tb_in7 17 (by rfl), fun _ h => absurd h List.not_mem_nil⟩⟩⟩⟩⟩⟩⟩⟩⟩⟩⟩⟩⟩⟩⟩⟩⟩
set_option maxRecDepth 20000 in
theorem nr_C : nr_l[154]? = some (Cond.exactly (.string RX9 326) "java/lang/String") ∧ nr_l[65]? = some (Cond.isRef (.static Bundle.tN "UNASSIGNED_STACK" Bundle.steD)) ∧ nr_l[66]? = some (Cond.isRef (.static Bundle.tN "SUPPRESSED_SENTINEL" Bundle.listD)) := by decide +kernel
theorem pm_S0_low {n : Nat} {xs : Nat → Int32} {i : Nat} {q : Nat × Nat × String × List Int32} (h : pm_txt[i]? = some q) : pm_S0 n xs (3 + i) = .inl (7, q.2.2.2.length, .inl (fun j => q.2.2.2.getD j 0)) := by
  unfold pm_S0
  rw [if_neg (by omega), if_neg (by omega), if_neg (by omega), show 3 + i - 3 = i by omega, h]
set_option maxHeartbeats 1000000 in
/-- the law's entry is a start of the pure machine -/
theorem pm_init {p : Program} {s : State} {m : MethodId} {meth : Method} {c : Code} {b L : Nat} {xs : Nat → Int32} (C0 : lw_At p s m meth c b L xs) : ∃ (D : va_G) (ad : Nat → Nat), ad 0 = b ∧ pm_I D (fun q : Nat => s.heap.size ≤ q) s s.heap [] ad (fun _ => 0) pm_M0 (pm_S0 L xs) := by
  obtain ⟨hx, hb, hr, hml, hown, hts, hX, hbl, hlocks, hgv⟩ := C0
  have hA : ∀ a : Nat, a < s.heap.size → ¬ (fun q : Nat => s.heap.size ≤ q) a := fun a h => Nat.not_le.mpr h
  have hs : ∀ w ∈ nr_l, w.before #[Value.ref b] s = true := flat_of_before _ hgv
  have hat : ∀ (i : Nat) (w : Cond), nr_l[i]? = some w → w.before #[Value.ref b] s = true := fun i w h => hs w (List.mem_of_getElem? h)
  have hts' : ∀ w ∈ pm_ws, w.before #[Value.ref b] s = true := fun w hw => hts w (List.mem_filter.mp hw).1
  have hcl : ∀ ci : Nat, ∃ q : ClassId × (Nat → Nat), ci < 11 → u_Kn s (pm_cn ci) (pm_fT ci) (pm_nf ci) q.1 q.2 := by
    intro ci
    by_cases h : ci < 11
    · obtain ⟨cC, iS, hK⟩ := u_known (C := pm_cn ci) (T := pm_fT ci) (N := pm_nf ci) (n := pm_nf ci) hts' (pm_lay ci h) (hts' _ (pm_ins ci h).1)
      exact ⟨(cC, iS), fun _ => hK⟩
    · exact ⟨(0, fun _ => 0), fun h2 => absurd h2 h⟩
  obtain ⟨f, hf⟩ := Classical.axiomOfChoice hcl
  obtain ⟨aP, hPe, hPT⟩ := va_Tof (ty := .int) (f := fun j => .int (pm_pr9.getD j 0)) (A := fun q : Nat => s.heap.size ≤ q) (by decide) (hat _ _ nr_P.1) (va_eqt (hat _ _ nr_P.2.1)) (fun j hj => va_eqt (hat _ _ (nr_P.2.2 j hj))) hA
  obtain ⟨aT, hTe, hTT⟩ := va_Tof (ty := .int) (f := fun j => .int (pm_tl9.getD j 0)) (A := fun q : Nat => s.heap.size ≤ q) (by decide) (hat _ _ nr_T.1) (va_eqt (hat _ _ nr_T.2.1)) (fun j hj => va_eqt (hat _ _ (nr_T.2.2 j hj))) hA
  have htx : ∀ i : Nat, ∃ a : Nat, ∀ q, pm_txt[i]? = some q → pm_tx q a (fun q : Nat => s.heap.size ≤ q) s s.heap := by
    intro i
    cases hq : pm_txt[i]? with
    | none => exact ⟨0, fun q h => by cases h⟩
    | some q =>
      have hi : i < 17 := (List.getElem?_eq_some_iff.mp hq).1
      have hok := nr_X i hi
      rw [List.getD_eq_getElem?_getD, hq] at hok
      have hok : nr_ok q (nr_tp.getD i 0) = true := hok
      unfold nr_ok at hok
      simp only [Bool.and_eq_true, decide_eq_true_eq, List.all_eq_true, List.mem_range] at hok
      obtain ⟨⟨⟨⟨o1, o2⟩, o3⟩, o4⟩, o5⟩ := hok
      obtain ⟨a, c9, cA, kA, q1, q2, q3, q4, q5, q6, -⟩ := Cond.exactly_spec (args := #[Value.ref b]) (first := s) (o := none) (s := s) (idx := []) (t := nr_tm q) (cls := "java/lang/String") (hat _ _ o1)
      have hlt : q.2.2.2.length < 2 ^ 31 := by
        have : ∀ z ∈ pm_txt, z.2.2.2.length < 2 ^ 31 := by decide
        exact this q (List.mem_of_getElem? hq)
      obtain ⟨t, ht, hT⟩ := va_Tof (ty := .byte) (f := fun j => .int (q.2.2.2.getD j 0)) (A := fun q : Nat => s.heap.size ≤ q) hlt (hat _ _ o3) (va_eqt (hat _ _ o4)) (fun j hj => va_eqt (hat _ _ (o5 j hj))) hA
      refine ⟨a, fun q' hq' => ?_⟩
      cases hq'
      exact ⟨vk_R.of (A := #[Value.ref b]) (hts _ (nr_R q (List.mem_of_getElem? hq))) q1, ⟨cA, q3, q5, by rw [q6]; exact q2, hA a (Array.getElem?_eq_some_iff.mp q3).1⟩, vk_OFof q1 (va_eqt (hat _ _ o2)) hA, t, vk_OFof q1 ht hA, hT⟩
  obtain ⟨at9, hat9⟩ := Classical.axiomOfChoice htx
  obtain ⟨sa, c8, cA8, kA8, hsa, -⟩ := Cond.exactly_spec (args := #[Value.ref b]) (first := s) (o := none) (s := s) (idx := []) (t := .string RX9 326) (cls := "java/lang/String") (hat _ _ nr_C.1)
  have hXT : va_T .int b L (fun i => .int (xs i)) (fun q : Nat => s.heap.size ≤ q) s s.heap := by
    obtain ⟨scr, h1, h2, h3, h4, h5⟩ := hX
    exact ⟨scr, h1, h2, h3, by rw [h4]; exact Nat.le_refl _, by rw [h4], h5, hA b hbl⟩
  refine ⟨(fun ci => (f ci).1, fun ci => (f ci).2), fun j => if j = 0 then b else if j = 1 then aP else if j = 2 then aT else at9 (j - 3), rfl, ?_⟩
  refine ⟨⟨fun ci q hq => ?_, fun k q h => by simp at h⟩, fun a h1 h2 => ?_, fun k q h => ?_, ⟨fun i j x y h => ?_, fun k q h => ?_⟩, va_S.rf, fun q h => h, fun a h => ?_, Nat.le_refl _, ⟨fun j hj t mm x hx9 ht => ?_, ⟨?_, ?_, ?_, ?_, ?_, ?_⟩, ⟨fun w hw => va_Nw.of (pm_nw_ot hw) (hts w (List.mem_filter.mp hw).1), fun w hw => va_Nw.of (pm_nx_ot hw) (hts w (List.mem_filter.mp hw).1), va_AO.of (hts _ (tb_in1 160 (by rfl))), sa, vk_R.of (A := #[Value.ref b]) (hts _ (tb_in5 234 (by rfl))) hsa⟩, fun i q hq => ⟨pm_S0_low hq, ?_⟩, fun a h8 m9 x9 hx9 => ?_⟩⟩
  · have hlt : ci < 11 := (List.getElem?_eq_some_iff.mp hq).1
    have := pm_vw ci hlt
    rw [hq] at this
    cases Option.some.inj this
    exact hf ci hlt
  · have : a < 32 := h2
    have : 32 ≤ a := h1
    omega
  · have := (pm_w_in h).1
    simp [pm_M0] at this
  · have := (pm_w_in h).1
    simp [pm_M0] at this
  · have := (pm_w_in h).1
    simp [pm_M0] at this
  · unfold pm_S0
    split
    · trivial
    · split
      · trivial
      · split
        · trivial
        · split <;> trivial
  · unfold pm_S0 at hx9
    by_cases h0 : j = 0
    · rw [if_pos h0] at hx9
      cases hx9
      subst h0
      exact ⟨rfl, xs, rfl, hXT⟩
    · rw [if_neg h0] at hx9
      by_cases h1 : j = 1
      · rw [if_pos h1] at hx9
        cases hx9
        subst h1
        exact ⟨rfl, _, rfl, hPT⟩
      · rw [if_neg h1] at hx9
        by_cases h2 : j = 2
        · rw [if_pos h2] at hx9
          cases hx9
          subst h2
          exact ⟨rfl, _, rfl, hTT⟩
        · rw [if_neg h2] at hx9
          split at hx9
          · cases hx9
            exact absurd ht (by decide)
          · cases hx9
            exact absurd ht (by decide)
  · exact va_Zof (hts _ (tb_in3 42 (by rfl))) (hts _ (tb_in1 1 (by rfl))) hPe hA
  · exact va_Zof (hts _ (tb_in5 32 (by rfl))) (hts _ (tb_in1 9 (by rfl))) hTe hA
  · exact va_Zof (hts _ (tb_in2 230 (by rfl))) (hts _ (tb_in1 13 (by rfl))) (va_eqt (hat _ _ nr_S.1)) hA
  · exact va_Zqof (hts _ (tb_in3 6 (by rfl))) (hts _ (tb_in1 15 (by rfl))) (hat _ _ nr_S.2) hA
  · exact vx_Zqof (hts _ (tb_in5 222 (by rfl))) (hts _ (tb_in1 20 (by rfl))) (hat _ _ nr_C.2.1) hA
  · exact vx_Zqof (hts _ (tb_in5 224 (by rfl))) (hts _ (tb_in1 20 (by rfl))) (hat _ _ nr_C.2.2) hA
  · have hi : i < 17 := (List.getElem?_eq_some_iff.mp hq).1
    have h9 := hat9 i q hq
    have e9 : (if 3 + i = 0 then b else if 3 + i = 1 then aP else if 3 + i = 2 then aT else at9 (3 + i - 3)) = at9 i := by
      rw [if_neg (by omega), if_neg (by omega), if_neg (by omega), show 3 + i - 3 = i by omega]
    show pm_tx q (if 3 + i = 0 then b else if 3 + i = 1 then aP else if 3 + i = 2 then aT else at9 (3 + i - 3)) _ s s.heap
    rw [e9]
    exact h9
  · unfold pm_S0 at hx9
    by_cases h0 : a = 0
    · rw [if_pos h0] at hx9; cases hx9
    · rw [if_neg h0] at hx9
      by_cases h1 : a = 1
      · rw [if_pos h1] at hx9; cases hx9
      · rw [if_neg h1] at hx9
        by_cases h2 : a = 2
        · rw [if_pos h2] at hx9; cases hx9
        · rw [if_neg h2] at hx9
          split at hx9
          · rename_i q9 hq9
            exact ⟨a - 3, q9, by omega, hq9⟩
          · cases hx9
