/-! ===== the law: its cases and its loop ===== -/
theorem l_cases {t i N z : Nat} {xs : Nat → Int32} {v w : Value} {σ : l2_m} (hN : N ≤ 3584) (hi : i + 7 ≤ N) (hz : z < 38) (hC : CI comF σ σ) (hR : RWF σ) (h : ∀ (υ : l2_m) (v w : Value), CI comF υ υ → RWF υ → lW (lB N xs) (t + 1) 1841 (lL i v w) [] υ) : lW (lB N xs) t 40 (lL i v w) [vi (z : Int)] σ := by
  have h' : ∀ υ : l2_m, CI comF υ υ → RWF υ → lW (lB N xs) t 1841 (lL i v w) [] υ := fun υ a b => lW_mono (h υ v w a b) (by omega)
  have go : ∀ z pc : Nat, (∀ M : pm_M, pm_step (.tableswitch 1801 0 37 #[168, 241, 266, 279, 292, 317, 342, 391, 416, 453, 514, 575, 600, 637, 724, 785, 834, 871, 896, 945, 994, 1043, 1130, 1167, 1216, 1277, 1338, 1387, 1448, 1497, 1546, 1583, 1620, 1645, 1694, 1707, 1763, 1788]) 168 40 (lL i v w) [vi (z : Int)] M (hp (lB N xs) σ) = some (pc, lL i v w, [], M, hp (lB N xs) σ)) → lW (lB N xs) t pc (lL i v w) [] σ → lW (lB N xs) t 40 (lL i v w) [vi (z : Int)] σ   := fun z pc h1 h2 => l_go (by decide +kernel) rfl rfl (by intro h; cases h) (fun M _ => h1 M) h2
  match z, hz with
  | 0, _ =>
    have hP := pair_feed (F := comF) (B := lB N xs) (rg_i32 (xs (i + 1))) (rg_i32 (xs (i + 2))) (rg_i32 (xs (i + 3))) (rg_i32 (xs (i + 4))) (rg_i32 (xs (i + 5)))
    simp only [vi_to] at hP
    exact go 0 208 (fun M => rfl) (l_case hN (by omega) (m := 5) (a := 107) (b := 189) (by decide +kernel) hP hC hR h')
  | 1, _ =>
    have hP := pair_desk (F := comF) (B := lB N xs) (rg_i32 (xs (i + 1)))
    simp only [vi_to] at hP
    exact go 1 281 (fun M => rfl) (l_case hN (by omega) (m := 1) (a := 108) (b := 190) (by decide +kernel) hP hC hR h')
  | 2, _ =>
    exact go 2 306 (fun M => rfl) (l_case hN (by omega) (m := 0) (a := 109) (b := 191) (by decide +kernel) (pair_fault (F := comF) (B := lB N xs)) hC hR h')
  | 3, _ =>
    exact go 3 319 (fun M => rfl) (l_case hN (by omega) (m := 0) (a := 110) (b := 192) (by decide +kernel) (pair_where (F := comF) (B := lB N xs)) hC hR h')
  | 4, _ =>
    have hP := pair_about (F := comF) (B := lB N xs) (rg_i32 (xs (i + 1)))
    simp only [vi_to] at hP
    exact go 4 332 (fun M => rfl) (l_case hN (by omega) (m := 1) (a := 111) (b := 206) (by decide +kernel) hP hC hR h')
  | 5, _ =>
    have hP := pair_terms (F := comF) (B := lB N xs) (rg_i32 (xs (i + 1)))
    simp only [vi_to] at hP
    exact go 5 357 (fun M => rfl) (l_case hN (by omega) (m := 1) (a := 112) (b := 207) (by decide +kernel) hP hC hR h')
  | 6, _ =>
    have hP := pair_term (F := comF) (B := lB N xs) (rg_i32 (xs (i + 1))) (rg_i32 (xs (i + 2))) (rg_i32 (xs (i + 3)))
    simp only [vi_to] at hP
    exact go 6 382 (fun M => rfl) (l_case hN (by omega) (m := 3) (a := 113) (b := 208) (by decide +kernel) hP hC hR h')
  | 7, _ =>
    have hP := pair_degree (F := comF) (B := lB N xs) (rg_i32 (xs (i + 1)))
    simp only [vi_to] at hP
    exact go 7 431 (fun M => rfl) (l_case hN (by omega) (m := 1) (a := 114) (b := 209) (by decide +kernel) hP hC hR h')
  | 8, _ =>
    have hP := pair_degreeIn (F := comF) (B := lB N xs) (rg_i32 (xs (i + 1))) (rg_i32 (xs (i + 2)))
    simp only [vi_to] at hP
    exact go 8 456 (fun M => rfl) (l_case hN (by omega) (m := 2) (a := 115) (b := 211) (by decide +kernel) hP hC hR h')
  | 9, _ =>
    have hP := pair_coef (F := comF) (B := lB N xs) (rg_i32 (xs (i + 1))) (rg_i32 (xs (i + 2))) (rg_i32 (xs (i + 3))) (rg_i32 (xs (i + 4)))
    simp only [vi_to] at hP
    exact go 9 493 (fun M => rfl) (l_case hN (by omega) (m := 4) (a := 116) (b := 212) (by decide +kernel) hP hC hR h')
  | 10, _ =>
    have hP := pair_value (F := comF) (B := lB N xs) (rg_i32 (xs (i + 1))) (rg_i32 (xs (i + 2))) (rg_i32 (xs (i + 3))) (rg_i32 (xs (i + 4)))
    simp only [vi_to] at hP
    exact go 10 554 (fun M => rfl) (l_case hN (by omega) (m := 4) (a := 117) (b := 216) (by decide +kernel) hP hC hR h')
  | 11, _ =>
    have hP := pair_roots (F := comF) (B := lB N xs) (rg_i32 (xs (i + 1)))
    simp only [vi_to] at hP
    exact go 11 615 (fun M => rfl) (l_case hN (by omega) (m := 1) (a := 118) (b := 217) (by decide +kernel) hP hC hR h')
  | 12, _ =>
    have hP := pair_same (F := comF) (B := lB N xs) (rg_i32 (xs (i + 1))) (rg_i32 (xs (i + 2)))
    simp only [vi_to] at hP
    exact go 12 640 (fun M => rfl) (l_case hN (by omega) (m := 2) (a := 119) (b := 218) (by decide +kernel) hP hC hR h')
  | 13, _ =>
    have hP := pair_ahead (F := comF) (B := lB N xs) (rg_i32 (xs (i + 1))) (rg_i32 (xs (i + 2))) (rg_i32 (xs (i + 3))) (rg_i32 (xs (i + 4))) (rg_i32 (xs (i + 5))) (rg_i32 (xs (i + 6)))
    simp only [vi_to] at hP
    exact go 13 677 (fun M => rfl) (l_case hN (by omega) (m := 6) (a := 120) (b := 219) (by decide +kernel) hP hC hR h')
  | 14, _ =>
    have hP := pair_leadBy (F := comF) (B := lB N xs) (rg_i32 (xs (i + 1))) (rg_i32 (xs (i + 2))) (rg_i32 (xs (i + 3))) (rg_i32 (xs (i + 4)))
    simp only [vi_to] at hP
    exact go 14 764 (fun M => rfl) (l_case hN (by omega) (m := 4) (a := 121) (b := 221) (by decide +kernel) hP hC hR h')
  | 15, _ =>
    have hP := pair_divided (F := comF) (B := lB N xs) (rg_i32 (xs (i + 1))) (rg_i32 (xs (i + 2))) (rg_i32 (xs (i + 3)))
    simp only [vi_to] at hP
    exact go 15 825 (fun M => rfl) (l_case hN (by omega) (m := 3) (a := 122) (b := 234) (by decide +kernel) hP hC hR h')
  | 16, _ =>
    have hP := pair_divides (F := comF) (B := lB N xs) (rg_i32 (xs (i + 1))) (rg_i32 (xs (i + 2)))
    simp only [vi_to] at hP
    exact go 16 874 (fun M => rfl) (l_case hN (by omega) (m := 2) (a := 123) (b := 235) (by decide +kernel) hP hC hR h')
  | 17, _ =>
    have hP := pair_missing (F := comF) (B := lB N xs) (rg_i32 (xs (i + 1)))
    simp only [vi_to] at hP
    exact go 17 911 (fun M => rfl) (l_case hN (by omega) (m := 1) (a := 124) (b := 238) (by decide +kernel) hP hC hR h')
  | 18, _ =>
    have hP := pair_add (F := comF) (B := lB N xs) (rg_i32 (xs (i + 1))) (rg_i32 (xs (i + 2))) (rg_i32 (xs (i + 3)))
    simp only [vi_to] at hP
    exact go 18 936 (fun M => rfl) (l_case hN (by omega) (m := 3) (a := 125) (b := 242) (by decide +kernel) hP hC hR h')
  | 19, _ =>
    have hP := pair_less (F := comF) (B := lB N xs) (rg_i32 (xs (i + 1))) (rg_i32 (xs (i + 2))) (rg_i32 (xs (i + 3)))
    simp only [vi_to] at hP
    exact go 19 985 (fun M => rfl) (l_case hN (by omega) (m := 3) (a := 126) (b := 243) (by decide +kernel) hP hC hR h')
  | 20, _ =>
    have hP := pair_times (F := comF) (B := lB N xs) (rg_i32 (xs (i + 1))) (rg_i32 (xs (i + 2))) (rg_i32 (xs (i + 3)))
    simp only [vi_to] at hP
    exact go 20 1034 (fun M => rfl) (l_case hN (by omega) (m := 3) (a := 127) (b := 244) (by decide +kernel) hP hC hR h')
  | 21, _ =>
    have hP := pair_scale (F := comF) (B := lB N xs) (rg_i32 (xs (i + 1))) (rg_i32 (xs (i + 2))) (rg_i32 (xs (i + 3))) (rg_i32 (xs (i + 4))) (rg_i32 (xs (i + 5))) (rg_i32 (xs (i + 6)))
    simp only [vi_to] at hP
    exact go 21 1083 (fun M => rfl) (l_case hN (by omega) (m := 6) (a := 128) (b := 245) (by decide +kernel) hP hC hR h')
  | 22, _ =>
    have hP := pair_monic (F := comF) (B := lB N xs) (rg_i32 (xs (i + 1))) (rg_i32 (xs (i + 2)))
    simp only [vi_to] at hP
    exact go 22 1170 (fun M => rfl) (l_case hN (by omega) (m := 2) (a := 129) (b := 246) (by decide +kernel) hP hC hR h')
  | 23, _ =>
    have hP := pair_derive (F := comF) (B := lB N xs) (rg_i32 (xs (i + 1))) (rg_i32 (xs (i + 2))) (rg_i32 (xs (i + 3)))
    simp only [vi_to] at hP
    exact go 23 1207 (fun M => rfl) (l_case hN (by omega) (m := 3) (a := 130) (b := 247) (by decide +kernel) hP hC hR h')
  | 24, _ =>
    have hP := pair_put (F := comF) (B := lB N xs) (rg_i32 (xs (i + 1))) (rg_i32 (xs (i + 2))) (rg_i32 (xs (i + 3))) (rg_i32 (xs (i + 4)))
    simp only [vi_to] at hP
    exact go 24 1256 (fun M => rfl) (l_case hN (by omega) (m := 4) (a := 131) (b := 248) (by decide +kernel) hP hC hR h')
  | 25, _ =>
    have hP := pair_swap (F := comF) (B := lB N xs) (rg_i32 (xs (i + 1))) (rg_i32 (xs (i + 2))) (rg_i32 (xs (i + 3))) (rg_i32 (xs (i + 4)))
    simp only [vi_to] at hP
    exact go 25 1317 (fun M => rfl) (l_case hN (by omega) (m := 4) (a := 132) (b := 249) (by decide +kernel) hP hC hR h')
  | 26, _ =>
    have hP := pair_rest (F := comF) (B := lB N xs) (rg_i32 (xs (i + 1))) (rg_i32 (xs (i + 2))) (rg_i32 (xs (i + 3)))
    simp only [vi_to] at hP
    exact go 26 1378 (fun M => rfl) (l_case hN (by omega) (m := 3) (a := 133) (b := 250) (by decide +kernel) hP hC hR h')
  | 27, _ =>
    have hP := pair_quotient (F := comF) (B := lB N xs) (rg_i32 (xs (i + 1))) (rg_i32 (xs (i + 2))) (rg_i32 (xs (i + 3))) (rg_i32 (xs (i + 4)))
    simp only [vi_to] at hP
    exact go 27 1427 (fun M => rfl) (l_case hN (by omega) (m := 4) (a := 134) (b := 251) (by decide +kernel) hP hC hR h')
  | 28, _ =>
    have hP := pair_pair (F := comF) (B := lB N xs) (rg_i32 (xs (i + 1))) (rg_i32 (xs (i + 2))) (rg_i32 (xs (i + 3)))
    simp only [vi_to] at hP
    exact go 28 1488 (fun M => rfl) (l_case hN (by omega) (m := 3) (a := 135) (b := 252) (by decide +kernel) hP hC hR h')
  | 29, _ =>
    have hP := pair_common (B := lB N xs) (rg_i32 (xs (i + 1))) (rg_i32 (xs (i + 2))) (rg_i32 (xs (i + 3)))
    simp only [vi_to] at hP
    exact go 29 1537 (fun M => rfl) (l_case hN (by omega) (m := 3) (a := 136) (b := 268) (by decide +kernel) hP hC hR h')
  | 30, _ =>
    have hP := pair_content (B := lB N xs) (rg_i32 (xs (i + 1))) (rg_i32 (xs (i + 2)))
    simp only [vi_to] at hP
    exact go 30 1586 (fun M => rfl) (l_case hN (by omega) (m := 2) (a := 137) (b := 269) (by decide +kernel) hP hC hR h')
  | 31, _ =>
    have hP := pair_primitive (B := lB N xs) (rg_i32 (xs (i + 1))) (rg_i32 (xs (i + 2)))
    simp only [vi_to] at hP
    exact go 31 1623 (fun M => rfl) (l_case hN (by omega) (m := 2) (a := 138) (b := 270) (by decide +kernel) hP hC hR h')
  | 32, _ =>
    have hP := pair_complete (F := comF) (B := lB N xs) (rg_i32 (xs (i + 1)))
    simp only [vi_to] at hP
    exact go 32 1660 (fun M => rfl) (l_case hN (by omega) (m := 1) (a := 139) (b := 272) (by decide +kernel) hP hC hR h')
  | 33, _ =>
    have hP := pair_order (F := comF) (B := lB N xs) (rg_i32 (xs (i + 1))) (rg_i32 (xs (i + 2))) (rg_i32 (xs (i + 3)))
    simp only [vi_to] at hP
    exact go 33 1685 (fun M => rfl) (l_case hN (by omega) (m := 3) (a := 140) (b := 273) (by decide +kernel) hP hC hR h')
  | 34, _ =>
    exact go 34 1734 (fun M => rfl) (l_case hN (by omega) (m := 0) (a := 141) (b := 274) (by decide +kernel) (pair_undo (F := comF) (B := lB N xs)) hC hR h')
  | 35, _ => exact go 35 1747 (fun M => rfl) (lc1 hN (by omega) hC hR h)
  | 36, _ =>
    have hP := pair_size (F := comF) (B := lB N xs) (rg_i32 (xs (i + 1)))
    simp only [vi_to] at hP
    exact go 36 1803 (fun M => rfl) (l_case hN (by omega) (m := 1) (a := 143) (b := 277) (by decide +kernel) hP hC hR h')
  | 37, _ =>
    exact go 37 1828 (fun M => rfl) (l_case hN (by omega) (m := 0) (a := 144) (b := 278) (by decide +kernel) (pair_trouble (F := comF) (B := lB N xs)) hC hR h')
  | z + 38, hz => exact absurd hz (by omega)
theorem l_loop {N : Nat} {xs : Nat → Int32} (hN : N ≤ 3584) : ∀ (k i t : Nat) (v w : Value) (σ : l2_m), N < i + 7 * k → i = 7 * t → t ≤ 512 → CI comF σ σ → RWF σ → lW (lB N xs) t 23 (lL i v w) [] σ
  | k, i, t, v, w, σ, hk, hit, ht, hC, hR => by
    refine l_go (pc' := 25) (L' := lL i v w) (st' := [vi (i : Int)]) (i := .iload 4) (n := 2) (by decide +kernel) rfl rfl (by intro h; cases h) (fun M hM => rfl) ?_
    refine l_go (pc' := 26) (L' := lL i v w) (st' := [.ref 0, vi (i : Int)]) (i := .aload 0) (n := 1) (by decide +kernel) rfl rfl (by intro h; cases h) (fun M hM => rfl) ?_
    refine l_go (pc' := 27) (L' := lL i v w) (st' := [vi (N : Int), vi (i : Int)]) (i := .arraylength) (n := 1) (by decide +kernel) rfl rfl (by intro h; cases h) (fun M hM => ?_) ?_
    · simp only [pm_step, hp_0]
      exact if_pos ⟨lt_of_eq_of_lt' hM (by decide), by decide⟩
    refine l_go (pc' := 29) (L' := lL i v w) (st' := [vi 7, vi (N : Int), vi (i : Int)]) (i := .iconst 7) (n := 2) (by decide +kernel) rfl rfl (by intro h; cases h) (fun M hM => rfl) ?_
    refine l_go (pc' := 30) (L' := lL i v w) (st' := [vi ((N : Int) - 7), vi (i : Int)]) (i := .isub) (n := 1) (by decide +kernel) rfl rfl (by intro h; cases h) (fun M hM => by simp only [pm_step, ← Int32.ofInt_sub]) ?_
    have ri : rg (i : Int) := ⟨by omega, by omega⟩
    have rN : rg ((N : Int) - 7) := ⟨by omega, by omega⟩
    have cm := l2_cmp (c := .gt) ri rN
    by_cases hg : (N : Int) - 7 < i
    · refine l_go (pc' := 1847) (L' := lL i v w) (st' := []) (i := .if_icmp .gt 1847) (n := 3) (by decide +kernel) rfl rfl (by intro h; cases h) (fun M hM => (if_pos (cm.mpr hg)).trans rfl) ?_
      refine l_go (pc' := 1848) (L' := lL i v w) (st' := [vi 1]) (i := .iconst 1) (n := 1) (by decide +kernel) rfl rfl (by intro h; cases h) (fun M hM => rfl) ?_
      intro M q1 q2 q3
      exact pm_end (i := .ireturn) (n := 1) (r := some (vi 1)) (by decide +kernel) rfl rfl (by decide +kernel) ⟨rfl, by omega, by omega⟩
    · refine l_go (pc' := 33) (L' := lL i v w) (st' := []) (i := .if_icmp .gt 1847) (n := 3) (by decide +kernel) rfl rfl (by intro h; cases h) (fun M hM => (if_neg (fun z => hg (cm.mp z))).trans rfl) ?_
      refine l_go (pc' := 34) (L' := lL i v w) (st' := [.ref 0]) (i := .aload 0) (n := 1) (by decide +kernel) rfl rfl (by intro h; cases h) (fun M hM => rfl) ?_
      refine l_go (pc' := 36) (L' := lL i v w) (st' := [vi (i : Int), .ref 0]) (i := .iload 4) (n := 2) (by decide +kernel) rfl rfl (by intro h; cases h) (fun M hM => rfl) ?_
      refine l_go (pc' := 37) (L' := lL i v w) (st' := [vi (xs i).toInt]) (i := .iaload) (n := 1) (by decide +kernel) rfl rfl (by intro h; cases h) (fun M hM => ?_) ?_
      · obtain ⟨r1, r2⟩ := rg_in (i := (i : Int)) (n := N) (by omega) (by omega) (by omega)
        simp only [pm_step, hp_0]
        rw [if_pos ⟨lt_of_eq_of_lt' hM (by decide), r1⟩, r2, Int.toNat_natCast, vi_to]
      refine l_go (pc' := 39) (L' := lL i v w) (st' := [vi 63, vi (xs i).toInt]) (i := .iconst 63) (n := 2) (by decide +kernel) rfl rfl (by intro h; cases h) (fun M hM => rfl) ?_
      refine l_go (pc' := 40) (L' := lL i v w) (st' := [vi ((xs i).toInt % 64)]) (i := .iand) (n := 1) (by decide +kernel) rfl rfl (by intro h; cases h) (fun M hM => ?_) ?_
      · simp only [pm_step]
        have e := i_and (a := (xs i).toInt) (j := 6) (w := 64) (by decide) (by decide)
        have e' : Int32.ofInt (xs i).toInt &&& Int32.ofInt 63 = Int32.ofInt ((xs i).toInt % 64) := e
        rw [e']
      have next : ∀ (υ : l2_m) (v w : Value), CI comF υ υ → RWF υ → lW (lB N xs) (t + 1) 1841 (lL i v w) [] υ := fun υ v w c r => by
        refine l_go (pc' := 1844) (L' := lL (i + 7) v w) (st' := []) (i := .iinc 4 7) (n := 3) (by decide +kernel) rfl rfl (by intro h; cases h) (fun M hM => ?_) ?_
        · show some (1844, [Value.ref 0, .ref 32, .ref 186, .ref 211, .int (Int32.ofInt (i : Int) + Int32.ofInt 7), v, w], ([] : List Value), M, hp (lB N xs) υ) = _
          rw [← Int32.ofInt_add]
          rfl
        refine l_go (pc' := 23) (L' := lL (i + 7) v w) (st' := []) (i := .goto 23) (n := 3) (by decide +kernel) rfl rfl (by intro h; cases h) (fun M hM => rfl) ?_
        match k, hk with
        | 0, hk => exact absurd hk (by omega)
        | k + 1, hk => exact l_loop hN k (i + 7) (t + 1) v w υ (by omega) (by omega) (by omega) c r
      obtain ⟨z, ez⟩ : ∃ z : Nat, (xs i).toInt % 64 = (z : Int) := ⟨((xs i).toInt % 64).toNat, by omega⟩
      rw [ez]
      by_cases hz : z < 38
      · exact l_cases hN (by omega) hz hC hR next
      · refine l_go (pc' := 1841) (L' := lL i v w) (st' := []) (i := .tableswitch 1801 0 37 #[168, 241, 266, 279, 292, 317, 342, 391, 416, 453, 514, 575, 600, 637, 724, 785, 834, 871, 896, 945, 994, 1043, 1130, 1167, 1216, 1277, 1338, 1387, 1448, 1497, 1546, 1583, 1620, 1645, 1694, 1707, 1763, 1788]) (n := 168) (by decide +kernel) rfl rfl (by intro h; cases h) (fun M hM => ?_) (lW_mono (next σ v w hC hR) (by omega))
        have rz : (Int32.ofInt (z : Int)).toInt = (z : Int) := rg_to ⟨by omega, by omega⟩
        simp only [pm_step]
        rw [if_pos (by rw [rz]; right; omega)]
        rfl
theorem pm_pure0 : pm_PURE := fun N xs hN => c_start (l_loop hN (N + 1) 0 0 pm_un pm_un sg0 (by omega) rfl (by omega) CI_sg0 RWF_sg0 (212, 180, 258290) rfl (Nat.le_refl _) (Nat.le_refl _))
