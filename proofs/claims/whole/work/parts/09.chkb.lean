theorem pm_chk_cut {k : Nat} : ∀ (m : Nat) {l : List (Instr × Nat)} {pc : Nat}, pm_chk k pc (l.take m) = true → pm_chk k (pc + m) (l.drop m) = true → pm_chk k pc l = true
  | 0, l, pc, _, h => by simpa using h
  | m + 1, [], pc, _, _ => rfl
  | m + 1, (i, n) :: r, pc, h1, h2 => by
    simp only [List.take_succ_cons, pm_chk, Bool.and_eq_true] at h1
    simp only [List.drop_succ_cons] at h2
    simp only [pm_chk, Bool.and_eq_true]
    exact ⟨h1.1, pm_chk_cut m h1.2 (by rw [show pc + 1 + m = pc + (m + 1) by omega]; exact h2)⟩
set_option maxRecDepth 100000 in
theorem cl_0 : pm_chk 279 0 (((pm_code 279).drop 0).take 150) = true := by decide +kernel
set_option maxRecDepth 100000 in
theorem cl_1 : pm_chk 279 150 (((pm_code 279).drop 150).take 150) = true := by decide +kernel
set_option maxRecDepth 100000 in
theorem cl_2 : pm_chk 279 300 (((pm_code 279).drop 300).take 150) = true := by decide +kernel
set_option maxRecDepth 100000 in
theorem cl_3 : pm_chk 279 450 (((pm_code 279).drop 450).take 150) = true := by decide +kernel
set_option maxRecDepth 100000 in
theorem cl_4 : pm_chk 279 600 (((pm_code 279).drop 600).take 150) = true := by decide +kernel
set_option maxRecDepth 100000 in
theorem cl_5 : pm_chk 279 750 (((pm_code 279).drop 750).take 150) = true := by decide +kernel
set_option maxRecDepth 100000 in
theorem cl_6 : pm_chk 279 900 (((pm_code 279).drop 900).take 150) = true := by decide +kernel
set_option maxRecDepth 100000 in
theorem cl_7 : pm_chk 279 1050 (((pm_code 279).drop 1050).take 150) = true := by decide +kernel
set_option maxRecDepth 100000 in
theorem cl_8 : pm_chk 279 1200 (((pm_code 279).drop 1200).take 150) = true := by decide +kernel
set_option maxRecDepth 100000 in
theorem cl_9 : pm_chk 279 1350 (((pm_code 279).drop 1350).take 150) = true := by decide +kernel
set_option maxRecDepth 100000 in
theorem cl_10 : pm_chk 279 1500 (((pm_code 279).drop 1500).take 150) = true := by decide +kernel
set_option maxRecDepth 100000 in
theorem cl_11 : pm_chk 279 1650 (((pm_code 279).drop 1650).take 150) = true := by decide +kernel
set_option maxRecDepth 100000 in
theorem cl_12 : pm_chk 279 1800 ((pm_code 279).drop 1800) = true := by decide +kernel
theorem cm_11 : pm_chk 279 1650 ((pm_code 279).drop 1650) = true := pm_chk_cut 150 cl_11 (by rw [List.drop_drop]; exact cl_12)
theorem cm_10 : pm_chk 279 1500 ((pm_code 279).drop 1500) = true := pm_chk_cut 150 cl_10 (by rw [List.drop_drop]; exact cm_11)
theorem cm_9 : pm_chk 279 1350 ((pm_code 279).drop 1350) = true := pm_chk_cut 150 cl_9 (by rw [List.drop_drop]; exact cm_10)
theorem cm_8 : pm_chk 279 1200 ((pm_code 279).drop 1200) = true := pm_chk_cut 150 cl_8 (by rw [List.drop_drop]; exact cm_9)
theorem cm_7 : pm_chk 279 1050 ((pm_code 279).drop 1050) = true := pm_chk_cut 150 cl_7 (by rw [List.drop_drop]; exact cm_8)
theorem cm_6 : pm_chk 279 900 ((pm_code 279).drop 900) = true := pm_chk_cut 150 cl_6 (by rw [List.drop_drop]; exact cm_7)
theorem cm_5 : pm_chk 279 750 ((pm_code 279).drop 750) = true := pm_chk_cut 150 cl_5 (by rw [List.drop_drop]; exact cm_6)
theorem cm_4 : pm_chk 279 600 ((pm_code 279).drop 600) = true := pm_chk_cut 150 cl_4 (by rw [List.drop_drop]; exact cm_5)
theorem cm_3 : pm_chk 279 450 ((pm_code 279).drop 450) = true := pm_chk_cut 150 cl_3 (by rw [List.drop_drop]; exact cm_4)
theorem cm_2 : pm_chk 279 300 ((pm_code 279).drop 300) = true := pm_chk_cut 150 cl_2 (by rw [List.drop_drop]; exact cm_3)
theorem cm_1 : pm_chk 279 150 ((pm_code 279).drop 150) = true := pm_chk_cut 150 cl_1 (by rw [List.drop_drop]; exact cm_2)
theorem cm_0 : pm_chk 279 0 ((pm_code 279).drop 0) = true := pm_chk_cut 150 cl_0 (by rw [List.drop_drop]; exact cm_1)
theorem ck_279 : pm_chk 279 0 (pm_code 279) = true := cm_0
