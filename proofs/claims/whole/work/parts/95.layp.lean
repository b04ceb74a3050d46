/-! ===== a register is laid on both sides ===== -/
theorem RWF_lay {A A' : l2_m} {k : Int} {h : Int → Int} (hR : RWF A) (ht : A 186 14 = 1) (k0 : 0 ≤ k) (k1 : k < 8) (hh : ∀ j : Int, 0 ≤ j → j < 4096 → 0 ≤ h j ∧ h j < A 186 5) (h60 : cnt h 4096 ≤ 60) (hL : LayR A A' k h) : RWF A' := by
  obtain ⟨a1, a2, a3, a4, a5, a6, a7, a8, a9, a10⟩ := hR
  obtain ⟨b1, b2, b3, b4, b5, b6⟩ := a10 ht
  obtain ⟨L1, ⟨a, sh, p1, p2, p3, p4, p5, p6, p7, p8, p9, p10, p11⟩, L3, L4, L5⟩ := hL
  have k5 : ∀ j, (j = 5 ∨ j = 6 ∨ j = 7 ∨ j = 8 ∨ j = 14 ∨ j = 16 ∨ j = 22) → A' 186 j = A 186 j := fun j z => L1 186 j (by omega) (by omega) (by omega) (by omega) (by omega) (by omega) (by omega) (by omega) (by omega)
  have eo : ordA A' = ordA A := by unfold ordA; rw [k5 6 (by omega), k5 7 (by omega), k5 8 (by omega)]
  have ereg : ∀ r : Int, 0 ≤ r → r < 8 → r ≠ k → ∀ j : Int, 0 ≤ j → j < 4096 → A' 187 (4096 * r + j) = A 187 (4096 * r + j) := fun r r0 r1 hr j j0 j1 => L1 187 _ (by omega) (by omega) (by omega) (by omega) (by omega) (by omega) (by omega) (by omega) (by omega)
  have e190 : ∀ j, A' 190 j = A 190 j := fun j => L1 190 _ (by omega) (by omega) (by omega) (by omega) (by omega) (by omega) (by omega) (by omega) (by omega)
  unfold RWF
  rw [k5 14 (by omega), k5 16 (by omega), k5 22 (by omega), k5 5 (by omega), k5 6 (by omega), k5 7 (by omega), k5 8 (by omega), eo, p4, L4, L5]
  refine ⟨a1, a2, a3, by decide, by decide, a6, by omega, by omega, fun z => by omega, fun _ => ⟨b1, b2, fun r j r0 r1 j0 j1 => ?_, fun r r0 r1 => ?_, ⟨fun i x0 x1 => by rw [e190]; exact b5.1 i x0 x1, fun i j x0 x1 x2 => by rw [e190, e190]; exact b5.2.1 i j x0 x1 x2, fun j x0 x1 => by obtain ⟨i, y0, y1, y2⟩ := b5.2.2 j x0 x1; exact ⟨i, y0, y1, by rw [e190]; exact y2⟩⟩, fun i x0 x1 => ?_⟩⟩
  · by_cases hr : r = k
    · rw [hr, L3 j j0 j1]; exact hh j j0 j1
    · rw [ereg r r0 r1 hr j j0 j1]; exact b3 r j r0 r1 j0 j1
  · by_cases hr : r = k
    · rw [hr, cnt_congr (f := regR A' k) (g := h) (fun j j0 j1 => L3 j j0 j1)]; exact h60
    · rw [cnt_congr (f := regR A' r) (g := regR A r) (fun j j0 j1 => ereg r r0 r1 hr j j0 j1)]; exact b4 r r0 r1
  · by_cases hi : i = a
    · subst hi
      rw [p8, p9, p10, p11]
      refine ⟨Or.inr ⟨k0, k1⟩, b2, fun _ => ⟨fun j j0 j1 => ?_, ?_, ?_, ?_, ?_⟩⟩
      · rw [p7 j j0 j1 (by omega)]; exact b3 k j k0 k1 j0 j1
      · rw [cnt_congr (g := regR A k) (fun j j0 j1 => p7 j j0 j1 (by omega))]; exact b4 k k0 k1
      · rw [if_pos rfl]
      · rw [if_pos rfl]
      · rw [if_pos rfl]
    · have hi' : i < a := by omega
      obtain ⟨y1, y2, y3, y4⟩ := p6 i x0 hi'
      obtain ⟨w1, w2, w3⟩ := b6 (i + sh) (by omega) (by omega)
      rw [y1, y2, y3, y4]
      refine ⟨w1, w2, fun z => ?_⟩
      obtain ⟨v1, v2, v3, v4, v5⟩ := w3 z
      refine ⟨fun j j0 j1 => ?_, ?_, ?_, ?_, ?_⟩
      · rw [p5 i j x0 hi' j0 j1]; exact v1 j j0 j1
      · rw [cnt_congr (g := fun k => A 199 (4096 * (i + sh) + k)) (fun j j0 j1 => p5 i j x0 hi' j0 j1)]; exact v2
      · rw [if_neg (by omega), v3]
        by_cases hl : i + 1 = a
        · rw [hl, p9, if_pos (by omega)]
        · rw [if_neg (by omega), (p6 (i + 1) (by omega) (by omega)).2.1]
          congr 1; omega
      · rw [if_neg (by omega), v4]
        by_cases hl : i + 1 = a
        · rw [hl, p10, if_pos (by omega)]
        · rw [if_neg (by omega), (p6 (i + 1) (by omega) (by omega)).2.2.1]
          congr 1; omega
      · rw [if_neg (by omega), v5]
        by_cases hl : i + 1 = a
        · rw [hl, p11, if_pos (by omega)]
        · rw [if_neg (by omega), (p6 (i + 1) (by omega) (by omega)).2.2.2]
          congr 1; omega
theorem CI_lo {F : l2_m → Prop} {τ ω A : l2_m} (h : CI F τ A) (e : ∀ b j, b < 186 → ω b j = τ b j) : CI F ω A := by
  obtain ⟨B1, B2, B3, B4, B5, B6⟩ := h.1
  have hd := h.2.2.2.2.1
  refine CI_cg h (fun b j z => e b j (by unfold cpt at z; omega)) ?_ (fun _ _ _ _ => rfl) ?_ ?_
  · unfold dvO; rw [e 74 3 (by decide), e 74 4 (by decide)]; exact hd
  · rw [e 32 2 (by decide)]; exact B2
  · rw [e 32 4 (by decide)]; exact B4
section LP
variable {F : l2_m → Prop} {B : va_E} {σ σ1 τ υ : l2_m} {K : Int → l2_m → Prop}
/-- the class's half -/
theorem lay_c {k : Int} {h : Int → Int} (hC : CI F σ σ) (hR : RWF σ) (ht : σ 186 14 = 1) (k0 : 0 ≤ k) (k1 : k < 8) (kp : ∀ b j, cpt b j ∨ b = 32 → σ1 b j = σ b j) (kr : ∀ b j, 186 ≤ b → σ1 b j = σ b j) (kd : dvO σ1) (hh : PR σ1 159 (ordA σ) h) (hK : ∀ τ : l2_m, (∀ b j, 186 ≤ b → τ b j = σ b j) → (∀ A', LayR σ A' k h → CI F τ A') → cnt h 4096 ≤ 60 → K (cnt h 4096) τ) : wC B 164 [vr 32, vr 159, vi k] σ1 K := by
  obtain ⟨B1, B2, B3, B4, B5, B6⟩ := hC.1
  have hC1 : CI F σ1 σ := CI_cg hC (fun b j z => kp b j (Or.inl z)) kd (fun _ _ _ _ => rfl) (by rw [kp 32 2 (Or.inr rfl)]; exact B2) (by rw [kp 32 4 (Or.inr rfl)]; exact B4)
  refine c164 hC1 hR ht (show isPb 159 = true from rfl) (Or.inr rfl) hh k0 k1 (fun τ t1 t2 => hK τ (fun b j z => (t1 b j z).trans (kr b j z)) t2 ?_)
  rw [PR_cnt hh]; exact hh.2.1
/-- the reference's half -/
theorem lay_r {k : Int} {h : Int → Int} (hR : RWF σ) (ht : σ 186 14 = 1) (k0 : 0 ≤ k) (k1 : k < 8) (hL : ∀ A', LayR σ A' k h → CI F τ A') (u : ∀ b j, 186 ≤ b → b < 204 → (b < 191 ∨ 198 < b) → ¬ (b = 186 ∧ (j = 0 ∨ j = 29 ∨ j = 1 ∨ j = 2 ∨ (36 ≤ j ∧ j ≤ 39))) → υ b j = σ b j) (ul : ∀ b j, b < 186 → υ b j = τ b j) (h29 : υ 186 29 = 1) (hw : ∀ j : Int, 0 ≤ j → j < 4096 → υ 192 j = h j) (hh : ∀ j : Int, 0 ≤ j → j < 4096 → 0 ≤ h j ∧ h j < σ 186 5) (h60 : cnt h 4096 ≤ 60) : wC B 240 [vr 186, vi k] υ (fun y ω => cnt h 4096 = y ∧ CI F ω ω ∧ RWF ω) := by
  obtain ⟨a1, a2, a3, a4, a5, a6, a7, a8, a9, a10⟩ := id hR
  obtain ⟨p2, p97, -⟩ := pr_rest _ (a10 ht).1
  have e45 : υ 186 45 = σ 186 45 := u 186 45 (by omega) (by omega) (by omega) (by omega)
  have ec : cnt (υ 192) 4096 = cnt h 4096 := cnt_congr hw
  refine r240 k0 k1 (by omega) (by omega) (Or.inr h29) (fun j j0 j1 => by rw [hw j j0 j1]; have := hh j j0 j1; omega) (fun z => by omega) ?_
  intro ω z1 z2 z3 z4 z5 z6 z7
  have hLay : LayR σ ω k h := by
    refine ⟨fun b j x1 x2 x3 x4 x5 x6 x7 x8 x9 => ?_, ?_, fun j j0 j1 => by rw [z5 j j0 j1]; exact hw j j0 j1, z6, z7⟩
    · rw [z3 b j x1 x3 x7]
      exact u b j x2 x9 x8 (by omega)
    · obtain ⟨a, sh, p1, p2', p3, p4, p5, p6, p7, p8, p9, p10, p11⟩ := z4
      rw [e45] at p2' p3
      have v : ∀ b j, 199 ≤ b → b ≤ 203 → υ b j = σ b j := fun b j x y => u b j (by omega) (by omega) (by omega) (by omega)
      refine ⟨a, sh, p1, p2', p3, p4, fun i j x0 x1 x2 x3 => by rw [p5 i j x0 x1 x2 x3]; exact v _ _ (by omega) (by omega), fun i x0 x1 => ?_, fun j j0 j1 x => by rw [p7 j j0 j1 x]; exact u 187 _ (by omega) (by omega) (by omega) (by omega), p8, by rw [p9]; exact u 186 6 (by omega) (by omega) (by omega) (by omega), by rw [p10]; exact u 186 7 (by omega) (by omega) (by omega) (by omega), by rw [p11]; exact u 186 8 (by omega) (by omega) (by omega) (by omega)⟩
      obtain ⟨y1, y2, y3, y4⟩ := p6 i x0 x1
      exact ⟨by rw [y1]; exact v _ _ (by omega) (by omega), by rw [y2]; exact v _ _ (by omega) (by omega), by rw [y3]; exact v _ _ (by omega) (by omega), by rw [y4]; exact v _ _ (by omega) (by omega)⟩
  refine ⟨ec.symm, CI_lo (hL ω hLay) (fun b j z => ?_), RWF_lay hR ht k0 k1 hh h60 hLay⟩
  rw [z3 b j (by omega) (by omega) (by omega)]
  exact ul b j z
/-- the reference's half, no room -/
theorem lay_n {k : Int} (hC : CI F σ σ) (hR : RWF σ) (ht : σ 186 14 = 1) (k0 : 0 ≤ k) (k1 : k < 8) {υ' : l2_m} (kp : ∀ b j, cpt b j ∨ prs b j → σ1 b j = σ b j) (kd : dvO σ1) (et : τ = trb σ1 3) (eu : υ = l2_u τ 186 0 0) (kr : ∀ b j, b < 186 ∨ prs b j → υ' b j = υ b j) (h29 : υ' 186 29 = 0 ∨ υ' 186 29 = 1) (hw : ∀ j : Int, 0 ≤ j → j < 4096 → 0 ≤ υ' 192 j ∧ υ' 192 j < 97) (hn : υ' 186 29 = 0 ∨ 60 < cnt (υ' 192) 4096) : wC B 240 [vr 186, vi k] υ' (fun y ω => -1 = y ∧ CI F ω ω ∧ RWF ω) := by
  obtain ⟨a1, a2, a3, a4, a5, a6, a7, a8, a9, a10⟩ := id hR
  have e45 : υ' 186 45 = σ 186 45 := by
    rw [kr 186 45 (by unfold prs; omega), via et eu (by decide) (by decide)]
    exact kp 186 45 (by unfold prs; omega)
  refine r240 k0 k1 (by omega) (by omega) h29 hw (fun _ => ⟨rfl, pair_g hC hR (by decide) kp kd et eu kr rfl⟩) (fun ω z1 z2 => by omega)
end LP
