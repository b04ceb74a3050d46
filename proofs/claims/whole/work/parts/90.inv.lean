/-! ===== what ties the class's state to the reference's (A: the reference's things, in the reference's numbers) ===== -/
def ordA (A : l2_m) : Int → Int := wt (A 186 6) (A 186 7) (A 186 8)
/-- the things of Commons and Field alone: what is asked of them comes later -/
def cgm (σ : l2_m) : l2_m := fun b j => if 109 ≤ b ∧ b ≤ 113 then σ b j else 0
/-- the history's place of the i-th act that is kept -/
def hsl (σ A : l2_m) (i : Int) : Int := (σ 128 5 + 8 - A 186 45 + i) % 8
def CIh (σ A : l2_m) : Prop := 0 ≤ σ 128 5 ∧ σ 128 5 < 8 ∧ σ 128 6 = A 186 45 ∧ ∀ i : Int, 0 ≤ i → i < A 186 45 → σ 129 (hsl σ A i) = A 200 i ∧ (A 200 i = -1 → σ 130 (hsl σ A i) = A 201 i ∧ σ 131 (hsl σ A i) = A 202 i ∧ σ 132 (hsl σ A i) = A 203 i) ∧ (A 200 i ≠ -1 → PR σ (134 + 3 * Int.toNat (hsl σ A i)) (wt (A 201 i) (A 202 i) (A 203 i)) (fun k => A 199 (4096 * i + k)))
def CIb (σ A : l2_m) : Prop := σ 32 1 = A 186 16 ∧ σ 32 2 = A 186 1 ∧ σ 32 3 = A 186 22 ∧ σ 32 4 = A 186 2 ∧ σ 32 5 = A 186 14 ∧ ∀ i : Int, 0 ≤ i → i < A 186 16 → σ 33 i = A 189 i % 256
def CId (σ A : l2_m) : Prop := A 186 14 = 1 → σ 34 0 = A 186 5 ∧ invOK σ 34 (A 186 5) ∧ σ 36 0 = A 186 6 ∧ σ 36 1 = A 186 7 ∧ σ 36 2 = A 186 8 ∧ σ 36 3 = 3 - A 186 7 - A 186 8 ∧ (∀ u : Int, 0 ≤ u → u < 3 → σ 37 u = UW (ordA A) u) ∧ ∀ r : Int, 0 ≤ r → r < 8 → PR σ (162 + 3 * Int.toNat r) (ordA A) (regR A r)
def CIn (σ A : l2_m) : Prop := A 186 14 = 0 → σ 34 0 = 0 ∧ ∀ r : Int, 0 ≤ r → r < 8 → σ (162 + 3 * Int.toNat r) 2 = 0
def CI (F : l2_m → Prop) (σ A : l2_m) : Prop := CIb σ A ∧ CId σ A ∧ CIn σ A ∧ CIh σ A ∧ dvO σ ∧ σ 41 2 = 0 ∧ F (cgm σ)
/-- the reference's state is sound -/
def RWF (A : l2_m) : Prop := (A 186 14 = 0 ∨ A 186 14 = 1) ∧ 0 ≤ A 186 16 ∧ A 186 16 ≤ 700 ∧ rg (A 186 1) ∧ rg (A 186 2) ∧ rg (A 186 22) ∧ 0 ≤ A 186 45 ∧ A 186 45 ≤ 8 ∧ (A 186 14 = 0 → A 186 45 = 0) ∧ (A 186 14 = 1 → isPr (A 186 5) ∧ isOr (A 186 6) (A 186 7) (A 186 8) ∧ rngR A (A 186 5) ∧ (∀ r : Int, 0 ≤ r → r < 8 → cnt (regR A r) 4096 ≤ 60) ∧ alongOK A (ordA A) ∧ ∀ i : Int, 0 ≤ i → i < A 186 45 → (A 200 i = -1 ∨ (0 ≤ A 200 i ∧ A 200 i < 8)) ∧ isOr (A 201 i) (A 202 i) (A 203 i) ∧ (A 200 i ≠ -1 → (∀ k : Int, 0 ≤ k → k < 4096 → 0 ≤ A 199 (4096 * i + k) ∧ A 199 (4096 * i + k) < A 186 5) ∧ cnt (fun k => A 199 (4096 * i + k)) 4096 ≤ 60 ∧ (A 201 i = if i + 1 = A 186 45 then A 186 6 else A 201 (i + 1)) ∧ (A 202 i = if i + 1 = A 186 45 then A 186 7 else A 202 (i + 1)) ∧ (A 203 i = if i + 1 = A 186 45 then A 186 8 else A 203 (i + 1))))
/-- a register is laid -/
def LayR (A A' : l2_m) (k : Int) (h : Int → Int) : Prop := (∀ b j, (b < 199 ∨ 203 < b) → 186 ≤ b → ¬ (b = 186 ∧ (j = 45 ∨ j = 1 ∨ j = 2)) → ¬ (b = 186 ∧ j = 29) → ¬ (b = 186 ∧ 36 ≤ j ∧ j ≤ 39) → ¬ (b = 186 ∧ j = 0) → ¬ (b = 187 ∧ 4096 * k ≤ j ∧ j < 4096 * k + 4096) → (b < 191 ∨ 198 < b) → b < 204 → A' b j = A b j) ∧ pshP A A' k ∧ (∀ j : Int, 0 ≤ j → j < 4096 → A' 187 (4096 * k + j) = h j) ∧ A' 186 1 = 0 ∧ A' 186 2 = -1
theorem cgm_eq {σ τ : l2_m} (h : ∀ b j, 109 ≤ b → b ≤ 113 → τ b j = σ b j) : cgm τ = cgm σ := by
  funext b j
  unfold cgm
  split
  · rename_i hb; exact h b j hb.1 hb.2
  · rfl
theorem gon_at (σ : l2_m) (b : Nat) (j : Int) : gon σ b j = if b = 128 ∧ j = 6 then min (σ 128 6 + 1) 8 else if b = 128 ∧ j = 5 then (σ 128 5 + 1) % 8 else σ b j := rfl
theorem trb_at (σ : l2_m) (n : Int) (b : Nat) (j : Int) : trb σ n b j = if b = 32 ∧ j = 4 then -1 else if b = 32 ∧ j = 2 then n else σ b j := rfl
section LAY
variable {B : va_E} {σ : l2_m} {K : Int → l2_m → Prop}
theorem c164 {F : l2_m → Prop} {A : l2_m} {o : Nat} {h : Int → Int} {k : Int} (hC : CI F σ A) (hR : RWF A) (ht : A 186 14 = 1) (ho : isP o) (hob : o < 110 ∨ o = 159) (hh : PR σ o (ordA A) h) (k0 : 0 ≤ k) (k1 : k < 8) (hK : ∀ τ : l2_m, (∀ b j, 186 ≤ b → τ b j = σ b j) → (∀ A', LayR A A' k h → CI F τ A') → K (cnt h 4096) τ) : wC B 164 [vr 32, vr o, vi k] σ K := by
  obtain ⟨⟨B1, B2, B3, B4, B5, B6⟩, hD, hN, ⟨H1, H2, H3, H4⟩, hdo, hz, hF⟩ := hC
  obtain ⟨-, -, -, -, -, -, a0, a8, -, hT⟩ := hR
  obtain ⟨D1, D2, D3, D4, D5, D6, D7, D8⟩ := hD ht
  have obig := isP_big ho
  have kn : Int.toNat k < 8 := by omega
  have hk8 := D8 k k0 k1
  have pk := isP_reg k0 k1
  obtain ⟨no1, no2, no3, no4⟩ := isP_ne ho pk
  obtain ⟨fs, hfs⟩ : ∃ fs, fs = Int.toNat (σ 128 5) := ⟨_, rfl⟩
  have fs8 : fs < 8 := by omega
  have pfs : isP (134 + 3 * fs) := by
    have := isP_row (a := 133) (b := 134) (m := 8) (i := σ 128 5) rfl H1 H2
    rw [← hfs] at this; exact this
  refine o164 ho ?_
  unfold w164
  refine ⟨⟨k0, k1, by omega, H1, H2, by omega, by omega, hk8.1, hk8.2.1⟩, ?_⟩
  intro σ1 e1
  obtain ⟨cp1, cp2⟩ := PR_cpP (o := 134 + 3 * fs) (σ := l2_u σ 129 (σ 128 5) k) (q := 162 + 3 * Int.toNat k) (W := ordA A) (f := regR A k) (PR_congr hk8 (l2_u_ne (by omega)) (fun i _ _ => l2_u_ne (by omega)) (fun i _ _ => l2_u_ne (by omega)))
  have s1 : ∀ b j, σ1 b j = if b = 128 ∧ j = 6 then min (σ 128 6 + 1) 8 else if b = 128 ∧ j = 5 then (σ 128 5 + 1) % 8 else cpP (l2_u σ 129 (σ 128 5) k) (134 + 3 * fs) (162 + 3 * Int.toNat k) b j := fun b j => by
    rw [e1]
    unfold kpR
    rw [← hfs, gon_at]
    have q6 : cpP (l2_u σ 129 (σ 128 5) k) (134 + 3 * fs) (162 + 3 * Int.toNat k) 128 6 = σ 128 6 := by rw [cp2 128 6 (by omega) (by omega) (by omega)]; exact l2_u_ne (by decide)
    have q5 : cpP (l2_u σ 129 (σ 128 5) k) (134 + 3 * fs) (162 + 3 * Int.toNat k) 128 5 = σ 128 5 := by rw [cp2 128 5 (by omega) (by omega) (by omega)]; exact l2_u_ne (by decide)
    rw [q6, q5]
  have n1 : ∀ b j, b ≠ 128 → b ≠ 129 → b ≠ 134 + 3 * fs → b ≠ 134 + 3 * fs + 1 → b ≠ 134 + 3 * fs + 2 → σ1 b j = σ b j := fun b j z1 z2 z3 z4 z5 => by
    rw [s1, if_neg (fun w => z1 w.1), if_neg (fun w => z1 w.1), cp2 b j z3 z4 z5]; exact l2_u_ne z2
  have n129 : ∀ j, σ1 129 j = if j = σ 128 5 then k else σ 129 j := fun j => by
    rw [s1, if_neg (by omega), if_neg (by omega), cp2 129 j (by omega) (by omega) (by omega)]
    unfold l2_u
    by_cases hj : j = σ 128 5
    · rw [if_pos ⟨rfl, hj⟩, if_pos hj]
    · rw [if_neg (fun w => hj w.2), if_neg hj]
  have m5 : σ1 128 5 = (σ 128 5 + 1) % 8 := by rw [s1, if_neg (by decide), if_pos ⟨rfl, rfl⟩]
  have m6 : σ1 128 6 = min (σ 128 6 + 1) 8 := by rw [s1, if_pos ⟨rfl, rfl⟩]
  have pnew : PR σ1 (134 + 3 * fs) (ordA A) (regR A k) := PR_congr cp1 (by rw [s1, if_neg (by omega), if_neg (by omega)]) (fun i _ _ => by rw [s1, if_neg (by omega), if_neg (by omega)]) (fun i _ _ => by rw [s1, if_neg (by omega), if_neg (by omega)])
  have hh1 : PR σ1 o (ordA A) h := PR_congr hh (n1 _ _ (by omega) (by omega) (by omega) (by omega) (by omega)) (fun i _ _ => n1 _ _ (by omega) (by omega) (by omega) (by omega) (by omega)) (fun i _ _ => n1 _ _ (by omega) (by omega) (by omega) (by omega) (by omega))
  refine ⟨⟨by omega, hh1.1, hh1.2.1⟩, ?_⟩
  intro σ2 e2
  obtain ⟨cq1, cq2⟩ := PR_cpP (o := 162 + 3 * Int.toNat k) hh1
  rw [← e2] at cq1 cq2
  intro τ et
  have t1 : ∀ b j, τ b j = if b = 32 ∧ j = 4 then -1 else if b = 32 ∧ j = 2 then 0 else σ2 b j := fun b j => by rw [et, trb_at]
  have nt : ∀ b j, b ≠ 32 → τ b j = σ2 b j := fun b j z => by rw [t1, if_neg (fun w => z w.1), if_neg (fun w => z w.1)]
  have all : ∀ b j, b ≠ 32 → b ≠ 128 → b ≠ 129 → b ≠ 134 + 3 * fs → b ≠ 134 + 3 * fs + 1 → b ≠ 134 + 3 * fs + 2 → b ≠ 162 + 3 * Int.toNat k → b ≠ 162 + 3 * Int.toNat k + 1 → b ≠ 162 + 3 * Int.toNat k + 2 → τ b j = σ b j := fun b j z0 z1 z2 z3 z4 z5 z6 z7 z8 => by
    rw [nt b j z0, cq2 b j z6 z7 z8]; exact n1 b j z1 z2 z3 z4 z5
  have ecnt : σ2 o 2 = cnt h 4096 := by rw [cq2 o 2 (by omega) (by omega) (by omega), PR_cnt hh1]
  rw [ecnt]
  refine hK τ (fun b j z => all b j (by omega) (by omega) (by omega) (by omega) (by omega) (by omega) (by omega) (by omega) (by omega)) (fun A' hL => ?_)
  obtain ⟨L1, ⟨a, sh, p1, p2, p3, p4, p5, p6, p7, p8, p9, p10, p11⟩, L3, L4, L5⟩ := hL
  have k5 : ∀ j, (j = 5 ∨ j = 6 ∨ j = 7 ∨ j = 8 ∨ j = 14 ∨ j = 16 ∨ j = 22) → A' 186 j = A 186 j := fun j z => L1 186 j (by omega) (by omega) (by omega) (by omega) (by omega) (by omega) (by omega) (by omega) (by omega)
  have eo : ordA A' = ordA A := by unfold ordA; rw [k5 6 (by omega), k5 7 (by omega), k5 8 (by omega)]
  have ereg : ∀ r : Int, 0 ≤ r → r < 8 → r ≠ k → ∀ j : Int, 0 ≤ j → j < 4096 → regR A' r j = regR A r j := fun r r0 r1 hr j j0 j1 => L1 187 _ (by omega) (by omega) (by omega) (by omega) (by omega) (by omega) (by omega) (by omega) (by omega)
  have h5 : τ 128 5 = (σ 128 5 + 1) % 8 := by rw [nt 128 5 (by decide), cq2 128 5 (by omega) (by omega) (by omega)]; exact m5
  have h6 : τ 128 6 = min (σ 128 6 + 1) 8 := by rw [nt 128 6 (by decide), cq2 128 6 (by omega) (by omega) (by omega)]; exact m6
  have h129 : ∀ j, τ 129 j = if j = σ 128 5 then k else σ 129 j := fun j => by rw [nt 129 j (by decide), cq2 129 j (by omega) (by omega) (by omega)]; exact n129 j
  have slt : ∀ i : Int, 0 ≤ i → i < a → hsl τ A' i = hsl σ A (i + sh) ∧ 0 ≤ i + sh ∧ i + sh < A 186 45 ∧ hsl σ A (i + sh) ≠ σ 128 5 := fun i x0 x1 => by
    unfold hsl
    rw [h5, p4]
    omega
  have sla : hsl τ A' a = σ 128 5 := by
    unfold hsl
    rw [h5, p4]
    omega
  refine ⟨⟨?_, ?_, ?_, ?_, ?_, fun i x0 x1 => ?_⟩, fun _ => ?_, fun z => ?_, ⟨by rw [h5]; omega, by rw [h5]; omega, by rw [h6, p4]; omega, fun i x0 x1 => ?_⟩, ?_, ?_, ?_⟩
  · rw [t1, if_neg (by decide), if_neg (by decide), k5 16 (by omega), cq2 32 1 (by omega) (by omega) (by omega), n1 32 1 (by omega) (by omega) (by omega) (by omega) (by omega)]; exact B1
  · rw [t1, if_neg (by decide), if_pos ⟨rfl, rfl⟩, L4]
  · rw [t1, if_neg (by decide), if_neg (by decide), k5 22 (by omega), cq2 32 3 (by omega) (by omega) (by omega), n1 32 3 (by omega) (by omega) (by omega) (by omega) (by omega)]; exact B3
  · rw [t1, if_pos ⟨rfl, rfl⟩, L5]
  · rw [t1, if_neg (by decide), if_neg (by decide), k5 14 (by omega), cq2 32 5 (by omega) (by omega) (by omega), n1 32 5 (by omega) (by omega) (by omega) (by omega) (by omega)]; exact B5
  · rw [k5 16 (by omega)] at x1
    rw [all 33 i (by omega) (by omega) (by omega) (by omega) (by omega) (by omega) (by omega) (by omega) (by omega), L1 189 i (by omega) (by omega) (by omega) (by omega) (by omega) (by omega) (by omega) (by omega) (by omega)]
    exact B6 i x0 x1
  · have w : ∀ b j, b < 74 → b ≠ 32 → τ b j = σ b j := fun b j z1 z2 => all b j z2 (by omega) (by omega) (by omega) (by omega) (by omega) (by omega) (by omega) (by omega)
    rw [eo, k5 5 (by omega), k5 6 (by omega), k5 7 (by omega), k5 8 (by omega)]
    refine ⟨by rw [w 34 0 (by decide) (by decide)]; exact D1, fun x x0 x1 => by rw [w 35 x (by decide) (by decide)]; exact D2 x x0 x1, by rw [w 36 0 (by decide) (by decide)]; exact D3, by rw [w 36 1 (by decide) (by decide)]; exact D4, by rw [w 36 2 (by decide) (by decide)]; exact D5, by rw [w 36 3 (by decide) (by decide)]; exact D6, fun u u0 u1 => by rw [w 37 u (by decide) (by decide)]; exact D7 u u0 u1, fun r r0 r1 => ?_⟩
    by_cases hr : r = k
    · subst hr
      refine PR_ext (f := h) (PR_congr cq1 (nt _ _ (by omega)) (fun i _ _ => nt _ _ (by omega)) (fun i _ _ => nt _ _ (by omega))) (fun j j0 j1 => L3 j j0 j1)
    · have rn : Int.toNat r ≠ Int.toNat k := by omega
      have r8 : Int.toNat r < 8 := by omega
      refine PR_ext (PR_congr (D8 r r0 r1) (all _ _ (by omega) (by omega) (by omega) (by omega) (by omega) (by omega) (by omega) (by omega) (by omega)) (fun i _ _ => all _ _ (by omega) (by omega) (by omega) (by omega) (by omega) (by omega) (by omega) (by omega) (by omega)) (fun i _ _ => all _ _ (by omega) (by omega) (by omega) (by omega) (by omega) (by omega) (by omega) (by omega) (by omega))) (ereg r r0 r1 hr)
  · rw [k5 14 (by omega)] at z; omega
  · rw [p4] at x1
    by_cases hi : i = a
    · subst hi
      rw [sla, h129, if_pos rfl, p8, p9, p10, p11]
      refine ⟨rfl, fun z => by omega, fun _ => ?_⟩
      rw [← hfs]
      exact PR_ext (PR_congr pnew (by rw [nt _ _ (by omega), cq2 _ _ (by omega) (by omega) (by omega)]) (fun i _ _ => by rw [nt _ _ (by omega), cq2 _ _ (by omega) (by omega) (by omega)]) (fun i _ _ => by rw [nt _ _ (by omega), cq2 _ _ (by omega) (by omega) (by omega)])) (fun j j0 j1 => p7 j j0 j1 (by omega))
    · obtain ⟨q1, q2, q3, q4'⟩ := slt i x0 (by omega)
      obtain ⟨w1, w2, w3⟩ := H4 (i + sh) q2 q3
      obtain ⟨y1, y2, y3, y4⟩ := p6 i x0 (by omega)
      have hs0 : 0 ≤ hsl σ A (i + sh) ∧ hsl σ A (i + sh) < 8 := by unfold hsl; omega
      rw [q1, h129, if_neg q4', y1, y2, y3, y4]
      refine ⟨w1, fun z => ?_, fun z => ?_⟩
      · obtain ⟨v1, v2, v3⟩ := w2 z
        exact ⟨by rw [all 130 _ (by omega) (by omega) (by omega) (by omega) (by omega) (by omega) (by omega) (by omega) (by omega)]; exact v1, by rw [all 131 _ (by omega) (by omega) (by omega) (by omega) (by omega) (by omega) (by omega) (by omega) (by omega)]; exact v2, by rw [all 132 _ (by omega) (by omega) (by omega) (by omega) (by omega) (by omega) (by omega) (by omega) (by omega)]; exact v3⟩
      · have hs8 : Int.toNat (hsl σ A (i + sh)) < 8 := by omega
        have hsn : Int.toNat (hsl σ A (i + sh)) ≠ fs := by omega
        exact PR_ext (PR_congr (w3 z) (all _ _ (by omega) (by omega) (by omega) (by omega) (by omega) (by omega) (by omega) (by omega) (by omega)) (fun i _ _ => all _ _ (by omega) (by omega) (by omega) (by omega) (by omega) (by omega) (by omega) (by omega) (by omega)) (fun i _ _ => all _ _ (by omega) (by omega) (by omega) (by omega) (by omega) (by omega) (by omega) (by omega) (by omega))) (fun j j0 j1 => p5 i j x0 (by omega) j0 j1)
  · unfold dvO
    rw [all 74 3 (by omega) (by omega) (by omega) (by omega) (by omega) (by omega) (by omega) (by omega) (by omega), all 74 4 (by omega) (by omega) (by omega) (by omega) (by omega) (by omega) (by omega) (by omega) (by omega)]
    exact hdo
  · rw [all 41 2 (by omega) (by omega) (by omega) (by omega) (by omega) (by omega) (by omega) (by omega) (by omega)]; exact hz
  · rw [cgm_eq (fun b j z1 z2 => all b j (by omega) (by omega) (by omega) (by omega) (by omega) (by omega) (by omega) (by omega) (by omega))]
    exact hF
end LAY
