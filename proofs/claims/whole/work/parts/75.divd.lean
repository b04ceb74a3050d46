/-! ===== the class's Divider ===== -/
def dvO (σ : l2_m) : Prop := (σ 74 3 = 79 ∧ σ 74 4 = 82) ∨ (σ 74 3 = 82 ∧ σ 74 4 = 79)
def frD (σ τ : l2_m) : Prop := ∀ b j, (b < 74 ∨ 108 < b) → τ b j = σ b j
theorem frD_tr {σ τ υ : l2_m} (h1 : frD σ τ) (h2 : frD τ υ) : frD σ υ := fun b j z => by rw [h2 b j z]; exact h1 b j z
theorem dvO_n {σ : l2_m} (h : dvO σ) : ∃ x y : Nat, Int.toNat (σ 74 3) = x ∧ Int.toNat (σ 74 4) = y ∧ isP x ∧ isP y ∧ x ≠ y ∧ 79 ≤ x ∧ x ≤ 82 ∧ 79 ≤ y ∧ y ≤ 82 ∧ σ 74 3 = x ∧ σ 74 4 = y ∧ ((x = 79 ∧ y = 82) ∨ (x = 82 ∧ y = 79)) := by
  rcases h with ⟨a, b⟩ | ⟨a, b⟩
  · exact ⟨79, 82, by rw [a]; rfl, by rw [b]; rfl, rfl, rfl, by decide, by decide, by decide, by decide, by decide, a, b, Or.inl ⟨rfl, rfl⟩⟩
  · exact ⟨82, 79, by rw [a]; rfl, by rw [b]; rfl, rfl, rfl, by decide, by decide, by decide, by decide, by decide, a, b, Or.inr ⟨rfl, rfl⟩⟩
theorem isP_reg {d : Int} (d0 : 0 ≤ d) (d1 : d < 8) : isP (162 + 3 * Int.toNat d) := isP_row (a := 158) (b := 162) (m := 8) rfl d0 d1
theorem isP_quo {d : Int} (d0 : 0 ≤ d) (d1 : d < 8) : isP (85 + 3 * Int.toNat d) := isP_row (a := 75) (b := 85) (m := 8) rfl d0 d1
theorem ok5_MW {W : Int → Int} (hW : okW W) (k : Int) : ok5 (MW W k) := by
  have := MW_b hW k
  have e := MW_e W k
  have := e4_b k 0
  have := e4_b k 1
  have := e4_b k 2
  unfold ok5
  rw [e.1, e.2.1, e.2.2]
  omega
section DV
variable {B : va_E} {σ : l2_m} {K : Int → l2_m → Prop}
theorem c46 {W L : Int → Int} {p set k : Int} {G : Int → Int → Int} {lk iv : Int → Int} (hW : okW W) (hs : rg set) (hdo : dvO σ) (hL : PR σ (Int.toNat (σ 74 3)) W L) (hk : isLead W L k) (hG : ∀ d : Int, 0 ≤ d → d < 8 → PR σ (162 + 3 * Int.toNat d) W (G d)) (hd : dvOK p W set G lk iv) (h1 : ∀ d : Int, dvr set lk k d → K d σ) (h0 : noDvr set lk k → K (-1) σ) : wC B 46 [vr 74, vr 158, vi set] σ K := by
  obtain ⟨x, y, ex, ey, px, py, -⟩ := dvO_n hdo
  rw [ex] at hL
  have hn : 0 < σ x 2 := by
    obtain ⟨i, i0, i1, -⟩ := hL.2.2.2.2 k hk.1 hk.2.1 hk.2.2.1
    omega
  have h60 := hL.2.1
  obtain ⟨k', k0, k1, k2, k3, k4, k5⟩ := PR_lead hL hn
  have ek := isLead_uniq (W := W) (L := L) ⟨k0, k1, k4, k5⟩ hk
  subst ek
  refine o46 ?_
  unfold w46 w46_2
  rw [ex]
  refine lz1_inv (fun d => 0 ≤ d ∧ d ≤ 8 ∧ ∀ e : Int, 0 ≤ e → e < d → ¬ (bit set e = 1 ∧ isUn (lk e) k')) (fun d => 8 - d) ?_ ⟨by omega, by omega, fun e a b => by omega⟩
  rintro X d hX ⟨d0, d1, d2⟩
  refine ⟨⟨by omega, by omega⟩, ?_⟩
  split
  · rename_i hl
    have hd8 : d < 8 := hl.1
    have hGd := hG d d0 hd8
    have g60 := hGd.2.1
    have g0 := hGd.1
    have hlead : bit set d = 1 → 0 < σ (162 + 3 * Int.toNat d) 2 ∧ σ (162 + 3 * Int.toNat d + 1) 0 = MW W (lk d) ∧ 0 ≤ lk d ∧ lk d < 4096 := fun hb => by
      obtain ⟨hl1, -⟩ := (hd d d0 hd8).2 hb
      have hn2 : 0 < σ (162 + 3 * Int.toNat d) 2 := by
        obtain ⟨i, i0, i1, -⟩ := hGd.2.2.2.2 _ hl1.1 hl1.2.1 hl1.2.2.1
        omega
      obtain ⟨q, q0, q1, q2, q3, q4, q5⟩ := PR_lead hGd hn2
      have := isLead_uniq (W := W) (L := G d) ⟨q0, q1, q4, q5⟩ hl1
      rw [← this]
      exact ⟨hn2, q2, q0, q1⟩
    refine ⟨⟨hs, d0, by omega⟩, fun hb => ?_, ?_⟩
    · obtain ⟨b1, b2, b3, b4⟩ := hlead hb
      simp only [if_pos b1, if_pos hn, b2, k2]
      exact ⟨hd8, ⟨by omega, by omega⟩, px, ⟨by omega, by omega⟩, ok5_MW hW _, ok5_MW hW _⟩
    · by_cases hb : bit set d = 1
      · obtain ⟨b1, b2, b3, b4⟩ := hlead hb
        simp only [if_pos b1, if_pos hn, b2, k2]
        rw [(MW_e W (lk d)).1, (MW_e W (lk d)).2.1, (MW_e W (lk d)).2.2, (MW_e W k').1, (MW_e W k').2.1, (MW_e W k').2.2]
        split
        · rename_i hc
          exact h1 d ⟨d0, hd8, hb, hc.2, d2⟩
        · rename_i hc
          refine hX _ ⟨by omega, by omega, fun e a b => ?_⟩ (by omega)
          by_cases he : e = d
          · rw [he]; exact hc
          · exact d2 e a (by omega)
      · rw [if_neg (fun z => hb z.1)]
        refine hX _ ⟨by omega, by omega, fun e a b => ?_⟩ (by omega)
        by_cases he : e = d
        · rw [he]; exact fun z => hb z.1
        · exact d2 e a (by omega)
  · rename_i hl
    have h8 : ((8 : Nat) : Int) = 8 := rfl
    exact h0 (fun e a b => d2 e a (by omega))
theorem c47 {W L R : Int → Int} {k : Int} (hW : okW W) (hdo : dvO σ) (hL : PR σ (Int.toNat (σ 74 3)) W L) (hk : isLead W L k) (hR : PR σ 76 W R) (hlt : ∀ l : Int, 0 ≤ l → l < 4096 → R l ≠ 0 → MW W k < MW W l) (h1 : ∀ τ : l2_m, (∀ b j, b ≠ 76 → b ≠ 77 → b ≠ 78 → b ≠ Int.toNat (σ 74 3) → b ≠ Int.toNat (σ 74 3) + 1 → b ≠ Int.toNat (σ 74 3) + 2 → τ b j = σ b j) → cnt (upI R k (L k)) 4096 ≤ 60 → PR τ 76 W (upI R k (L k)) → PR τ (Int.toNat (σ 74 3)) W (upI L k 0) → K 1 τ) (h0 : 60 < cnt (upI R k (L k)) 4096 → K 0 σ) : wC B 47 [vr 74] σ K := by
  obtain ⟨x, y, ex, ey, px, py, hne, x79, x82, y79, y82, s3, s4, hxy⟩ := dvO_n hdo
  rw [ex] at hL h1
  have hn : 0 < σ x 2 := by
    obtain ⟨i, i0, i1, -⟩ := hL.2.2.2.2 k hk.1 hk.2.1 hk.2.2.1
    omega
  have h60 := hL.2.1
  obtain ⟨k', k0, k1, k2, k3, k4, k5⟩ := PR_lead hL hn
  have ek := isLead_uniq (W := W) (L := L) ⟨k0, k1, k4, k5⟩ hk
  subst ek
  have hRk : R k' = 0 := Classical.byContradiction (fun z => by have := hlt k' k0 k1 z; omega)
  have r60 := hR.2.1
  have r0 := hR.1
  have hcnt : cnt (upI R k' (L k')) 4096 = σ 76 2 + 1 := by rw [cnt_app k0 k1 hRk k4, PR_cnt hR]
  have hc0 := hL.2.2.1
  refine o47 ?_
  unfold w47
  rw [ex, if_pos hn, if_pos hn, k2, k3]
  refine ⟨⟨px, ⟨by omega, by omega⟩, r0, ⟨by omega, by omega⟩⟩, ?_⟩
  intro σ1 es
  split
  · rename_i hroom
    obtain ⟨t2, tm, tc, tf⟩ := app_row hroom es
    have hR1 : PR σ1 76 W (upI R k' (L k')) := PR_app hR k0 k1 rfl hRk hlt k4 hroom es
    have g : ∀ b j, b ≠ 76 → b ≠ 77 → b ≠ 78 → σ1 b j = σ b j := fun b j z1 z2 z3 => tf b j z1 z2 z3
    have e3 : σ1 74 3 = x := by rw [g 74 3 (by decide) (by decide) (by decide)]; exact s3
    unfold w47_28
    refine lz2_inv (fun (i : Int) τ => 1 ≤ i ∧ i ≤ σ x 2 ∧ (∀ b j, b ≠ x + 1 → b ≠ x + 2 → τ b j = σ1 b j) ∧ (∀ j : Int, 0 ≤ j → j < i - 1 → τ (x + 1) j = σ (x + 1) (j + 1) ∧ τ (x + 2) j = σ (x + 2) (j + 1)) ∧ (∀ j : Int, i - 1 < j → τ (x + 1) j = σ (x + 1) j ∧ τ (x + 2) j = σ (x + 2) j)) (fun i _ => σ x 2 - i) ?_ ⟨by omega, by omega, fun b j _ _ => rfl, fun j a b => by omega, fun j _ => ⟨g _ _ (by omega) (by omega) (by omega), g _ _ (by omega) (by omega) (by omega)⟩⟩
    rintro X i τ hX ⟨i1, i2, i3, i4, i5⟩
    have q3 : Int.toNat (τ 74 3) = x := by rw [i3 74 3 (by omega) (by omega), e3]; rfl
    have q2 : τ x 2 = σ x 2 := by rw [i3 x 2 (by omega) (by omega)]; exact g x 2 (by omega) (by omega) (by omega)
    rw [q3, q2]
    refine ⟨⟨px, ⟨by omega, by omega⟩, ⟨by omega, by omega⟩⟩, ?_⟩
    split
    · rename_i hi
      refine ⟨⟨by omega, by omega, by omega, by omega⟩, ?_⟩
      intro τ1 et
      have v1 : ∀ b j, τ1 b j = if b = x + 1 ∧ j = i - 1 then τ (x + 1) i else τ b j := fun b j => by rw [et]; rfl
      have q4 : Int.toNat (τ1 74 3) = x := by rw [v1, if_neg (by omega)]; exact q3
      rw [q4]
      refine ⟨px, ?_⟩
      intro τ2 et2
      have v2 : ∀ b j, τ2 b j = if b = x + 2 ∧ j = i - 1 then τ (x + 2) i else if b = x + 1 ∧ j = i - 1 then τ (x + 1) i else τ b j := fun b j => by
        rw [et2]
        show (if b = x + 2 ∧ j = i - 1 then τ1 (x + 2) i else τ1 b j) = _
        have hx2 : τ1 (x + 2) i = τ (x + 2) i := by rw [v1, if_neg (by omega)]
        rw [hx2, v1]
      clear et et2
      refine hX _ _ ⟨by omega, by omega, fun b j z1 z2 => ?_, fun j a b => ?_, fun j a => ?_⟩ (by omega)
      · rw [v2, if_neg (fun z => z2 z.1), if_neg (fun z => z1 z.1)]; exact i3 b j z1 z2
      · rw [v2, v2, if_neg (by omega)]
        by_cases hj : j = i - 1
        · rw [if_pos ⟨rfl, hj⟩, if_pos ⟨rfl, hj⟩, (i5 i (by omega)).1, (i5 i (by omega)).2, hj]
          rw [show i - 1 + 1 = i by omega]
          exact ⟨rfl, rfl⟩
        · rw [if_neg (fun z => hj z.2), if_neg (fun z => hj z.2), if_neg (by omega)]
          exact i4 j a (by omega)
      · rw [v2, v2, if_neg (by omega), if_neg (by omega), if_neg (by omega), if_neg (by omega)]
        exact i5 j (by omega)
    · rename_i hi
      have ei : i = σ x 2 := by omega
      intro τ1 et
      have v1 : ∀ b j, τ1 b j = if b = x ∧ j = 2 then σ x 2 - 1 else τ b j := fun b j => by rw [et]; rfl
      refine h1 τ1 (fun b j z1 z2 z3 z4 z5 z6 => ?_) (by omega) ?_ ?_
      · rw [v1, if_neg (fun z => z4 z.1), i3 b j z5 z6]; exact g b j z1 z2 z3
      · refine PR_congr hR1 ?_ (fun j _ _ => ?_) (fun j _ _ => ?_)
        · rw [v1, if_neg (by omega)]; exact i3 76 2 (by omega) (by omega)
        · rw [v1, if_neg (by omega)]; exact i3 77 j (by omega) (by omega)
        · rw [v1, if_neg (by omega)]; exact i3 78 j (by omega) (by omega)
      · have w0 : τ1 x 2 = σ x 2 - 1 := by rw [v1, if_pos ⟨rfl, rfl⟩]
        have w1 : ∀ j : Int, 0 ≤ j → j < σ x 2 - 1 → τ1 (x + 1) j = σ (x + 1) (j + 1) ∧ τ1 (x + 2) j = σ (x + 2) (j + 1) := fun j a b => by
          rw [v1, v1, if_neg (by omega), if_neg (by omega)]; exact i4 j a (by omega)
        obtain ⟨a1, a2, a3, a4, a5⟩ := hL
        have un : ∀ l, l ≠ k' → upI L k' 0 l = L l := fun l hl => by unfold upI; rw [if_neg hl]
        unfold PR
        rw [w0]
        refine ⟨by omega, by omega, fun j b c => ?_, fun j j' b c d => ?_, fun l l0 l1 l2 => ?_⟩
        · obtain ⟨l, l0, l1, l2, l3, l4⟩ := a3 (j + 1) (by omega) (by omega)
          have hlk : l ≠ k' := by
            rintro rfl
            have := a4 0 (j + 1) (by omega) (by omega) (by omega)
            rw [l2, k2] at this
            omega
          rw [(w1 j b c).1, (w1 j b c).2]
          exact ⟨l, l0, l1, l2, by rw [un l hlk]; exact l3, by rw [un l hlk]; exact l4⟩
        · rw [(w1 j b (by omega)).1, (w1 j' (by omega) d).1]
          exact a4 (j + 1) (j' + 1) (by omega) (by omega) (by omega)
        · have hlk : l ≠ k' := by
            rintro rfl
            exact l2 (by unfold upI; rw [if_pos rfl])
          rw [un l hlk] at l2
          obtain ⟨j, j0, j1, j2⟩ := a5 l l0 l1 l2
          have hj0 : j ≠ 0 := by
            rintro rfl
            rw [k2] at j2
            exact hlk (MW_inj l0 l1 k0 k1 j2.symm)
          refine ⟨j - 1, by omega, by omega, ?_⟩
          rw [(w1 (j - 1) (by omega) (by omega)).1, show j - 1 + 1 = j by omega]
          exact j2
  · rename_i hroom
    rw [es, app_no hroom]
    exact h0 (by omega)
end DV
