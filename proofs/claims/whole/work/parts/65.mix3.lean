theorem c1 {B : va_E} {σ : l2_m} {K : Int → l2_m → Prop} {a b o : Nat} {W f g : Int → Int} {p ac da bc db : Int} (ha : isP a) (hb : isP b) (ho : isP o) (na : o ≠ a) (nb : o ≠ b) (hW : okW W) (hp : σ 34 0 = p) (p2 : 2 ≤ p) (p97 : p ≤ 97) (fa : PR σ a W f) (fb : PR σ b W g) (ra : ∀ k : Int, 0 ≤ k → k < 4096 → 0 ≤ f k ∧ f k < p) (rb : ∀ k : Int, 0 ≤ k → k < 4096 → 0 ≤ g k ∧ g k < p) (a0 : 0 ≤ ac) (a1 : ac ≤ 97) (b0 : 0 ≤ bc) (b1 : bc ≤ 97) (d0 : 0 ≤ da) (d1 : da < 4096) (e0 : 0 ≤ db) (e1 : db < 4096) (h1 : ∀ τ : l2_m, frQ o σ τ → (∀ k : Int, 0 ≤ k → k < 4096 → f k ≠ 0 → noO k da) → (∀ k : Int, 0 ≤ k → k < 4096 → g k ≠ 0 → noO k db) → PR τ o W (mixF p ac da f bc db g) → K 1 τ) (h0 : ∀ τ : l2_m, frQ o σ τ → ((∃ k : Int, 0 ≤ k ∧ k < 4096 ∧ f k ≠ 0 ∧ ¬ noO k da) ∨ (∃ k : Int, 0 ≤ k ∧ k < 4096 ∧ g k ≠ 0 ∧ ¬ noO k db) ∨ 60 < cnt (mixF p ac da f bc db g) 4096) → K 0 τ) : wC B 1 [vr 38, vr a, vi ac, vi (MW W da), vr b, vi bc, vi (MW W db), vr o] σ K := by
  obtain ⟨H, hH⟩ : ∃ H, H = mixF p ac da f bc db g := ⟨_, rfl⟩
  rw [← hH] at h1 h0
  have obig := isP_big ho
  have ma := MW_b hW da
  have mb := MW_b hW db
  refine o1 ha hb ho ?_
  unfold w1
  intro σ1 es
  have fr1 : frQ o σ σ1 := fun b' j x y z => by rw [es]; exact l2_u_ne x
  have ra1 := (frQ_row ho ha na fr1)
  have rb1 := (frQ_row ho hb nb fr1)
  rw [ra1.1, rb1.1]
  intro mst em
  have hna := fa.2.1
  have hnb := fb.2.1
  have hna0 := fa.1
  have hnb0 := fb.1
  have z0 : σ1 o 2 = 0 := by rw [es]; exact l2_u_self _ _ _ _
  unfold w1_24
  refine lz4_inv (fun (i j most : Int) τ => mixI σ a b o W f g H da db i j τ ∧ (σ a 2 - i) + (σ b 2 - j) ≤ most ∧ most ≤ 120) (fun _ _ most _ => most) ?_ ?_
  · rintro X i j most τ hX ⟨hI, i2, i3⟩
    have hI' := hI
    obtain ⟨i0, i1, j0, j1, fr, c0, c1, oa, ob, pa, pb, en, fa', co⟩ := hI'
    have qa := frQ_row ho ha na fr
    have qb := frQ_row ho hb nb fr
    have fin : (σ a 2 ≤ i ∧ σ b 2 ≤ j) → K 1 τ := by
      rintro ⟨q1, q2⟩
      have e1 : hd σ a (MW W da) i = -1 := by unfold hd; rw [if_neg (by omega)]
      have e2 : hd σ b (MW W db) j = -1 := by unfold hd; rw [if_neg (by omega)]
      refine h1 τ fr ?_ ?_ ⟨c0, c1, fun e x y => (en e x y).1, fa', fun k x y z => co k x y z (by have := MW_b hW k; omega) (by have := MW_b hW k; omega)⟩
      · intro k k0 k1 k2
        obtain ⟨x, x1, x2, x3⟩ := fa.2.2.2.2 k k0 k1 k2
        exact oa x x1 (by omega) k k0 k1 x3
      · intro k k0 k1 k2
        obtain ⟨x, x1, x2, x3⟩ := fb.2.2.2.2 k k0 k1 k2
        exact ob x x1 (by omega) k k0 k1 x3
    refine ⟨⟨by omega, by omega⟩, ?_⟩
    split
    · rename_i hm
      rw [qa.1, qb.1]
      refine ⟨⟨⟨by omega, by omega⟩, ⟨by omega, by omega⟩⟩, fun _ => ⟨⟨by omega, by omega⟩, ⟨by omega, by omega⟩⟩, ?_⟩
      split
      · rename_i hor
        -- the heads
        have hl : rg (hd σ a (MW W da) i) ∧ -1 ≤ hd σ a (MW W da) i ∧ (i < σ a 2 → 0 ≤ hd σ a (MW W da) i) := by
          unfold hd
          split
          · rename_i hi
            obtain ⟨k, -, -, k3, -, -⟩ := fa.2.2.1 i i0 hi
            have := MW_b hW k
            rw [k3]
            exact ⟨⟨by omega, by omega⟩, by omega, fun _ => by omega⟩
          · exact ⟨by decide, by decide, fun z => by omega⟩
        have hr : rg (hd σ b (MW W db) j) ∧ -1 ≤ hd σ b (MW W db) j ∧ (j < σ b 2 → 0 ≤ hd σ b (MW W db) j) := by
          unfold hd
          split
          · rename_i hi
            obtain ⟨k, -, -, k3, -, -⟩ := fb.2.2.1 j j0 hi
            have := MW_b hW k
            rw [k3]
            exact ⟨⟨by omega, by omega⟩, by omega, fun _ => by omega⟩
          · exact ⟨by decide, by decide, fun z => by omega⟩
        -- from the two heads on
        have go : w1_97 B τ a ac (MW W da) b bc (MW W db) o i j most (hd σ a (MW W da) i) (hd σ b (MW W db) j) X K := by
          unfold w1_97
          refine ⟨⟨hl.1, hr.1⟩, ?_⟩
          intro M hM
          have M0 : 0 ≤ M := by omega
          have M1 : M < 2147483648 := by have := hl.1; have := hr.1; omega
          have ri : rg (iand M 16912) := by
            rw [iand_ov _ M0]
            constructor <;> omega
          refine ⟨⟨M0, M1, ri⟩, ?_⟩
          split
          · rename_i hov
            obtain ⟨i', hi'⟩ : ∃ i', i' = if hd σ a (MW W da) i = M then i + 1 else i := ⟨_, rfl⟩
            obtain ⟨j', hj'⟩ : ∃ j', j' = if hd σ b (MW W db) j = M then j + 1 else j := ⟨_, rfl⟩
            obtain ⟨s, hs⟩ : ∃ s, s = ac * (if hd σ a (MW W da) i = M then σ (a + 2) i else 0) + bc * (if hd σ b (MW W db) j = M then σ (b + 2) j else 0) := ⟨_, rfl⟩
            obtain ⟨k, k0, k1, k2, k3, k4, k5, k6⟩ := mix_step hW fa fb d0 d1 e0 e1 hH hI hM M0 hov hi' hj' hs
            have la : hd σ a (MW W da) i = M → (i < σ a 2 ∧ 0 ≤ σ (a + 2) i ∧ σ (a + 2) i < p) := fun z => by
              obtain ⟨l, l1, l2, l3, -⟩ := side_key fa hW d0 d1 i0 z M0
              obtain ⟨q, q1, q2, q3, q4, q5⟩ := fa.2.2.1 i i0 l3
              rw [q4]
              exact ⟨l3, ra q q1 q2⟩
            have lb : hd σ b (MW W db) j = M → (j < σ b 2 ∧ 0 ≤ σ (b + 2) j ∧ σ (b + 2) j < p) := fun z => by
              obtain ⟨l, l1, l2, l3, -⟩ := side_key fb hW e0 e1 j0 z M0
              obtain ⟨q, q1, q2, q3, q4, q5⟩ := fb.2.2.1 j j0 l3
              rw [q4]
              exact ⟨l3, rb q q1 q2⟩
            have cnti : 1 ≤ (i' - i) + (j' - j) := by
              rw [hi', hj']
              by_cases z : hd σ a (MW W da) i = M
              · rw [if_pos z]; split <;> omega
              · rw [if_neg z, if_pos (by omega)]; omega
            have sb : 0 ≤ s ∧ s ≤ 20000 := by
              rw [hs]
              have t1 : 0 ≤ ac * (if hd σ a (MW W da) i = M then σ (a + 2) i else 0) ∧ ac * (if hd σ a (MW W da) i = M then σ (a + 2) i else 0) ≤ 97 * 97 := by
                split
                · rename_i z; have := la z; exact mul_b a0 a1 this.2.1 (by omega)
                · rw [Int.mul_zero]; omega
              have t2 : 0 ≤ bc * (if hd σ b (MW W db) j = M then σ (b + 2) j else 0) ∧ bc * (if hd σ b (MW W db) j = M then σ (b + 2) j else 0) ≤ 97 * 97 := by
                split
                · rename_i z; have := lb z; exact mul_b b0 b1 this.2.1 (by omega)
                · rw [Int.mul_zero]; omega
              omega
            -- the end of a turn
            have last : w1_172 B τ a ac (MW W da) b bc (MW W db) o i' j' most M s X K := by
              unfold w1_172
              have tp : τ 34 0 = p := by rw [← hp]; exact fr 34 0 (by omega) (by omega) (by omega)
              rw [tp]
              refine ⟨⟨p2, p97, ⟨by omega, by omega⟩⟩, ?_⟩
              intro s' es'
              subst s'
              split
              · rename_i hz
                exact hX _ _ _ _ ⟨k5 hz, by omega, by omega⟩ (by omega)
              · rename_i hz
                refine ⟨⟨c0, ⟨by omega, by omega⟩⟩, ?_⟩
                intro τ1 et
                split
                · rename_i hroom
                  have ta : ∀ b j, τ1 b j = if b = o ∧ j = 2 then τ o 2 + 1 else if b = o + 2 ∧ j = τ o 2 then s % p else if b = o + 1 ∧ j = τ o 2 then M else τ b j := fun b j => by rw [et]; exact app_at hroom b j
                  have t2 : τ1 o 2 = τ o 2 + 1 := by rw [ta, if_pos ⟨rfl, rfl⟩]
                  have tm : ∀ j, τ1 (o + 1) j = if j = τ o 2 then M else τ (o + 1) j := fun j => by
                    rw [ta, if_neg (by omega), if_neg (by omega)]
                    by_cases hj : j = τ o 2
                    · rw [if_pos ⟨rfl, hj⟩, if_pos hj]
                    · rw [if_neg (fun z => hj z.2), if_neg hj]
                  have tc : ∀ j, τ1 (o + 2) j = if j = τ o 2 then s % p else τ (o + 2) j := fun j => by
                    rw [ta, if_neg (by omega)]
                    by_cases hj : j = τ o 2
                    · rw [if_pos ⟨rfl, hj⟩, if_pos hj]
                    · rw [if_neg (fun z => hj z.2), if_neg (by omega), if_neg hj]
                  have tf : frQ o σ τ1 := fun b j b1 b2 b3 => by
                    rw [ta, if_neg (fun z => b1 z.1), if_neg (fun z => b3 z.1), if_neg (fun z => b2 z.1)]
                    exact fr b j b1 b2 b3
                  exact hX _ _ _ _ ⟨k6 τ1 hz hroom tf t2 tm tc, by omega, by omega⟩ (by omega)
                · rename_i hroom
                  have et1 : τ1 = τ := by rw [et]; unfold app; rw [if_neg hroom]
                  rw [et1]
                  refine h0 τ fr (Or.inr (Or.inr ?_))
                  have t60 : τ o 2 = 60 := by omega
                  have := cnt_inj (N := 4096) (fun e => if e < 60 then kom (τ (o + 1) e) else k) 61 H (fun e x y => by
                    by_cases he : e < 60
                    · obtain ⟨⟨q, q1, q2, q3, q4, q5⟩, -⟩ := en e x (by omega)
                      simp only [if_pos he]
                      rw [q3, kom_MW q1 q2]
                      exact ⟨q1, q2, q5⟩
                    · simp only [if_neg he]
                      exact ⟨k0, k1, by rw [k3]; exact hz⟩) (fun e e' x y z => by
                    obtain ⟨⟨q, q1, q2, q3, q4, q5⟩, -⟩ := en e x (by omega)
                    simp only [if_pos (show e < 60 by omega)]
                    rw [q3, kom_MW q1 q2]
                    by_cases he : e' < 60
                    · obtain ⟨⟨l, l1, l2, l3, l4, l5⟩, -⟩ := en e' (by omega) (by omega)
                      simp only [if_pos he]
                      rw [l3, kom_MW l1 l2]
                      rintro rfl
                      have := fa' e e' x y (by omega)
                      omega
                    · simp only [if_neg he]
                      rintro rfl
                      have := k4 e x (by omega)
                      omega)
                  omega
            have mid : ∀ s1 : Int, s1 = ac * (if hd σ a (MW W da) i = M then σ (a + 2) i else 0) → w1_146 B τ a ac (MW W da) b bc (MW W db) o i' j most (hd σ b (MW W db) j) M s1 X K := by
              intro s1 es1
              unfold w1_146
              refine ⟨⟨hr.1, ⟨by omega, by omega⟩⟩, ?_⟩
              split
              · rename_i z
                have := lb z
                refine ⟨⟨j0, by omega⟩, ?_⟩
                intro s2 es2
                rw [qb.2.2, es1] at es2
                rw [if_pos z] at hj' hs
                rw [← es2] at hs
                rw [← hj', ← hs]
                exact last
              · rename_i z
                rw [if_neg z] at hj' hs
                rw [Int.mul_zero, Int.add_zero, ← es1] at hs
                rw [← hj', ← hs]
                exact last
            split
            · rename_i z
              have := la z
              refine ⟨⟨i0, by omega⟩, ?_⟩
              intro s1 es1
              rw [if_pos z] at hi'
              rw [← hi']
              refine mid s1 ?_
              rw [es1, if_pos z, qa.2.2, Int.zero_add]
            · rename_i z
              rw [if_neg z] at hi'
              rw [← hi']
              refine mid 0 ?_
              rw [if_neg z, Int.mul_zero]
          · rename_i hov
            refine h0 τ fr ?_
            by_cases z : hd σ a (MW W da) i = M
            · obtain ⟨l, l1, l2, l3, l4, l5, l6, l7⟩ := side_key fa hW d0 d1 i0 z M0
              exact Or.inl ⟨l, l1, l2, l5, fun y => hov (l7.mpr y)⟩
            · obtain ⟨l, l1, l2, l3, l4, l5, l6, l7⟩ := side_key fb hW e0 e1 j0 (show hd σ b (MW W db) j = M by omega) M0
              exact Or.inr (Or.inl ⟨l, l1, l2, l5, fun y => hov (l7.mpr y)⟩)
        have go2 : w1_70 B τ a ac (MW W da) b bc (MW W db) o i j most (hd σ a (MW W da) i) X K := by
          unfold w1_70
          rw [qb.1]
          refine ⟨⟨⟨by omega, by omega⟩, ⟨by omega, by omega⟩⟩, ?_⟩
          split
          · rename_i z
            refine ⟨⟨j0, by omega⟩, ?_⟩
            have e : τ (b + 1) j + MW W db = hd σ b (MW W db) j := by unfold hd; rw [if_pos z, qb.2.1]
            rw [e]
            exact go
          · rename_i z
            have e : (-1 : Int) = hd σ b (MW W db) j := by unfold hd; rw [if_neg z]
            rw [e]
            exact go
        unfold w1_48
        rw [qa.1]
        refine ⟨⟨⟨by omega, by omega⟩, ⟨by omega, by omega⟩⟩, ?_⟩
        split
        · rename_i z
          refine ⟨⟨i0, by omega⟩, ?_⟩
          have e : τ (a + 1) i + MW W da = hd σ a (MW W da) i := by unfold hd; rw [if_pos z, qa.2.1]
          rw [e]
          exact go2
        · rename_i z
          have e : (-1 : Int) = hd σ a (MW W da) i := by unfold hd; rw [if_neg z]
          rw [e]
          exact go2
      · rename_i hor
        exact fin ⟨by omega, by omega⟩
    · rename_i hm
      exact fin ⟨by omega, by omega⟩
  · refine ⟨⟨Int.le_refl _, hna0, Int.le_refl _, hnb0, fr1, by omega, by omega, fun x x0 x1 => by omega, fun x x0 x1 => by omega, fun x x0 x1 => by omega, fun x x0 x1 => by omega, fun e x y => by omega, fun e e' x y z => by omega, fun k k0 k1 k2 k3 k4 => ?_⟩, by omega, by omega⟩
    exfalso
    have hsrc : shf da f k ≠ 0 ∨ shf db g k ≠ 0 := by
      apply Classical.byContradiction
      intro z
      have z1 : shf da f k = 0 := Classical.byContradiction (fun y => z (Or.inl y))
      have z2 : shf db g k = 0 := Classical.byContradiction (fun y => z (Or.inr y))
      apply k2
      rw [hH]
      unfold mixF
      rw [z1, z2, Int.mul_zero, Int.mul_zero]
      exact Int.zero_emod p
    rcases hsrc with hs1 | hs1
    · obtain ⟨x, x1, x2, x3⟩ := side_src fa d0 d1 k0 k1 hs1
      have := hd_le fa hW ma.1 (Int.le_refl 0) x1 x2
      omega
    · obtain ⟨x, x1, x2, x3⟩ := side_src fb e0 e1 k0 k1 hs1
      have := hd_le fb hW mb.1 (Int.le_refl 0) x1 x2
      omega
