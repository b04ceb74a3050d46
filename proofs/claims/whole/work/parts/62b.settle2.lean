theorem c91 {B : va_E} {σ : l2_m} {K : Int → l2_m → Prop} {o q : Nat} {W : Int → Int} {p : Int} (ho : isP o) (hq : isM q) (hne : q ≠ o ∧ q ≠ o + 1 ∧ q ≠ o + 2) (hW : okW W) (hp : σ q 0 = p) (p2 : 2 ≤ p) (p97 : p ≤ 97) (h1 : 0 ≤ σ o 2) (h2 : σ o 2 ≤ 60) (h3 : ∀ i : Int, 0 ≤ i → i < σ o 2 → (∃ k : Int, 0 ≤ k ∧ k < 4096 ∧ σ (o + 1) i = MW W k) ∧ 0 ≤ σ (o + 2) i ∧ σ (o + 2) i < p) (h : ∀ τ : l2_m, frQ o σ τ → PR τ o W (fun k => mgs σ o (σ o 2) (MW W k) % p) → K 0 τ) : wC B 91 [vr o, vr q] σ K := by
  generalize hN : σ o 2 = cN at h1 h2 h3 h
  refine o91 ho hq ?_
  unfold w91
  refine s90 ho (by omega) (by omega) (fun i a b => ?_) ?_
  · obtain ⟨⟨k, -, -, k3⟩, -⟩ := h3 i a (by omega)
    rw [k3]; exact MW_rg hW k
  rw [hN]
  intro ρ r1 r2 r3
  have e0 : ρ o 2 = cN := by rw [← hN]; exact r1 o 2 (by omega) (by omega)
  have h4 := tsum_all h1 r3 (fun m c => (∃ k : Int, 0 ≤ k ∧ k < 4096 ∧ m = MW W k) ∧ 0 ≤ c ∧ c < p) h3
  have hF : ∀ m, mgs σ o cN m = sumN (fun j => if ρ (o + 1) j = m then ρ (o + 2) j else 0) cN.toNat := fun m => (r3 (fun a c => if a = m then c else 0)).symm
  generalize hG : (fun k => mgs σ o cN (MW W k) % p) = F at h
  have hFk : ∀ k, F k = sumN (fun j => if ρ (o + 1) j = MW W k then ρ (o + 2) j else 0) cN.toNat % p := fun k => by rw [← hG]; show mgs σ o cN (MW W k) % p = _; rw [hF]
  rw [e0]
  intro xa exa
  subst xa
  intro ρ1 e1
  have q0 : ∀ τ : l2_m, frQ o σ τ → τ q 0 = p := fun τ t => by rw [← hp]; exact t q 0 hne.1 hne.2.1 hne.2.2
  unfold w91_19
  refine lz3_inv (fun (i most : Int) τ => 0 ≤ i ∧ i ≤ cN ∧ cN - i ≤ most ∧ most ≤ 60 ∧ frQ o σ τ ∧ 0 ≤ τ o 2 ∧ τ o 2 ≤ i ∧ (∀ j : Int, i ≤ j → j < cN → τ (o + 1) j = ρ (o + 1) j ∧ τ (o + 2) j = ρ (o + 2) j) ∧ (∀ a b : Int, 0 ≤ a → a < i → i ≤ b → b < cN → ρ (o + 1) b < ρ (o + 1) a) ∧ (∀ a : Int, 0 ≤ a → a < τ o 2 → ∃ k : Int, 0 ≤ k ∧ k < 4096 ∧ τ (o + 1) a = MW W k ∧ τ (o + 2) a = F k ∧ F k ≠ 0 ∧ ∃ j : Int, 0 ≤ j ∧ j < i ∧ ρ (o + 1) j = MW W k) ∧ (∀ a b : Int, 0 ≤ a → a < b → b < τ o 2 → τ (o + 1) b < τ (o + 1) a) ∧ (∀ k : Int, 0 ≤ k → k < 4096 → F k ≠ 0 → (∃ j : Int, 0 ≤ j ∧ j < i ∧ ρ (o + 1) j = MW W k) → ∃ a : Int, 0 ≤ a ∧ a < τ o 2 ∧ τ (o + 1) a = MW W k)) (fun i _ _ => cN - i) ?_ ?_
  · rintro X i most τ hX ⟨i1, i2, i3, i4, i5, i6, i7, i8, i9, i10, i11, i12⟩
    refine ⟨⟨by omega, by omega⟩, fun _ => ⟨⟨by omega, by omega⟩, ⟨by omega, by omega⟩⟩, ?_⟩
    split
    · rename_i hc
      refine ⟨⟨i1, by omega⟩, ?_⟩
      intro mark em
      have em2 : mark = ρ (o + 1) i := by rw [em]; exact (i8 i (by omega) (by omega)).1
      obtain ⟨⟨k, k1, k2, k3⟩, -⟩ := h4 i i1 (by omega)
      have rm : rg mark := by rw [em2, k3]; exact MW_rg hW k
      unfold w91_40
      refine lz2_inv (fun (y s : Int) => i ≤ y ∧ y ≤ cN ∧ (∀ j : Int, i ≤ j → j < y → ρ (o + 1) j = mark) ∧ s = sumN (fun j => if ρ (o + 1) j = mark then ρ (o + 2) j else 0) y.toNat) (fun y _ => cN - y) ?_ ?_
      · rintro Y y s hY ⟨j1, j2, j3, j4⟩
        refine ⟨⟨⟨by omega, by omega⟩, ⟨by omega, by omega⟩⟩, fun hy => ?_, ?_⟩
        · obtain ⟨⟨l, -, -, l3⟩, -⟩ := h4 y (by omega) hy
          refine ⟨by omega, by omega, ?_, rm⟩
          rw [(i8 y (by omega) hy).1, l3]
          exact MW_rg hW l
        split
        · rename_i hy
          rw [(i8 y (by omega) hy.1).1] at hy
          rintro _ rfl
          refine hY _ _ ⟨by omega, by omega, fun j a b => ?_, ?_⟩ (by omega)
          · by_cases hj : j = y
            · rw [hj]; exact hy.2
            · exact j3 j a (by omega)
          · rw [sumN_step (by omega), if_pos hy.2, ← j4, (i8 y (by omega) hy.1).2]
        · rename_i hy
          have hfull : sumN (fun j => if ρ (o + 1) j = mark then ρ (o + 2) j else 0) cN.toNat = s := by
            rw [j4]
            have key : ∀ n : Nat, y + n ≤ cN → sumN (fun j => if ρ (o + 1) j = mark then ρ (o + 2) j else 0) (y + n).toNat = sumN (fun j => if ρ (o + 1) j = mark then ρ (o + 2) j else 0) y.toNat := by
              intro n
              induction n with
              | zero => intro _; rw [show y + ((0 : Nat) : Int) = y from by omega]
              | succ n ih =>
                intro hn
                have e : y + ((n + 1 : Nat) : Int) = (y + n) + 1 := by omega
                rw [e, sumN_step (by omega), ih (by omega), if_neg, Int.add_zero]
                have hy2 : ρ (o + 1) y ≠ mark := fun z => hy ⟨by omega, by rw [(i8 y (by omega) (by omega)).1]; exact z⟩
                have t1 := r2 i y i1
                have t2 := r2 y (y + n) (by omega)
                by_cases hyi : y = i
                · subst hyi; exact absurd em2.symm hy2
                · have t1 := t1 (by omega) (by omega)
                  by_cases hn0 : n = 0
                  · subst hn0; rw [show y + ((0 : Nat) : Int) = y from by omega]; exact hy2
                  · have t2 := t2 (by omega) (by omega)
                    omega
            have := key (cN - y).toNat (by omega)
            rw [← this]
            congr 1
            omega
          have hy1 : i < y := by
            by_cases hyi : y = i
            · subst hyi
              exact absurd ⟨by omega, by rw [(i8 y (by omega) (by omega)).1]; exact em2.symm⟩ hy
            · omega
          have hs0 : 0 ≤ s := by
            rw [← hfull]
            exact sumN_nonneg (fun j a b => by
              split
              · exact (h4 j a (by omega)).2.1
              · exact Int.le_refl _)
          have hs1 : s ≤ 97 * (cN.toNat : Int) := by
            rw [← hfull]
            exact sumN_bound (fun j a b => by
              split
              · have := (h4 j a (by omega)).2.2; omega
              · decide)
          have hFm : F k = s % p := by rw [hFk, ← k3, ← em2, hfull]
          have tq := q0 τ i5
          unfold w91_73
          rw [tq]
          refine ⟨⟨p2, p97, ⟨by omega, by omega⟩⟩, ?_⟩
          rintro _ rfl
          have bd : ∀ a b : Int, 0 ≤ a → a < y → y ≤ b → b < cN → ρ (o + 1) b < ρ (o + 1) a := by
            intro a b a0 a1 b0 b1
            have hya : ρ (o + 1) y ≠ mark := fun z => hy ⟨by omega, by rw [(i8 y (by omega) (by omega)).1]; exact z⟩
            have hyl : ρ (o + 1) y ≤ ρ (o + 1) i := r2 i y i1 hy1 (by omega)
            have hyb : ρ (o + 1) b ≤ ρ (o + 1) y := by
              by_cases hb : b = y
              · rw [hb]; exact Int.le_refl _
              · exact r2 y b (by omega) (by omega) b1
            by_cases ha : a < i
            · have := i9 a i a0 ha (by omega) (by omega); omega
            · have := j3 a (by omega) a1; omega
          have kin : ∀ l : Int, 0 ≤ l → l < 4096 → (∃ j : Int, 0 ≤ j ∧ j < y ∧ ρ (o + 1) j = MW W l) → l ≠ k → ∃ j : Int, 0 ≤ j ∧ j < i ∧ ρ (o + 1) j = MW W l := by
            rintro l l0 l1 ⟨j, g1, g2, g3⟩ hl
            refine ⟨j, g1, ?_, g3⟩
            apply Classical.byContradiction
            intro hji
            have := j3 j (by omega) g2
            rw [this, em2, k3] at g3
            exact hl (MW_inj k1 k2 l0 l1 g3).symm
          split
          · rename_i hz
            refine hX _ _ _ ⟨by omega, by omega, by omega, by omega, i5, i6, by omega, fun j a b => i8 j (by omega) b, bd, ?_, i11, ?_⟩ (by omega)
            · intro a a0 a1
              obtain ⟨l, l1, l2, l3, l4, l5, j, g1, g2, g3⟩ := i10 a a0 a1
              exact ⟨l, l1, l2, l3, l4, l5, j, g1, by omega, g3⟩
            · intro l l0 l1 l2 l3
              exact i12 l l0 l1 l2 (kin l l0 l1 l3 (fun z => by rw [z, hFm] at l2; exact l2 hz))
          · rename_i hz
            refine ⟨⟨i6, ⟨by omega, by omega⟩⟩, ?_⟩
            intro τ1 et
            have ta : ∀ b j, τ1 b j = if b = o ∧ j = 2 then τ o 2 + 1 else if b = o + 2 ∧ j = τ o 2 then s % p else if b = o + 1 ∧ j = τ o 2 then mark else τ b j := fun b j => by rw [et]; exact app_at (by omega) b j
            have t2 : τ1 o 2 = τ o 2 + 1 := by rw [ta, if_pos ⟨rfl, rfl⟩]
            have tm : ∀ j, τ1 (o + 1) j = if j = τ o 2 then mark else τ (o + 1) j := fun j => by
              rw [ta, if_neg (by omega), if_neg (by omega)]
              by_cases hj : j = τ o 2
              · rw [if_pos ⟨rfl, hj⟩, if_pos hj]
              · rw [if_neg (fun z => hj z.2), if_neg hj]
            have tc : ∀ j, τ1 (o + 2) j = if j = τ o 2 then s % p else τ (o + 2) j := fun j => by
              rw [ta, if_neg (by omega)]
              by_cases hj : j = τ o 2
              · rw [if_pos ⟨rfl, hj⟩, if_pos hj]
              · rw [if_neg (fun z => hj z.2), if_neg (by omega), if_neg hj]
            clear et
            refine hX _ _ _ ⟨by omega, by omega, by omega, by omega, ?_, by omega, by omega, ?_, bd, ?_, ?_, ?_⟩ (by omega)
            · intro b j b1 b2 b3
              rw [ta, if_neg (fun z => b1 z.1), if_neg (fun z => b3 z.1), if_neg (fun z => b2 z.1)]
              exact i5 b j b1 b2 b3
            · intro j a b
              rw [tm, tc, if_neg (by omega), if_neg (by omega)]
              exact i8 j (by omega) b
            · intro a a0 a1
              rw [t2] at a1
              rw [tm, tc]
              by_cases ha : a = τ o 2
              · rw [if_pos ha, if_pos ha]
                exact ⟨k, k1, k2, by rw [em2]; exact k3, hFm.symm, by rw [hFm]; exact hz, i, i1, hy1, k3⟩
              · rw [if_neg ha, if_neg ha]
                obtain ⟨l, l1, l2, l3, l4, l5, j, g1, g2, g3⟩ := i10 a a0 (by omega)
                exact ⟨l, l1, l2, l3, l4, l5, j, g1, by omega, g3⟩
            · intro a b a0 a1 a2
              rw [t2] at a2
              rw [tm, tm]
              by_cases hb : b = τ o 2
              · rw [if_pos hb, if_neg (by omega)]
                obtain ⟨l, l1, l2, l3, l4, l5, j, g1, g2, g3⟩ := i10 a a0 (by omega)
                rw [l3, ← g3, em2]
                exact i9 j i g1 g2 (by omega) (by omega)
              · rw [if_neg hb, if_neg (by omega)]
                exact i11 a b a0 a1 (by omega)
            · intro l l0 l1 l2 l3
              by_cases hl : l = k
              · refine ⟨τ o 2, i6, by omega, ?_⟩
                rw [tm, if_pos rfl, em2, k3, hl]
              · obtain ⟨a, a0, a1, a2⟩ := i12 l l0 l1 l2 (kin l l0 l1 l3 hl)
                refine ⟨a, a0, by omega, ?_⟩
                rw [tm, if_neg (by omega)]
                exact a2
      · refine ⟨by omega, by omega, fun j a b => by omega, ?_⟩
        refine (sumN_zero (fun j a b => ?_)).symm
        rw [if_neg]
        have := i9 j i a (by omega) (by omega) (by omega)
        omega
    · rename_i hc
      have hi : i = cN := by omega
      rw [hi] at i10 i12
      refine h τ i5 ⟨i6, by omega, fun a a0 a1 => ?_, i11, fun k k1 k2 k3 => ?_⟩
      · obtain ⟨l, l1, l2, l3, l4, l5, -⟩ := i10 a a0 a1
        exact ⟨l, l1, l2, l3, l4, l5⟩
      · refine i12 k k1 k2 k3 ?_
        rw [hFk] at k3
        have : sumN (fun j => if ρ (o + 1) j = MW W k then ρ (o + 2) j else 0) cN.toNat ≠ 0 := fun z => k3 (by rw [z]; exact Int.zero_emod p)
        obtain ⟨j, a, b, c⟩ := sumN_ex this
        refine ⟨j, a, by omega, ?_⟩
        apply Classical.byContradiction
        intro z
        rw [if_neg z] at c
        exact c rfl
  · have f1 : ∀ b j, ρ1 b j = if b = o ∧ j = 2 then 0 else ρ b j := fun b j => by rw [e1]; rfl
    have f2 : ρ1 o 2 = 0 := by rw [f1, if_pos ⟨rfl, rfl⟩]
    refine ⟨by omega, by omega, by omega, by omega, ?_, by omega, by omega, ?_, fun a b a0 a1 => by omega, fun a a0 a1 => by omega, fun a b a0 a1 a2 => by omega, ?_⟩
    · intro b j b1 b2 b3
      rw [f1, if_neg (fun z => b1 z.1)]
      exact r1 b j b2 b3
    · intro j a b
      rw [f1, f1, if_neg (by omega), if_neg (by omega)]
      exact ⟨rfl, rfl⟩
    · rintro k k1 k2 k3 ⟨j, g1, g2, -⟩
      omega
