/-! ===== missing: the reference's side, and the pair ===== -/
def frW (υ τ : l2_m) : Prop := ∀ b j, b ≠ 192 → (b < 193 ∨ 198 < b) → ¬ (b = 186 ∧ (j = 29 ∨ (36 ≤ j ∧ j ≤ 39))) → τ b j = υ b j
def frS (σ υ : l2_m) : Prop := ∀ b j, 186 ≤ b → b ≠ 192 → (b < 193 ∨ 198 < b) → ¬ (b = 186 ∧ (j = 0 ∨ j = 29 ∨ (36 ≤ j ∧ j ≤ 39))) → υ b j = σ b j
section MR
variable {B : va_E} {σ υ : l2_m} {K : Int → l2_m → Prop} {set : Int}
/-- one pair on the reference's side -/
theorem rpr {x y : Int} {K0 K1 : l2_m → Prop} (hR : RWF σ) (ht : σ 186 14 = 1) (hυ : frS σ υ) (x0 : 0 ≤ x) (x1 : x < 8) (y0 : 0 ≤ y) (y1 : y < 8) (hs : rg set) (bx : bit set x = 1) (by1 : bit set y = 1) (hl : setL σ set) (h1 : ∀ (τ : l2_m) (n : Nat) (s : dst), frW υ τ → pOK σ set x y n s → dvT τ s n → dGood (σ 186 5) (ordA σ) (lkA σ) s → K1 τ) (h0 : ∀ τ : l2_m, frW υ τ → pNO σ set x y → K0 τ) : wC B 236 [vr 186, vi x, vi y] υ (fun z s => (rg z ∧ (if z = 0 then K0 s else (wC B 231 [vr 186, vi set] s (fun z' s' => (rg z' ∧ (if z' = 0 then K0 s' else K1 s'))))))) := by
  obtain ⟨b1, b2, b3, b4, b5, b6⟩ := hR.2.2.2.2.2.2.2.2.2 ht
  obtain ⟨p2, p97, -⟩ := pr_rest _ b1
  have e : ∀ b j, b = 187 ∨ b = 190 ∨ (b = 186 ∧ j = 5) → υ b j = σ b j := fun b j z => hυ b j (by omega) (by omega) (by omega) (by omega)
  have er : regR υ = regR σ := funext (fun q => funext (fun j => e 187 _ (by omega)))
  have rng' : ∀ s : l2_m, (∀ j, s 187 j = σ 187 j) → rngR s (σ 186 5) := fun s hs q j q0 q1 j0 j1 => by rw [hs]; exact b3 q j q0 q1 j0 j1
  have al : ∀ s : l2_m, (∀ j, s 190 j = σ 190 j) → alongOK s (ordA σ) := fun s hs => ⟨fun i x0 x1 => by rw [hs]; exact b5.1 i x0 x1, fun i j x0 x1 x2 => by rw [hs, hs]; exact b5.2.1 i j x0 x1 x2, fun j x0 x1 => by obtain ⟨i, y0, y1, y2⟩ := b5.2.2 j x0 x1; exact ⟨i, y0, y1, by rw [hs]; exact y2⟩⟩
  refine r236 (W := ordA σ) (p := σ 186 5) (ka := lkA σ x) (kb := lkA σ y) (e 186 5 (by omega)) b1 x0 x1 y0 y1 (rng' υ (fun j => e 187 j (by omega))) (al υ (fun j => e 190 j (by omega))) (by rw [er]; exact hl x x0 x1 bx) (by rw [er]; exact hl y y0 y1 by1) (fun t t1 t2 t3 t4 t5 t6 => ⟨by decide, ?_⟩) (fun t t1 t2 => ⟨by decide, ?_⟩)
  · rw [if_neg (by decide)]
    rw [er] at t2 t4 t5 t6
    have hno : ¬ sgN σ x y := by
      rintro (⟨k, k0, k1, k2, k3⟩ | ⟨k, k0, k1, k2, k3⟩ | w)
      · exact k3 (t4 k k0 k1 k2)
      · exact k3 (t5 k k0 k1 k2)
      · have e3 : cnt (sgF σ x y) 4096 ≤ 60 := t6
        omega
    have v7 : ∀ j, t 187 j = σ 187 j := fun j => (t1 187 j (by decide) (by omega)).trans (e 187 j (by omega))
    have er2 : regR t = regR σ := funext (fun q => funext (fun j => v7 _))
    refine r231 (W := ordA σ) (p := σ 186 5) (f := sgF σ x y) (lk := lkA σ) (wt_ok _ _ _) (by rw [t1 186 5 (by decide) (by omega)]; exact e 186 5 (by omega)) b1 hs (rng' t v7) (al t (fun j => (t1 190 j (by decide) (by omega)).trans (e 190 j (by omega)))) t2 (fun k _ _ => ⟨Int.emod_nonneg _ (by omega), Int.emod_lt_of_pos _ (by omega)⟩) (fun d d0 d1 db => by rw [er2]; exact hl d d0 d1 db) (fun ρ n s v1 v2 v3 v4 => ⟨by decide, ?_⟩) (fun ρ v1 v2 => ⟨by decide, ?_⟩)
    · rw [if_neg (by decide)]
      rw [er2] at v2
      exact h1 ρ n s (fun b j z1 z2 z3 => (v1 b j z2 (by omega)).trans (t1 b j z1 (by omega))) ⟨hno, v2⟩ v3 v4
    · rw [if_pos rfl]
      rw [er2] at v2
      exact h0 ρ (fun b j z1 z2 z3 => (v1 b j z2 (by omega)).trans (t1 b j z1 (by omega))) (Or.inr v2)
  · rw [if_pos rfl]
    rw [er] at t2
    exact h0 t (fun b j z1 z2 z3 => t1 b j z1 (by omega)) (Or.inl t2)
theorem frW_S {τ : l2_m} (h : frS σ υ) (h' : frW υ τ) : frS σ τ := fun b j z1 z2 z3 z4 => (h' b j z2 z3 (by omega)).trans (h b j z1 z2 z3 z4)
theorem frW_t {τ ρ : l2_m} (h : frW υ τ) (h' : frW τ ρ) : frW υ ρ := fun b j z1 z2 z3 => (h' b j z1 z2 z3).trans (h b j z1 z2 z3)
theorem r237 {i : Int} (hR : RWF σ) (ht : σ 186 14 = 1) (hυ : frS σ υ) (hs : rg set) (hl : setL σ set) (i0 : 0 ≤ i) (i1 : i ≤ 64) (h1 : ∀ (τ : l2_m) (k : Int) (n : Nat) (s : dst), frW υ τ → i ≤ k → k < 64 → prV set k → pOK σ set (k / 8) (k % 8) n s → cnt s.2.1 4096 ≠ 0 → (∀ j : Int, i ≤ j → j < k → ¬ noi σ set j ∧ ¬ nzi σ set j) → dvT τ s n → dGood (σ 186 5) (ordA σ) (lkA σ) s → K k τ) (hn : ∀ τ : l2_m, frW υ τ → (∀ j : Int, i ≤ j → j < 64 → ¬ noi σ set j ∧ ¬ nzi σ set j) → K (-1) τ) (h3 : ∀ (τ : l2_m) (k : Int), frW υ τ → i ≤ k → k < 64 → noi σ set k → (∀ j : Int, i ≤ j → j < k → ¬ noi σ set j ∧ ¬ nzi σ set j) → K (-3) τ) : wC B 237 [vr 186, vi set, vi i] υ K := by
  refine o237 ?_
  unfold w237 w237_2
  refine lz2_inv (fun (x : Int) s => i ≤ x ∧ x ≤ 64 ∧ frW υ s ∧ ∀ j : Int, i ≤ j → j < x → ¬ noi σ set j ∧ ¬ nzi σ set j) (fun x _ => 64 - x) ?_ ⟨by omega, i1, fun _ _ _ _ _ => rfl, fun j j0 j1 => by omega⟩
  intro X x s hX ⟨x0, x1, hf, hI⟩
  refine ⟨⟨by omega, by omega⟩, ?_⟩
  by_cases hx : x < 64
  · rw [if_pos hx]
    refine ⟨by omega, ?_⟩
    intro a ea b eb
    refine ⟨⟨by omega, by omega⟩, ?_⟩
    have next : ∀ s' : l2_m, frW υ s' → ¬ noi σ set x → ¬ nzi σ set x → X (x + 1) s' := fun s' f' n1 n2 => by
      refine hX (x + 1) s' ⟨by omega, by omega, f', fun j j0 j1 => ?_⟩ (by omega)
      by_cases hj : j = x
      · rw [hj]; exact ⟨n1, n2⟩
      · exact hI j j0 (by omega)
    by_cases hab : a < b
    · rw [if_pos hab]
      refine ⟨⟨hs, by omega, by omega⟩, fun _ => ⟨by omega, by omega⟩, ?_⟩
      rw [show (set / 2 ^ (Int.toNat a)) % 2 = bit set a from rfl, show (set / 2 ^ (Int.toNat b)) % 2 = bit set b from rfl]
      by_cases hb : bit set a = 0 ∨ bit set b = 0
      · rw [if_pos hb]
        have hv : ¬ prV set x := by unfold prV; rw [← ea, ← eb]; rintro ⟨-, w1, w2⟩; omega
        exact next s hf (fun w => hv w.1) (fun w => hv w.1)
      · rw [if_neg hb]
        have ba : bit set a = 1 := (bit_b set a).resolve_left (fun w => hb (Or.inl w))
        have bb : bit set b = 1 := (bit_b set b).resolve_left (fun w => hb (Or.inr w))
        have hv : prV set x := by unfold prV; rw [← ea, ← eb]; exact ⟨hab, ba, bb⟩
        refine rpr hR ht (frW_S hυ hf) (by omega) (by omega) (by omega) (by omega) hs ba bb hl (fun τ n t t1 t2 t3 t4 => ?_) (fun τ t1 t2 => ?_)
        · have e37 := t3.2.2.2.2.2.1
          have c0 := cnt_bi t.2.1 (n := 4096) (by decide)
          rw [ea, eb] at t2
          rw [e37]
          refine ⟨⟨by omega, by omega⟩, ?_⟩
          by_cases hz : 0 < cnt t.2.1 4096
          · rw [if_pos hz]
            exact h1 τ x n t (frW_t hf t1) x0 hx hv t2 (by omega) hI t3 t4
          · rw [if_neg hz]
            exact next τ (frW_t hf t1) (pok_no t2) (pok_nz t2 (by omega))
        · rw [ea, eb] at t2
          exact h3 τ x (frW_t hf t1) x0 hx ⟨hv, t2⟩ hI
    · rw [if_neg hab]
      have hv : ¬ prV set x := by unfold prV; rw [← ea, ← eb]; exact fun w => hab w.1
      exact next s hf (fun w => hv w.1) (fun w => hv w.1)
  · rw [if_neg hx]
    exact hn s hf (fun j j0 j1 => hI j j0 (by omega))
end MR
theorem c153n {B : va_E} {σ : l2_m} {K : Int → l2_m → Prop} {set : Int} (hd : σ 32 5 = 0) (h : K 1 σ) : wC B 153 [vr 32, vi set] σ K := by
  refine o153 ?_
  unfold w153
  rw [hd]
  refine ⟨by decide, ?_⟩
  rw [if_pos rfl]
  exact h
theorem pair_missing {F : l2_m → Prop} {B : va_E} {set : Int} (hs : rg set) : PAIR F B 124 238 [vi set] := by
  intro σ hC hR
  have B5 := hC.1.2.2.2.2.1
  have h01 := hR.1
  have fr0 : frE σ σ := fun _ _ _ _ _ _ => rfl
  have kt0 : ∀ (s : l2_m) (n : Int), frE σ s → ∀ b j, 186 ≤ b → trb s n b j = σ b j := fun s n hf b j z => by
    rw [trb_at, if_neg (by omega), if_neg (by omega)]; exact hf b j (by omega) (by omega) (by omega) (by omega)
  have kp : ∀ s : l2_m, frE σ s → ∀ b j, cpt b j ∨ prs b j → s b j = σ b j := fun s hf b j z => hf b j (by unfold cpt prs at z; omega) (by unfold cpt prs at z; omega) (by unfold cpt prs at z; omega) (by unfold cpt prs at z; omega)
  have kr : ∀ s t : l2_m, frW s t → ∀ b j, b < 186 ∨ prs b j → t b j = s b j := fun s t hf b j z => hf b j (by unfold prs at z; omega) (by unfold prs at z; omega) (by unfold prs at z; omega)
  refine o124 ?_
  unfold w124
  by_cases ht : σ 186 14 = 1
  · obtain ⟨D1, D2, D3, D4, D5, D6, D7, D8⟩ := hC.2.1 ht
    have ref : ∀ (τ : l2_m) (Q : Int → l2_m → Prop), (∀ b j, 186 ≤ b → τ b j = σ b j) → (∀ υ, υ = l2_u τ 186 0 0 → frS σ υ → wC B 229 [vr 186, vi set] υ (fun y s => (rg y ∧ (if 0 < y then (∀ t : l2_m, t = trr s y → Q (-1) t) else (wC B 237 [vr 186, vi set, vi 0] s (fun y' s' => w238_44 B s' set 0 y' Q)))))) → wC B 238 [vr 186, vi set] τ Q := by
      intro τ Q kt hQ
      refine o238 ?_
      unfold w238
      intro υ eu
      have hυ : ∀ b j, 186 ≤ b → ¬ (b = 186 ∧ j = 0) → υ b j = σ b j := fun b j z w => (u0_at eu w).trans (kt b j z)
      rw [hυ 186 14 (by decide) (by decide), ht]
      refine ⟨by decide, ?_⟩
      rw [if_neg (by decide)]
      exact hQ υ eu (fun b j z1 z2 z3 z4 => hυ b j z1 (by omega))
    have hS : ∀ τ υ : l2_m, (∀ b j, 186 ≤ b → τ b j = σ b j) → υ = l2_u τ 186 0 0 → ∀ b j, 186 ≤ b → ¬ (b = 186 ∧ j = 0) → υ b j = σ b j := fun τ υ kt eu b j z w => (u0_at eu w).trans (kt b j z)
    refine c153 (G := regR σ) (B5.trans ht) hs D8 (fun w => ⟨by decide, ?_⟩) (fun w v => ⟨by decide, ?_⟩) (fun w v => ⟨by decide, ?_⟩)
    · rw [if_neg (by decide)]
      intro τ et
      have kt : ∀ b j, 186 ≤ b → τ b j = σ b j := fun b j z => by rw [et]; exact kt0 σ 2 fr0 b j z
      refine ref τ _ kt (fun υ eu hυ => r229s hR ht (hS τ υ kt eu) hs (fun _ => ⟨by decide, ?_⟩) (fun z => absurd z w) (fun z => absurd z w))
      rw [if_pos (by decide)]
      intro ω ew
      exact ⟨rfl, pair_e hC hR (by decide) et eu ew⟩
    · rw [if_neg (by decide)]
      intro τ et
      have kt : ∀ b j, 186 ≤ b → τ b j = σ b j := fun b j z => by rw [et]; exact kt0 σ 5 fr0 b j z
      refine ref τ _ kt (fun υ eu hυ => r229s hR ht (hS τ υ kt eu) hs (fun z => absurd w z) (fun _ _ => ⟨by decide, ?_⟩) (fun _ z => ?_))
      · rw [if_pos (by decide)]
        intro ω ew
        exact ⟨rfl, pair_e hC hR (by decide) et eu ew⟩
      · obtain ⟨d, d0, d1, d2, d3⟩ := v
        exact absurd d3 (z d d0 d1 d2)
    · rw [if_pos rfl]
      have hl := setL_ok hC ht v
      have go : ∀ (τ0 τ : l2_m) (x m : Int), rg m → frE σ τ0 → dvO τ0 → τ = trb τ0 m → ((m = 3 ∧ x = -1 ∧ ∃ i : Int, 0 ≤ i ∧ i < 64 ∧ noi σ set i) ∨ (m = 0 ∧ x = sumN (nzc σ set) 64 ∧ ∀ i : Int, 0 ≤ i → i < 64 → ¬ noi σ set i)) → wC B 238 [vr 186, vi set] τ (fun y υ => x = y ∧ CI F υ υ ∧ RWF υ) := by
        intro τ0 τ x m hm f0 d0 et hx
        have kt : ∀ b j, 186 ≤ b → τ b j = σ b j := fun b j z => by rw [et]; exact kt0 τ0 m f0 b j z
        refine ref τ _ kt (fun υ eu hυ => r229s hR ht (hS τ υ kt eu) hs (fun z => absurd w z) (fun _ z => ?_) (fun _ _ => ⟨by decide, ?_⟩))
        · obtain ⟨d, d0, d1, d2, d3⟩ := z
          exact absurd d3 (v d d0 d1 d2)
        · rw [if_neg (by decide)]
          have fin : ∀ t ω : l2_m, frW υ t → ω = trr t m → CI F ω ω ∧ RWF ω := fun t ω ft ew => pair_g hC hR hm (kp τ0 f0) d0 et eu (kr υ t ft) ew
          have loop : ∀ (s : l2_m) (c a : Int), frW υ s → ((a = -3 ∧ ∃ i : Int, 0 ≤ i ∧ i < 64 ∧ noi σ set i) ∨ (a = -1 ∧ c = sumN (nzc σ set) 64 ∧ ∀ i : Int, 0 ≤ i → i < 64 → ¬ noi σ set i) ∨ (0 ≤ a ∧ a < 64 ∧ nzi σ set a ∧ ¬ noi σ set a ∧ c = sumN (nzc σ set) a.toNat ∧ ∀ i : Int, 0 ≤ i → i < a → ¬ noi σ set i)) → w238_44 B s set c a (fun y υ => x = y ∧ CI F υ υ ∧ RWF υ) := by
            intro s c a hf hI
            unfold w238_44
            refine lz3_inv (fun (c a : Int) s => frW υ s ∧ ((a = -3 ∧ ∃ i : Int, 0 ≤ i ∧ i < 64 ∧ noi σ set i) ∨ (a = -1 ∧ c = sumN (nzc σ set) 64 ∧ ∀ i : Int, 0 ≤ i → i < 64 → ¬ noi σ set i) ∨ (0 ≤ a ∧ a < 64 ∧ nzi σ set a ∧ ¬ noi σ set a ∧ c = sumN (nzc σ set) a.toNat ∧ ∀ i : Int, 0 ≤ i → i < a → ¬ noi σ set i))) (fun _ a _ => if a < 0 then 0 else 65 - a) ?_ ⟨hf, hI⟩
            intro X c a s hX ⟨hf, hI⟩
            have a64 : -3 ≤ a ∧ a < 64 := by
              rcases hI with z | z | z
              · exact ⟨by omega, by omega⟩
              · exact ⟨by omega, by omega⟩
              · exact ⟨by omega, z.2.1⟩
            refine ⟨⟨by omega, by omega⟩, ?_⟩
            by_cases ha : a < 0
            · rw [if_pos ha]
              rcases hI with ⟨e3, hi⟩ | ⟨e1, hc, hi⟩ | z
              · rw [if_pos e3]
                intro ω ew
                rcases hx with ⟨hm3, hx1, -⟩ | ⟨-, -, hx3⟩
                · subst hm3
                  exact ⟨hx1, fin s ω hf ew⟩
                · obtain ⟨i, i0, i1, i2⟩ := hi
                  exact absurd i2 (hx3 i i0 i1)
              · rw [if_neg (by omega)]
                intro ω ew
                rcases hx with ⟨-, -, i, i0, i1, i2⟩ | ⟨hm0, hx2, -⟩
                · exact absurd i2 (hi i i0 i1)
                · subst hm0
                  exact ⟨by rw [hx2, hc], fin s ω hf ew⟩
              · exact absurd z.1 (by omega)
            · rw [if_neg ha]
              rcases hI with z | z | ⟨a0, a1, hz, hno, hc, hi⟩
              · exact absurd z.1 (by omega)
              · exact absurd z.1 (by omega)
              · have hc1 : c + 1 = sumN (nzc σ set) (a + 1).toNat := by rw [sumN_step a0, hc, nzc_1 hz]
                have hi1 : ∀ i : Int, 0 ≤ i → i < a + 1 → ¬ noi σ set i := fun i i0 i1 => by
                  by_cases hia : i = a
                  · rw [hia]; exact hno
                  · exact hi i i0 (by omega)
                refine r237 hR ht (frW_S hυ hf) hs hl (by omega) (by omega) (fun τ k n t t1 k0 k1 kv t2 t3 t4 _ _ => ?_) (fun τ t1 t4 => ?_) (fun τ k t1 k0 k1 t2 t4 => ?_)
                · refine hX _ _ _ ⟨frW_t hf t1, Or.inr (Or.inr ⟨by omega, k1, ⟨kv, n, t, t2, t3⟩, pok_no t2, ?_, fun i i0 i1 => ?_⟩)⟩ ?_
                  · rw [hc1]
                    exact (sumN_skipI (by omega) k0 (fun j j0 j1 => nzc_0 (t4 j j0 j1).2)).symm
                  · by_cases hia : i < a + 1
                    · exact hi1 i i0 hia
                    · exact (t4 i (by omega) i1).1
                  · rw [if_neg (by omega), if_neg ha]; omega
                · refine hX _ _ _ ⟨frW_t hf t1, Or.inr (Or.inl ⟨rfl, ?_, fun i i0 i1 => ?_⟩)⟩ ?_
                  · rw [hc1]
                    exact (sumN_skipI (n := 64) (by omega) (by omega) (fun j j0 j1 => nzc_0 (t4 j j0 j1).2)).symm
                  · by_cases hia : i < a + 1
                    · exact hi1 i i0 hia
                    · exact (t4 i (by omega) i1).1
                  · rw [if_pos (by decide), if_neg ha]; omega
                · refine hX _ _ _ ⟨frW_t hf t1, Or.inl ⟨rfl, k, by omega, k1, t2⟩⟩ ?_
                  rw [if_pos (by decide), if_neg ha]; omega
          refine r237 hR ht hυ hs hl (by decide) (by decide) (fun τ k n t t1 k0 k1 kv t2 t3 t4 _ _ => ?_) (fun τ t1 t4 => ?_) (fun τ k t1 k0 k1 t2 t4 => ?_)
          · refine loop _ _ _ t1 (Or.inr (Or.inr ⟨k0, k1, ⟨kv, n, t, t2, t3⟩, pok_no t2, ?_, fun i i0 i1 => (t4 i i0 i1).1⟩))
            exact (sumN_zero (fun j j0 j1 => nzc_0 (t4 j j0 (by omega)).2)).symm
          · refine loop _ _ _ t1 (Or.inr (Or.inl ⟨rfl, ?_, fun i i0 i1 => (t4 i i0 i1).1⟩))
            exact (sumN_zero (fun j j0 j1 => nzc_0 (t4 j j0 (by omega)).2)).symm
          · exact loop _ _ _ t1 (Or.inl ⟨rfl, k, k0, k1, t2⟩)
      exact c124l hC hR ht fr0 hC.2.2.2.2.1 hs hl (fun τ f1 d1 hi υ eu => go τ υ _ 3 (by decide) f1 d1 eu (Or.inl ⟨rfl, rfl, hi⟩)) (fun τ f1 d1 hi υ eu => go τ υ _ 0 (by decide) f1 d1 eu (Or.inr ⟨rfl, rfl, hi⟩))
  · have ht0 : σ 186 14 = 0 := h01.resolve_right ht
    refine c153n (B5.trans ht0) ⟨by decide, ?_⟩
    rw [if_neg (by decide)]
    intro τ et
    refine o238 ?_
    unfold w238
    intro υ eu
    rw [via et eu (by decide) (by decide), ht0]
    refine ⟨by decide, ?_⟩
    rw [if_pos rfl]
    intro ω ew
    exact ⟨rfl, pair_e hC hR (by decide) et eu ew⟩
