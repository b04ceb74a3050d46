/-! ===== times ===== -/
/-- a term of g can't be multiplied with f -/
def ovm (f g : Int → Int) (l : Int) : Prop := g l ≠ 0 ∧ ∃ k : Int, 0 ≤ k ∧ k < 4096 ∧ f k ≠ 0 ∧ ¬ noO k l
def GM (p : Int) (f g : Int → Int) (n : Int) (s : l2_m) : Prop := (∀ j : Int, 0 ≤ j → j < 4096 → s 192 j = sumN (fun l => g l * shf l f j) n.toNat % p) ∧ ((∀ l : Int, 0 ≤ l → l < n → ¬ ovm f g l) → s 186 29 = 1) ∧ (∀ l : Int, 0 ≤ l → l < n → ovm f g l → s 186 29 = 0) ∧ (s 186 29 = 0 ∨ s 186 29 = 1)
theorem GM_skip {p : Int} {f g : Int → Int} {i : Int} {s : l2_m} (i0 : 0 ≤ i) (hg : g i = 0) (h : GM p f g i s) : GM p f g (i + 1) s := by
  obtain ⟨h1, h2, h3, h4⟩ := h
  refine ⟨fun j j0 j1 => ?_, fun z => h2 (fun l l0 l1 => z l l0 (by omega)), fun l l0 l1 z => ?_, h4⟩
  · rw [sumN_step i0, hg, Int.zero_mul, Int.add_zero]; exact h1 j j0 j1
  · by_cases hl : l = i
    · rw [hl] at z; exact absurd hg z.1
    · exact h3 l l0 (by omega) z
theorem r244l {B : va_E} {υ2 : l2_m} {Q : Int → l2_m → Prop} {p r t k : Int} {f g : Int → Int} (hp : υ2 186 5 = p) (p2 : 2 ≤ p) (p97 : p ≤ 97) (r0 : 0 ≤ r) (r1 : r < 8) (t0 : 0 ≤ t) (tt1 : t < 8) (hr : rngR υ2 p) (ef : regR υ2 r = f) (eg : regR υ2 t = g) (hz : ∀ j : Int, 0 ≤ j → j < 4096 → υ2 192 j = 0) (h29 : υ2 186 29 = 1) (h : ∀ s : l2_m, (∀ b j, b ≠ 192 → ¬ (b = 186 ∧ j = 29) → s b j = υ2 b j) → GM p f g 4096 s → wC B 240 [vr 186, vi k] s Q) : w244_28 B υ2 r t k 0 Q := by
  unfold w244_28
  refine lz2_inv (fun (i : Int) s => 0 ≤ i ∧ i ≤ 4096 ∧ (∀ b j, b ≠ 192 → ¬ (b = 186 ∧ j = 29) → s b j = υ2 b j) ∧ GM p f g i s) (fun i _ => 4096 - i) ?_ ⟨by decide, by decide, fun _ _ _ _ => rfl, fun j j0 j1 => by rw [hz j j0 j1]; exact (Int.zero_emod p).symm, fun _ => h29, fun l l0 l1 => by omega, Or.inr h29⟩
  intro X i s hX ⟨i0, i1, s1, s2⟩
  refine ⟨⟨by omega, by omega⟩, ?_⟩
  by_cases hi : i < 4096
  · rw [if_pos hi]
    have gi : s 187 (4096 * t + i) = g i := by rw [s1 187 _ (by decide) (by omega), ← eg]; rfl
    have gr := hr t i t0 tt1 i0 hi
    have gr' : 0 ≤ g i ∧ g i < p := by rw [← eg]; exact gr
    rw [gi]
    refine ⟨⟨t0, tt1, i0, hi, ⟨by omega, by omega⟩⟩, ?_⟩
    by_cases hg : g i = 0
    · rw [if_pos hg]
      exact hX (i + 1) s ⟨by omega, by omega, s1, GM_skip i0 hg s2⟩ (by omega)
    · rw [if_neg hg]
      have e187 : ∀ q j : Int, s 187 (4096 * q + j) = υ2 187 (4096 * q + j) := fun q j => s1 187 _ (by decide) (by omega)
      have er : regR s r = f := by rw [← ef]; exact funext (fun j => e187 r j)
      obtain ⟨m1, m2, m3, m4⟩ := s2
      refine r224 (p := p) (by rw [s1 186 5 (by decide) (by omega)]; exact hp) p2 p97 r0 r1 (fun q j q0 q1 j0 j1 => by rw [e187]; exact hr q j q0 q1 j0 j1) gr'.1 (by omega) i0 hi (fun j j0 j1 => by rw [m1 j j0 j1]; exact ⟨Int.emod_nonneg _ (by omega), Int.emod_lt_of_pos _ (by omega)⟩) ?_
      intro s' v1 v2 v3 v4
      rw [er] at v2 v3 v4
      refine hX (i + 1) s' ⟨by omega, by omega, fun b j z w => (v1 b j z w).trans (s1 b j z w), fun j j0 j1 => ?_, fun z => ?_, fun l l0 l1 z => ?_, ?_⟩ (by omega)
      · rw [v2 j j0 j1, m1 j j0 j1, sumN_step i0, Int.emod_add_emod]
      · rw [v3 (Or.inr (fun k k0 k1 k2 => Classical.byContradiction (fun w => z i i0 (by omega) ⟨hg, k, k0, k1, k2, w⟩)))]
        exact m2 (fun l l0 l1 => z l l0 (by omega))
      · by_cases hl : l = i
        · rw [hl] at z
          exact v4 z
        · by_cases ho : ovm f g i
          · exact v4 ho
          · rw [v3 (Or.inr (fun k k0 k1 k2 => Classical.byContradiction (fun w => ho ⟨hg, k, k0, k1, k2, w⟩)))]
            exact m3 l l0 (by omega) z
      · by_cases ho : ovm f g i
        · exact Or.inl (v4 ho)
        · rw [v3 (Or.inr (fun k k0 k1 k2 => Classical.byContradiction (fun w => ho ⟨hg, k, k0, k1, k2, w⟩)))]
          exact m4
  · rw [if_neg hi]
    have h8 : i = 4096 := by omega
    rw [h8] at s2
    exact h s s1 s2
theorem pair_times {F : l2_m → Prop} {B : va_E} {r s k : Int} (hr : rg r) (hs : rg s) (hk : rg k) : PAIR F B 127 244 [vi r, vi s, vi k] := by
  intro σ hC hR
  have B5 := hC.1.2.2.2.2.1
  have h01 := hR.1
  have bad : ¬ (σ 186 14 = 1 ∧ (0 ≤ r ∧ r < 8) ∧ (0 ≤ s ∧ s < 8) ∧ (0 ≤ k ∧ k < 8)) → ∀ τ, τ = trb σ 1 → wC B 244 [vr 186, vi r, vi s, vi k] τ (fun y υ => -1 = y ∧ CI F υ υ ∧ RWF υ) := by
    intro hb τ et
    refine o244 ?_
    unfold w244
    intro υ eu
    rw [via et eu (b := 186) (j := 14) (by decide) (by decide)]
    refine ⟨⟨hr, hs, hk, h01⟩, ?_⟩
    rw [if_neg hb]
    intro ω ew
    exact ⟨rfl, pair_e hC hR (by decide) et eu ew⟩
  refine o127 ?_
  unfold w127
  rw [B5]
  refine ⟨⟨hr, h01⟩, ?_⟩
  by_cases h1 : σ 186 14 = 1 ∧ 0 ≤ r ∧ r < 8
  · rw [if_pos h1]
    refine ⟨hs, ?_⟩
    by_cases h2 : σ 186 14 = 1 ∧ 0 ≤ s ∧ s < 8
    · rw [if_pos h2]
      refine ⟨hk, ?_⟩
      by_cases h3 : σ 186 14 = 1 ∧ 0 ≤ k ∧ k < 8
      · rw [if_pos h3]
        refine ⟨⟨h1.2.1, h1.2.2, h2.2.1, h2.2.2⟩, ?_⟩
        obtain ⟨b1, b2, b3, b4, b5, b6⟩ := hR.2.2.2.2.2.2.2.2.2 h1.1
        obtain ⟨D1, D2, D3, D4, D5, D6, D7, D8⟩ := hC.2.1 h1.1
        obtain ⟨p2, p97, -⟩ := pr_rest _ b1
        have hA : RefAct B σ 244 [vr 186, vi r, vi s, vi k] k (GM (σ 186 5) (regR σ r) (regR σ s) 4096) := by
          intro τ Q kt hQ
          refine o244 ?_
          unfold w244
          intro υ eu
          have a : ∀ j : Int, j ≠ 0 → υ 186 j = σ 186 j := fun j hj => by rw [eu, l2_u_nj hj]; exact kt 186 j (by decide)
          rw [a 14 (by decide)]
          refine ⟨⟨hr, hs, hk, h01⟩, ?_⟩
          rw [if_pos ⟨h1.1, h1.2, h2.2, h3.2⟩]
          intro υ2 eu2
          obtain ⟨u1, u2, u3⟩ := clr_at eu eu2
          have e187 : ∀ q j : Int, υ2 187 (4096 * q + j) = σ 187 (4096 * q + j) := fun q j => by rw [u1 187 _ (by decide) (by omega)]; exact kt 187 _ (by decide)
          refine r244l (p := σ 186 5) (f := regR σ r) (g := regR σ s) (by rw [u1 186 5 (by decide) (by omega)]; exact kt 186 5 (by decide)) p2 p97 h1.2.1 h1.2.2 h2.2.1 h2.2.2 (fun q j q0 q1 j0 j1 => by rw [e187]; exact b3 q j q0 q1 j0 j1) (funext (fun j => e187 r j)) (funext (fun j => e187 s j)) u2 u3 ?_
          intro t t1 t2
          exact hQ t (fun b j z w => by rw [t1 b j z (by omega)]; exact u1 b j z w) t2
        have hm : ∀ j : Int, 0 ≤ j → j < 4096 → 0 ≤ mulF (σ 186 5) (regR σ r) (regR σ s) j ∧ mulF (σ 186 5) (regR σ r) (regR σ s) j < σ 186 5 := fun j _ _ => ⟨Int.emod_nonneg _ (by omega), Int.emod_lt_of_pos _ (by omega)⟩
        have hg : ∀ t : l2_m, GM (σ 186 5) (regR σ r) (regR σ s) 4096 t → ∀ j : Int, 0 ≤ j → j < 4096 → t 192 j = mulF (σ 186 5) (regR σ r) (regR σ s) j := fun t g j j0 j1 => g.1 j j0 j1
        refine c3 (p := σ 186 5) (isP_reg h1.2.1 h1.2.2) (isP_reg h2.2.1 h2.2.2) (show isPb 159 = true from rfl) (by omega) (by omega) (by omega) (by omega) (by decide) (wt_ok _ _ _) D1 p2 p97 D7 (D8 r h1.2.1 h1.2.2) (D8 s h2.2.1 h2.2.2) (fun j j0 j1 => b3 r j h1.2.1 h1.2.2 j0 j1) (fun j j0 j1 => b3 s j h2.2.1 h2.2.2 j0 j1) (fun σ1 t1 t2 t3 => ?_) (fun σ1 t1 t2 => ?_)
        · refine o163 ?_
          unfold w163
          refine ⟨by decide, ?_⟩
          rw [if_neg (by decide)]
          refine act_yes hC hR h1.1 h3.2 t1 t3 hm hA (fun t g => ⟨g.2.1 (fun l l0 l1 w => ?_), hg t g⟩)
          obtain ⟨w1, q, q0, q1, q2, q3⟩ := w
          exact q3 (t2 q l q0 q1 l0 l1 q2 w1)
        · refine o163 ?_
          unfold w163
          refine ⟨by decide, ?_⟩
          rw [if_pos rfl]
          refine act_no hC hR h1.1 h3.2 t1 hA (fun t g => ⟨g.2.2.2, fun j j0 j1 => by rw [hg t g j j0 j1]; exact ⟨(hm j j0 j1).1, Int.lt_of_lt_of_le (hm j j0 j1).2 p97⟩, ?_⟩)
          rcases t2 with ⟨q, l, q0, q1, l0, l1, z1, z2, z3⟩ | t2
          · exact Or.inl (g.2.2.1 l l0 l1 ⟨z2, q, q0, q1, z1, z3⟩)
          · exact Or.inr (by rw [cnt_congr (hg t g)]; exact t2)
      · rw [if_neg h3]
        exact bad (fun w => h3 ⟨w.1, w.2.2.2⟩)
    · rw [if_neg h2]
      exact bad (fun w => h2 ⟨w.1, w.2.2.1⟩)
  · rw [if_neg h1]
    exact bad (fun w => h1 ⟨w.1, w.2.1⟩)
