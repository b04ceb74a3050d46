section RF5
variable {B : va_E} {σ : l2_m} {K : Int → l2_m → Prop}
theorem r195 {h f s : Int} (e6 : σ 186 6 = h) (e7 : σ 186 7 = f) (e8 : σ 186 8 = s) (hO : isOr h f s) (hK : ∀ τ : l2_m, (∀ b j, b ≠ 190 → ¬ (b = 186 ∧ j = 25) → τ b j = σ b j) → alongOK τ (wt h f s) → K 0 τ) : wC B 195 [vr 186] σ K := by
  obtain ⟨⟨h0, h1⟩, ⟨f0, f1⟩, ⟨s0, s1⟩, hne⟩ := hO
  obtain ⟨W, hWd⟩ : ∃ W, W = wt h f s := ⟨_, rfl⟩
  rw [← hWd] at hK
  have rk' : ∀ k, rk W k = if h = 0 then 256 * e4 k f + 16 * e4 k s + e4 k (3 - f - s) else if h = 1 then 272 * e4 k f + 257 * e4 k s + 256 * e4 k (3 - f - s) else 256 * e4 k f + 255 * e4 k s + 240 * e4 k (3 - f - s) := fun k => by rw [hWd]; exact rk_or f0 f1 s0 s1 hne k
  have eb : ∀ k, (0 ≤ e4 k f ∧ e4 k f < 16) ∧ (0 ≤ e4 k s ∧ e4 k s < 16) ∧ (0 ≤ e4 k (3 - f - s) ∧ e4 k (3 - f - s) < 16) := fun k => ⟨e4_b k f, e4_b k s, e4_b k _⟩
  have fin : ∀ τ : l2_m, LO σ τ W (fun _ => True) → K 0 τ := by
    rintro τ ⟨a1, a2, a3, a4, a5, a6⟩
    have e : τ 186 25 = 4096 := by
      have h1 := cnt_surj (N := 4096) (fun i => τ 190 i) (τ 186 25).toNat (fun _ => 1) (fun k k0 k1 _ => by
        obtain ⟨i, i0, i1, i2⟩ := a6 k k0 k1 trivial
        exact ⟨i, i0, by omega, i2⟩)
      have h2 := cnt_inj (N := 4096) (fun i => i) 4096 (fun _ => 1) (fun i x y => ⟨x, y, by decide⟩) (fun i j x y z => by omega)
      omega
    rw [e] at a4 a5 a6
    exact hK τ a1 ⟨fun i x y => ⟨(a4 i x y).1, (a4 i x y).2.1⟩, a5, fun k x y => a6 k x y trivial⟩
  refine o195 ?_
  unfold w195
  intro σ1 g1
  have b1 : ∀ b j, σ1 b j = if b = 186 ∧ j = 25 then 0 else σ b j := fun b j => by rw [g1]; rfl
  have L0 : LO σ σ1 W (fun _ => False) := ⟨fun b j z w => by rw [b1, if_neg w], by rw [b1, if_pos ⟨rfl, rfl⟩]; exact Int.le_refl _, by rw [b1, if_pos ⟨rfl, rfl⟩]; decide, fun i x y => by rw [b1, if_pos ⟨rfl, rfl⟩] at y; omega, fun i j x y z => by rw [b1, if_pos ⟨rfl, rfl⟩] at z; omega, fun k _ _ z => z.elim⟩
  have o6 : σ1 186 6 = h := by rw [b1, if_neg (by decide)]; exact e6
  rw [o6]
  refine ⟨⟨by omega, by omega⟩, ?_⟩
  split
  · rename_i hlex
    have rl : ∀ k, rk W k = 256 * e4 k f + 16 * e4 k s + e4 k (3 - f - s) := fun k => by rw [rk' k, if_pos hlex]
    unfold w195_15
    refine lz2_inv (fun (a : Int) τ => -1 ≤ a ∧ a ≤ 15 ∧ LO σ τ W (fun k => a < e4 k f)) (fun a _ => a + 1) ?_ ⟨by omega, by omega, LO_cg L0 (fun k _ _ => ⟨fun z => z.elim, fun z => by have := (eb k).1; omega⟩)⟩
    rintro X a τ hX ⟨i1, i2, i3⟩
    refine ⟨⟨by omega, by omega⟩, ?_⟩
    split
    · exact fin τ (LO_cg i3 (fun k _ _ => ⟨fun _ => trivial, fun _ => by have := (eb k).1; omega⟩))
    · rename_i ha
      unfold w195_22
      refine lz2_inv (fun (b : Int) τ => -1 ≤ b ∧ b ≤ 15 ∧ LO σ τ W (fun k => a < e4 k f ∨ (e4 k f = a ∧ b < e4 k s))) (fun b _ => b + 1) ?_ ⟨by omega, by omega, LO_cg i3 (fun k _ _ => ⟨fun z => Or.inl z, fun z => by have := (eb k).2.1; omega⟩)⟩
      rintro Y b υ hY ⟨j1, j2, j3⟩
      refine ⟨⟨by omega, by omega⟩, ?_⟩
      split
      · exact hX _ _ ⟨by omega, by omega, LO_cg j3 (fun k _ _ => by have := (eb k).2.1; omega)⟩ (by omega)
      · rename_i hb
        unfold w195_29
        refine lz2_inv (fun (c : Int) τ => -1 ≤ c ∧ c ≤ 15 ∧ LO σ τ W (fun k => a < e4 k f ∨ (e4 k f = a ∧ (b < e4 k s ∨ (e4 k s = b ∧ c < e4 k (3 - f - s)))))) (fun c _ => c + 1) ?_ ⟨by omega, by omega, LO_cg j3 (fun k _ _ => by have := (eb k).2.2; omega)⟩
        rintro Z c ρ hZ ⟨k1, k2, k3⟩
        refine ⟨⟨by omega, by omega⟩, ?_⟩
        split
        · exact hY _ _ ⟨by omega, by omega, LO_cg k3 (fun k _ _ => by have := (eb k).2.2; omega)⟩ (by omega)
        · rename_i hc
          obtain ⟨q0, q1, q2, q3, q5⟩ := kk_e (a := a) (b := b) (c := c) f0 f1 s0 s1 hne (by omega) (by omega) (by omega) (by omega) (by omega) (by omega)
          refine r194 k3 e7 e8 f0 f1 s0 s1 hne (by omega) (by omega) (by omega) (by omega) (by omega) (by omega) (by rw [q2, q3, q5]; omega) (fun l l0 l1 l2 => MW_lt ?_) (fun τ' t1 => hZ _ _ ⟨by omega, by omega, LO_cg t1 (fun k x0 x1 => ?_)⟩ (by omega))
          · rw [rl, rl, q2, q3, q5]
            have := eb l
            omega
          · constructor
            · rintro (z | rfl)
              · omega
              · rw [q2, q3, q5]; omega
            · intro z
              by_cases hk : a < e4 k f ∨ (e4 k f = a ∧ (b < e4 k s ∨ (e4 k s = b ∧ c < e4 k (3 - f - s))))
              · exact Or.inl hk
              · refine Or.inr ?_
                rw [← kk_of f0 f1 s0 s1 hne x0 x1, show e4 k f = a by omega, show e4 k s = b by omega, show e4 k (3 - f - s) = c by omega]
  · rename_i hnl
    have dg : ∀ k, e4 k 0 + e4 k 1 + e4 k 2 = e4 k f + e4 k s + e4 k (3 - f - s) := fun k => (deg_or f0 f1 s0 s1 hne k).symm
    unfold w195_62
    refine lz2_inv (fun (d : Int) τ => -1 ≤ d ∧ d ≤ 45 ∧ LO σ τ W (fun k => d < e4 k f + e4 k s + e4 k (3 - f - s))) (fun d _ => d + 1) ?_ ⟨by omega, by omega, LO_cg L0 (fun k _ _ => ⟨fun z => z.elim, fun z => by have := eb k; omega⟩)⟩
    rintro X d τ hX ⟨i1, i2, i3⟩
    refine ⟨⟨by omega, by omega⟩, ?_⟩
    split
    · exact fin τ (LO_cg i3 (fun k _ _ => ⟨fun _ => trivial, fun _ => by have := eb k; omega⟩))
    · rename_i hd
      have t6 : τ 186 6 = h := by rw [i3.1 186 6 (by decide) (by omega)]; exact e6
      rw [t6]
      refine ⟨⟨by omega, by omega⟩, ?_⟩
      split
      · rename_i hdeg
        have rl : ∀ k, rk W k = 272 * e4 k f + 257 * e4 k s + 256 * e4 k (3 - f - s) := fun k => by rw [rk' k, if_neg hnl, if_pos hdeg]
        unfold w195_77
        refine lz2_inv (fun (a : Int) τ => -1 ≤ a ∧ a ≤ 15 ∧ LO σ τ W (fun k => d < e4 k f + e4 k s + e4 k (3 - f - s) ∨ (e4 k f + e4 k s + e4 k (3 - f - s) = d ∧ a < e4 k f))) (fun a _ => a + 1) ?_ ⟨by omega, by omega, LO_cg i3 (fun k _ _ => by have := eb k; omega)⟩
        rintro Y a υ hY ⟨j1, j2, j3⟩
        refine ⟨⟨by omega, by omega⟩, ?_⟩
        split
        · exact hX _ _ ⟨by omega, by omega, LO_cg j3 (fun k _ _ => by have := eb k; omega)⟩ (by omega)
        · rename_i ha
          unfold w195_84
          refine lz2_inv (fun (b : Int) τ => -1 ≤ b ∧ b ≤ 15 ∧ LO σ τ W (fun k => d < e4 k f + e4 k s + e4 k (3 - f - s) ∨ (e4 k f + e4 k s + e4 k (3 - f - s) = d ∧ (a < e4 k f ∨ (e4 k f = a ∧ b < e4 k s))))) (fun b _ => b + 1) ?_ ⟨by omega, by omega, LO_cg j3 (fun k _ _ => by have := eb k; omega)⟩
          rintro Z b ρ hZ ⟨k1, k2, k3⟩
          refine ⟨⟨by omega, by omega⟩, ?_⟩
          split
          · exact hY _ _ ⟨by omega, by omega, LO_cg k3 (fun k _ _ => by have := eb k; omega)⟩ (by omega)
          · rename_i hb
            refine ⟨⟨by omega, by omega⟩, ?_⟩
            split
            · rename_i hin
              obtain ⟨q0, q1, q2, q3, q5⟩ := kk_e (a := a) (b := b) (c := d - a - b) f0 f1 s0 s1 hne (by omega) (by omega) (by omega) (by omega) (by omega) (by omega)
              refine r194 k3 e7 e8 f0 f1 s0 s1 hne (by omega) (by omega) (by omega) (by omega) (by omega) (by omega) (by rw [q2, q3, q5]; omega) (fun l l0 l1 l2 => MW_lt ?_) (fun τ' t1 => hZ _ _ ⟨by omega, by omega, LO_cg t1 (fun k x0 x1 => ?_)⟩ (by omega))
              · rw [rl, rl, q2, q3, q5]
                have := eb l
                omega
              · constructor
                · rintro (z | rfl)
                  · omega
                  · rw [q2, q3, q5]; omega
                · intro z
                  by_cases hk : d < e4 k f + e4 k s + e4 k (3 - f - s) ∨ (e4 k f + e4 k s + e4 k (3 - f - s) = d ∧ (a < e4 k f ∨ (e4 k f = a ∧ b < e4 k s)))
                  · exact Or.inl hk
                  · refine Or.inr ?_
                    rw [← kk_of f0 f1 s0 s1 hne x0 x1, show e4 k f = a by omega, show e4 k s = b by omega, show e4 k (3 - f - s) = d - a - b by omega]
            · rename_i hin
              exact hZ _ _ ⟨by omega, by omega, LO_cg k3 (fun k _ _ => by have := eb k; omega)⟩ (by omega)
      · rename_i hrev
        have rl : ∀ k, rk W k = 256 * e4 k f + 255 * e4 k s + 240 * e4 k (3 - f - s) := fun k => by rw [rk' k, if_neg hnl, if_neg hrev]
        unfold w195_130
        refine lz2_inv (fun (c : Int) τ => 0 ≤ c ∧ c ≤ 16 ∧ LO σ τ W (fun k => d < e4 k f + e4 k s + e4 k (3 - f - s) ∨ (e4 k f + e4 k s + e4 k (3 - f - s) = d ∧ e4 k (3 - f - s) < c))) (fun c _ => 16 - c) ?_ ⟨by omega, by omega, LO_cg i3 (fun k _ _ => by have := eb k; omega)⟩
        rintro Y c υ hY ⟨j1, j2, j3⟩
        refine ⟨⟨by omega, by omega⟩, ?_⟩
        split
        · exact hX _ _ ⟨by omega, by omega, LO_cg j3 (fun k _ _ => by have := eb k; omega)⟩ (by omega)
        · rename_i hc
          unfold w195_138
          refine lz2_inv (fun (b : Int) τ => 0 ≤ b ∧ b ≤ 16 ∧ LO σ τ W (fun k => d < e4 k f + e4 k s + e4 k (3 - f - s) ∨ (e4 k f + e4 k s + e4 k (3 - f - s) = d ∧ (e4 k (3 - f - s) < c ∨ (e4 k (3 - f - s) = c ∧ e4 k s < b))))) (fun b _ => 16 - b) ?_ ⟨by omega, by omega, LO_cg j3 (fun k _ _ => by have := eb k; omega)⟩
          rintro Z b ρ hZ ⟨k1, k2, k3⟩
          refine ⟨⟨by omega, by omega⟩, ?_⟩
          split
          · exact hY _ _ ⟨by omega, by omega, LO_cg k3 (fun k _ _ => by have := eb k; omega)⟩ (by omega)
          · rename_i hb
            refine ⟨⟨by omega, by omega⟩, ?_⟩
            split
            · rename_i hin
              obtain ⟨q0, q1, q2, q3, q5⟩ := kk_e (a := d - b - c) (b := b) (c := c) f0 f1 s0 s1 hne (by omega) (by omega) (by omega) (by omega) (by omega) (by omega)
              refine r194 k3 e7 e8 f0 f1 s0 s1 hne (by omega) (by omega) (by omega) (by omega) (by omega) (by omega) (by rw [q2, q3, q5]; omega) (fun l l0 l1 l2 => MW_lt ?_) (fun τ' t1 => hZ _ _ ⟨by omega, by omega, LO_cg t1 (fun k x0 x1 => ?_)⟩ (by omega))
              · rw [rl, rl, q2, q3, q5]
                have := eb l
                omega
              · constructor
                · rintro (z | rfl)
                  · omega
                  · rw [q2, q3, q5]; omega
                · intro z
                  by_cases hk : d < e4 k f + e4 k s + e4 k (3 - f - s) ∨ (e4 k f + e4 k s + e4 k (3 - f - s) = d ∧ (e4 k (3 - f - s) < c ∨ (e4 k (3 - f - s) = c ∧ e4 k s < b)))
                  · exact Or.inl hk
                  · refine Or.inr ?_
                    rw [← kk_of f0 f1 s0 s1 hne x0 x1, show e4 k f = d - b - c by omega, show e4 k s = b by omega, show e4 k (3 - f - s) = c by omega]
            · rename_i hin
              exact hZ _ _ ⟨by omega, by omega, LO_cg k3 (fun k _ _ => by have := eb k; omega)⟩ (by omega)
/-- the acts are remembered: one more, the oldest forgotten where there are 8 -/
def pshP (σ τ : l2_m) (r : Int) : Prop := ∃ a sh : Int, (sh = 0 ∨ sh = 1) ∧ (sh = 1 ↔ σ 186 45 = 8) ∧ a = σ 186 45 - sh ∧ τ 186 45 = a + 1 ∧ (∀ i k : Int, 0 ≤ i → i < a → 0 ≤ k → k < 4096 → τ 199 (4096 * i + k) = σ 199 (4096 * (i + sh) + k)) ∧ (∀ i : Int, 0 ≤ i → i < a → τ 200 i = σ 200 (i + sh) ∧ τ 201 i = σ 201 (i + sh) ∧ τ 202 i = σ 202 (i + sh) ∧ τ 203 i = σ 203 (i + sh)) ∧ (∀ k : Int, 0 ≤ k → k < 4096 → r ≠ -1 → τ 199 (4096 * a + k) = regR σ r k) ∧ τ 200 a = r ∧ τ 201 a = σ 186 6 ∧ τ 202 a = σ 186 7 ∧ τ 203 a = σ 186 8
theorem r239 {r : Int} (hr : r = -1 ∨ (0 ≤ r ∧ r < 8)) (a0 : 0 ≤ σ 186 45) (a8 : σ 186 45 ≤ 8) (hK : ∀ τ : l2_m, (∀ b j, (b < 199 ∨ 203 < b) → ¬ (b = 186 ∧ j = 45) → τ b j = σ b j) → pshP σ τ r → K 0 τ) : wC B 239 [vr 186, vi r] σ K := by
  refine o239 ?_
  unfold w239
  refine ⟨⟨by omega, by omega⟩, ?_⟩
  -- the new one is laid
  have lay : ∀ (ρ : l2_m) (a sh : Int), (sh = 0 ∨ sh = 1) → (sh = 1 ↔ σ 186 45 = 8) → a = σ 186 45 - sh → ρ 186 45 = a → (∀ b j, (b < 199 ∨ 203 < b) → ¬ (b = 186 ∧ j = 45) → ρ b j = σ b j) → (∀ i k : Int, 0 ≤ i → i < a → 0 ≤ k → k < 4096 → ρ 199 (4096 * i + k) = σ 199 (4096 * (i + sh) + k)) → (∀ i : Int, 0 ≤ i → i < a → ρ 200 i = σ 200 (i + sh) ∧ ρ 201 i = σ 201 (i + sh) ∧ ρ 202 i = σ 202 (i + sh) ∧ ρ 203 i = σ 203 (i + sh)) → w239_123 B ρ r 0 K := by
    intro ρ a sh s1 s2 s3 s4 s5 s6 s7
    have ab : 0 ≤ a ∧ a < 8 := by omega
    unfold w239_123
    refine lz2_inv (fun (x : Int) τ => 0 ≤ x ∧ x ≤ 4096 ∧ (∀ b j, b ≠ 199 → τ b j = ρ b j) ∧ (∀ j : Int, j < 4096 * a → τ 199 j = ρ 199 j) ∧ (∀ k : Int, 0 ≤ k → k < x → r ≠ -1 → τ 199 (4096 * a + k) = regR σ r k)) (fun x _ => 4096 - x) ?_ ⟨by omega, by omega, fun b j _ => rfl, fun j _ => rfl, fun k x y => by omega⟩
    rintro X x τ hX ⟨i1, i2, i3, i4, i5⟩
    have t45 : τ 186 45 = a := by rw [i3 186 45 (by decide)]; exact s4
    refine ⟨⟨by omega, by omega⟩, ?_⟩
    rw [t45]
    split
    · rename_i hx
      refine ⟨⟨by omega, by omega⟩, ?_⟩
      have stp : ∀ v : Int, (r ≠ -1 → v = regR σ r x) → ∀ τ1 : l2_m, τ1 = l2_u τ 199 (4096 * a + x) v → X (x + 1) τ1 := by
        intro v hv τ1 et
        have b1 : ∀ b j, τ1 b j = if b = 199 ∧ j = 4096 * a + x then v else τ b j := fun b j => by rw [et]; rfl
        refine hX _ _ ⟨by omega, by omega, fun b j z => by rw [b1, if_neg (fun w => z w.1)]; exact i3 b j z, fun j z => by rw [b1, if_neg (by omega)]; exact i4 j z, fun k x0 x1 z => ?_⟩ (by omega)
        rw [b1]
        by_cases hk : k = x
        · rw [if_pos ⟨rfl, by rw [hk]⟩, hk]; exact hv z
        · rw [if_neg (by omega)]; exact i5 k x0 (by omega) z
      split
      · rename_i hm
        refine ⟨⟨by omega, by omega⟩, ?_⟩
        intro τ1 et
        exact stp 0 (fun z => absurd hm z) τ1 et
      · rename_i hm
        refine ⟨⟨by omega, by omega, i1, hx, by omega, by omega⟩, ?_⟩
        intro τ1 et
        refine stp _ (fun _ => ?_) τ1 et
        rw [i3 187 _ (by decide)]
        exact s5 187 _ (by omega) (by omega)
    · rename_i hx
      refine ⟨⟨ab.1, ab.2⟩, ?_⟩
      intro τ1 et1
      have c1 : ∀ b j, τ1 b j = if b = 200 ∧ j = a then r else τ b j := fun b j => by rw [et1]; rfl
      rw [c1 186 45, if_neg (by omega), t45, c1 186 6, if_neg (by omega)]
      refine ⟨⟨ab.1, ab.2⟩, ?_⟩
      intro τ2 et2
      have c2 : ∀ b j, τ2 b j = if b = 201 ∧ j = a then τ 186 6 else if b = 200 ∧ j = a then r else τ b j := fun b j => by
        rw [et2]
        show (if b = 201 ∧ j = a then τ 186 6 else τ1 b j) = _
        rw [c1]
      rw [c2 186 45, if_neg (by omega), if_neg (by omega), t45, c2 186 7, if_neg (by omega), if_neg (by omega)]
      refine ⟨⟨ab.1, ab.2⟩, ?_⟩
      intro τ3 et3
      have c3 : ∀ b j, τ3 b j = if b = 202 ∧ j = a then τ 186 7 else if b = 201 ∧ j = a then τ 186 6 else if b = 200 ∧ j = a then r else τ b j := fun b j => by
        rw [et3]
        show (if b = 202 ∧ j = a then τ 186 7 else τ2 b j) = _
        rw [c2]
      rw [c3 186 45, if_neg (by omega), if_neg (by omega), if_neg (by omega), t45, c3 186 8, if_neg (by omega), if_neg (by omega), if_neg (by omega)]
      refine ⟨⟨ab.1, ab.2⟩, ?_⟩
      intro τ4 et4
      have c4' : ∀ b j, τ4 b j = if b = 203 ∧ j = a then τ 186 8 else if b = 202 ∧ j = a then τ 186 7 else if b = 201 ∧ j = a then τ 186 6 else if b = 200 ∧ j = a then r else τ b j := fun b j => by
        rw [et4]
        show (if b = 203 ∧ j = a then τ 186 8 else τ3 b j) = _
        rw [c3]
      rw [c4' 186 45, if_neg (by omega), if_neg (by omega), if_neg (by omega), if_neg (by omega), t45]
      intro τ5 et5
      have c5' : ∀ b j, τ5 b j = if b = 186 ∧ j = 45 then a + 1 else if b = 203 ∧ j = a then τ 186 8 else if b = 202 ∧ j = a then τ 186 7 else if b = 201 ∧ j = a then τ 186 6 else if b = 200 ∧ j = a then r else τ b j := fun b j => by
        rw [et5]
        show (if b = 186 ∧ j = 45 then a + 1 else τ4 b j) = _
        rw [c4']
      have f6 : ∀ j, j ≠ 45 → τ 186 j = σ 186 j := fun j z => by rw [i3 186 j (by decide)]; exact s5 186 j (by omega) (by omega)
      refine hK τ5 (fun b j z w => ?_) ⟨a, sh, s1, s2, s3, ?_, fun i k x0 x1 x2 x3 => ?_, fun i x0 x1 => ?_, fun k x0 x1 z => ?_, ?_, ?_, ?_, ?_⟩
      · rw [c5', if_neg w, if_neg (by omega), if_neg (by omega), if_neg (by omega), if_neg (by omega), i3 b j (by omega)]; exact s5 b j z w
      · rw [c5', if_pos ⟨rfl, rfl⟩]
      · rw [c5', if_neg (by omega), if_neg (by omega), if_neg (by omega), if_neg (by omega), if_neg (by omega), i4 _ (by omega)]; exact s6 i k x0 x1 x2 x3
      · obtain ⟨y1, y2, y3, y4⟩ := s7 i x0 x1
        refine ⟨?_, ?_, ?_, ?_⟩
        · rw [c5', if_neg (by omega), if_neg (by omega), if_neg (by omega), if_neg (by omega), if_neg (by omega), i3 200 i (by decide)]; exact y1
        · rw [c5', if_neg (by omega), if_neg (by omega), if_neg (by omega), if_neg (by omega), if_neg (by omega), i3 201 i (by decide)]; exact y2
        · rw [c5', if_neg (by omega), if_neg (by omega), if_neg (by omega), if_neg (by omega), if_neg (by omega), i3 202 i (by decide)]; exact y3
        · rw [c5', if_neg (by omega), if_neg (by omega), if_neg (by omega), if_neg (by omega), if_neg (by omega), i3 203 i (by decide)]; exact y4
      · rw [c5', if_neg (by omega), if_neg (by omega), if_neg (by omega), if_neg (by omega), if_neg (by omega)]; exact i5 k x0 (by omega) z
      · rw [c5', if_neg (by omega), if_neg (by omega), if_neg (by omega), if_neg (by omega), if_pos ⟨rfl, rfl⟩]
      · rw [c5', if_neg (by omega), if_neg (by omega), if_neg (by omega), if_pos ⟨rfl, rfl⟩]; exact f6 6 (by decide)
      · rw [c5', if_neg (by omega), if_neg (by omega), if_pos ⟨rfl, rfl⟩]; exact f6 7 (by decide)
      · rw [c5', if_neg (by omega), if_pos ⟨rfl, rfl⟩]; exact f6 8 (by decide)
  split
  · rename_i h8
    unfold w239_13
    refine lz2_inv (fun (x : Int) τ => 4096 ≤ x ∧ x ≤ 32768 ∧ (∀ b j, b ≠ 199 → τ b j = σ b j) ∧ (∀ j : Int, 0 ≤ j → j < x - 4096 → τ 199 j = σ 199 (j + 4096)) ∧ (∀ j : Int, x - 4096 ≤ j → τ 199 j = σ 199 j)) (fun x _ => 32768 - x) ?_ ⟨by omega, by omega, fun b j _ => rfl, fun j x y => by omega, fun j _ => rfl⟩
    rintro X x τ hX ⟨i1, i2, i3, i4, i5⟩
    refine ⟨⟨by omega, by omega⟩, ?_⟩
    split
    · rename_i hx
      refine ⟨⟨by omega, hx, by omega, by omega⟩, ?_⟩
      intro τ1 et
      have b1 : ∀ b j, τ1 b j = if b = 199 ∧ j = x - 4096 then τ 199 x else τ b j := fun b j => by rw [et]; rfl
      refine hX _ _ ⟨by omega, by omega, fun b j z => by rw [b1, if_neg (fun w => z w.1)]; exact i3 b j z, fun j x0 x1 => ?_, fun j x0 => by rw [b1, if_neg (by omega)]; exact i5 j (by omega)⟩ (by omega)
      rw [b1]
      by_cases hj : j = x - 4096
      · rw [if_pos ⟨rfl, hj⟩, i5 x (by omega), hj, show x - 4096 + 4096 = x by omega]
      · rw [if_neg (fun w => hj w.2)]; exact i4 j x0 (by omega)
    · rename_i hx
      clear hX X
      unfold w239_43
      refine lz2_inv (fun (y : Int) υ => 1 ≤ y ∧ y ≤ 8 ∧ (∀ b j, (b < 200 ∨ 203 < b) → υ b j = τ b j) ∧ (∀ i : Int, 0 ≤ i → i < y - 1 → υ 200 i = σ 200 (i + 1) ∧ υ 201 i = σ 201 (i + 1) ∧ υ 202 i = σ 202 (i + 1) ∧ υ 203 i = σ 203 (i + 1)) ∧ (∀ i : Int, y - 1 ≤ i → υ 200 i = σ 200 i ∧ υ 201 i = σ 201 i ∧ υ 202 i = σ 202 i ∧ υ 203 i = σ 203 i)) (fun y _ => 8 - y) ?_ ⟨by omega, by omega, fun b j _ => rfl, fun i x0 x1 => by omega, fun i _ => ⟨i3 _ _ (by decide), i3 _ _ (by decide), i3 _ _ (by decide), i3 _ _ (by decide)⟩⟩
      rintro X y υ hX ⟨j1, j2, j3, j4, j5⟩
      refine ⟨⟨by omega, by omega⟩, ?_⟩
      split
      · rename_i hy
        refine ⟨⟨by omega, hy, by omega, by omega⟩, ?_⟩
        intro υ1 e1 υ2 e2 υ3 e3 υ4 e4'
        have d4 : ∀ b j, υ4 b j = if b = 203 ∧ j = y - 1 then υ 203 y else if b = 202 ∧ j = y - 1 then υ 202 y else if b = 201 ∧ j = y - 1 then υ 201 y else if b = 200 ∧ j = y - 1 then υ 200 y else υ b j := fun b j => by
          have x1 : υ1 201 y = υ 201 y := by rw [e1]; exact l2_u_ne (by decide)
          have x2 : υ2 202 y = υ 202 y := by rw [e2, l2_u_ne (by decide), e1]; exact l2_u_ne (by decide)
          have x3 : υ3 203 y = υ 203 y := by rw [e3, l2_u_ne (by decide), e2, l2_u_ne (by decide), e1]; exact l2_u_ne (by decide)
          rw [e4', x3, e3, x2, e2, x1, e1]; rfl
        refine hX _ _ ⟨by omega, by omega, fun b j z => ?_, fun i x0 x1 => ?_, fun i x0 => ?_⟩ (by omega)
        · rw [d4, if_neg (by omega), if_neg (by omega), if_neg (by omega), if_neg (by omega)]; exact j3 b j z
        · by_cases hi : i = y - 1
          · have y5 := j5 y (by omega)
            rw [d4 200 i, d4 201 i, d4 202 i, d4 203 i, hi]
            simp [show y - 1 + 1 = y by omega]
            exact y5
          · rw [d4 200 i, d4 201 i, d4 202 i, d4 203 i]
            simp [hi]
            exact j4 i x0 (by omega)
        · rw [d4 200 i, d4 201 i, d4 202 i, d4 203 i]
          simp [show ¬ i = y - 1 by omega]
          exact j5 i (by omega)
      · rename_i hy
        intro υ1 e1
        have u45 : υ 186 45 = 8 := by rw [j3 186 45 (by omega), i3 186 45 (by decide)]; exact h8
        have b1 : ∀ b j, υ1 b j = if b = 186 ∧ j = 45 then 7 else υ b j := fun b j => by
          rw [e1, u45]; rfl
        refine lay υ1 7 1 (Or.inr rfl) ⟨fun _ => h8, fun _ => rfl⟩ (by omega) (by rw [b1, if_pos ⟨rfl, rfl⟩]) (fun b j z w => ?_) (fun i k x0 x1 x2 x3 => ?_) (fun i x0 x1 => ?_)
        · rw [b1, if_neg w, j3 b j (by omega)]; exact i3 b j (by omega)
        · rw [b1, if_neg (by omega), j3 199 _ (by omega), i4 _ (by omega) (by omega)]
          congr 1
          omega
        · rw [b1 200 i, b1 201 i, b1 202 i, b1 203 i, if_neg (by omega), if_neg (by omega), if_neg (by omega), if_neg (by omega)]
          exact j4 i x0 (by omega)
  · rename_i h8
    refine lay σ (σ 186 45) 0 (Or.inl rfl) ⟨fun z => by omega, fun z => absurd z h8⟩ (by omega) rfl (fun b j _ _ => rfl) (fun i k _ _ _ _ => by rw [Int.add_zero]) (fun i _ _ => by rw [Int.add_zero]; exact ⟨rfl, rfl, rfl, rfl⟩)
end RF5
