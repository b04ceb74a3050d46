/-! ===== calls that divide: divides, divided ===== -/
theorem bit_one {r d : Int} (r0 : 0 ≤ r) (r1 : r < 8) (d0 : 0 ≤ d) (d1 : d < 8) : bit ((1 : Int) * 2 ^ (Int.toNat r)) d = if d = r then 1 else 0 := by
  obtain ⟨n, rfl⟩ := Int.eq_ofNat_of_zero_le r0
  obtain ⟨m, rfl⟩ := Int.eq_ofNat_of_zero_le d0
  have h : ∀ n m : Fin 8, bit ((1 : Int) * 2 ^ (Int.toNat ((n.val : Nat) : Int))) ((m.val : Nat) : Int) = if ((m.val : Nat) : Int) = ((n.val : Nat) : Int) then 1 else 0 := by decide +kernel
  exact h ⟨n, by omega⟩ ⟨m, by omega⟩
theorem pow_in {r : Int} (r0 : 0 ≤ r) (r1 : r < 8) : 1 ≤ (1 : Int) * 2 ^ (Int.toNat r) ∧ (1 : Int) * 2 ^ (Int.toNat r) ≤ 255 := by
  obtain ⟨n, rfl⟩ := Int.eq_ofNat_of_zero_le r0
  have h : ∀ n : Fin 8, 1 ≤ (1 : Int) * 2 ^ (Int.toNat ((n.val : Nat) : Int)) ∧ (1 : Int) * 2 ^ (Int.toNat ((n.val : Nat) : Int)) ≤ 255 := by decide +kernel
  exact h ⟨n, by omega⟩
theorem pair_divides {F : l2_m → Prop} {B : va_E} {r q : Int} (hr : rg r) (hq : rg q) : PAIR F B 123 235 [vi r, vi q] := by
  intro σ hC hR
  have B5 := hC.1.2.2.2.2.1
  have h01 := hR.1
  have bad : ∀ τ, τ = trb σ 1 → ¬ ((σ 186 14 = 1 ∧ 0 ≤ r ∧ r < 8) ∧ (σ 186 14 = 1 ∧ 0 ≤ q ∧ q < 8)) → wC B 235 [vr 186, vi r, vi q] τ (fun y υ => -1 = y ∧ CI F υ υ ∧ RWF υ) := by
    intro τ et hb
    refine o235 ?_
    unfold w235
    intro υ eu
    have e14 : υ 186 14 = σ 186 14 := via et eu (by decide) (by decide)
    rw [e14]
    refine ⟨⟨hr, h01⟩, ?_⟩
    have fin : ∀ ω, ω = trr υ 1 → -1 = (-1 : Int) ∧ CI F ω ω ∧ RWF ω := fun ω ew => ⟨rfl, pair_e hC hR (by decide) et eu ew⟩
    by_cases h1 : σ 186 14 = 1 ∧ 0 ≤ r ∧ r < 8
    · rw [if_pos h1]
      refine ⟨hq, ?_⟩
      rw [if_neg (fun w => hb ⟨h1, w⟩)]
      exact fin
    · rw [if_neg h1]; exact fin
  refine o123 ?_
  unfold w123
  rw [B5]
  refine ⟨⟨hr, h01⟩, ?_⟩
  by_cases h1 : σ 186 14 = 1 ∧ 0 ≤ r ∧ r < 8
  · rw [if_pos h1]
    refine ⟨hq, ?_⟩
    by_cases h2 : σ 186 14 = 1 ∧ 0 ≤ q ∧ q < 8
    · rw [if_pos h2]
      refine ⟨⟨h1.2.1, by omega⟩, ?_⟩
      have hin := pow_in h1.2.1 h1.2.2
      have hbit : ∀ d : Int, 0 ≤ d → d < 8 → bit ((1 : Int) * 2 ^ (Int.toNat r)) d = if d = r then 1 else 0 := fun d d0 d1 => bit_one h1.2.1 h1.2.2 d0 d1
      obtain ⟨set, hset⟩ : ∃ set, set = (1 : Int) * 2 ^ (Int.toNat r) := ⟨_, rfl⟩
      rw [← hset] at hin hbit
      rw [← hset]
      have hs : rg set := ⟨by omega, by omega⟩
      have hbr : bit set r = 1 := by rw [hbit r h1.2.1 h1.2.2, if_pos rfl]
      obtain ⟨b1, b2, b3, b4, b5, b6⟩ := hR.2.2.2.2.2.2.2.2.2 h1.1
      obtain ⟨p2, p97, -⟩ := pr_rest _ b1
      have ref : ∀ (τ : l2_m) (Q : Int → l2_m → Prop), (∀ b j, 186 ≤ b → τ b j = σ b j) → (∀ υ, υ = l2_u τ 186 0 0 → cnt (regR σ r) 4096 = 0 → ∀ ω, ω = trr υ 5 → Q (-1) ω) → (∀ υ, υ = l2_u τ 186 0 0 → (∀ b j, 186 ≤ b → ¬ (b = 186 ∧ j = 0) → υ b j = σ b j) → cnt (regR σ r) 4096 ≠ 0 → wC B 227 [vr 186, vi q] υ (fun _ s => wC B 231 [vr 186, vi set] s (fun y s => (rg y ∧ (if y = 0 then (∀ t : l2_m, t = trr s 3 → Q (-1) t) else (rg (s 186 37) ∧ (if (s 186 37) = 0 then (∀ t : l2_m, t = trr s 0 → Q 1 t) else (∀ t : l2_m, t = trr s 0 → Q 0 t)))))))) → wC B 235 [vr 186, vi r, vi q] τ Q := by
        intro τ Q kt hQ2 hQ
        refine o235 ?_
        unfold w235
        intro υ eu
        have hυ : ∀ b j, 186 ≤ b → ¬ (b = 186 ∧ j = 0) → υ b j = σ b j := fun b j z w => (u0_at eu w).trans (kt b j z)
        rw [hυ 186 14 (by decide) (by decide)]
        refine ⟨⟨hr, h01⟩, ?_⟩
        rw [if_pos h1]
        refine ⟨hq, ?_⟩
        rw [if_pos h2]
        have e187 : ∀ j, υ 187 j = σ 187 j := fun j => hυ 187 j (by decide) (by omega)
        refine ⟨⟨h1.2.1, h1.2.2, fun j j0 j1 => by rw [e187]; have := b3 r j h1.2.1 h1.2.2 j0 j1; exact ⟨by omega, by omega⟩⟩, ?_⟩
        have ec : cnt (fun k => υ 187 (4096 * r + k)) 4096 = cnt (regR σ r) 4096 := cnt_congr (fun j _ _ => e187 _)
        rw [ec]
        by_cases hz : cnt (regR σ r) 4096 = 0
        · rw [if_pos hz]
          exact hQ2 υ eu hz
        · rw [if_neg hz, ← hset]
          have := hQ υ eu hυ hz
          refine wC.mono this (fun _ s hs' => ⟨⟨h1.2.1, by omega⟩, hs'⟩)
      have kt0 : ∀ (s : l2_m) (n : Int), frD σ s → ∀ b j, 186 ≤ b → trb s n b j = σ b j := fun s n hf b j z => by
        rw [trb_at, if_neg (by omega), if_neg (by omega)]; exact hf b j (by omega)
      have fr0 : frD σ σ := fun _ _ _ => rfl
      refine c161 hC hR h1.1 h2.2.1 h2.2.2 hs (fun w => absurd hin w) (fun w v => ⟨by decide, ?_⟩) (fun τ n s w v hl t1 t2 t3 t4 t5 t6 t7 t8 => ⟨by decide, ?_⟩) (fun τ w v hl t1 t2 t3 => ⟨by decide, ?_⟩)
      · rw [if_neg (by decide)]
        intro τ et
        refine ref τ _ (fun b j z => by rw [et]; exact kt0 σ 5 fr0 b j z) (fun υ eu _ ω ew => ⟨rfl, pair_e hC hR (by decide) et eu ew⟩) (fun υ eu hυ z => ?_)
        obtain ⟨d, d0, d1, d2, d3⟩ := v
        rw [hbit d d0 d1] at d2
        have : d = r := by
          by_cases hdr : d = r
          · exact hdr
          · rw [if_neg hdr] at d2; omega
        rw [this] at d3
        exact absurd d3 z
      · rw [if_pos rfl]
        have ec := PR_cnt t4
        have e0 := t4.1
        have e1 := t4.2.1
        refine ⟨⟨by omega, by omega⟩, ?_⟩
        have go : ∀ x : Int, (x = if cnt s.2.1 4096 = 0 then 1 else 0) → ∀ τ', τ' = trb τ 0 → wC B 235 [vr 186, vi r, vi q] τ' (fun y υ => x = y ∧ CI F υ υ ∧ RWF υ) := by
          intro x hx τ' et
          refine ref τ' _ (fun b j z => by rw [et]; exact kt0 τ 0 t1 b j z) (fun υ eu z => absurd z (v r h1.2.1 h1.2.2 hbr)) (fun υ eu hυ _ => ?_)
          refine rdv hR h1.1 hυ h2.2.1 h2.2.2 hs hl (fun ρ n' s' v1 v2 v3 v4 v5 => ⟨by decide, ?_⟩) (fun ρ v1 v2 => (dOK_NO t3 v2).elim)
          rw [if_neg (by decide)]
          obtain ⟨en, es⟩ := dOK_uniq t3 v3
          subst es
          have e37 := v4.2.2.2.2.2.1
          have fin : ∀ ω, ω = trr ρ 0 → CI F ω ω ∧ RWF ω := fun ω ew => by
            refine pair_g hC hR (by decide) (fun b j z => frD_k t1 b j ?_) t2 et eu (fun b j z => v1 b j ?_ ?_ ?_) ew
            · rcases z with z | z
              · exact Or.inl z
              · exact Or.inr (Or.inl z)
            · unfold prs at z; omega
            · unfold prs at z; omega
            · unfold prs at z; omega
          refine ⟨by rw [e37]; exact ⟨by omega, by omega⟩, ?_⟩
          rw [e37]
          by_cases hz : cnt s.2.1 4096 = 0
          · rw [if_pos hz]
            rw [if_pos hz] at hx
            intro ω ew
            exact ⟨hx, fin ω ew⟩
          · rw [if_neg hz]
            rw [if_neg hz] at hx
            intro ω ew
            exact ⟨hx, fin ω ew⟩
        by_cases hz : τ 76 2 = 0
        · rw [if_pos hz]
          exact go 1 (by rw [if_pos (ec.trans hz)])
        · rw [if_neg hz]
          exact go 0 (by rw [if_neg (fun w => hz (ec.symm.trans w))])
      · rw [if_neg (by decide)]
        intro τ' et
        refine ref τ' _ (fun b j z => by rw [et]; exact kt0 τ 3 t1 b j z) (fun υ eu z => absurd z (v r h1.2.1 h1.2.2 hbr)) (fun υ eu hυ _ => ?_)
        refine rdv hR h1.1 hυ h2.2.1 h2.2.2 hs hl (fun ρ n' s' v1 v2 v3 v4 v5 => (dOK_NO v3 t3).elim) (fun ρ v1 v2 => ⟨by decide, ?_⟩)
        rw [if_pos rfl]
        intro ω ew
        refine ⟨rfl, pair_g hC hR (by decide) (fun b j z => frD_k t1 b j ?_) t2 et eu (fun b j z => v1 b j ?_ ?_ ?_) ew⟩
        · rcases z with z | z
          · exact Or.inl z
          · exact Or.inr (Or.inl z)
        · unfold prs at z; omega
        · unfold prs at z; omega
        · unfold prs at z; omega
    · rw [if_neg h2]
      intro τ et
      exact bad τ et (fun w => h2 w.2)
  · rw [if_neg h1]
    intro τ et
    exact bad τ et (fun w => h1 w.1)
theorem pair_divided {F : l2_m → Prop} {B : va_E} {r set what : Int} (hr : rg r) (hs : rg set) (hw : rg what) : PAIR F B 122 234 [vi r, vi set, vi what] := by
  intro σ hC hR
  have B5 := hC.1.2.2.2.2.1
  have h01 := hR.1
  have bad : ∀ τ, τ = trb σ 1 → ¬ ((σ 186 14 = 1 ∧ 0 ≤ r ∧ r < 8) ∧ 0 ≤ what ∧ what ≤ 3) → wC B 234 [vr 186, vi r, vi set, vi what] τ (fun y υ => -1 = y ∧ CI F υ υ ∧ RWF υ) := by
    intro τ et hb
    refine o234 ?_
    unfold w234
    intro υ eu
    have e14 : υ 186 14 = σ 186 14 := via et eu (by decide) (by decide)
    refine ⟨hw, ?_⟩
    have fin : w234_24 B υ r set what 1 (fun y υ => -1 = y ∧ CI F υ υ ∧ RWF υ) := by
      unfold w234_24
      refine ⟨by decide, ?_⟩
      rw [if_pos (by decide)]
      intro ω ew
      exact ⟨rfl, pair_e hC hR (by decide) et eu ew⟩
    by_cases h2 : 0 ≤ what ∧ what ≤ 3
    · rw [if_pos h2]
      exact r233n (by rw [e14]; exact h01) hr (by rw [e14]; exact fun w => hb ⟨w, h2⟩) fin
    · rw [if_neg h2]
      exact fin
  refine o122 ?_
  unfold w122
  rw [B5]
  refine ⟨⟨hr, h01⟩, ?_⟩
  by_cases h1 : σ 186 14 = 1 ∧ 0 ≤ r ∧ r < 8
  · rw [if_pos h1]
    refine ⟨hw, ?_⟩
    by_cases w0 : what < 0
    · rw [if_pos w0]
      intro τ et
      exact bad τ et (fun w => by omega)
    · rw [if_neg w0]
      by_cases w3 : 3 < what
      · rw [if_pos w3]
        intro τ et
        exact bad τ et (fun w => by omega)
      · rw [if_neg w3]
        have h2 : 0 ≤ what ∧ what ≤ 3 := by omega
        have ref : ∀ (τ : l2_m) (Q : Int → l2_m → Prop), (∀ b j, 186 ≤ b → τ b j = σ b j) → (∀ υ, υ = l2_u τ 186 0 0 → (∀ b j, 186 ≤ b → ¬ (b = 186 ∧ j = 0) → υ b j = σ b j) → wC B 233 [vr 186, vi r, vi set] υ (fun y s => w234_24 B s r set what y Q)) → wC B 234 [vr 186, vi r, vi set, vi what] τ Q := by
          intro τ Q kt hQ
          refine o234 ?_
          unfold w234
          intro υ eu
          have hυ : ∀ b j, 186 ≤ b → ¬ (b = 186 ∧ j = 0) → υ b j = σ b j := fun b j z w => (u0_at eu w).trans (kt b j z)
          refine ⟨hw, ?_⟩
          rw [if_pos h2]
          exact hQ υ eu hυ
        have kt0 : ∀ (s : l2_m) (n : Int), frD σ s → ∀ b j, 186 ≤ b → trb s n b j = σ b j := fun s n hf b j z => by
          rw [trb_at, if_neg (by omega), if_neg (by omega)]; exact hf b j (by omega)
        have fr0 : frD σ σ := fun _ _ _ => rfl
        refine c161 hC hR h1.1 h1.2.1 h1.2.2 hs (fun w => ⟨by decide, ?_⟩) (fun w v => ⟨by decide, ?_⟩) (fun τ n s w v hl t1 t2 t3 t4 t5 t6 t7 t8 => ⟨by decide, ?_⟩) (fun τ w v hl t1 t2 t3 => ⟨by decide, ?_⟩)
        · rw [if_neg (by decide)]
          intro τ et
          refine ref τ _ (fun b j z => by rw [et]; exact kt0 σ 2 fr0 b j z) (fun υ eu hυ => r233 hR h1.1 hυ hr hs (fun z => absurd h1.2 z) (fun _ _ => ?_) (fun _ z => absurd z w) (fun _ z => absurd z w))
          unfold w234_24
          refine ⟨by decide, ?_⟩
          rw [if_pos (by decide)]
          intro ω ew
          exact ⟨rfl, pair_e hC hR (by decide) et eu ew⟩
        · rw [if_neg (by decide)]
          intro τ et
          refine ref τ _ (fun b j z => by rw [et]; exact kt0 σ 5 fr0 b j z) (fun υ eu hυ => r233 hR h1.1 hυ hr hs (fun z => absurd h1.2 z) (fun _ z => absurd w z) (fun _ _ _ => ?_) (fun _ _ z => ?_))
          · unfold w234_24
            refine ⟨by decide, ?_⟩
            rw [if_pos (by decide)]
            intro ω ew
            exact ⟨rfl, pair_e hC hR (by decide) et eu ew⟩
          · obtain ⟨d, d0, d1, d2, d3⟩ := v
            exact absurd d3 (z d d0 d1 d2)
        · rw [if_pos rfl]
          refine ⟨hw, ?_⟩
          have hq : ∀ d : Int, 0 ≤ d → d < 8 → rg (τ (85 + 3 * Int.toNat d) 2) := fun d d0 d1 => by
            have := (t5 d d0 d1).1
            have := (t5 d d0 d1).2.1
            exact ⟨by omega, by omega⟩
          have hqs : sumN (fun j => τ (85 + 3 * Int.toNat j) 2) 8 = sumN (fun d => cnt (s.2.2.1 d) 4096) 8 := sumN_congr (fun j j0 j1 => (PR_cnt (t5 j j0 (by omega))).symm)
          have go : ∀ x : Int, (x = if what = 0 then (n : Int) else if what = 1 then cnt s.2.1 4096 else if what = 2 then sumN (fun d => cnt (s.2.2.1 d) 4096) 8 else s.2.2.2) → ∀ τ', τ' = trb τ 0 → wC B 234 [vr 186, vi r, vi set, vi what] τ' (fun y υ => x = y ∧ CI F υ υ ∧ RWF υ) := by
            intro x hx τ' et
            refine ref τ' _ (fun b j z => by rw [et]; exact kt0 τ 0 t1 b j z) (fun υ eu hυ => r233 hR h1.1 hυ hr hs (fun z => absurd h1.2 z) (fun _ z => absurd w z) (fun _ _ z => ?_) (fun _ _ _ => ?_))
            · obtain ⟨d, d0, d1, d2, d3⟩ := z
              exact absurd d3 (v d d0 d1 d2)
            · unfold w234_24
              refine ⟨by decide, ?_⟩
              rw [if_neg (by decide)]
              refine rdv hR h1.1 hυ h1.2.1 h1.2.2 hs hl (fun ρ n' s' v1 v2 v3 v4 v5 => ⟨by decide, ?_⟩) (fun ρ v1 v2 => (dOK_NO t3 v2).elim)
              rw [if_neg (by decide)]
              obtain ⟨en, es⟩ := dOK_uniq t3 v3
              subst en
              subst es
              obtain ⟨-, -, -, y196, -, y37, y38, y39, -, -⟩ := v4
              have fin : ∀ ω, ω = trr ρ 0 → CI F ω ω ∧ RWF ω := fun ω ew => by
                refine pair_g hC hR (by decide) (fun b j z => frD_k t1 b j ?_) t2 et eu (fun b j z => v1 b j ?_ ?_ ?_) ew
                · rcases z with z | z
                  · exact Or.inl z
                  · exact Or.inr (Or.inl z)
                · unfold prs at z; omega
                · unfold prs at z; omega
                · unfold prs at z; omega
              unfold w234_63
              refine lz2_inv (fun x i => 0 ≤ i ∧ i ≤ 8 ∧ x = sumN (fun d => cnt (s.2.2.1 d) 4096) i.toNat) (fun _ i => 8 - i) ?_ ⟨by decide, by decide, rfl⟩
              intro X y i hX ⟨i0, i1, ey⟩
              refine ⟨⟨by omega, by omega⟩, ?_⟩
              by_cases hi : i < 8
              · rw [if_pos hi]
                refine ⟨⟨i0, hi⟩, ?_⟩
                intro y' ey'
                refine hX y' (i + 1) ⟨by omega, by omega, ?_⟩ (by omega)
                rw [sumN_step i0, ey', ey, y196 i i0 hi]
              · rw [if_neg hi]
                have ei : i = 8 := by omega
                subst ei
                refine ⟨hw, ?_⟩
                by_cases a0 : what = 0
                · rw [if_pos a0]
                  rw [if_pos a0] at hx
                  intro ω ew
                  exact ⟨by rw [hx, y38], fin ω ew⟩
                · rw [if_neg a0]
                  rw [if_neg a0] at hx
                  by_cases a1 : what = 1
                  · rw [if_pos a1]
                    rw [if_pos a1] at hx
                    intro ω ew
                    exact ⟨by rw [hx, y37], fin ω ew⟩
                  · rw [if_neg a1]
                    rw [if_neg a1] at hx
                    by_cases a2 : what = 2
                    · rw [if_pos a2]
                      rw [if_pos a2] at hx
                      intro ω ew
                      exact ⟨by rw [hx, ey]; rfl, fin ω ew⟩
                    · rw [if_neg a2]
                      rw [if_neg a2] at hx
                      intro ω ew
                      exact ⟨by rw [hx, y39], fin ω ew⟩
          by_cases a0 : what = 0
          · rw [if_pos a0]
            exact go _ (by rw [if_pos a0]; exact t6)
          · rw [if_neg a0]
            by_cases a1 : what = 1
            · rw [if_pos a1]
              exact go _ (by rw [if_neg a0, if_pos a1]; exact (PR_cnt t4).symm)
            · rw [if_neg a1]
              by_cases a2 : what = 2
              · rw [if_pos a2]
                exact ⟨hq, go _ (by rw [if_neg a0, if_neg a1, if_pos a2]; exact hqs)⟩
              · rw [if_neg a2]
                exact go _ (by rw [if_neg a0, if_neg a1, if_neg a2]; exact t7)
        · rw [if_neg (by decide)]
          intro τ' et
          refine ref τ' _ (fun b j z => by rw [et]; exact kt0 τ 3 t1 b j z) (fun υ eu hυ => r233 hR h1.1 hυ hr hs (fun z => absurd h1.2 z) (fun _ z => absurd w z) (fun _ _ z => ?_) (fun _ _ _ => ?_))
          · obtain ⟨d, d0, d1, d2, d3⟩ := z
            exact absurd d3 (v d d0 d1 d2)
          · unfold w234_24
            refine ⟨by decide, ?_⟩
            rw [if_neg (by decide)]
            refine rdv hR h1.1 hυ h1.2.1 h1.2.2 hs hl (fun ρ n' s' v1 v2 v3 v4 v5 => (dOK_NO v3 t3).elim) (fun ρ v1 v2 => ⟨by decide, ?_⟩)
            rw [if_pos rfl]
            intro ω ew
            refine ⟨rfl, pair_g hC hR (by decide) (fun b j z => frD_k t1 b j ?_) t2 et eu (fun b j z => v1 b j ?_ ?_ ?_) ew⟩
            · rcases z with z | z
              · exact Or.inl z
              · exact Or.inr (Or.inl z)
            · unfold prs at z; omega
            · unfold prs at z; omega
            · unfold prs at z; omega
  · rw [if_neg h1]
    intro τ et
    exact bad τ et (fun w => h1 w.1)
