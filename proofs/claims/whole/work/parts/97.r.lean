/-! ===== calls that divide: rest, quotient ===== -/
section RQ
variable {F : l2_m → Prop} {B : va_E} {σ σ1 τ υ : l2_m} {K : Int → l2_m → Prop} {r set : Int}
theorem u0_at (eu : υ = l2_u τ 186 0 0) {b : Nat} {j : Int} (h : ¬ (b = 186 ∧ j = 0)) : υ b j = τ b j := by
  rw [eu]; unfold l2_u; rw [if_neg h]
theorem r233n (h01 : υ 186 14 = 0 ∨ υ 186 14 = 1) (hr : rg r) (h : ¬ (υ 186 14 = 1 ∧ 0 ≤ r ∧ r < 8)) (hK : K 1 υ) : wC B 233 [vr 186, vi r, vi set] υ K := by
  refine o233 ?_
  unfold w233
  refine ⟨⟨hr, h01⟩, ?_⟩
  rw [if_neg h]
  exact hK
theorem r229s (hR : RWF σ) (ht : σ 186 14 = 1) (hυ : ∀ b j, 186 ≤ b → ¬ (b = 186 ∧ j = 0) → υ b j = σ b j) (hs : rg set) (h2 : ¬ (1 ≤ set ∧ set ≤ 255) → K 2 υ) (h5 : (1 ≤ set ∧ set ≤ 255) → (∃ d : Int, 0 ≤ d ∧ d < 8 ∧ bit set d = 1 ∧ cnt (regR σ d) 4096 = 0) → K 5 υ) (h0 : (1 ≤ set ∧ set ≤ 255) → (∀ d : Int, 0 ≤ d → d < 8 → bit set d = 1 → cnt (regR σ d) 4096 ≠ 0) → K 0 υ) : wC B 229 [vr 186, vi set] υ K := by
  obtain ⟨b1, b2, b3, b4, b5, b6⟩ := hR.2.2.2.2.2.2.2.2.2 ht
  obtain ⟨p2, p97, -⟩ := pr_rest _ b1
  have e187 : ∀ q j : Int, υ 187 (4096 * q + j) = σ 187 (4096 * q + j) := fun q j => hυ 187 _ (by decide) (by omega)
  have er : ∀ q, regR υ q = regR σ q := fun q => funext (fun j => e187 q j)
  refine r229 (p := σ 186 5) hs p97 (fun q j q0 q1 j0 j1 => by rw [e187]; exact b3 q j q0 q1 j0 j1) h2 (fun w v => h5 w ?_) (fun w v => h0 w (fun d d0 d1 db => by rw [← er]; exact v d d0 d1 db))
  obtain ⟨d, d0, d1, d2, d3⟩ := v
  exact ⟨d, d0, d1, d2, by rw [← er]; exact d3⟩
theorem frD_k (h : frD σ τ) : ∀ b j, cpt b j ∨ prs b j ∨ b = 32 → τ b j = σ b j := fun b j z => h b j (by unfold cpt prs at z; omega)
theorem lay_d {o : Nat} {k : Int} {h : Int → Int} (hC : CI F σ σ) (hR : RWF σ) (ht : σ 186 14 = 1) (k0 : 0 ≤ k) (k1 : k < 8) (fr : frD σ σ1) (kd : dvO σ1) (ho : isP o) (hob : o < 110) (hh : PR σ1 o (ordA σ) h) (hK : ∀ τ : l2_m, (∀ b j, 186 ≤ b → τ b j = σ b j) → (∀ A', LayR σ A' k h → CI F τ A') → cnt h 4096 ≤ 60 → K (cnt h 4096) τ) : wC B 164 [vr 32, vr o, vi k] σ1 K := by
  obtain ⟨B1, B2, B3, B4, B5, B6⟩ := hC.1
  have kp := frD_k fr
  have hC1 : CI F σ1 σ := CI_cg hC (fun b j z => kp b j (Or.inl z)) kd (fun _ _ _ _ => rfl) (by rw [kp 32 2 (Or.inr (Or.inr rfl))]; exact B2) (by rw [kp 32 4 (Or.inr (Or.inr rfl))]; exact B4)
  refine c164 hC1 hR ht ho (Or.inl hob) hh k0 k1 (fun τ t1 t2 => hK τ (fun b j z => (t1 b j z).trans (fr b j (by omega))) t2 ?_)
  rw [PR_cnt hh]; exact hh.2.1
end RQ
theorem pair_rest {F : l2_m → Prop} {B : va_E} {r set k : Int} (hr : rg r) (hs : rg set) (hk : rg k) : PAIR F B 133 250 [vi r, vi set, vi k] := by
  intro σ hC hR
  have B5 := hC.1.2.2.2.2.1
  have h01 := hR.1
  have bad : ∀ τ, τ = trb σ 1 → ¬ ((σ 186 14 = 1 ∧ 0 ≤ r ∧ r < 8) ∧ (σ 186 14 = 1 ∧ 0 ≤ k ∧ k < 8)) → wC B 250 [vr 186, vi r, vi set, vi k] τ (fun y υ => -1 = y ∧ CI F υ υ ∧ RWF υ) := by
    intro τ et hb
    refine o250 ?_
    unfold w250
    intro υ eu
    have e14 : υ 186 14 = σ 186 14 := via et eu (by decide) (by decide)
    rw [e14]
    refine ⟨⟨hk, h01⟩, ?_⟩
    have fin : w250_23 B υ r set k 1 (fun y υ => -1 = y ∧ CI F υ υ ∧ RWF υ) := by
      unfold w250_23
      refine ⟨by decide, ?_⟩
      rw [if_pos (by decide)]
      intro ω ew
      exact ⟨rfl, pair_e hC hR (by decide) et eu ew⟩
    by_cases h2 : σ 186 14 = 1 ∧ 0 ≤ k ∧ k < 8
    · rw [if_pos h2]
      exact r233n (by rw [e14]; exact h01) hr (by rw [e14]; exact fun w => hb ⟨w, h2⟩) fin
    · rw [if_neg h2]
      exact fin
  refine o133 ?_
  unfold w133
  rw [B5]
  refine ⟨⟨hr, h01⟩, ?_⟩
  by_cases h1 : σ 186 14 = 1 ∧ 0 ≤ r ∧ r < 8
  · rw [if_pos h1]
    refine ⟨hk, ?_⟩
    by_cases h2 : σ 186 14 = 1 ∧ 0 ≤ k ∧ k < 8
    · rw [if_pos h2]
      have ref : ∀ (τ : l2_m) (Q : Int → l2_m → Prop), (∀ b j, 186 ≤ b → τ b j = σ b j) → (∀ υ, υ = l2_u τ 186 0 0 → (∀ b j, 186 ≤ b → ¬ (b = 186 ∧ j = 0) → υ b j = σ b j) → wC B 233 [vr 186, vi r, vi set] υ (fun y s => w250_23 B s r set k y Q)) → wC B 250 [vr 186, vi r, vi set, vi k] τ Q := by
        intro τ Q kt hQ
        refine o250 ?_
        unfold w250
        intro υ eu
        have hυ : ∀ b j, 186 ≤ b → ¬ (b = 186 ∧ j = 0) → υ b j = σ b j := fun b j z w => (u0_at eu w).trans (kt b j z)
        rw [hυ 186 14 (by decide) (by decide)]
        refine ⟨⟨hk, h01⟩, ?_⟩
        rw [if_pos h2]
        exact hQ υ eu hυ
      have kt0 : ∀ (s : l2_m) (n : Int), frD σ s → ∀ b j, 186 ≤ b → trb s n b j = σ b j := fun s n hf b j z => by
        rw [trb_at, if_neg (by omega), if_neg (by omega)]; exact hf b j (by omega)
      have fr0 : frD σ σ := fun _ _ _ => rfl
      refine c161 hC hR h1.1 h1.2.1 h1.2.2 hs (fun w => ⟨by decide, ?_⟩) (fun w v => ⟨by decide, ?_⟩) (fun τ n s w v hl t1 t2 t3 t4 t5 t6 t7 t8 => ⟨by decide, ?_⟩) (fun τ w v hl t1 t2 t3 => ⟨by decide, ?_⟩)
      · rw [if_neg (by decide)]
        intro τ et
        refine ref τ _ (fun b j z => by rw [et]; exact kt0 σ 2 fr0 b j z) (fun υ eu hυ => r233 hR h1.1 hυ hr hs (fun z => absurd h1.2 z) (fun _ _ => ?_) (fun _ z => absurd z w) (fun _ z => absurd z w))
        unfold w250_23
        refine ⟨by decide, ?_⟩
        rw [if_pos (by decide)]
        intro ω ew
        exact ⟨rfl, pair_e hC hR (by decide) et eu ew⟩
      · rw [if_neg (by decide)]
        intro τ et
        refine ref τ _ (fun b j z => by rw [et]; exact kt0 σ 5 fr0 b j z) (fun υ eu hυ => r233 hR h1.1 hυ hr hs (fun z => absurd h1.2 z) (fun _ z => absurd w z) (fun _ _ _ => ?_) (fun _ _ z => ?_))
        · unfold w250_23
          refine ⟨by decide, ?_⟩
          rw [if_pos (by decide)]
          intro ω ew
          exact ⟨rfl, pair_e hC hR (by decide) et eu ew⟩
        · obtain ⟨d, d0, d1, d2, d3⟩ := v
          exact absurd d3 (z d d0 d1 d2)
      · rw [if_pos rfl]
        refine lay_d hC hR h1.1 h2.2.1 h2.2.2 t1 t2 (show isPb 76 = true from rfl) (by decide) t4 ?_
        intro τ' kt hL h60
        refine ref τ' _ kt (fun υ eu hυ => r233 hR h1.1 hυ hr hs (fun z => absurd h1.2 z) (fun _ z => absurd w z) (fun _ _ z => ?_) (fun _ _ _ => ?_))
        · obtain ⟨d, d0, d1, d2, d3⟩ := z
          exact absurd d3 (v d d0 d1 d2)
        · unfold w250_23
          refine ⟨by decide, ?_⟩
          rw [if_neg (by decide)]
          refine rdv hR h1.1 hυ h1.2.1 h1.2.2 hs hl (fun ρ n' s' v1 v2 v3 v4 v5 => ⟨by decide, ?_⟩) (fun ρ v1 v2 => (dOK_NO t3 v2).elim)
          rw [if_neg (by decide)]
          obtain ⟨en, es⟩ := dOK_uniq t3 v3
          subst es
          refine r250l ?_
          intro x x1 x2
          refine lay_r hR h1.1 h2.2.1 h2.2.2 hL (fun b j z1 z2 z3 z4 => ?_) (fun b j z => ?_) ?_ (fun j j0 j1 => ?_) t8.2.1 h60
          · rw [x1 b j (by omega), v1 b j (by omega) (by omega) (by omega)]; exact hυ b j z1 (by omega)
          · rw [x1 b j (by omega), v1 b j (by omega) (by omega) (by omega)]; exact u0_at eu (by omega)
          · rw [x1 186 29 (by decide)]; exact v2
          · rw [x2 j j0 j1]; exact v4.2.1 j j0 j1
      · rw [if_neg (by decide)]
        intro τ' et
        refine ref τ' _ (fun b j z => by rw [et]; exact kt0 τ 3 t1 b j z) (fun υ eu hυ => r233 hR h1.1 hυ hr hs (fun z => absurd h1.2 z) (fun _ z => absurd w z) (fun _ _ z => ?_) (fun _ _ _ => ?_))
        · obtain ⟨d, d0, d1, d2, d3⟩ := z
          exact absurd d3 (v d d0 d1 d2)
        · unfold w250_23
          refine ⟨by decide, ?_⟩
          rw [if_neg (by decide)]
          refine rdv hR h1.1 hυ h1.2.1 h1.2.2 hs hl (fun ρ n' s' v1 v2 v3 v4 v5 => (dOK_NO v3 t3).elim) (fun ρ v1 v2 => ⟨by decide, ?_⟩)
          rw [if_pos rfl]
          intro ω ew
          refine ⟨rfl, pair_g hC hR (by decide) (fun b j z => frD_k t1 b j ?_) t2 et eu (fun b j z => v1 b j ?_ ?_ ?_) ew⟩
          · rcases z with z | z
            · exact Or.inl z
            · exact Or.inr (Or.inl z)
          · unfold prs at z; omega
          · unfold prs at z; omega
          · unfold prs at z; omega
    · rw [if_neg h2]
      intro τ et
      exact bad τ et (fun w => h2 w.2)
  · rw [if_neg h1]
    intro τ et
    exact bad τ et (fun w => h1 w.1)
theorem r251l {B : va_E} {ρ : l2_m} {Q : Int → l2_m → Prop} {d k : Int} (d0 : 0 ≤ d) (d1 : d < 8) (h : ∀ s : l2_m, (∀ b j, b ≠ 192 → s b j = ρ b j) → (∀ j : Int, 0 ≤ j → j < 4096 → s 192 j = ρ 195 (4096 * d + j)) → wC B 240 [vr 186, vi k] s Q) : w251_102 B ρ d k 0 Q := by
  unfold w251_102
  refine lz2_inv (fun (i : Int) s => 0 ≤ i ∧ i ≤ 4096 ∧ (∀ b j, b ≠ 192 → s b j = ρ b j) ∧ (∀ j : Int, 0 ≤ j → j < i → s 192 j = ρ 195 (4096 * d + j))) (fun i _ => 4096 - i) ?_ ⟨by decide, by decide, fun _ _ _ => rfl, fun j j0 j1 => by omega⟩
  intro X i s hX ⟨i0, i1, s1, s2⟩
  refine ⟨⟨by omega, by omega⟩, ?_⟩
  by_cases hi : i < 4096
  · rw [if_pos hi]
    refine ⟨⟨by omega, by omega, i0, hi⟩, ?_⟩
    intro s' es
    refine hX (i + 1) s' ⟨by omega, by omega, fun b j z => by rw [es, l2_u_ne z]; exact s1 b j z, fun j j0 j1 => ?_⟩ (by omega)
    by_cases hj : j = i
    · rw [es, hj]
      unfold l2_u
      rw [if_pos ⟨rfl, rfl⟩]
      exact s1 195 _ (by decide)
    · rw [es, l2_u_nj hj]
      exact s2 j j0 (by omega)
  · rw [if_neg hi]
    exact h s s1 (fun j j0 j1 => s2 j j0 (by omega))
theorem pair_quotient {F : l2_m → Prop} {B : va_E} {r set d k : Int} (hr : rg r) (hs : rg set) (hd : rg d) (hk : rg k) : PAIR F B 134 251 [vi r, vi set, vi d, vi k] := by
  intro σ hC hR
  have B5 := hC.1.2.2.2.2.1
  have h01 := hR.1
  have bad : ∀ τ, τ = trb σ 1 → ¬ ((σ 186 14 = 1 ∧ 0 ≤ r ∧ r < 8) ∧ (σ 186 14 = 1 ∧ 0 ≤ d ∧ d < 8) ∧ (σ 186 14 = 1 ∧ 0 ≤ k ∧ k < 8)) → wC B 251 [vr 186, vi r, vi set, vi d, vi k] τ (fun y υ => -1 = y ∧ CI F υ υ ∧ RWF υ) := by
    intro τ et hb
    refine o251 ?_
    unfold w251
    intro υ eu
    have e14 : υ 186 14 = σ 186 14 := via et eu (by decide) (by decide)
    rw [e14]
    refine ⟨⟨hr, h01⟩, ?_⟩
    have fin : ∀ ω, ω = trr υ 1 → -1 = (-1 : Int) ∧ CI F ω ω ∧ RWF ω := fun ω ew => ⟨rfl, pair_e hC hR (by decide) et eu ew⟩
    by_cases h1 : σ 186 14 = 1 ∧ 0 ≤ r ∧ r < 8
    · rw [if_pos h1]
      refine ⟨hd, ?_⟩
      by_cases h2 : σ 186 14 = 1 ∧ 0 ≤ d ∧ d < 8
      · rw [if_pos h2]
        refine ⟨hk, ?_⟩
        by_cases h3 : σ 186 14 = 1 ∧ 0 ≤ k ∧ k < 8
        · exact absurd ⟨h1, h2, h3⟩ hb
        · rw [if_neg h3]; exact fin
      · rw [if_neg h2]; exact fin
    · rw [if_neg h1]; exact fin
  refine o134 ?_
  unfold w134
  rw [B5]
  refine ⟨⟨hr, h01⟩, ?_⟩
  by_cases h1 : σ 186 14 = 1 ∧ 0 ≤ r ∧ r < 8
  · rw [if_pos h1]
    refine ⟨hd, ?_⟩
    by_cases h3 : σ 186 14 = 1 ∧ 0 ≤ d ∧ d < 8
    · rw [if_pos h3]
      refine ⟨hk, ?_⟩
      by_cases h2 : σ 186 14 = 1 ∧ 0 ≤ k ∧ k < 8
      · rw [if_pos h2]
        refine ⟨⟨hs, h3.2.1, by omega⟩, ?_⟩
        have ref : ∀ (τ : l2_m) (Q : Int → l2_m → Prop), (∀ b j, 186 ≤ b → τ b j = σ b j) → (∀ υ, υ = l2_u τ 186 0 0 → ¬ ((1 ≤ set ∧ set ≤ 255) ∧ bit set d = 1) → ∀ ω, ω = trr υ 2 → Q (-1) ω) → (∀ υ, υ = l2_u τ 186 0 0 → (∀ b j, 186 ≤ b → ¬ (b = 186 ∧ j = 0) → υ b j = σ b j) → ((1 ≤ set ∧ set ≤ 255) ∧ bit set d = 1) → wC B 229 [vr 186, vi set] υ (fun y s => (rg y ∧ (if 0 < y then (∀ t : l2_m, t = trr s y → Q (-1) t) else (wC B 227 [vr 186, vi r] s (fun _ s2 => (wC B 231 [vr 186, vi set] s2 (fun y' s3 => (rg y' ∧ (if y' = 0 then (∀ t : l2_m, t = trr s3 3 → Q (-1) t) else w251_102 B s3 d k 0 Q)))))))))) → wC B 251 [vr 186, vi r, vi set, vi d, vi k] τ Q := by
          intro τ Q kt hQ2 hQ
          refine o251 ?_
          unfold w251
          intro υ eu
          have hυ : ∀ b j, 186 ≤ b → ¬ (b = 186 ∧ j = 0) → υ b j = σ b j := fun b j z w => (u0_at eu w).trans (kt b j z)
          rw [hυ 186 14 (by decide) (by decide)]
          refine ⟨⟨hr, h01⟩, ?_⟩
          rw [if_pos h1]
          refine ⟨hd, ?_⟩
          rw [if_pos h3]
          refine ⟨hk, ?_⟩
          rw [if_pos h2]
          refine ⟨hs, ?_⟩
          by_cases hi : 1 ≤ set ∧ set ≤ 255
          · rw [if_pos hi]
            refine ⟨⟨h3.2.1, by omega⟩, ?_⟩
            rw [show (set / 2 ^ (Int.toNat d)) % 2 = bit set d from rfl]
            by_cases hb : bit set d = 0
            · rw [if_pos hb]
              exact hQ2 υ eu (fun w => by omega)
            · rw [if_neg hb]
              exact hQ υ eu hυ ⟨hi, (bit_b set d).resolve_left hb⟩
          · rw [if_neg hi]
            exact hQ2 υ eu (fun w => hi w.1)
        have kt0 : ∀ (s : l2_m) (n : Int), frD σ s → ∀ b j, 186 ≤ b → trb s n b j = σ b j := fun s n hf b j z => by
          rw [trb_at, if_neg (by omega), if_neg (by omega)]; exact hf b j (by omega)
        have fr0 : frD σ σ := fun _ _ _ => rfl
        by_cases hb : bit set d = 1
        · rw [if_pos hb]
          refine c161 hC hR h1.1 h1.2.1 h1.2.2 hs (fun w => ⟨by decide, ?_⟩) (fun w v => ⟨by decide, ?_⟩) (fun τ n s w v hl t1 t2 t3 t4 t5 t6 t7 t8 => ⟨by decide, ?_⟩) (fun τ w v hl t1 t2 t3 => ⟨by decide, ?_⟩)
          · rw [if_neg (by decide)]
            intro τ et
            refine ref τ _ (fun b j z => by rw [et]; exact kt0 σ 2 fr0 b j z) (fun υ eu _ ω ew => ⟨rfl, pair_e hC hR (by decide) et eu ew⟩) (fun υ eu hυ z => absurd z.1 w)
          · rw [if_neg (by decide)]
            intro τ et
            refine ref τ _ (fun b j z => by rw [et]; exact kt0 σ 5 fr0 b j z) (fun υ eu z => absurd ⟨w, hb⟩ z) (fun υ eu hυ _ => r229s hR h1.1 hυ hs (fun z => absurd w z) (fun _ _ => ⟨by decide, ?_⟩) (fun _ z => ?_))
            · rw [if_pos (by decide)]
              intro ω ew
              exact ⟨rfl, pair_e hC hR (by decide) et eu ew⟩
            · obtain ⟨d', d0, d1, d2, d3⟩ := v
              exact absurd d3 (z d' d0 d1 d2)
          · rw [if_pos rfl]
            refine ⟨h3.2, ?_⟩
            have d8 : Int.toNat d < 8 := by omega
            refine lay_d hC hR h1.1 h2.2.1 h2.2.2 t1 t2 (isP_quo h3.2.1 h3.2.2) (by omega) (t5 d h3.2.1 h3.2.2) ?_
            intro τ' kt hL h60
            refine ref τ' _ kt (fun υ eu z => absurd ⟨w, hb⟩ z) (fun υ eu hυ _ => r229s hR h1.1 hυ hs (fun z => absurd w z) (fun _ z => ?_) (fun _ _ => ⟨by decide, ?_⟩))
            · obtain ⟨d', d0, d1, d2, d3⟩ := z
              exact absurd d3 (v d' d0 d1 d2)
            · rw [if_neg (by decide)]
              refine rdv hR h1.1 hυ h1.2.1 h1.2.2 hs hl (fun ρ n' s' v1 v2 v3 v4 v5 => ⟨by decide, ?_⟩) (fun ρ v1 v2 => (dOK_NO t3 v2).elim)
              rw [if_neg (by decide)]
              obtain ⟨en, es⟩ := dOK_uniq t3 v3
              subst es
              refine r251l h3.2.1 h3.2.2 ?_
              intro x x1 x2
              refine lay_r hR h1.1 h2.2.1 h2.2.2 hL (fun b j z1 z2 z3 z4 => ?_) (fun b j z => ?_) ?_ (fun j j0 j1 => ?_) (t8.2.2.1 d) h60
              · rw [x1 b j (by omega), v1 b j (by omega) (by omega) (by omega)]; exact hυ b j z1 (by omega)
              · rw [x1 b j (by omega), v1 b j (by omega) (by omega) (by omega)]; exact u0_at eu (by omega)
              · rw [x1 186 29 (by decide)]; exact v2
              · rw [x2 j j0 j1]; exact v4.2.2.1 d j h3.2.1 h3.2.2 j0 j1
          · rw [if_neg (by decide)]
            intro τ' et
            refine ref τ' _ (fun b j z => by rw [et]; exact kt0 τ 3 t1 b j z) (fun υ eu z => absurd ⟨w, hb⟩ z) (fun υ eu hυ _ => r229s hR h1.1 hυ hs (fun z => absurd w z) (fun _ z => ?_) (fun _ _ => ⟨by decide, ?_⟩))
            · obtain ⟨d', d0, d1, d2, d3⟩ := z
              exact absurd d3 (v d' d0 d1 d2)
            · rw [if_neg (by decide)]
              refine rdv hR h1.1 hυ h1.2.1 h1.2.2 hs hl (fun ρ n' s' v1 v2 v3 v4 v5 => (dOK_NO v3 t3).elim) (fun ρ v1 v2 => ⟨by decide, ?_⟩)
              rw [if_pos rfl]
              intro ω ew
              refine ⟨rfl, pair_g hC hR (by decide) (fun b j z => frD_k t1 b j ?_) t2 et eu (fun b j z => v1 b j ?_ ?_ ?_) ew⟩
              · rcases z with z | z
                · exact Or.inl z
                · exact Or.inr (Or.inl z)
              · unfold prs at z; omega
              · unfold prs at z; omega
              · unfold prs at z; omega
        · rw [if_neg hb]
          intro τ et
          refine ref τ _ (fun b j z => by rw [et]; exact kt0 σ 2 fr0 b j z) (fun υ eu _ ω ew => ⟨rfl, pair_e hC hR (by decide) et eu ew⟩) (fun υ eu hυ z => absurd z.2 hb)
      · rw [if_neg h2]
        intro τ et
        exact bad τ et (fun w => h2 w.2.2)
    · rw [if_neg h3]
      intro τ et
      exact bad τ et (fun w => h3 w.2.1)
  · rw [if_neg h1]
    intro τ et
    exact bad τ et (fun w => h1 w.1)
