/-! ===== complete: the pair ===== -/
theorem pair_complete {F : l2_m → Prop} {B : va_E} {set : Int} (hs : rg set) : PAIR F B 139 272 [vi set] := by
  intro σ hC hR
  have B5 := hC.1.2.2.2.2.1
  have hdo := hC.2.2.2.2.1
  have h01 := hR.1
  have fr0 : frE σ σ := fun _ _ _ _ _ _ => rfl
  have kt0 : ∀ (s : l2_m) (n : Int), frE σ s → ∀ b j, 186 ≤ b → trb s n b j = σ b j := fun s n hf b j z => by
    rw [trb_at, if_neg (by omega), if_neg (by omega)]; exact hf b j (by omega) (by omega) (by omega) (by omega)
  have kp : ∀ s : l2_m, frE σ s → ∀ b j, cpt b j ∨ prs b j → s b j = σ b j := fun s hf b j z => hf b j (by unfold cpt prs at z; omega) (by unfold cpt prs at z; omega) (by unfold cpt prs at z; omega) (by unfold cpt prs at z; omega)
  have kr : ∀ s t : l2_m, frW s t → ∀ b j, b < 186 ∨ prs b j → t b j = s b j := fun s t hf b j z => hf b j (by unfold prs at z; omega) (by unfold prs at z; omega) (by unfold prs at z; omega)
  refine o139 ?_
  unfold w139
  by_cases ht : σ 186 14 = 1
  · obtain ⟨D1, D2, D3, D4, D5, D6, D7, D8⟩ := hC.2.1 ht
    obtain ⟨b1, b2, b3, b4, b5, b6⟩ := hR.2.2.2.2.2.2.2.2.2 ht
    obtain ⟨p2, p97, -⟩ := pr_rest _ b1
    have hrg : ∀ d : Int, 0 ≤ d → d < 8 → rg (σ (162 + 3 * Int.toNat d) 2) := fun d d0 d1 => by
      have q0 := (D8 d d0 d1).1
      have q1 := (D8 d d0 d1).2.1
      exact ⟨by omega, by omega⟩
    have hfz : ∀ x : Int, ((x = -1 ∧ ∀ d : Int, 0 ≤ d → d < 8 → σ (162 + 3 * Int.toNat d) 2 ≠ 0) ∨ (0 ≤ x ∧ x < 8 ∧ σ (162 + 3 * Int.toNat x) 2 = 0 ∧ ∀ d : Int, 0 ≤ d → d < x → σ (162 + 3 * Int.toNat d) 2 ≠ 0)) → fz σ x := fun x hx => by
      have ec : ∀ d : Int, 0 ≤ d → d < 8 → cnt (regR σ d) 4096 = σ (162 + 3 * Int.toNat d) 2 := fun d d0 d1 => PR_cnt (D8 d d0 d1)
      rcases hx with ⟨e, hx⟩ | ⟨x0, x1, x2, x3⟩
      · exact Or.inl ⟨e, fun d d0 d1 => by rw [ec d d0 d1]; exact hx d d0 d1⟩
      · exact Or.inr ⟨x0, x1, (ec x x0 x1).trans x2, fun d d0 d1 => by rw [ec d d0 (by omega)]; exact x3 d d0 d1⟩
    have ref : ∀ (τ : l2_m) (Q : Int → l2_m → Prop), (∀ b j, 186 ≤ b → τ b j = σ b j) → (∀ υ, υ = l2_u τ 186 0 0 → wC B 229 [vr 186, vi set] υ (fun y s => (rg y ∧ (if 0 < y then (∀ t : l2_m, t = trr s y → Q (-1) t) else (wC B 271 [vr 186, vi set] s (fun y' s' => (rg y' ∧ (if y' = (-1) then (∀ t : l2_m, t = trr s' 5 → Q (-1) t) else (wC B 237 [vr 186, vi set, vi 0] s' (fun y'' t => (rg y'' ∧ (if y'' = (-3) then (∀ t' : l2_m, t' = trr t 3 → Q (-1) t') else (if y'' = (-1) then (∀ t' : l2_m, t' = trr t 0 → Q (-2) t') else w272_88 B t y' 0 Q))))))))))))) → wC B 272 [vr 186, vi set] τ Q := by
      intro τ Q kt hQ
      refine o272 ?_
      unfold w272
      intro υ eu
      have hυ : ∀ b j, 186 ≤ b → ¬ (b = 186 ∧ j = 0) → υ b j = σ b j := fun b j z w => (u0_at eu w).trans (kt b j z)
      rw [hυ 186 14 (by decide) (by decide), ht]
      refine ⟨by decide, ?_⟩
      rw [if_neg (by decide)]
      exact hQ υ eu
    have hS : ∀ τ υ : l2_m, (∀ b j, 186 ≤ b → τ b j = σ b j) → υ = l2_u τ 186 0 0 → ∀ b j, 186 ≤ b → ¬ (b = 186 ∧ j = 0) → υ b j = σ b j := fun τ υ kt eu b j z w => (u0_at eu w).trans (kt b j z)
    have badn : ∀ (y x : Int), rg y → 0 < y → (¬ ((1 ≤ set ∧ set ≤ 255)) → y = 2) → ((1 ≤ set ∧ set ≤ 255) → (∃ d : Int, 0 ≤ d ∧ d < 8 ∧ bit set d = 1 ∧ cnt (regR σ d) 4096 = 0) → y = 5) → ((1 ≤ set ∧ set ≤ 255) → (∀ d : Int, 0 ≤ d → d < 8 → bit set d = 1 → cnt (regR σ d) 4096 ≠ 0) → y = 5 ∧ fz σ (-1)) → w139_22 B σ set y x (fun z τ => wC B 272 [vr 186, vi set] τ (fun y' υ => z = y' ∧ CI F υ υ ∧ RWF υ)) := by
      intro y x hy y0 g2 g5 g1
      unfold w139_22
      refine ⟨hy, ?_⟩
      rw [if_neg (by omega)]
      intro τ et
      have kt : ∀ b j, 186 ≤ b → τ b j = σ b j := fun b j z => by rw [et]; exact kt0 σ y fr0 b j z
      refine ref τ _ kt (fun υ eu => r229s hR ht (hS τ υ kt eu) hs (fun w => ⟨by decide, ?_⟩) (fun w v => ⟨by decide, ?_⟩) (fun w v => ⟨by decide, ?_⟩))
      · rw [if_pos (by decide)]
        intro ω ew
        exact ⟨rfl, pair_e hC hR hy et eu (by rw [g2 w]; exact ew)⟩
      · rw [if_pos (by decide)]
        intro ω ew
        exact ⟨rfl, pair_e hC hR hy et eu (by rw [g5 w v]; exact ew)⟩
      · rw [if_neg (by decide)]
        have e187 : ∀ j, υ 187 j = σ 187 j := fun j => hS τ υ kt eu 187 j (by decide) (by omega)
        refine r271 hs e187 (fun q k q0 q1 k0 k1 => by have := b3 q k q0 q1 k0 k1; omega) v (fun z hz => ?_)
        have : z = -1 := fz_uniq hz (g1 w v).2
        subst this
        refine ⟨by decide, ?_⟩
        rw [if_pos rfl]
        intro ω ew
        exact ⟨rfl, pair_e hC hR hy et eu (by rw [(g1 w v).1]; exact ew)⟩
    refine c153 (G := regR σ) (B5.trans ht) hs D8 (fun w => c160 hrg (fun x hx => ⟨by decide, fun z => absurd z (by decide), ?_⟩)) (fun w v => c160 hrg (fun x hx => ⟨by decide, fun z => absurd z (by decide), ?_⟩)) (fun w v => c160 hrg (fun x hx => ⟨by decide, fun _ => ?_, ?_⟩))
    · rw [if_neg (fun z => absurd z.1 (by decide))]
      exact badn 2 x (by decide) (by decide) (fun _ => rfl) (fun z => absurd z w) (fun z => absurd z w)
    · rw [if_neg (fun z => absurd z.1 (by decide))]
      refine badn 5 x (by decide) (by decide) (fun z => absurd w z) (fun _ _ => rfl) (fun _ z => ?_)
      obtain ⟨d, d0, d1, d2, d3⟩ := v
      exact absurd d3 (z d d0 d1 d2)
    · rcases hfz x hx with ⟨z, -⟩ | ⟨z0, z1, -⟩
      · exact ⟨by omega, by omega⟩
      · exact ⟨by omega, by omega⟩
    · have fx := hfz x hx
      by_cases hx1 : x = -1
      · rw [if_pos ⟨rfl, hx1⟩]
        refine badn 5 x (by decide) (by decide) (fun z => absurd w z) (fun _ _ => rfl) (fun _ _ => ⟨rfl, ?_⟩)
        rw [← hx1]; exact fx
      · rw [if_neg (fun z => hx1 z.2)]
        have x0 : 0 ≤ x ∧ x < 8 := by
          rcases fx with ⟨z, -⟩ | ⟨z0, z1, -⟩
          · exact absurd z hx1
          · exact ⟨z0, z1⟩
        have hl := setL_ok hC ht v
        unfold w139_22
        refine ⟨by decide, ?_⟩
        rw [if_pos rfl]
        have go : ∀ (τ : l2_m) (Q : Int → l2_m → Prop), (∀ b j, 186 ≤ b → τ b j = σ b j) → (∀ υ, υ = l2_u τ 186 0 0 → (∀ b j, 186 ≤ b → ¬ (b = 186 ∧ j = 0) → υ b j = σ b j) → wC B 237 [vr 186, vi set, vi 0] υ (fun y'' t => (rg y'' ∧ (if y'' = (-3) then (∀ t' : l2_m, t' = trr t 3 → Q (-1) t') else (if y'' = (-1) then (∀ t' : l2_m, t' = trr t 0 → Q (-2) t') else w272_88 B t x 0 Q))))) → wC B 272 [vr 186, vi set] τ Q := by
          intro τ Q kt hQ
          refine ref τ _ kt (fun υ eu => r229s hR ht (hS τ υ kt eu) hs (fun z => absurd w z) (fun _ z => ?_) (fun _ _ => ⟨by decide, ?_⟩))
          · obtain ⟨d, d0, d1, d2, d3⟩ := z
            exact absurd d3 (v d d0 d1 d2)
          · rw [if_neg (by decide)]
            have e187 : ∀ j, υ 187 j = σ 187 j := fun j => hS τ υ kt eu 187 j (by decide) (by omega)
            refine r271 hs e187 (fun q k q0 q1 k0 k1 => by have := b3 q k q0 q1 k0 k1; omega) v (fun z hz => ?_)
            have ezx : z = x := fz_uniq hz fx
            subst ezx
            refine ⟨⟨by omega, by omega⟩, ?_⟩
            rw [if_neg hx1]
            exact hQ υ eu (hS τ υ kt eu)
        refine c139l hC hR ht fr0 hdo hs hl (fun τ0 k f1 d1 k0 k1 hk hb τ et => ?_) (fun τ0 f1 d1 hb τ et => ?_) (fun τ0 k n s f1 d1 k0 k1 kv hk hk2 hb t4 t5 => ?_)
        · have kt : ∀ b j, 186 ≤ b → τ b j = σ b j := fun b j z => by rw [et]; exact kt0 τ0 3 f1 b j z
          refine go τ _ kt (fun υ eu hυ => r237 hR ht (fun b j z1 z2 z3 z4 => hυ b j z1 (by omega)) hs hl (by decide) (by decide) (fun t m n s t1 m0 m1 mv t2 t3 t4 _ _ => ?_) (fun t t1 t4 => ?_) (fun t m t1 m0 m1 t2 t4 => ⟨by decide, ?_⟩))
          · exfalso
            rcases Int.lt_trichotomy k m with z | z | z
            · exact (t4 k k0 z).1 hk
            · subst z; exact pok_no t2 hk
            · exact (hb m m0 z).2 ⟨mv, n, s, t2, t3⟩
          · exact absurd hk (t4 k k0 k1).1
          · rw [if_pos rfl]
            intro ω ew
            exact ⟨rfl, pair_g hC hR (by decide) (kp τ0 f1) d1 et eu (kr υ t t1) ew⟩
        · have kt : ∀ b j, 186 ≤ b → τ b j = σ b j := fun b j z => by rw [et]; exact kt0 τ0 0 f1 b j z
          refine go τ _ kt (fun υ eu hυ => r237 hR ht (fun b j z1 z2 z3 z4 => hυ b j z1 (by omega)) hs hl (by decide) (by decide) (fun t m n s t1 m0 m1 mv t2 t3 t4 _ _ => ?_) (fun t t1 t4 => ⟨by decide, ?_⟩) (fun t m t1 m0 m1 t2 t4 => ?_))
          · exact absurd ⟨mv, n, s, t2, t3⟩ (hb m m0 m1).2
          · rw [if_neg (by decide), if_pos rfl]
            intro ω ew
            exact ⟨rfl, pair_g hC hR (by decide) (kp τ0 f1) d1 et eu (kr υ t t1) ew⟩
          · exact absurd t2 (hb m m0 m1).1
        · obtain ⟨B1, B2, B3, B4, B5', B6⟩ := hC.1
          have k32 : ∀ j, τ0 32 j = σ 32 j := fun j => f1 32 j (by omega) (by omega) (by omega) (by omega)
          have hC1 : CI F τ0 σ := CI_cg hC (fun b j z => kp τ0 f1 b j (Or.inl z)) d1 (fun _ _ _ _ => rfl) (by rw [k32]; exact B2) (by rw [k32]; exact B4)
          have h60 : cnt s.2.1 4096 ≤ 60 := by rw [PR_cnt t4]; exact t4.2.1
          refine c164 hC1 hR ht (show isPb 76 = true from rfl) (Or.inl (by decide)) t4 x0.1 x0.2 (fun τ1 y1 y2 τ et => ?_)
          have kt : ∀ b j, 186 ≤ b → τ b j = σ b j := fun b j z => by
            rw [et, trb_at, if_neg (by omega), if_neg (by omega), y1 b j z]; exact f1 b j (by omega) (by omega) (by omega) (by omega)
          have hL : ∀ A', LayR σ A' x s.2.1 → CI F τ A' := fun A' hA => by
            have hc := y2 A' hA
            obtain ⟨q1, q2, q3, q4, q5⟩ := trb_c τ1 0
            rw [← et] at q1 q2 q3 q4 q5
            refine CI_cg hc (fun b j z => q1 b j (Or.inl z)) (q2 hc.2.2.2.2.1) (fun _ _ _ _ => rfl) ?_ ?_
            · rw [q3, hA.2.2.2.1]
            · rw [q4, hA.2.2.2.2]
          refine go τ _ kt (fun υ eu hυ => r237 hR ht (fun b j z1 z2 z3 z4 => hυ b j z1 (by omega)) hs hl (by decide) (by decide) (fun t m n' s' t1 m0 m1 mv t2 t3 t4' t5' t6 => ⟨⟨by omega, by omega⟩, ?_⟩) (fun t t1 t4' => ?_) (fun t m t1 m0 m1 t2 t4' => ?_))
          · have ekm : k = m := by
              rcases Int.lt_trichotomy k m with z | z | z
              · exact absurd ⟨kv, n, s, hk, hk2⟩ (t4' k k0 z).2
              · exact z
              · exact absurd ⟨mv, n', s', t2, t3⟩ (hb m m0 z).2
            subst ekm
            obtain ⟨-, es⟩ := dOK_uniq hk.2 t2.2
            subst es
            rw [if_neg (by omega), if_neg (by omega)]
            refine r272l ?_
            intro r z1 z2 z3
            have e0 : ∀ b j, 186 ≤ b → b < 204 → (b < 191 ∨ 198 < b) → ¬ (b = 186 ∧ (j = 0 ∨ j = 29 ∨ j = 1 ∨ j = 2 ∨ (36 ≤ j ∧ j ≤ 39))) → r b j = σ b j := fun b j q1 q2 q3 q4 => by
              rw [z1 b j (by omega) (by omega), t1 b j (by omega) (by omega) (by omega)]; exact hυ b j q1 (by omega)
            have e1 : ∀ b j, b < 186 → r b j = τ b j := fun b j q => by
              rw [z1 b j (by omega) (by omega), t1 b j (by omega) (by omega) (by omega)]; exact u0_at eu (by omega)
            have e2 : ∀ j : Int, 0 ≤ j → j < 4096 → r 192 j = s.2.1 j := fun j j0 j1 => by rw [z2 j j0 j1]; exact t5'.2.1 j j0 j1
            refine wC.mono (lay_r2 hR ht x0.1 x0.2 hL e0 e1 z3 e2 t5.2.1 h60) (fun y ω hy ω' ew => ?_)
            obtain ⟨-, w2, w3, w4, w5⟩ := hy
            exact ⟨rfl, trr_id w2 w3 w4 w5 ew⟩
          · exact absurd ⟨kv, n, s, hk, hk2⟩ (t4' k k0 k1).2
          · exfalso
            rcases Int.lt_trichotomy k m with z | z | z
            · exact (t4' k k0 z).2 ⟨kv, n, s, hk, hk2⟩
            · subst z; exact pok_no hk t2
            · exact (hb m m0 z).1 t2
  · have ht0 : σ 186 14 = 0 := h01.resolve_right ht
    obtain ⟨N1, N2⟩ := hC.2.2.1 ht0
    refine c153n (B5.trans ht0) (c160 (fun d d0 d1 => by rw [N2 d d0 d1]; decide) (fun x hx => ⟨by decide, fun z => absurd z (by decide), ?_⟩))
    rw [if_neg (fun z => absurd z.1 (by decide))]
    unfold w139_22
    refine ⟨by decide, ?_⟩
    rw [if_neg (by decide)]
    intro τ et
    refine o272 ?_
    unfold w272
    intro υ eu
    rw [via et eu (by decide) (by decide), ht0]
    refine ⟨by decide, ?_⟩
    rw [if_pos rfl]
    intro ω ew
    exact ⟨rfl, pair_e hC hR (by decide) et eu ew⟩
