/-! ===== divide on the class's side ===== -/
noncomputable def lkF (W f : Int → Int) : Int := @dite Int (∃ k : Int, isLead W f k) (Classical.propDecidable _) (fun h => h.choose) (fun _ => 0)
theorem lkF_ok {W f : Int → Int} {k : Int} (h : isLead W f k) : isLead W f (lkF W f) := by
  have hx : ∃ k : Int, isLead W f k := ⟨k, h⟩
  unfold lkF
  rw [dif_pos hx]
  exact hx.choose_spec
theorem c161 {F : l2_m → Prop} {B : va_E} {σ : l2_m} {K : Int → l2_m → Prop} {r set : Int} (hC : CI F σ σ) (hR : RWF σ) (ht : σ 186 14 = 1) (r0 : 0 ≤ r) (r1 : r < 8) (hs : rg set) (h2 : ¬ (1 ≤ set ∧ set ≤ 255) → K 2 σ) (h5 : (1 ≤ set ∧ set ≤ 255) → (∃ d : Int, 0 ≤ d ∧ d < 8 ∧ bit set d = 1 ∧ cnt (regR σ d) 4096 = 0) → K 5 σ) (h1 : ∀ (τ : l2_m) (n : Nat) (s : dst), (1 ≤ set ∧ set ≤ 255) → (∀ d : Int, 0 ≤ d → d < 8 → bit set d = 1 → cnt (regR σ d) 4096 ≠ 0) → (∀ d : Int, 0 ≤ d → d < 8 → bit set d = 1 → isLead (ordA σ) (regR σ d) (lkF (ordA σ) (regR σ d))) → frD σ τ → dvO τ → dOK (σ 186 5) (ordA σ) set (regR σ) (fun d => lkF (ordA σ) (regR σ d)) (fun d => ivp (σ 186 5) (regR σ d (lkF (ordA σ) (regR σ d)))) (regR σ r) n s → PR τ 76 (ordA σ) s.2.1 → (∀ d : Int, 0 ≤ d → d < 8 → PR τ (85 + 3 * Int.toNat d) (ordA σ) (s.2.2.1 d)) → τ 74 5 = n → τ 74 6 = s.2.2.2 → dGood (σ 186 5) (ordA σ) (fun d => lkF (ordA σ) (regR σ d)) s → K 0 τ) (h3 : ∀ τ : l2_m, (1 ≤ set ∧ set ≤ 255) → (∀ d : Int, 0 ≤ d → d < 8 → bit set d = 1 → cnt (regR σ d) 4096 ≠ 0) → (∀ d : Int, 0 ≤ d → d < 8 → bit set d = 1 → isLead (ordA σ) (regR σ d) (lkF (ordA σ) (regR σ d))) → frD σ τ → dvO τ → dNO (σ 186 5) (ordA σ) set (regR σ) (fun d => lkF (ordA σ) (regR σ d)) (fun d => ivp (σ 186 5) (regR σ d (lkF (ordA σ) (regR σ d)))) (regR σ r) → K 3 τ) : wC B 161 [vr 32, vi r, vi set] σ K := by
  obtain ⟨b1, b2, b3, b4, b5, b6⟩ := hR.2.2.2.2.2.2.2.2.2 ht
  obtain ⟨D1, D2, D3, D4, D5, D6, D7, D8⟩ := hC.2.1 ht
  have B5 := hC.1.2.2.2.2.1
  have hdo := hC.2.2.2.2.1
  obtain ⟨p2, p97, -⟩ := pr_rest _ b1
  refine o161 ?_
  unfold w161
  refine c153 (G := regR σ) (B5.trans ht) hs D8 (fun w => ⟨by decide, ?_⟩) (fun w v => ⟨by decide, ?_⟩) (fun w v => ⟨by decide, ?_⟩)
  · rw [if_neg (by decide)]; exact h2 w
  · rw [if_neg (by decide)]; exact h5 w v
  · rw [if_pos rfl]
    refine ⟨⟨r0, r1⟩, ?_⟩
    have hl : ∀ d : Int, 0 ≤ d → d < 8 → bit set d = 1 → isLead (ordA σ) (regR σ d) (lkF (ordA σ) (regR σ d)) := fun d d0 d1 db => by
      have hf := D8 d d0 d1
      have hc := v d d0 d1 db
      have e0 := hf.1
      have ec := PR_cnt hf
      obtain ⟨k, k0, k1, k2, k3, k4, k5⟩ := PR_lead hf (by omega)
      exact lkF_ok ⟨k0, k1, k4, k5⟩
    have hdv : dvOK (σ 186 5) (ordA σ) set (regR σ) (fun d => lkF (ordA σ) (regR σ d)) (fun d => ivp (σ 186 5) (regR σ d (lkF (ordA σ) (regR σ d)))) := fun d d0 d1 => ⟨fun k k0 k1 => b3 d k d0 d1 k0 k1, fun db => by
      have hd := hl d d0 d1 db
      obtain ⟨q0, q1, q2, q3⟩ := id hd
      have hr := b3 d _ d0 d1 q0 q1
      have hp : 0 < regR σ d (lkF (ordA σ) (regR σ d)) := by
        have : 0 ≤ regR σ d (lkF (ordA σ) (regR σ d)) := hr.1
        omega
      exact ⟨hd, ivp_ok b1 hp hr.2⟩⟩
    refine c45 (p := σ 186 5) (G := regR σ) (isP_reg r0 r1) (by omega) (wt_ok _ _ _) hs D1 p2 p97 D2 hdo (D8 r r0 r1) (fun l l0 l1 => b3 r l r0 r1 l0 l1) D8 hdv (fun τ n s t1 t2 t3 t4 t5 t6 t7 t8 => ⟨by decide, ?_⟩) (fun τ t1 t2 t3 => ⟨by decide, ?_⟩)
    · rw [if_neg (by decide)]
      exact h1 τ n s w v hl t1 t2 t3 t4 t5 t6 t7 t8
    · rw [if_pos rfl]
      exact h3 τ w v hl t1 t2 t3
