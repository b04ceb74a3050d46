/-! ===== pairs divided by a set: the class's side and the reference's ===== -/
def frE (σ τ : l2_m) : Prop := ∀ b j, (b < 74 ∨ 108 < b) → b ≠ 159 → b ≠ 160 → b ≠ 161 → τ b j = σ b j
noncomputable def lkA (σ : l2_m) (d : Int) : Int := lkF (ordA σ) (regR σ d)
noncomputable def ivA (σ : l2_m) (d : Int) : Int := ivp (σ 186 5) (regR σ d (lkF (ordA σ) (regR σ d)))
noncomputable def sgF (σ : l2_m) (a b : Int) : Int → Int := mixF (σ 186 5) (ivA σ a) (lcmK (lkA σ a) (lkA σ b) - lkA σ a) (regR σ a) (σ 186 5 - ivA σ b) (lcmK (lkA σ a) (lkA σ b) - lkA σ b) (regR σ b)
def sgN (σ : l2_m) (a b : Int) : Prop := (∃ k : Int, 0 ≤ k ∧ k < 4096 ∧ regR σ a k ≠ 0 ∧ ¬ noO k (lcmK (lkA σ a) (lkA σ b) - lkA σ a)) ∨ (∃ k : Int, 0 ≤ k ∧ k < 4096 ∧ regR σ b k ≠ 0 ∧ ¬ noO k (lcmK (lkA σ a) (lkA σ b) - lkA σ b)) ∨ 60 < cnt (sgF σ a b) 4096
def pOK (σ : l2_m) (set a b : Int) (n : Nat) (s : dst) : Prop := ¬ sgN σ a b ∧ dOK (σ 186 5) (ordA σ) set (regR σ) (lkA σ) (ivA σ) (sgF σ a b) n s
def pNO (σ : l2_m) (set a b : Int) : Prop := sgN σ a b ∨ dNO (σ 186 5) (ordA σ) set (regR σ) (lkA σ) (ivA σ) (sgF σ a b)
theorem pOK_NO {σ : l2_m} {set a b : Int} {n : Nat} {s : dst} (h : pOK σ set a b n s) (h' : pNO σ set a b) : False := by
  rcases h' with w | w
  · exact h.1 w
  · exact dOK_NO h.2 w
def setL (σ : l2_m) (set : Int) : Prop := ∀ d : Int, 0 ≤ d → d < 8 → bit set d = 1 → isLead (ordA σ) (regR σ d) (lkA σ d)
theorem setL_ok {F : l2_m → Prop} {σ : l2_m} {set : Int} (hC : CI F σ σ) (ht : σ 186 14 = 1) (v : ∀ d : Int, 0 ≤ d → d < 8 → bit set d = 1 → cnt (regR σ d) 4096 ≠ 0) : setL σ set := fun d d0 d1 db => by
  obtain ⟨-, -, -, -, -, -, -, D8⟩ := hC.2.1 ht
  have hf := D8 d d0 d1
  have hc := v d d0 d1 db
  have e0 := hf.1
  have ec := PR_cnt hf
  obtain ⟨k, k0, k1, k2, k3, k4, k5⟩ := PR_lead hf (by omega)
  exact lkF_ok ⟨k0, k1, k4, k5⟩
theorem dvOK_A {σ : l2_m} {set : Int} (hR : RWF σ) (ht : σ 186 14 = 1) (hl : setL σ set) : dvOK (σ 186 5) (ordA σ) set (regR σ) (lkA σ) (ivA σ) := fun d d0 d1 => by
  obtain ⟨b1, b2, b3, b4, b5, b6⟩ := hR.2.2.2.2.2.2.2.2.2 ht
  refine ⟨fun k k0 k1 => b3 d k d0 d1 k0 k1, fun db => ?_⟩
  have hd := hl d d0 d1 db
  obtain ⟨q0, q1, q2, q3⟩ := id hd
  have hr := b3 d _ d0 d1 q0 q1
  have hp : 0 < regR σ d (lkA σ d) := by
    have : 0 ≤ regR σ d (lkA σ d) := hr.1
    omega
  exact ⟨hd, ivp_ok b1 hp hr.2⟩
theorem c162 {F : l2_m → Prop} {B : va_E} {σ σ1 : l2_m} {K : Int → l2_m → Prop} {set x y : Int} (hC : CI F σ σ) (hR : RWF σ) (ht : σ 186 14 = 1) (fr : frE σ σ1) (hdo : dvO σ1) (x0 : 0 ≤ x) (x1 : x < 8) (y0 : 0 ≤ y) (y1 : y < 8) (hs : rg set) (bx : bit set x = 1) (by1 : bit set y = 1) (hl : setL σ set) (h1 : ∀ (τ : l2_m) (n : Nat) (s : dst), frE σ τ → dvO τ → pOK σ set x y n s → PR τ 76 (ordA σ) s.2.1 → dGood (σ 186 5) (ordA σ) (lkA σ) s → K 1 τ) (h0 : ∀ τ : l2_m, frE σ τ → dvO τ → pNO σ set x y → K 0 τ) : wC B 162 [vr 32, vi x, vi y, vi set] σ1 K := by
  obtain ⟨b1, b2, b3, b4, b5, b6⟩ := hR.2.2.2.2.2.2.2.2.2 ht
  obtain ⟨D1, D2, D3, D4, D5, D6, D7, D8⟩ := hC.2.1 ht
  obtain ⟨p2, p97, -⟩ := pr_rest _ b1
  have lo : ∀ b j, b < 74 → σ1 b j = σ b j := fun b j z => fr b j (by omega) (by omega) (by omega) (by omega)
  have G1 : ∀ d : Int, 0 ≤ d → d < 8 → PR σ1 (162 + 3 * Int.toNat d) (ordA σ) (regR σ d) := fun d d0 d1 => PR_congr (D8 d d0 d1) (fr _ _ (by omega) (by omega) (by omega) (by omega)) (fun i _ _ => fr _ _ (by omega) (by omega) (by omega) (by omega)) (fun i _ _ => fr _ _ (by omega) (by omega) (by omega) (by omega))
  have inv1 : invOK σ1 34 (σ 186 5) := fun z z0 z1 => by rw [lo 35 z (by decide)]; exact D2 z z0 z1
  have fa := G1 x x0 x1
  have fb := G1 y y0 y1
  obtain ⟨la0, la1, la2, la3⟩ := id (hl x x0 x1 bx)
  obtain ⟨lb0, lb1, lb2, lb3⟩ := id (hl y y0 y1 by1)
  have na := PR_cnt fa
  have nb := PR_cnt fb
  have ca : cnt (regR σ x) 4096 ≠ 0 := fun w => la2 (cnt_zero w la0 la1)
  have cb : cnt (regR σ y) 4096 ≠ 0 := fun w => lb2 (cnt_zero w lb0 lb1)
  have a0 := fa.1
  have c0 := fb.1
  obtain ⟨ka, ka0, ka1, ka2, ka3, ka4, ka5⟩ := PR_lead fa (by omega)
  obtain ⟨kb, kb0, kb1, kb2, kb3, kb4, kb5⟩ := PR_lead fb (by omega)
  have ea : ka = lkA σ x := isLead_uniq ⟨ka0, ka1, ka4, ka5⟩ (hl x x0 x1 bx)
  have eb : kb = lkA σ y := isLead_uniq ⟨kb0, kb1, kb4, kb5⟩ (hl y y0 y1 by1)
  rw [ea] at ka2
  rw [eb] at kb2
  have ra := b3 x _ x0 x1 la0 la1
  have rb := b3 y _ y0 y1 lb0 lb1
  have pa : 0 < regR σ x (lkA σ x) := by
    have q1 : 0 ≤ regR σ x (lkA σ x) := ra.1
    omega
  have pb : 0 < regR σ y (lkA σ y) := by
    have q1 : 0 ≤ regR σ y (lkA σ y) := rb.1
    omega
  have ia : σ1 35 (regR σ x (lkA σ x)) = ivA σ x := invOK_ivp (q := 34) inv1 pa ra.2
  have ib : σ1 35 (regR σ y (lkA σ y)) = ivA σ y := invOK_ivp (q := 34) inv1 pb rb.2
  refine o162 ?_
  unfold w162
  refine ⟨⟨x0, x1, y0, y1⟩, ?_⟩
  refine c8 (p := σ 186 5) (ka := lkA σ x) (kb := lkA σ y) (isP_reg x0 x1) (isP_reg y0 y1) (show isPb 159 = true from rfl) (by omega) (by omega) (wt_ok _ _ _) (by rw [lo 34 0 (by decide)]; exact D1) p2 p97 (fun v v0 v1 => by rw [lo 37 v (by decide)]; exact D7 v v0 v1) inv1 fa fb (fun j j0 j1 => b3 x j x0 x1 j0 j1) (fun j j0 j1 => b3 y j y0 y1 j0 j1) (by omega) (by omega) la0 la1 ka2 lb0 lb1 kb2 (fun σ2 t1 t2 t3 t4 => ⟨by decide, ?_⟩) (fun σ2 t1 t2 => ⟨by decide, ?_⟩)
  · rw [ia, ib] at t4
    rw [if_neg (by decide)]
    have lo2 : ∀ b j, b < 74 → σ2 b j = σ b j := fun b j z => (t1 b j (by omega) (by omega) (by omega)).trans (lo b j z)
    have fr2 : frE σ σ2 := fun b j z w1 w2 w3 => (t1 b j w1 w2 w3).trans (fr b j z w1 w2 w3)
    have hdo2 : dvO σ2 := by unfold dvO; rw [t1 74 3 (by decide) (by decide) (by decide), t1 74 4 (by decide) (by decide) (by decide)]; exact hdo
    have hno : ¬ sgN σ x y := by
      rintro (⟨k, k0, k1, k2, k3⟩ | ⟨k, k0, k1, k2, k3⟩ | w)
      · exact k3 (t2 k k0 k1 k2)
      · exact k3 (t3 k k0 k1 k2)
      · have e1 := PR_cnt t4
        have e2 := t4.2.1
        have e3 : cnt (sgF σ x y) 4096 ≤ 60 := Int.le_trans (Int.le_of_eq e1) e2
        omega
    refine c45 (p := σ 186 5) (G := regR σ) (lk := lkA σ) (iv := ivA σ) (f := sgF σ x y) (show isPb 159 = true from rfl) (by decide) (wt_ok _ _ _) hs (by rw [lo2 34 0 (by decide)]; exact D1) p2 p97 (fun z z0 z1 => by rw [lo2 35 z (by decide)]; exact D2 z z0 z1) hdo2 t4 (fun l _ _ => ⟨Int.emod_nonneg _ (by omega), Int.emod_lt_of_pos _ (by omega)⟩) (fun d d0 d1 => PR_congr (D8 d d0 d1) (fr2 _ _ (by omega) (by omega) (by omega) (by omega)) (fun i _ _ => fr2 _ _ (by omega) (by omega) (by omega) (by omega)) (fun i _ _ => fr2 _ _ (by omega) (by omega) (by omega) (by omega))) (dvOK_A hR ht hl) (fun τ n s v1 v2 v3 v4 v5 v6 v7 v8 => ⟨by decide, ?_⟩) (fun τ v1 v2 v3 => ⟨by decide, ?_⟩)
    · rw [if_neg (by decide)]
      exact h1 τ n s (fun b j z w1 w2 w3 => (v1 b j z).trans (fr2 b j z w1 w2 w3)) v2 ⟨hno, v3⟩ v4 v8
    · rw [if_pos rfl]
      exact h0 τ (fun b j z w1 w2 w3 => (v1 b j z).trans (fr2 b j z w1 w2 w3)) v2 (Or.inr v3)
  · rw [ia, ib] at t2
    rw [if_pos rfl]
    refine h0 σ2 (fun b j z w1 w2 w3 => (t1 b j w1 w2 w3).trans (fr b j z w1 w2 w3)) ?_ (Or.inl t2)
    unfold dvO; rw [t1 74 3 (by decide) (by decide) (by decide), t1 74 4 (by decide) (by decide) (by decide)]; exact hdo
/-! the pairs by their numbers 8 x + y -/
def prV (set i : Int) : Prop := i / 8 < i % 8 ∧ bit set (i / 8) = 1 ∧ bit set (i % 8) = 1
def nzi (σ : l2_m) (set i : Int) : Prop := prV set i ∧ ∃ (n : Nat) (s : dst), pOK σ set (i / 8) (i % 8) n s ∧ cnt s.2.1 4096 ≠ 0
def noi (σ : l2_m) (set i : Int) : Prop := prV set i ∧ pNO σ set (i / 8) (i % 8)
noncomputable def nzc (σ : l2_m) (set i : Int) : Int := @ite Int (nzi σ set i) (Classical.propDecidable _) 1 0
theorem nzc_1 {σ : l2_m} {set i : Int} (h : nzi σ set i) : nzc σ set i = 1 := if_pos h
theorem nzc_0 {σ : l2_m} {set i : Int} (h : ¬ nzi σ set i) : nzc σ set i = 0 := if_neg h
theorem sumN_skip {f : Int → Int} {m : Nat} : ∀ (d : Nat), (∀ j : Int, m ≤ j → j < m + d → f j = 0) → sumN f (m + d) = sumN f m
  | 0, _ => rfl
  | d + 1, h => by
    show sumN f (m + d) + f ((m + d : Nat) : Int) = sumN f m
    rw [sumN_skip d (fun j a b => h j a (by omega)), h ((m + d : Nat) : Int) (by omega) (by omega)]
    omega
theorem sumN_skipI {f : Int → Int} {m n : Int} (m0 : 0 ≤ m) (mn : m ≤ n) (h : ∀ j : Int, m ≤ j → j < n → f j = 0) : sumN f n.toNat = sumN f m.toNat := by
  obtain ⟨d, hd⟩ : ∃ d : Nat, n.toNat = m.toNat + d := ⟨n.toNat - m.toNat, by omega⟩
  rw [hd]
  exact sumN_skip d (fun j a b => h j (by omega) (by omega))
/-- a pair that is fine leaves nothing -/
theorem pok_nz {σ : l2_m} {set i : Int} {n : Nat} {s : dst} (h : pOK σ set (i / 8) (i % 8) n s) (hz : cnt s.2.1 4096 = 0) : ¬ nzi σ set i := by
  rintro ⟨-, m, t, t1, t2⟩
  obtain ⟨-, e⟩ := dOK_uniq h.2 t1.2
  subst e
  exact t2 hz
theorem pok_no {σ : l2_m} {set i : Int} {n : Nat} {s : dst} (h : pOK σ set (i / 8) (i % 8) n s) : ¬ noi σ set i := fun w => pOK_NO h w.2
section MC
variable {F : l2_m → Prop} {B : va_E} {σ σ1 : l2_m} {K : Int → l2_m → Prop} {set : Int}
theorem c124l (hC : CI F σ σ) (hR : RWF σ) (ht : σ 186 14 = 1) (fr : frE σ σ1) (hdo : dvO σ1) (hs : rg set) (hl : setL σ set) (h3 : ∀ τ, frE σ τ → dvO τ → (∃ i : Int, 0 ≤ i ∧ i < 64 ∧ noi σ set i) → ∀ υ, υ = trb τ 3 → K (-1) υ) (h0 : ∀ τ, frE σ τ → dvO τ → (∀ i : Int, 0 ≤ i → i < 64 → ¬ noi σ set i) → ∀ υ, υ = trb τ 0 → K (sumN (nzc σ set) 64) υ) : w124_21 B σ1 set 0 0 K := by
  unfold w124_21
  refine lz3_inv (fun (c x : Int) s => 0 ≤ x ∧ x ≤ 8 ∧ c = sumN (nzc σ set) (8 * x).toNat ∧ (∀ i : Int, 0 ≤ i → i < 8 * x → ¬ noi σ set i) ∧ frE σ s ∧ dvO s) (fun _ x _ => 8 - x) ?_ ⟨by decide, by decide, rfl, fun i i0 i1 => by omega, fr, hdo⟩
  intro X c x s hX ⟨x0, x1, hc, hn, hf, hd⟩
  refine ⟨⟨by omega, by omega⟩, ?_⟩
  by_cases hx : x < 8
  · rw [if_pos hx]
    intro y0' ey0
    unfold w124_34
    refine lz3_inv (fun (c y : Int) s => x + 1 ≤ y ∧ y ≤ 8 ∧ c = sumN (nzc σ set) (8 * x + y).toNat ∧ (∀ i : Int, 0 ≤ i → i < 8 * x + y → ¬ noi σ set i) ∧ frE σ s ∧ dvO s) (fun _ y _ => 8 - y) ?_ ⟨by omega, by omega, ?_, fun i i0 i1 => ?_, hf, hd⟩
    · intro Y c y s hY ⟨y1, y2, hc, hn, hf, hd⟩
      refine ⟨⟨by omega, by omega⟩, ?_⟩
      by_cases hy : y < 8
      · rw [if_pos hy]
        have e8 : (8 * x + y) / 8 = x := by omega
        have e9 : (8 * x + y) % 8 = y := by omega
        have e10 : 8 * x + (y + 1) = (8 * x + y) + 1 := by omega
        refine ⟨⟨hs, x0, by omega⟩, fun _ => ⟨by omega, by omega⟩, ?_⟩
        have next : ∀ (c' : Int) (s' : l2_m), c' = c + nzc σ set (8 * x + y) → ¬ noi σ set (8 * x + y) → frE σ s' → dvO s' → Y c' (y + 1) s' := fun c' s' ec no' f' d' => by
          refine hY c' (y + 1) s' ⟨by omega, by omega, ?_, fun i i0 i1 => ?_, f', d'⟩ (by omega)
          · rw [e10, sumN_step (by omega), ec, hc]
          · by_cases hi : i = 8 * x + y
            · rw [hi]; exact no'
            · exact hn i i0 (by omega)
        by_cases hb : bit set x = 1 ∧ bit set y = 1
        · rw [if_pos hb]
          have hv : prV set (8 * x + y) := by unfold prV; rw [e8, e9]; exact ⟨by omega, hb⟩
          refine c162 hC hR ht hf hd x0 hx (by omega) hy hs hb.1 hb.2 hl (fun τ n t t1 t2 t3 t4 t5 => ⟨by decide, ?_⟩) (fun τ t1 t2 t3 => ⟨by decide, ?_⟩)
          · rw [if_neg (by decide)]
            have q0 := t4.1
            have q1 := t4.2.1
            have qc := PR_cnt t4
            have t3' : pOK σ set ((8 * x + y) / 8) ((8 * x + y) % 8) n t := by rw [e8, e9]; exact t3
            refine ⟨⟨by omega, by omega⟩, ?_⟩
            by_cases hz : 0 < τ 76 2
            · rw [if_pos hz]
              intro c' ec
              exact next c' τ (by rw [nzc_1 ⟨hv, n, t, t3', by omega⟩]; exact ec) (pok_no t3') t1 t2
            · rw [if_neg hz]
              intro c' ec
              exact next c' τ (by rw [nzc_0 (pok_nz t3' (by omega))]; exact ec) (pok_no t3') t1 t2
          · rw [if_pos rfl]
            exact h3 τ t1 t2 ⟨8 * x + y, by omega, by omega, hv, by rw [e8, e9]; exact t3⟩
        · rw [if_neg hb]
          have hv : ¬ prV set (8 * x + y) := by unfold prV; rw [e8, e9]; exact fun w => hb w.2
          exact next c s (by rw [nzc_0 (fun w => hv w.1)]; omega) (fun w => hv w.1) hf hd
      · rw [if_neg hy]
        have ey : y = 8 := by omega
        subst ey
        have e11 : 8 * (x + 1) = 8 * x + 8 := by omega
        exact hX c (x + 1) s ⟨by omega, by omega, by rw [e11]; exact hc, fun i i0 i1 => hn i i0 (by omega), hf, hd⟩ (by omega)
    · rw [hc]
      refine (sumN_skipI (by omega) (by omega) (fun j j0 j1 => nzc_0 (fun w => ?_))).symm
      have := w.1.1
      omega
    · by_cases hi : i < 8 * x
      · exact hn i i0 hi
      · intro w
        have := w.1.1
        omega
  · rw [if_neg hx]
    have ex : x = 8 := by omega
    subst ex
    rw [hc]
    exact h0 s hf hd hn
end MC
