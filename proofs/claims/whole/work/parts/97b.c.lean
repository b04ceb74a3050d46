/-! ===== polynomials, rings, lines ===== -/
section PG
variable (T : Int → Int) (n : Int)
noncomputable def plyL (p : Int) : Nat → Int → Int → (Int → Int) → Int × Int × (Int → Int)
  | 0, s, _, g => (0, s, g)
  | f + 1, s, neg, g => if (trm T n s).1 ≠ 0 then ((trm T n s).1, (trm T n s).2.1, g) else if sgS T n (trm T n s).2.1 43 ∨ sgS T n (trm T n s).2.1 45 then (if f = 0 then (5, tA T n (trm T n s).2.1, g) else plyL p f (tE T n (trm T n s).2.1) (if sgS T n (trm T n s).2.1 45 then 1 else 0) (accF p neg (trm T n s).2.2.2 (trm T n s).2.2.1 g)) else (0, (trm T n s).2.1, accF p neg (trm T n s).2.2.2 (trm T n s).2.2.1 g)
noncomputable def ply (p s : Int) : Int × Int × (Int → Int) := if sgS T n (tE T n s) 45 then plyL T n p 12 (tE T n (tE T n s)) 1 (fun _ => 0) else plyL T n p 12 (tE T n s) 0 (fun _ => 0)
noncomputable def rngU (p h s : Int) : Int × Int × Int × Int × Int × Int := if unkF T n s = -1 then (1, tA T n s, 0, 0, 0, 0) else if unkF T n (tE T n s) = -1 then (1, tA T n (tE T n s), 0, 0, 0, 0) else if unkF T n (tE T n s) = unkF T n s then (3, tA T n (tE T n s), 0, 0, 0, 0) else if unkF T n (tE T n (tE T n s)) = -1 then (1, tA T n (tE T n (tE T n s)), 0, 0, 0, 0) else if unkF T n (tE T n (tE T n s)) = unkF T n s ∨ unkF T n (tE T n (tE T n s)) = unkF T n (tE T n s) then (3, tA T n (tE T n (tE T n s)), 0, 0, 0, 0) else (0, tE T n (tE T n (tE T n s)), p, h, unkF T n s, unkF T n (tE T n s))
noncomputable def rngH (s : Int) : Int := if wdF T n s (l2_tx 7) then 0 else if wdF T n s (l2_tx 8) then 1 else if wdF T n s (l2_tx 9) then 2 else -1
noncomputable def rng2 (p s : Int) : Int × Int × Int × Int × Int × Int := if wdF T n s (l2_tx 6) then (if rngH T n (tE T n s) = -1 then (1, tA T n (tE T n s), 0, 0, 0, 0) else rngU T n p (rngH T n (tE T n s)) (tE T n (tE T n s))) else (1, tA T n s, 0, 0, 0, 0)
noncomputable def rng1 (s : Int) : Int × Int × Int × Int × Int × Int := if tK T n s = 2 then (if isPr (tV T n s) then rng2 T n (tV T n s) (tE T n s) else (2, tA T n s, 0, 0, 0, 0)) else (1, tA T n s, 0, 0, 0, 0)
noncomputable def rng (s : Int) : Int × Int × Int × Int × Int × Int := if wdF T n (tE T n s) (l2_tx 5) then rng1 T n (tE T n (tE T n s)) else (1, tA T n (tE T n s), 0, 0, 0, 0)
abbrev rdT : Type := Int × Int × Int × Int × Int × Int × Int × (Int → Int → Int)
def rdX (f a : Int) : rdT := (f, a, 0, 0, 0, 0, 0, fun _ _ => 0)
noncomputable def rdE (go : Int → Int → Int → Int → Int → Int → (Int → Int → Int) → rdT) (s p h a b c : Int) (G : Int → Int → Int) : rdT := if tK T n s = 0 then (0, s, p, h, a, b, c, G) else if sgS T n s 59 then go (tE T n s) p h a b c G else rdX 1 (tA T n s)
noncomputable def rdL : Nat → Int → Int → Int → Int → Int → Int → (Int → Int → Int) → rdT
  | 0 => fun s _ _ _ _ _ _ => rdX 1 s
  | f + 1 => fun s p h a b c G => if wdF T n s (l2_tx 3) then (if p ≠ 0 then rdX 3 (tA T n s) else if (rng T n s).1 ≠ 0 then rdX (rng T n s).1 (rng T n s).2.1 else rdE T n (rdL f) (rng T n s).2.1 (rng T n s).2.2.1 (rng T n s).2.2.2.1 (rng T n s).2.2.2.2.1 (rng T n s).2.2.2.2.2 c G) else if wdF T n s (l2_tx 4) then (if p = 0 then rdX 6 (tA T n s) else if 6 ≤ c then rdX 5 (tA T n s) else if (ply T n p s).1 ≠ 0 then rdX (ply T n p s).1 (ply T n p s).2.1 else rdE T n (rdL f) (ply T n p s).2.1 p h a b (c + 1) (fun i => if i = c then (ply T n p s).2.2 else G i)) else rdX 1 (tA T n s)
end PG
section CP2
variable {B : va_E} {T : Int → Int} {n s : Int} {σ : l2_m} {K : Int → l2_m → Prop}
def frPo (o : Nat) (σ τ : l2_m) : Prop := ∀ b j, b ≠ o → b ≠ o + 1 → b ≠ o + 2 → ¬ (b = 49 ∧ (j = 4 ∨ j = 5 ∨ j = 8 ∨ (10 ≤ j ∧ j ≤ 12))) → τ b j = σ b j
theorem frPo_T {o : Nat} {τ υ : l2_m} (h : frPo o σ τ) (h' : frTk τ υ) : frPo o σ υ := fun b j z1 z2 z3 z4 => (h' b j (by omega)).trans (h b j z1 z2 z3 z4)
theorem frPo_t {o : Nat} {τ υ : l2_m} (h : frPo o σ τ) (h' : frPo o τ υ) : frPo o σ υ := fun b j z1 z2 z3 z4 => (h' b j z1 z2 z3 z4).trans (h b j z1 z2 z3 z4)
theorem c98l {W g : Int → Int} {o : Nat} {p neg s' : Int} {t : l2_m} (ho : isP o) (ho6 : 56 ≤ o ∧ o < 72) (hW : okW W) (hn : neg = 0 ∨ neg = 1) (hp : σ 50 0 = p) (p2 : 2 ≤ p) (p97 : p ≤ 97) (hU : ∀ u : Int, 0 ≤ u → u < 3 → σ 53 u = UW W u) (hf : frPo o σ t) (hS : TS T n s' t) (hA : AccC t o W p g) (h0 : t o 2 = 0) (hF : ∀ τ : l2_m, frPo o σ τ → (plyL T n p 12 s' neg g).1 ≠ 0 → τ 49 4 = (plyL T n p 12 s' neg g).1 → τ 49 5 = (plyL T n p 12 s' neg g).2.1 → K 0 τ) (hO : ∀ τ : l2_m, (∀ b j, b ≠ o → b ≠ o + 1 → b ≠ o + 2 → ¬ (b = 49 ∧ (j = 3 ∨ j = 4 ∨ j = 5 ∨ j = 8 ∨ (10 ≤ j ∧ j ≤ 12))) → τ b j = σ b j) → (plyL T n p 12 s' neg g).1 = 0 → TS T n (plyL T n p 12 s' neg g).2.1 τ → s' ≤ (plyL T n p 12 s' neg g).2.1 → PR τ o W (plyL T n p 12 s' neg g).2.2 → τ 49 3 = σ 49 3 + 1 → K 1 τ) : w98_26 B t o neg 1 K := by
  obtain ⟨R, hR⟩ : ∃ R, R = plyL T n p 12 s' neg g := ⟨_, rfl⟩
  rw [← hR] at hF hO
  unfold w98_26
  refine lz3_inv (fun (neg x : Int) u => frPo o σ u ∧ ((1 ≤ x ∧ x ≤ 12 ∧ (neg = 0 ∨ neg = 1) ∧ ∃ (z : Int) (g : Int → Int), TS T n z u ∧ AccC u o W p g ∧ u o 2 = x - 1 ∧ s' ≤ z ∧ R = plyL T n p (13 - x).toNat z neg g) ∨ (x = 13 ∧ R.1 = 5 ∧ R.2.1 = u 49 11))) (fun _ x _ => 14 - x) ?_ ⟨hf, Or.inl ⟨by decide, by decide, hn, s', g, hS, hA, by omega, Int.le_refl _, hR⟩⟩
  intro X neg x u hX ⟨fu, hI⟩
  rcases hI with ⟨x1, x12, hn, z, g, Su, hA, hc, hz, eR⟩ | ⟨x13, r1, r2⟩
  · refine ⟨⟨by omega, by omega⟩, ?_⟩
    rw [if_neg (by omega)]
    have ef : (13 - x).toNat = (12 - x).toNat + 1 := by omega
    rw [ef] at eR
    unfold plyL at eR
    refine c99 ho ho6 hn (by rw [fu 50 0 (by omega) (by omega) (by omega) (by omega)]; exact hp) p2 p97 (fun v v0 v1 => by rw [fu 53 v (by omega) (by omega) (by omega) (by omega)]; exact hU v v0 v1) Su hA (by omega) (fun τ f1 q1 q2 q3 => ⟨by decide, ?_⟩) (fun τ f1 q1 q2 q3 q4 q5 => ⟨by decide, ?_⟩)
    · rw [if_pos rfl]
      rw [if_pos q1] at eR
      exact hF τ (fun b j z1 z2 z3 z4 => (f1 b j z4).trans (fu b j z1 z2 z3 z4)) (by rw [eR]; exact q1) (by rw [eR]; exact q2) (by rw [eR]; exact q3)
    · rw [if_neg (by decide)]
      rw [if_neg (fun w => w q1)] at eR
      have fτ : frPo o σ τ := fun b j z1 z2 z3 z4 => (f1 b j z1 z2 z3 z4).trans (fu b j z1 z2 z3 z4)
      have hsb := TS_b q2
      refine ⟨TS_rg q2, ?_⟩
      by_cases hsg : ((τ 49 10) = 3 ∧ (τ 49 12) = 43) ∨ ((τ 49 10) = 3 ∧ (τ 49 12) = 45)
      · rw [if_pos hsg]
        have hsg2 : sgS T n (trm T n z).2.1 43 ∨ sgS T n (trm T n z).2.1 45 := hsg.imp (TS_s q2 43).mp (TS_s q2 45).mp
        rw [if_pos hsg2] at eR
        unfold w98_81
        refine ⟨⟨by omega, by omega⟩, ?_⟩
        by_cases hx : x < 12
        · rw [if_pos hx]
          rw [if_neg (by omega)] at eR
          refine ⟨TS_rg q2, ?_⟩
          intro neg' en
          refine adv q2 (fun υ f2 S2 => ?_)
          have e1 : neg' = if sgS T n (trm T n z).2.1 45 then 1 else 0 := by
            rw [en]
            unfold b2i
            by_cases hm : (τ 49 10) = 3 ∧ (τ 49 12) = 45
            · rw [if_pos hm, if_pos ((TS_s q2 45).mp hm)]
            · rw [if_neg hm, if_neg (fun w => hm ((TS_s q2 45).mpr w))]
          refine hX neg' (x + 1) υ ⟨frPo_T fτ f2, Or.inl ⟨by omega, by omega, ?_, _, _, S2, AccC_fr q4 (fun b j w => f2 b j (by omega)), by rw [f2 o 2 (by omega)]; omega, by omega, ?_⟩⟩ (by omega)
          · rw [e1]
            split
            · exact Or.inr rfl
            · exact Or.inl rfl
          · rw [e1, show (13 - (x + 1)).toNat = (12 - x).toNat by omega]; exact eR
        · rw [if_neg hx]
          rw [if_pos (by omega)] at eR
          exact hX neg (x + 1) τ ⟨fτ, Or.inr ⟨by omega, by rw [eR], by rw [eR]; exact q2.2.2.2.2.2.1.symm⟩⟩ (by omega)
      · rw [if_neg hsg]
        have hsg2 : ¬ (sgS T n (trm T n z).2.1 43 ∨ sgS T n (trm T n z).2.1 45) := fun w => hsg (w.imp (TS_s q2 43).mpr (TS_s q2 45).mpr)
        rw [if_neg hsg2] at eR
        refine c91 (W := W) (p := p) ho (show isMb 50 = true from rfl) ⟨by omega, by omega, by omega⟩ hW (by rw [fτ 50 0 (by omega) (by omega) (by omega) (by omega)]; exact hp) p2 p97 q4.1 (by omega) q4.2.1 ?_
        intro υ g1 g2 υ' ev
        have h3 : υ' 49 3 = σ 49 3 + 1 := by
          rw [ev, l2_u_self, g1 49 3 (by omega) (by omega) (by omega), fτ 49 3 (by omega) (by omega) (by omega) (by omega)]
        have hn3 : ∀ b j, ¬ (b = 49 ∧ j = 3) → υ' b j = υ b j := fun b j w => by rw [ev]; unfold l2_u; rw [if_neg w]
        refine hO υ' (fun b j z1 z2 z3 z4 => ?_) (by rw [eR]) (by rw [eR]; exact TS_fr q2 (fun b j w => by rw [hn3 b j (by omega)]; exact g1 b j (by omega) (by omega) (by omega))) (by rw [eR]; show s' ≤ (trm T n z).2.1; omega) ?_ h3
        · rw [hn3 b j (by omega), g1 b j z1 z2 z3]; exact fτ b j z1 z2 z3 (by omega)
        · rw [eR]
          refine PR_ext (PR_congr g2 (hn3 _ _ (by omega)) (fun i _ _ => hn3 _ _ (by omega)) (fun i _ _ => hn3 _ _ (by omega))) (fun k k0 k1 => (q4.2.2 k k0 k1).symm)
  · refine ⟨⟨by omega, by omega⟩, ?_⟩
    rw [if_pos (by omega)]
    intro τ et
    refine hF τ (fun b j z1 z2 z3 z4 => ?_) (by omega) ?_ ?_
    · rw [et]; unfold l2_u; rw [if_neg (by omega), if_neg (by omega)]; exact fu b j z1 z2 z3 z4
    · rw [et, l2_u_nj (by decide), l2_u_self, r1]
    · rw [et, l2_u_self, r2]
theorem c98 {W : Int → Int} {o : Nat} {p : Int} (ho : isP o) (ho6 : 56 ≤ o ∧ o < 72) (hW : okW W) (hp : σ 50 0 = p) (p2 : 2 ≤ p) (p97 : p ≤ 97) (hU : ∀ u : Int, 0 ≤ u → u < 3 → σ 53 u = UW W u) (hS : TS T n s σ) (hF : ∀ τ : l2_m, frPo o σ τ → (ply T n p s).1 ≠ 0 → τ 49 4 = (ply T n p s).1 → τ 49 5 = (ply T n p s).2.1 → K 0 τ) (hO : ∀ τ : l2_m, (∀ b j, b ≠ o → b ≠ o + 1 → b ≠ o + 2 → ¬ (b = 49 ∧ (j = 3 ∨ j = 4 ∨ j = 5 ∨ j = 8 ∨ (10 ≤ j ∧ j ≤ 12))) → τ b j = σ b j) → (ply T n p s).1 = 0 → TS T n (ply T n p s).2.1 τ → s ≤ (ply T n p s).2.1 → PR τ o W (ply T n p s).2.2 → τ 49 3 = σ 49 3 + 1 → K 1 τ) : wC B 98 [vr 49, vr o] σ K := by
  have hb := TS_b hS
  refine o98 ho ?_
  unfold w98
  intro σ1 e1
  have n1 : ∀ b j, b ≠ o → σ1 b j = σ b j := fun b j z => by rw [e1, l2_u_ne z]
  have z1 : σ1 o 2 = 0 := by rw [e1, l2_u_self]
  have S1 : TS T n s σ1 := TS_fr hS (fun b j z => n1 b j (by omega))
  refine adv S1 (fun σ2 f2 S2 => ?_)
  have hb2 := TS_b S2
  have fr2 : frPo o σ σ2 := fun b j z1 z2 z3 z4 => (f2 b j (by omega)).trans (n1 b j z1)
  have A0 : ∀ u : l2_m, u o 2 = 0 → AccC u o W p (fun _ => 0) := fun u hu => by
    refine ⟨by omega, fun i i0 i1 => by omega, fun k _ _ => ?_⟩
    rw [hu]
    show (0 : Int) % p = 0
    exact Int.zero_emod p
  refine ⟨TS_rg S2, ?_⟩
  intro neg en
  by_cases hm : (σ2 49 10) = 3 ∧ (σ2 49 12) = 45
  · rw [if_pos hm]
    have hm2 := (TS_s S2 45).mp hm
    have er : ply T n p s = plyL T n p 12 (tE T n (tE T n s)) 1 (fun _ => 0) := by unfold ply; rw [if_pos hm2]
    rw [b2i, if_pos hm] at en
    rw [er] at hF hO
    subst en
    refine adv S2 (fun σ3 f3 S3 => ?_)
    have c3 : σ3 o 2 = 0 := by rw [f3 o 2 (by omega), f2 o 2 (by omega)]; exact z1
    exact c98l ho ho6 hW (Or.inr rfl) hp p2 p97 hU (frPo_T fr2 f3) S3 (A0 σ3 c3) c3 hF (fun τ a1 a2 a3 a4 a5 a6 => hO τ a1 a2 a3 (by omega) a5 a6)
  · rw [if_neg hm]
    have hm2 : ¬ sgS T n (tE T n s) 45 := fun w => hm ((TS_s S2 45).mpr w)
    have er : ply T n p s = plyL T n p 12 (tE T n s) 0 (fun _ => 0) := by unfold ply; rw [if_neg hm2]
    rw [b2i, if_neg hm] at en
    rw [er] at hF hO
    subst en
    have c3 : σ2 o 2 = 0 := by rw [f2 o 2 (by omega)]; exact z1
    exact c98l ho ho6 hW (Or.inl rfl) hp p2 p97 hU fr2 S2 (A0 σ2 c3) c3 hF (fun τ a1 a2 a3 a4 a5 a6 => hO τ a1 a2 a3 (by omega) a5 a6)
theorem bit_t1 {u v : Int} (u0 : 0 ≤ u) (u1 : u < 3) (v0 : 0 ≤ v) (v1 : v < 3) : bit (0 + 2 ^ u.toNat) v = 1 ↔ v = u := by
  obtain ⟨a, rfl⟩ := Int.eq_ofNat_of_zero_le u0
  obtain ⟨b, rfl⟩ := Int.eq_ofNat_of_zero_le v0
  have h : ∀ (a b : Fin 3), bit (0 + 2 ^ (Int.toNat ((a.val : Nat) : Int))) ((b.val : Nat) : Int) = 1 ↔ ((b.val : Nat) : Int) = ((a.val : Nat) : Int) := by decide +kernel
  exact h ⟨a, by omega⟩ ⟨b, by omega⟩
theorem bit_t2 {u v w : Int} (u0 : 0 ≤ u) (u1 : u < 3) (v0 : 0 ≤ v) (v1 : v < 3) (w0 : 0 ≤ w) (w1 : w < 3) (hne : v ≠ u) : (bit (0 + 2 ^ u.toNat + 2 ^ v.toNat) w = 1 ↔ w = u ∨ w = v) ∧ 0 + 2 ^ u.toNat + 2 ^ v.toNat < (8 : Int) ∧ 0 ≤ (0 : Int) + 2 ^ u.toNat + 2 ^ v.toNat := by
  obtain ⟨a, rfl⟩ := Int.eq_ofNat_of_zero_le u0
  obtain ⟨b, rfl⟩ := Int.eq_ofNat_of_zero_le v0
  obtain ⟨c, rfl⟩ := Int.eq_ofNat_of_zero_le w0
  have h : ∀ (a b c : Fin 3), ((b.val : Nat) : Int) ≠ ((a.val : Nat) : Int) → ((bit (0 + 2 ^ (Int.toNat ((a.val : Nat) : Int)) + 2 ^ (Int.toNat ((b.val : Nat) : Int))) ((c.val : Nat) : Int) = 1 ↔ ((c.val : Nat) : Int) = ((a.val : Nat) : Int) ∨ ((c.val : Nat) : Int) = ((b.val : Nat) : Int)) ∧ 0 + 2 ^ (Int.toNat ((a.val : Nat) : Int)) + 2 ^ (Int.toNat ((b.val : Nat) : Int)) < (8 : Int) ∧ 0 ≤ (0 : Int) + 2 ^ (Int.toNat ((a.val : Nat) : Int)) + 2 ^ (Int.toNat ((b.val : Nat) : Int))) := by decide +kernel
  exact h ⟨a, by omega⟩ ⟨b, by omega⟩ ⟨c, by omega⟩ hne
theorem pw2u_b {u : Int} (u0 : 0 ≤ u) (u1 : u < 3) : 0 ≤ (0 : Int) + 2 ^ u.toNat ∧ (0 : Int) + 2 ^ u.toNat < 8 := by
  rcases (show u = 0 ∨ u = 1 ∨ u = 2 by omega) with h | h | h <;> (rw [h]; decide)
def frRg (σ τ : l2_m) : Prop := ∀ b j, (b < 50 ∨ 53 < b) → ¬ (b = 49 ∧ (j = 4 ∨ j = 5 ∨ (8 ≤ j ∧ j ≤ 12))) → τ b j = σ b j
theorem frRg_T {τ υ : l2_m} (h : frRg σ τ) (h' : frTk τ υ) : frRg σ υ := fun b j z1 z2 => (h' b j (by omega)).trans (h b j z1 z2)
theorem frRg_F {τ υ : l2_m} {f : Int} (h : frRg σ τ) (e : υ = l2_u (l2_u τ 49 4 f) 49 5 (τ 49 11)) : frRg σ υ ∧ υ 49 4 = f ∧ υ 49 5 = τ 49 11 := by
  refine ⟨fun b j z1 z2 => ?_, ?_, ?_⟩
  · rw [e]; unfold l2_u; rw [if_neg (by omega), if_neg (by omega)]; exact h b j z1 z2
  · rw [e, l2_u_nj (by decide), l2_u_self]
  · rw [e, l2_u_self]
/-- the three unknowns; the token at hand lies before them -/
theorem c97 {p h : Int} (h0 : 0 ≤ h) (h3 : h < 3) (hS : TS T n s σ) (hF : ∀ τ : l2_m, frRg σ τ → (rngU T n p h (tE T n s)).1 ≠ 0 → τ 49 4 = (rngU T n p h (tE T n s)).1 → τ 49 5 = (rngU T n p h (tE T n s)).2.1 → K 0 τ) (hO : ∀ τ : l2_m, frRg σ τ → (∀ b j, b = 50 ∨ (b = 49 ∧ j = 9) → τ b j = σ b j) → (rngU T n p h (tE T n s)).1 = 0 → (rngU T n p h (tE T n s)).2.2.1 = p → (rngU T n p h (tE T n s)).2.2.2.1 = h → TS T n (rngU T n p h (tE T n s)).2.1 τ → s ≤ (rngU T n p h (tE T n s)).2.1 → isOr h (rngU T n p h (tE T n s)).2.2.2.2.1 (rngU T n p h (tE T n s)).2.2.2.2.2 → τ 52 0 = h → τ 52 1 = (rngU T n p h (tE T n s)).2.2.2.2.1 → τ 52 2 = (rngU T n p h (tE T n s)).2.2.2.2.2 → (∀ u : Int, 0 ≤ u → u < 3 → τ 53 u = UW (wt h (rngU T n p h (tE T n s)).2.2.2.2.1 (rngU T n p h (tE T n s)).2.2.2.2.2) u) → K 1 τ) : wC B 97 [vr 49, vi h] σ K := by
  obtain ⟨R, hR⟩ : ∃ R, R = rngU T n p h (tE T n s) := ⟨_, rfl⟩
  rw [← hR] at hF hO
  unfold rngU at hR
  have hb := TS_b hS
  obtain ⟨A1, eA1⟩ : ∃ A1, A1 = tE T n s := ⟨_, rfl⟩
  rw [← eA1] at hR hb
  obtain ⟨A2, eA2⟩ : ∃ A2, A2 = tE T n A1 := ⟨_, rfl⟩
  rw [← eA2] at hR
  obtain ⟨A3, eA3⟩ : ∃ A3, A3 = tE T n A2 := ⟨_, rfl⟩
  rw [← eA3] at hR
  have ub1 := unkF_b (T := T) (n := n) A1
  have ub2 := unkF_b (T := T) (n := n) A2
  have ub3 := unkF_b (T := T) (n := n) A3
  obtain ⟨u1, eu1⟩ : ∃ u1, u1 = unkF T n A1 := ⟨_, rfl⟩
  obtain ⟨u2, eu2⟩ : ∃ u2, u2 = unkF T n A2 := ⟨_, rfl⟩
  obtain ⟨u3, eu3⟩ : ∃ u3, u3 = unkF T n A3 := ⟨_, rfl⟩
  rw [← eu1] at ub1 hR
  rw [← eu2] at ub2 hR
  rw [← eu3] at ub3 hR
  refine o97 ?_
  unfold w97 w97_10
  refine lz5_inv (fun (x2 x3 x4 i : Int) u => frRd σ u ∧ ((i = 0 ∧ x2 = 0 ∧ x3 = -1 ∧ x4 = -1 ∧ TS T n s u) ∨ (i = 1 ∧ x2 = 0 + 2 ^ u1.toNat ∧ x3 = u1 ∧ x4 = -1 ∧ TS T n A1 u ∧ u1 ≠ -1) ∨ (i = 2 ∧ x2 = 0 + 2 ^ u1.toNat + 2 ^ u2.toNat ∧ x3 = u1 ∧ x4 = u2 ∧ TS T n A2 u ∧ u1 ≠ -1 ∧ u2 ≠ -1 ∧ u2 ≠ u1) ∨ (i = 3 ∧ x3 = u1 ∧ x4 = u2 ∧ TS T n A3 u ∧ u1 ≠ -1 ∧ u2 ≠ -1 ∧ u2 ≠ u1 ∧ u3 ≠ -1 ∧ ¬ (u3 = u1 ∨ u3 = u2)))) (fun _ _ _ i _ => 3 - i) ?_ ⟨fun _ _ _ => rfl, Or.inl ⟨rfl, rfl, rfl, rfl, hS⟩⟩
  intro X x2 x3 x4 i u hX ⟨fu, hI⟩
  have tog : ∀ τ : l2_m, frRd σ τ → frRg σ τ := fun τ hf b j z1 z2 => hf b j (by omega)
  rcases hI with ⟨ei, e2, e3, e4', Su⟩ | ⟨ei, e2, e3, e4', Su, c1'⟩ | ⟨ei, e2, e3, e4', Su, c1', c2', c3'⟩ | ⟨ei, e3, e4', Su, c1', c2', c3', c4', c5'⟩
  · subst ei
    refine ⟨by decide, ?_⟩
    rw [if_pos (by decide)]
    refine adv Su (fun v f1 S1 => ?_)
    rw [← eA1] at S1
    obtain ⟨hu, hu2⟩ := TS_u S1
    have fv := frRd_T fu f1
    refine ⟨⟨(TS_rg S1).1, hu2⟩, ?_⟩
    intro x ex
    rw [hu, ← eu1] at ex
    subst ex
    refine ⟨⟨by omega, by omega⟩, ?_⟩
    by_cases hm : x = -1
    · rw [if_pos hm]
      rw [if_pos hm] at hR
      intro τ et
      obtain ⟨g1, g2, g3⟩ := frRd_F fv et
      exact hF τ (tog τ g1) (by rw [hR]; exact (by decide : (1 : Int) ≠ 0)) (by rw [hR]; exact g2) (by rw [hR, g3]; exact S1.2.2.2.2.2.1)
    · rw [if_neg hm]
      have hbz : bit x2 x = 0 := by
        rw [e2]
        rcases (show x = 0 ∨ x = 1 ∨ x = 2 by omega) with z | z | z <;> (rw [z]; rfl)
      refine ⟨⟨by rw [e2]; decide, by omega, by omega⟩, ?_⟩
      rw [if_neg (by omega)]
      have pb := pow16_b (u := x) (by omega) (by omega)
      refine ⟨⟨by omega, pb.1, by omega, pb.2⟩, ?_⟩
      intro x2' e2'
      rw [ior_bit (by omega) (by omega) (by omega) (by omega) hbz, e2] at e2'
      refine ⟨by decide, ?_⟩
      rw [if_pos rfl]
      unfold w97_71
      refine ⟨by decide, ?_⟩
      rw [if_neg (by decide)]
      exact hX _ _ _ _ _ ⟨fv, Or.inr (Or.inl ⟨rfl, e2', rfl, e4', S1, hm⟩)⟩ (by decide)
  · subst ei
    have pwb1 := pw2u_b (u := u1) (by omega) (by omega)
    refine ⟨by decide, ?_⟩
    rw [if_pos (by decide)]
    refine adv Su (fun v f1 S1 => ?_)
    rw [← eA2] at S1
    obtain ⟨hu, hu2⟩ := TS_u S1
    have fv := frRd_T fu f1
    rw [if_neg c1'] at hR
    refine ⟨⟨(TS_rg S1).1, hu2⟩, ?_⟩
    intro x ex
    rw [hu, ← eu2] at ex
    subst ex
    refine ⟨⟨by omega, by omega⟩, ?_⟩
    by_cases hm : x = -1
    · rw [if_pos hm]
      rw [if_pos hm] at hR
      intro τ et
      obtain ⟨g1, g2, g3⟩ := frRd_F fv et
      exact hF τ (tog τ g1) (by rw [hR]; exact (by decide : (1 : Int) ≠ 0)) (by rw [hR]; exact g2) (by rw [hR, g3]; exact S1.2.2.2.2.2.1)
    · rw [if_neg hm]
      rw [if_neg hm] at hR
      have hbi := bit_t1 (u := u1) (v := x) (by omega) (by omega) (by omega) (by omega)
      rw [← e2] at hbi pwb1
      refine ⟨⟨⟨by omega, by omega⟩, by omega, by omega⟩, ?_⟩
      by_cases hbt : bit x2 x = 1
      · rw [if_pos hbt]
        rw [if_pos (hbi.mp hbt)] at hR
        intro τ et
        obtain ⟨g1, g2, g3⟩ := frRd_F fv et
        exact hF τ (tog τ g1) (by rw [hR]; exact (by decide : (3 : Int) ≠ 0)) (by rw [hR]; exact g2) (by rw [hR, g3]; exact S1.2.2.2.2.2.1)
      · rw [if_neg hbt]
        have hne : x ≠ u1 := fun w => hbt (hbi.mpr w)
        have pb := pow16_b (u := x) (by omega) (by omega)
        refine ⟨⟨by omega, pb.1, by omega, pb.2⟩, ?_⟩
        intro x2' e2'
        rw [ior_bit (by omega) (by omega) (by omega) (by omega) ((bit_b x2 x).resolve_right hbt), e2] at e2'
        refine ⟨by decide, ?_⟩
        rw [if_neg (by decide)]
        unfold w97_71
        refine ⟨by decide, ?_⟩
        rw [if_pos rfl]
        exact hX _ _ _ _ _ ⟨fv, Or.inr (Or.inr (Or.inl ⟨rfl, e2', e3, rfl, S1, c1', hm, hne⟩))⟩ (by decide)
  · subst ei
    refine ⟨by decide, ?_⟩
    rw [if_pos (by decide)]
    refine adv Su (fun v f1 S1 => ?_)
    rw [← eA3] at S1
    obtain ⟨hu, hu2⟩ := TS_u S1
    have fv := frRd_T fu f1
    rw [if_neg c1', if_neg c2', if_neg c3'] at hR
    refine ⟨⟨(TS_rg S1).1, hu2⟩, ?_⟩
    intro x ex
    rw [hu, ← eu3] at ex
    subst ex
    refine ⟨⟨by omega, by omega⟩, ?_⟩
    by_cases hm : x = -1
    · rw [if_pos hm]
      rw [if_pos hm] at hR
      intro τ et
      obtain ⟨g1, g2, g3⟩ := frRd_F fv et
      exact hF τ (tog τ g1) (by rw [hR]; exact (by decide : (1 : Int) ≠ 0)) (by rw [hR]; exact g2) (by rw [hR, g3]; exact S1.2.2.2.2.2.1)
    · rw [if_neg hm]
      rw [if_neg hm] at hR
      obtain ⟨hbi, hb8, hb0⟩ := bit_t2 (u := u1) (v := u2) (w := x) (by omega) (by omega) (by omega) (by omega) (by omega) (by omega) c3'
      rw [← e2] at hbi hb8 hb0
      refine ⟨⟨⟨by omega, by omega⟩, by omega, by omega⟩, ?_⟩
      by_cases hbt : bit x2 x = 1
      · rw [if_pos hbt]
        rw [if_pos (hbi.mp hbt)] at hR
        intro τ et
        obtain ⟨g1, g2, g3⟩ := frRd_F fv et
        exact hF τ (tog τ g1) (by rw [hR]; exact (by decide : (3 : Int) ≠ 0)) (by rw [hR]; exact g2) (by rw [hR, g3]; exact S1.2.2.2.2.2.1)
      · rw [if_neg hbt]
        have hne : ¬ (x = u1 ∨ x = u2) := fun w => hbt (hbi.mpr w)
        have pb := pow16_b (u := x) (by omega) (by omega)
        refine ⟨⟨by omega, pb.1, by omega, pb.2⟩, ?_⟩
        intro x2' e2'
        refine ⟨by decide, ?_⟩
        rw [if_neg (by decide)]
        unfold w97_71
        refine ⟨by decide, ?_⟩
        rw [if_neg (by decide)]
        exact hX _ _ _ _ _ ⟨fv, Or.inr (Or.inr (Or.inr ⟨rfl, e3, e4', S1, c1', c2', c3', hm, hne⟩))⟩ (by decide)
  · subst ei
    rw [if_neg c1', if_neg c2', if_neg c3', if_neg c4', if_neg c5'] at hR
    refine ⟨by decide, ?_⟩
    rw [if_neg (by decide), e3, e4']
    have hOr : isOr h u1 u2 := ⟨⟨h0, h3⟩, ⟨by omega, by omega⟩, ⟨by omega, by omega⟩, fun w => c3' w.symm⟩
    have hb3 := TS_b Su
    refine c75 (o := 52) (show isOb 52 = true from rfl) hOr ?_
    intro v q1 q2 q3 q4 q5 q6
    have Sv : TS T n A3 v := TS_fr Su (fun b j z => q1 b j (by omega) (by omega))
    have hsA : s ≤ tE T n A3 := by
      have := hS.2.2.1
      have k1 := tE_b (T := T) (n := n) (s := s) this
      rw [← eA1] at k1
      have k2 := tE_b (T := T) (n := n) (s := A1) (by omega)
      rw [← eA2] at k2
      have k3 := tE_b (T := T) (n := n) (s := A2) (by omega)
      rw [← eA3] at k3
      omega
    refine adv Sv (fun τ f1 S1 => ?_)
    have fw : ∀ b j, (b < 52 ∨ 53 < b) → ¬ (b = 49 ∧ (j = 4 ∨ j = 5 ∨ j = 8 ∨ (10 ≤ j ∧ j ≤ 12))) → τ b j = σ b j := fun b j z1 z2 => (f1 b j (by omega)).trans ((q1 b j (by omega) (by omega)).trans (fu b j z2))
    refine hO τ (fun b j z1 z2 => fw b j (by omega) (by omega)) (fun b j z => fw b j (by omega) (by omega)) (by rw [hR]) (by rw [hR]) (by rw [hR]) (by rw [hR]; exact S1) (by rw [hR]; exact hsA) (by rw [hR]; exact hOr) ?_ ?_ ?_ (fun w w0 w1 => ?_)
    · rw [f1 52 0 (by omega)]; exact q2
    · rw [hR, f1 52 1 (by omega)]; exact q3
    · rw [hR, f1 52 2 (by omega)]; exact q4
    · rw [hR, f1 53 w (by omega)]; exact q6 w w0 w1
end CP2
