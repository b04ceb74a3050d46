/-! ===== pairs: add, less ===== -/
section AC
variable {F : l2_m → Prop} {B : va_E} {σ : l2_m} {K : Int → l2_m → Prop}
theorem c1z {a b o : Nat} {W f g : Int → Int} {p ac bc : Int} (ha : isP a) (hb : isP b) (ho : isP o) (na : o ≠ a) (nb : o ≠ b) (hW : okW W) (hp : σ 34 0 = p) (p2 : 2 ≤ p) (p97 : p ≤ 97) (fa : PR σ a W f) (fb : PR σ b W g) (ra : ∀ k : Int, 0 ≤ k → k < 4096 → 0 ≤ f k ∧ f k < p) (rb : ∀ k : Int, 0 ≤ k → k < 4096 → 0 ≤ g k ∧ g k < p) (a0 : 0 ≤ ac) (a1 : ac ≤ 97) (b0 : 0 ≤ bc) (b1 : bc ≤ 97) (h1 : ∀ τ : l2_m, frQ o σ τ → PR τ o W (mixF p ac 0 f bc 0 g) → K 1 τ) (h0 : ∀ τ : l2_m, frQ o σ τ → 60 < cnt (mixF p ac 0 f bc 0 g) 4096 → K 0 τ) : wC B 1 [vr 38, vr a, vi ac, vi 0, vr b, vi bc, vi 0, vr o] σ K := by
  have := c1 (B := B) (K := K) (da := 0) (db := 0) ha hb ho na nb hW hp p2 p97 fa fb ra rb a0 a1 b0 b1 (by decide) (by decide) (by decide) (by decide) (fun τ t _ _ t2 => h1 τ t t2) (fun τ t t2 => by
    rcases t2 with ⟨k, -, -, -, w⟩ | ⟨k, -, -, -, w⟩ | w
    · exact absurd (noO_0 k) w
    · exact absurd (noO_0 k) w
    · exact h0 τ t w)
  rw [MW_0] at this
  exact this
theorem ref2 {p c a b : Int} {cf : l2_m → Int} (hcf : ∀ s : l2_m, s 186 5 = p → cf s = c) (hp : σ 186 5 = p) (p2 : 2 ≤ p) (p97 : p ≤ 97) (hr : rngR σ p) (a0 : 0 ≤ a) (a1 : a < 8) (b0 : 0 ≤ b) (b1 : b < 8) (c0 : 0 ≤ c) (cc1 : c ≤ 97) (hz : ∀ k : Int, 0 ≤ k → k < 4096 → σ 192 k = 0) (h29 : σ 186 29 = 1) {Q : l2_m → Prop} (h : ∀ s : l2_m, (∀ b j, b ≠ 192 → ¬ (b = 186 ∧ j = 29) → s b j = σ b j) → (∀ k : Int, 0 ≤ k → k < 4096 → s 192 k = mixF p 1 0 (regR σ a) c 0 (regR σ b) k) → s 186 29 = 1 → Q s) : wC B 224 [vr 186, vi a, vi 1, vi 0] σ (fun _ s1 => wC B 224 [vr 186, vi b, vi (cf s1), vi 0] s1 (fun _ s2 => Q s2)) := by
  refine r224 hp p2 p97 a0 a1 hr (by decide) (by decide) (by decide) (by decide) (fun k k0 k1 => by rw [hz k k0 k1]; omega) ?_
  intro s t1 t2 t3 _
  have e5 : s 186 5 = p := by rw [t1 186 5 (by decide) (by omega)]; exact hp
  have er : ∀ q k : Int, s 187 (4096 * q + k) = σ 187 (4096 * q + k) := fun q k => t1 187 _ (by decide) (by omega)
  have w1 : ∀ k : Int, 0 ≤ k → k < 4096 → s 192 k = (1 * shf 0 (regR σ a) k) % p := fun k k0 k1 => by rw [t2 k k0 k1, hz k k0 k1, Int.zero_add]
  rw [hcf s e5]
  refine r224 e5 p2 p97 b0 b1 (fun q k q0 q1 k0 k1 => by rw [er]; exact hr q k q0 q1 k0 k1) c0 cc1 (by decide) (by decide) (fun k k0 k1 => ?_) ?_
  · rw [w1 k k0 k1]
    exact ⟨Int.emod_nonneg _ (by omega), Int.emod_lt_of_pos _ (by omega)⟩
  · intro s2 v1 v2 v3 _
    have eb : regR s b = regR σ b := funext (fun k => er b k)
    refine h s2 (fun x j z w => (v1 x j z w).trans (t1 x j z w)) (fun k k0 k1 => ?_) ?_
    · rw [v2 k k0 k1, w1 k k0 k1, eb, Int.emod_add_emod]
      rfl
    · rw [v3 (Or.inr (fun k _ _ _ => noO_0 k)), t3 (Or.inr (fun k _ _ _ => noO_0 k))]; exact h29
theorem mix_core {r s k c : Int} {cf : l2_m → Int} {kr : Nat} (hC : CI F σ σ) (hR : RWF σ) (ht : σ 186 14 = 1) (hr : 0 ≤ r ∧ r < 8) (hs : 0 ≤ s ∧ s < 8) (hk : 0 ≤ k ∧ k < 8) (c0 : 0 ≤ c) (cc1 : c ≤ 97) (hcf : ∀ t : l2_m, t 186 5 = σ 186 5 → cf t = c) (hkr : ∀ (τ : l2_m) (Q : Int → l2_m → Prop), (∀ υ : l2_m, υ = l2_u τ 186 0 0 → υ 186 14 = 1 ∧ (∀ υ2 : l2_m, υ2 = l2_u (fil υ 192 0 4096) 186 29 1 → wC B 224 [vr 186, vi r, vi 1, vi 0] υ2 (fun _ s1 => wC B 224 [vr 186, vi s, vi (cf s1), vi 0] s1 (fun _ s2 => wC B 240 [vr 186, vi k] s2 Q)))) → wC B kr [vr 186, vi r, vi s, vi k] τ Q) : wC B 1 [vr 38, vr (162 + 3 * Int.toNat r), vi 1, vi 0, vr (162 + 3 * Int.toNat s), vi c, vi 0, vr 159] σ (fun y σ' => wC B 163 [vr 32, vi y, vi k] σ' (fun y' σ'' => wC B kr [vr 186, vi r, vi s, vi k] σ'' (fun z υ => y' = z ∧ CI F υ υ ∧ RWF υ))) := by
  obtain ⟨b1, b2, b3, b4, b5, b6⟩ := hR.2.2.2.2.2.2.2.2.2 ht
  obtain ⟨D1, D2, D3, D4, D5, D6, D7, D8⟩ := hC.2.1 ht
  have hdo := hC.2.2.2.2.1
  obtain ⟨p2, p97, -⟩ := pr_rest _ b1
  have hm : ∀ j : Int, 0 ≤ j → j < 4096 → 0 ≤ mixF (σ 186 5) 1 0 (regR σ r) c 0 (regR σ s) j ∧ mixF (σ 186 5) 1 0 (regR σ r) c 0 (regR σ s) j < σ 186 5 := fun j _ _ => ⟨Int.emod_nonneg _ (by omega), Int.emod_lt_of_pos _ (by omega)⟩
  have go : ∀ (τ υ υ2 : l2_m), (∀ b j, 186 ≤ b → τ b j = σ b j) → υ = l2_u τ 186 0 0 → υ2 = l2_u (fil υ 192 0 4096) 186 29 1 → ∀ Q : l2_m → Prop, (∀ s' : l2_m, (∀ b j, b ≠ 192 → ¬ (b = 186 ∧ j = 29) → s' b j = υ b j) → (∀ k : Int, 0 ≤ k → k < 4096 → s' 192 k = mixF (σ 186 5) 1 0 (regR σ r) c 0 (regR σ s) k) → s' 186 29 = 1 → Q s') → wC B 224 [vr 186, vi r, vi 1, vi 0] υ2 (fun _ s1 => wC B 224 [vr 186, vi s, vi (cf s1), vi 0] s1 (fun _ s2 => Q s2)) := by
    intro τ υ υ2 kt eu e2 Q hQ
    have a : ∀ b j, ¬ (b = 186 ∧ (j = 0 ∨ j = 29)) → b ≠ 192 → υ2 b j = υ b j := fun b j z w => by
      rw [e2]; unfold l2_u fil; rw [if_neg (by omega), if_neg (fun x => w x.1)]
    have au : ∀ b j, 186 ≤ b → ¬ (b = 186 ∧ j = 0) → υ b j = σ b j := fun b j z w => by
      rw [eu]; unfold l2_u; rw [if_neg w]; exact kt b j z
    have e187 : ∀ q k : Int, υ2 187 (4096 * q + k) = σ 187 (4096 * q + k) := fun q k => by rw [a 187 _ (by omega) (by decide)]; exact au 187 _ (by decide) (by omega)
    have er : ∀ q, regR υ2 q = regR σ q := fun q => funext (fun k => e187 q k)
    refine ref2 (p := σ 186 5) (c := c) hcf (by rw [a 186 5 (by omega) (by decide)]; exact au 186 5 (by decide) (by omega)) p2 p97 (fun q k q0 q1 k0 k1 => by rw [e187]; exact b3 q k q0 q1 k0 k1) hr.1 hr.2 hs.1 hs.2 c0 cc1 (fun k k0 k1 => ?_) ?_ (fun s' v1 v2 v3 => hQ s' (fun b j z w => ?_) (fun k k0 k1 => ?_) v3)
    · rw [e2]; unfold l2_u fil; rw [if_neg (by omega), if_pos ⟨rfl, k0, k1⟩]
    · rw [e2]; unfold l2_u; rw [if_pos ⟨rfl, rfl⟩]
    · rw [v1 b j z w, e2]; unfold l2_u fil; rw [if_neg w, if_neg (fun x => z x.1)]
    · rw [v2 k k0 k1, er, er]
  have fr : ∀ σ1 : l2_m, frQ 159 σ σ1 → (∀ b j, cpt b j ∨ b = 32 → σ1 b j = σ b j) ∧ (∀ b j, 186 ≤ b → σ1 b j = σ b j) ∧ dvO σ1 := fun σ1 t => ⟨fun b j z => t b j (by unfold cpt at z; omega) (by unfold cpt at z; omega) (by unfold cpt at z; omega), fun b j z => t b j (by omega) (by omega) (by omega), by unfold dvO; rw [t 74 3 (by decide) (by decide) (by decide), t 74 4 (by decide) (by decide) (by decide)]; exact hdo⟩
  refine c1z (p := σ 186 5) (isP_reg hr.1 hr.2) (isP_reg hs.1 hs.2) (show isPb 159 = true from rfl) (by omega) (by omega) (wt_ok _ _ _) D1 p2 p97 (D8 r hr.1 hr.2) (D8 s hs.1 hs.2) (fun k k0 k1 => b3 r k hr.1 hr.2 k0 k1) (fun k k0 k1 => b3 s k hs.1 hs.2 k0 k1) (by decide) (by decide) c0 cc1 (fun σ1 t1 t2 => ?_) (fun σ1 t1 t2 => ?_)
  · obtain ⟨f1, f2, f3⟩ := fr σ1 t1
    refine o163 ?_
    unfold w163
    refine ⟨by decide, ?_⟩
    rw [if_neg (by decide)]
    refine lay_c hC hR ht hk.1 hk.2 f1 f2 f3 t2 ?_
    intro τ kt hL h60
    refine hkr τ _ ?_
    intro υ eu
    refine ⟨by rw [eu, l2_u_nj (by decide), kt 186 14 (by decide)]; exact ht, ?_⟩
    intro υ2 e2
    refine go τ υ υ2 kt eu e2 _ ?_
    intro s' v1 v2 v3
    refine lay_r hR ht hk.1 hk.2 hL (fun b j z1 z2 z3 z4 => ?_) (fun b j z => ?_) v3 v2 hm h60
    · rw [v1 b j (by omega) (by omega), eu]; unfold l2_u; rw [if_neg (by omega)]; exact kt b j z1
    · rw [v1 b j (by omega) (by omega), eu]; unfold l2_u; rw [if_neg (by omega)]
  · obtain ⟨f1, f2, f3⟩ := fr σ1 t1
    refine o163 ?_
    unfold w163
    refine ⟨by decide, ?_⟩
    rw [if_pos rfl]
    intro τ et
    have kt : ∀ b j, 186 ≤ b → τ b j = σ b j := fun b j z => by rw [et, trb_at, if_neg (by omega), if_neg (by omega)]; exact f2 b j z
    refine hkr τ _ ?_
    intro υ eu
    refine ⟨by rw [eu, l2_u_nj (by decide), kt 186 14 (by decide)]; exact ht, ?_⟩
    intro υ2 e2
    refine go τ υ υ2 kt eu e2 _ ?_
    intro s' v1 v2 v3
    refine lay_n (σ1 := σ1) (τ := τ) (υ := υ) hC hR ht hk.1 hk.2 (fun b j z => ?_) f3 et eu (fun b j z => v1 b j (by unfold prs at z; omega) (by unfold prs at z; omega)) (Or.inr v3) (fun j j0 j1 => by rw [v2 j j0 j1]; have := hm j j0 j1; omega) (Or.inr (by rw [cnt_congr v2]; exact t2))
    rcases z with z | z
    · exact f1 b j (Or.inl z)
    · exact f2 b j (by unfold prs at z; omega)
end AC
