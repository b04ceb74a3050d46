/-! ===== Commons: commonOf ===== -/
def isMon (W : Int → Int) (p : Int) (h h' : Int → Int) : Prop := ((∀ k : Int, 0 ≤ k → k < 4096 → h k = 0) ∧ h' = h) ∨ ∃ l : Int, 0 ≤ l ∧ l < 4096 ∧ h l ≠ 0 ∧ (∀ k : Int, 0 ≤ k → k < 4096 → h k ≠ 0 → MW W k ≤ MW W l) ∧ h' = fun k => h k * ivp p (h l) % p
theorem lead_n (W f : Int → Int) : ∀ N : Nat, (∀ k : Int, 0 ≤ k → k < N → f k = 0) ∨ ∃ l : Int, 0 ≤ l ∧ l < N ∧ f l ≠ 0 ∧ ∀ k : Int, 0 ≤ k → k < N → f k ≠ 0 → MW W k ≤ MW W l
  | 0 => Or.inl (fun k k0 k1 => by omega)
  | N + 1 => by
    by_cases hN : f (N : Int) = 0
    · rcases lead_n W f N with h | ⟨l, l0, l1, l2, l3⟩
      · refine Or.inl (fun k k0 k1 => ?_)
        by_cases hk : k = (N : Int)
        · rw [hk]; exact hN
        · exact h k k0 (by omega)
      · refine Or.inr ⟨l, l0, by omega, l2, fun k k0 k1 k2 => ?_⟩
        by_cases hk : k = (N : Int)
        · rw [hk] at k2; exact absurd hN k2
        · exact l3 k k0 (by omega) k2
    · rcases lead_n W f N with h | ⟨l, l0, l1, l2, l3⟩
      · refine Or.inr ⟨N, by omega, by omega, hN, fun k k0 k1 k2 => ?_⟩
        by_cases hk : k = (N : Int)
        · rw [hk]; exact Int.le_refl _
        · exact absurd (h k k0 (by omega)) k2
      · rcases Int.le_total (MW W l) (MW W N) with w | w
        · refine Or.inr ⟨N, by omega, by omega, hN, fun k k0 k1 k2 => ?_⟩
          by_cases hk : k = (N : Int)
          · rw [hk]; exact Int.le_refl _
          · exact Int.le_trans (l3 k k0 (by omega) k2) w
        · refine Or.inr ⟨l, l0, by omega, l2, fun k k0 k1 k2 => ?_⟩
          by_cases hk : k = (N : Int)
          · rw [hk]; exact w
          · exact l3 k k0 (by omega) k2
theorem lead_ex {W f : Int → Int} (h : 0 < cnt f 4096) : ∃ l : Int, 0 ≤ l ∧ l < 4096 ∧ f l ≠ 0 ∧ ∀ k : Int, 0 ≤ k → k < 4096 → f k ≠ 0 → MW W k ≤ MW W l := by
  rcases lead_n W f 4096 with w | w
  · obtain ⟨k, k0, k1, k2⟩ := cnt_ne (f := f) (N := 4096) (by omega)
    exact absurd (w k k0 k1) k2
  · exact w
theorem c4m {B : va_E} {σ : l2_m} {K : Int → l2_m → Prop} {o : Nat} {W f : Int → Int} {p : Int} (ho : isP o) (hp : σ 34 0 = p) (p2 : 2 ≤ p) (p97 : p ≤ 97) (hv : invOK σ 34 p) (hf : PR σ o W f) (rf : ∀ k : Int, 0 ≤ k → k < 4096 → 0 ≤ f k ∧ f k < p) (hK : ∀ (τ : l2_m) (h' : Int → Int), frP o σ τ → isMon W p f h' → PR τ o W h' → K 0 τ) : wC B 4 [vr 38, vr o] σ K := by
  refine c4 ho hp p2 p97 hv hf rf (fun τ t1 t2 t3 => ?_)
  have n := PR_cnt hf
  have n0 := hf.1
  by_cases hz : σ o 2 = 0
  · exact hK τ f t1 (Or.inl ⟨fun k k0 k1 => cnt_zero (n.trans hz) k0 k1, rfl⟩) (t2 hz)
  · have np : 0 < σ o 2 := by omega
    obtain ⟨l, l0, l1, l2, l3, l4, l5⟩ := PR_lead hf np
    have lr := rf l l0 l1
    have ec : σ 35 (σ (o + 2) 0) = ivp p (f l) := by
      rw [l3]; exact invOK_ivp hv (by omega) lr.2
    have hP := t3 _ np rfl
    rw [ec] at hP
    exact hK τ _ t1 (Or.inr ⟨l, l0, l1, l4, l5, rfl⟩) hP
def frj (o : Nat) (σ τ : l2_m) : Prop := ∀ b j, (b < 110 ∨ 127 < b) → ¬ (b = 109 ∧ 15 ≤ j ∧ j ≤ 17) → b ≠ o → b ≠ o + 1 → b ≠ o + 2 → τ b j = σ b j
theorem c20 {K1 L R RL A Q : Type} [Lean.Grind.Field K1] [Lean.Grind.Field L] [Lean.Grind.CommRing R] [Lean.Grind.CommRing RL] [Lean.Grind.CommRing A] [Lean.Grind.CommRing Q] {c1 : R → Nat → K1} {k1 : K1 → R} {Y : R} (H1 : IsPol c1 k1 Y) {c2 : A → Nat → R} {k2 : R → A} {X : A} (H2 : IsPol c2 k2 X) {d1 : RL → Nat → L} {j1 : L → RL} {W : RL} (HL : IsPol d1 j1 W) {cq : Q → Nat → L} {kq : L → Q} {Z : Q} (HQ : IsPol cq kq Z) {B : va_E} {σ : l2_m} {K : Int → l2_m → Prop} {p : Int} {em : Int → K1} (E : isEm p em) {φ : K1 → L} {cd : L → Int} (hp : isPr p) (hFi : ∀ τ : l2_m, FOK hp τ → isFi p em φ cd τ) (hF3 : rg (σ 110 3)) (hFO : σ 110 3 = p → FOK hp σ) {U V : Nat} (hUV : ulr σ U V) {o1 o2 o3 : Nat} {Wt f g : Int → Int} {a b : A} (hW : okW Wt) (ho1 : isP o1) (ho2 : isP o2) (ho3 : isP o3) (g1 : 127 < o1) (g2 : 127 < o2) (g3 : 127 < o3) (m1 : o3 ≠ o1) (m2 : o3 ≠ o2) (h34 : σ 34 0 = p) (hI : invOK σ 34 p) (hU : ∀ v : Int, 0 ≤ v → v < 3 → σ 37 v = UW Wt v) (hP1 : PR σ o1 Wt f) (hP2 : PR σ o2 Wt g) (ha : pA c1 c2 em p f a) (hb : pA c1 c2 em p g b) (hK : ∀ (τ : l2_m) (U V : Nat) (C : A) (h h' : Int → Int) (y : Int), frj o3 σ τ → ulr τ U V → ((∀ b j, 110 ≤ b → b ≤ 113 → τ b j = σ b j) ∨ FOK hp τ) → isGD a b C → pA c1 c2 em p h C → isMon Wt p h h' → ((y = 1 ∧ PR τ o3 Wt h') ∨ (y = 0 ∧ 60 < cnt h 4096)) → K y τ) : wC B 20 [vr 109, vr o1, vr o2, vr o3] σ K := by
  have p2 := E.1
  have p97 := E.2.1
  have rf := hP1.1
  have rf' := hP1.2.1
  have rh := hP2.1
  have rh' := hP2.2.1
  refine o20 ho1 ho2 ho3 ?_
  unfold w20
  refine ⟨⟨by omega, by omega⟩, fun _ => ⟨by omega, by omega⟩, ?_⟩
  have cz : ∀ {o : Nat} {f : Int → Int} {a : A}, PR σ o Wt f → pA c1 c2 em p f a → (σ o 2 = 0 ↔ a = 0) := by
    intro o f a hP ha
    have n := PR_cnt hP
    constructor
    · intro hz
      have hz' : ∀ k : Int, 0 ≤ k → k < 4096 → f k = 0 := fun k k0 k1 => cnt_zero (n.trans hz) k0 k1
      refine two_ext H1 H2 (fun i j => ?_)
      rw [po_0 H2, po_0 H1]
      by_cases hij : i < 16 ∧ j < 16
      · rw [(ha.1 i j hij.1 hij.2).2.2, hz' _ (by omega) (by omega)]; exact em_z E
      · exact ha.2.1 i j (by omega)
    · intro hz
      rcases Int.lt_or_le 0 (σ o 2) with w | w
      · obtain ⟨k, k0, k1, -, -, k4⟩ := hP.2.2.1 0 (by decide) w
        rw [hz] at ha
        have e1 := pA_r E ha k k0 k1
        by_cases hk : k < 256
        · have e2 := (ha.1 (k % 16).toNat (k / 16).toNat (by omega) (by omega)).2.2
          rw [show (((k % 16).toNat : Nat) : Int) + 16 * (((k / 16).toNat : Nat) : Int) = k by omega, po_0 H2, po_0 H1] at e2
          exact absurd e2.symm ((em_nz E e1.1 e1.2).mpr k4)
        · exact absurd (ha.2.2 k (by omega) k1) k4
      · have := hP.1; omega
  have mon : ∀ (s : l2_m) (q : Nat) (h : Int → Int) (C : A), (q = o1 ∨ q = o2) → PR σ q Wt h → pA c1 c2 em p h C → isGD a b C → w20_27 B σ o3 o3 q K := fun s q h C hq hP hh hC => by
    unfold w20_27
    refine ⟨⟨by omega, hP.1, hP.2.1⟩, ?_⟩
    intro s1 es1
    obtain ⟨q1, q2⟩ := PR_cpP (o := o3) hP
    rw [← es1] at q1 q2
    refine c4m ho3 ((q2 34 0 (by omega) (by omega) (by omega)).trans h34) p2 p97 (invOK_cg hI (fun j => q2 35 j (by omega) (by omega) (by omega))) q1 (fun k k0 k1 => pA_r E hh k k0 k1) (fun τ h' t1 t2 t3 => ?_)
    exact hK τ U V C h h' 1 (fun b j z z' z1 z2 z3 => by rw [t1 b j z2 z3]; exact q2 b j z1 z2 z3) ⟨by rw [t1 109 15 (by omega) (by omega), q2 109 15 (by omega) (by omega) (by omega)]; exact hUV.1, by rw [t1 109 16 (by omega) (by omega), q2 109 16 (by omega) (by omega) (by omega)]; exact hUV.2.1, hUV.2.2⟩ (Or.inl (fun b j z1 z2 => by rw [t1 b j (by omega) (by omega)]; exact q2 b j (by omega) (by omega) (by omega))) hC hh t2 (Or.inl ⟨rfl, t3⟩)
  by_cases hz : σ o1 2 = 0 ∨ σ o2 2 = 0
  · rw [if_pos hz]
    unfold w20_14
    refine ⟨⟨by omega, by omega⟩, ?_⟩
    by_cases hz1 : σ o1 2 = 0
    · rw [if_pos hz1]
      have a0 := (cz hP1 ha).mp hz1
      refine mon σ o2 g b (Or.inr rfl) hP2 hb ⟨by rw [a0]; exact dv_0 b, dv_refl b, fun D _ h => h⟩
    · rw [if_neg hz1]
      have b0 := (cz hP2 hb).mp (by omega)
      refine mon σ o1 f a (Or.inl rfl) hP1 ha ⟨dv_refl a, by rw [b0]; exact dv_0 a, fun D h _ => h⟩
  · rw [if_neg hz]
    have a0 : a ≠ 0 := fun w => hz (Or.inl ((cz hP1 ha).mpr w))
    have b0 : b ≠ 0 := fun w => hz (Or.inr ((cz hP2 hb).mpr w))
    refine c23 hW ho1 rfl (by omega) (by omega) (by omega) hP1 ha.2.2 (fun s1 f1 e1 => ?_)
    refine c23 hW ho2 rfl (by omega) (by omega) (by omega) (PR_congr hP2 (f1 _ _ (by omega)) (fun j _ _ => f1 _ _ (by omega)) (fun j _ _ => f1 _ _ (by omega))) hb.2.2 (fun s2 f2 e2 => ?_)
    have ga : gpw c1 c2 em p (s2 114) a := gpw_cg (pA_g E ha e1) (fun n _ _ => f2 114 n (by decide))
    have gb := pA_g E hb e2
    have k2' : ∀ q j, q ≠ 114 → q ≠ 115 → s2 q j = σ q j := fun q j w w' => by rw [f2 q j w', f1 q j w]
    refine c26 H1 E rfl rfl (by decide) (by decide) (by decide) (by decide) ((k2' 34 0 (by decide) (by decide)).trans h34) (invOK_cg hI (fun j => k2' 35 j (by decide) (by decide))) (fun i hi => gpw_r ga i hi) (fun s3 d1' f3 r3 hd1 _ => ?_)
    have ct1 := ct_of H1 (pA_d H1 ha) hd1
    have k3' : ∀ q j, q ≠ 114 → q ≠ 115 → q ≠ 121 → q ≠ 124 → s3 q j = σ q j := fun q j w w' w2 w3 => by rw [f3 q j w2 w3]; exact k2' q j w w'
    refine c26 H1 E rfl rfl (by decide) (by decide) (by decide) (by decide) ((k3' 34 0 (by decide) (by decide) (by decide) (by decide)).trans h34) (invOK_cg hI (fun j => k3' 35 j (by decide) (by decide) (by decide) (by decide))) (fun i hi => gpw_r (gpw_cg gb (fun n _ _ => f3 115 n (by decide) (by decide))) i hi) (fun s4 d2' f4 r4 hd2 _ => ?_)
    have ct2 := ct_of H1 (pA_d H1 hb) hd2
    have k4' : ∀ q j, q ≠ 114 → q ≠ 115 → q ≠ 121 → q ≠ 122 → q ≠ 124 → s4 q j = σ q j := fun q j w w' w2 w3 w4 => by rw [f4 q j w3 w4]; exact k3' q j w w' w2 w4
    obtain ⟨d10, a1, ea, pa⟩ := ct_pp H1 H2 a0 ct1
    obtain ⟨d20, b1, eb, pb⟩ := ct_pp H1 H2 b0 ct2
    have D2 := po_dom H2 (po_dom H1 fld_dom)
    have kn : ∀ s : R, s ≠ 0 → k2 s ≠ 0 := fun s hs w => hs (po_kinj H2 (by rw [w, po_kz H2]))
    refine c29 H1 H2 E rfl rfl (by decide) (by decide) ((k4' 34 0 (by decide) (by decide) (by decide) (by decide) (by decide)).trans h34) (invOK_cg hI (fun j => k4' 35 j (by decide) (by decide) (by decide) (by decide) (by decide))) (gpw_cg ga (fun n _ _ => by rw [f4 114 n (by decide) (by decide), f3 114 n (by decide) (by decide)])) (rpw_cg r3 (fun i _ => f4 121 i (by decide) (by decide))) d10 ⟨a1, ea⟩ (fun s5 a2 f5 g5 e5 => ?_)
    have ea2 : a2 = a1 := dom_can D2 (kn _ d10) (by rw [← ea, e5]; grind)
    rw [ea2] at g5
    have k5' : ∀ q j, (q < 114 ∨ 127 < q) → s5 q j = σ q j := fun q j w => by rw [f5 q j (by omega) (by omega) (by omega) (by omega)]; exact k4' q j (by omega) (by omega) (by omega) (by omega) (by omega)
    refine c29 H1 H2 E rfl rfl (by decide) (by decide) ((k5' 34 0 (by omega)).trans h34) (invOK_cg hI (fun j => k5' 35 j (by omega))) (gpw_cg gb (fun n _ _ => by rw [f5 115 n (by decide) (by decide) (by decide) (by decide), f4 115 n (by decide) (by decide), f3 115 n (by decide) (by decide)])) (rpw_cg r4 (fun i _ => f5 122 i (by decide) (by decide) (by decide) (by decide))) d20 ⟨b1, eb⟩ (fun s6 b2 f6 g6 e6 => ?_)
    have eb2 : b2 = b1 := dom_can D2 (kn _ d20) (by rw [← eb, e6]; grind)
    rw [eb2] at g6
    have k6' : ∀ q j, (q < 114 ∨ 127 < q) → s6 q j = σ q j := fun q j w => by rw [f6 q j (by omega) (by omega) (by omega) (by omega)]; exact k5' q j w
    have r121 : rpw c1 em p (s6 121) 32 d1' := rpw_cg r3 (fun i _ => by rw [f6 121 i (by decide) (by decide) (by decide) (by decide), f5 121 i (by decide) (by decide) (by decide) (by decide), f4 121 i (by decide) (by decide)])
    have r122 : rpw c1 em p (fun j => s6 122 (0 + j)) 32 d2' := rpw_cg r4 (fun i _ => by rw [Int.zero_add, f6 122 i (by decide) (by decide) (by decide) (by decide), f5 122 i (by decide) (by decide) (by decide) (by decide)])
    refine c27 H1 E rfl rfl (by decide) (by decide) (by decide) (by decide) ((k6' 34 0 (by omega)).trans h34) (invOK_cg hI (fun j => k6' 35 j (by omega))) r121 r122 (fun s7 e f7 r7 he => ?_)
    have k7' : ∀ q j, (q < 114 ∨ 127 < q) → s7 q j = σ q j := fun q j w => by rw [f7 q j (by omega) (by omega)]; exact k6' q j w
    have ya1 : hlt c1 c2 a1 16 := hlt_fac H1 H2 (b := k2 d1') (by rw [show a1 * k2 d1' = a by rw [ea]; grind]; exact pA_h ha) (kn _ d10)
    have yb1 : hlt c1 c2 b1 16 := hlt_fac H1 H2 (b := k2 d2') (by rw [show b1 * k2 d2' = b by rw [eb]; grind]; exact pA_h hb) (kn _ d20)
    have u7 : ulr s7 U V := ⟨by rw [k7' 109 15 (by omega)]; exact hUV.1, by rw [k7' 109 16 (by omega)]; exact hUV.2.1, hUV.2.2⟩
    refine c34 H1 H2 HL HQ E hp hFi (by rw [k7' 110 3 (by omega)]; exact hF3) (fun w => FOK_cg (hFO (by rw [← k7' 110 3 (by omega)]; exact w)) (fun b j b0 b1 => k7' b j (by omega))) u7 ((k7' 34 0 (by omega)).trans h34) (invOK_cg hI (fun j => k7' 35 j (by omega))) (gpw_cg g5 (fun n _ _ => by rw [f7 114 n (by decide) (by decide), f6 114 n (by decide) (by decide) (by decide) (by decide)])) (gpw_cg g6 (fun n _ _ => f7 115 n (by decide) (by decide))) pa pb ya1 yb1 (fun s8 U V D f8 u8 F8 g8 pD q1 q2 q3 => ?_)
    have hee := (he e).mp (dv_refl e)
    have gd : isGD a b (k2 e * D) := gd_mul H1 H2 d10 d20 ea eb pa pb hee.1 hee.2 (fun x h1 h2 => (he x).mpr ⟨h1, h2⟩) q1 q2 q3
    obtain ⟨qa, eqa⟩ := gd.1
    have qa0 : qa ≠ 0 := fun w => a0 (by rw [eqa, w]; grind)
    have hh : hlt c1 c2 (k2 e * D) 16 := hlt_fac H1 H2 (b := qa) (by rw [← eqa]; exact pA_h ha) qa0
    refine c32 H1 H2 E rfl rfl rfl (by decide) (by decide) (by decide) ((f8 34 0 (by omega) (by omega)).trans ((k7' 34 0 (by omega)).trans h34)) g8 (rpw_cg r7 (fun i _ => f8 121 i (by omega) (by omega))) (fun i => dlt_mono (hh i) (by decide)) (fun s9 f9 g9 => ?_)
    have k9' : ∀ q j, (q < 110 ∨ 127 < q) → ¬ (q = 109 ∧ 15 ≤ j ∧ j ≤ 17) → s9 q j = σ q j := fun q j w w' => by rw [f9 q j (by omega), f8 q j (by omega) w']; exact k7' q j (by omega)
    have ne : ∀ q : Nat, q ≠ 109 → ∀ j : Int, ¬ (q = 109 ∧ 15 ≤ j ∧ j ≤ 17) := fun q w j w' => w w'.1
    have u9 : ulr s9 U V := ⟨by rw [f9 109 15 (by decide)]; exact u8.1, by rw [f9 109 16 (by decide)]; exact u8.2.1, u8.2.2⟩
    have F9 : (∀ b j, 110 ≤ b → b ≤ 113 → s9 b j = σ b j) ∨ FOK hp s9 := by
      rcases F8 with w | w
      · exact Or.inl (fun b j b0 b1 => by rw [f9 b j (by omega), w b j b0 b1]; exact k7' b j (by omega))
      · exact Or.inr (FOK_cg w (fun b j b0 b1 => f9 b j (by omega)))
    have hpA := g_pA g9 hh
    have up : ∀ (τ : l2_m), (∀ b j, b ≠ o3 → b ≠ o3 + 1 → b ≠ o3 + 2 → τ b j = s9 b j) → frj o3 σ τ ∧ ulr τ U V ∧ ((∀ b j, 110 ≤ b → b ≤ 113 → τ b j = σ b j) ∨ FOK hp τ) := fun τ ht => by
      refine ⟨fun b j z z' z1 z2 z3 => by rw [ht b j z1 z2 z3]; exact k9' b j z z', ⟨by rw [ht 109 15 (by omega) (by omega) (by omega)]; exact u9.1, by rw [ht 109 16 (by omega) (by omega) (by omega)]; exact u9.2.1, u9.2.2⟩, ?_⟩
      rcases F9 with w | w
      · exact Or.inl (fun b j b0 b1 => by rw [ht b j (by omega) (by omega) (by omega)]; exact w b j b0 b1)
      · exact Or.inr (FOK_cg w (fun b j b0 b1 => ht b j (by omega) (by omega) (by omega)))
    refine c24 hW rfl ho3 (by omega) (by omega) (by omega) (fun v v0 v1 => by rw [k9' 37 v (by omega) (ne 37 (by decide) v)]; exact hU v v0 v1) (fun n n0 n1 => u1_rg E g9 n n0 n1) (fun n n0 n1 n2 => g_z16 E g9 hh n n0 n1 n2) (fun s10 t1 t2 => ?_) (fun s10 t1 t2 => ?_)
    · refine ⟨⟨by decide, by decide⟩, ?_⟩
      rw [if_neg (by decide)]
      refine c4m ho3 (by rw [t1 34 0 (by omega) (by omega) (by omega), k9' 34 0 (by omega) (ne 34 (by decide) 0)]; exact h34) p2 p97 (invOK_cg hI (fun j => by rw [t1 35 j (by omega) (by omega) (by omega), k9' 35 j (by omega) (ne 35 (by decide) j)])) t2 (fun k k0 k1 => pA_r E hpA k k0 k1) (fun τ h' v1 v2 v3 => ?_)
      obtain ⟨z1, z2, z3⟩ := up τ (fun b j w1 w2 w3 => by rw [v1 b j w2 w3]; exact t1 b j w1 w2 w3)
      exact hK τ U V _ _ h' 1 z1 z2 z3 gd hpA v2 (Or.inl ⟨rfl, v3⟩)
    · refine ⟨⟨by decide, by decide⟩, ?_⟩
      rw [if_pos rfl]
      obtain ⟨z1, z2, z3⟩ := up s10 t1
      -- the monic one stands for the case
      have hz0 : ∃ l : Int, 0 ≤ l ∧ l < 4096 ∧ gH (s9 119) l ≠ 0 ∧ ∀ k : Int, 0 ≤ k → k < 4096 → gH (s9 119) k ≠ 0 → MW Wt k ≤ MW Wt l := lead_ex (by omega)
      obtain ⟨l, l0, l1, l2, l3⟩ := hz0
      exact hK s10 U V _ _ _ 0 z1 z2 z3 gd hpA (Or.inr ⟨l, l0, l1, l2, l3, rfl⟩) (Or.inr ⟨rfl, t2⟩)
