/-! ===== the reference reads all; desk ===== -/
theorem s179g {B : va_E} {σ : l2_m} {K : Int → l2_m → Prop} {a : Nat} (ha : 3 ≤ a ∧ a < 20) (h1 : rg (σ 186 19)) (h2 : σ 186 19 = 2 → 0 ≤ σ 186 23 ∧ σ 186 23 < 9223372036854775808) (h : K (b2i (σ 186 19 = 2 ∧ σ 186 23 = wcd (l2_tx a))) σ) : wC B 179 [vr 186, vr a] σ K := by
  have hok := tx_all a ha.2 ha.1
  unfold txok at hok
  rw [Bool.and_eq_true, decide_eq_true_eq, List.all_eq_true] at hok
  have hl := hok.1
  have hc : ∀ c ∈ l2_tx a, 97 ≤ c ∧ c ≤ 122 := fun c hc => by simpa using hok.2 c hc
  have key : ∀ n : Nat, n ≤ (l2_tx a).length → 0 ≤ wcd ((l2_tx a).take n) ∧ wcd ((l2_tx a).take n) < 256 ^ n := fun n hn => wcd_b _ n (by rw [List.length_take]; omega) (fun c h => hc c (List.mem_of_mem_take h))
  have p5 : ∀ n : Nat, n ≤ 5 → (256 : Int) ^ n ≤ 1099511627776 := by decide
  refine o179 ha ?_
  unfold w179
  rintro _ rfl
  unfold w179_5
  refine lz2_inv (fun x i => 0 ≤ i ∧ i ≤ ((l2_tx a).length : Int) ∧ x = wcd ((l2_tx a).take i.toNat)) (fun _ i => ((l2_tx a).length : Int) - i) ?_ ⟨by omega, by omega, by rw [Int.toNat_zero, List.take_zero]; rfl⟩
  rintro X x i hX ⟨i1, i2, rfl⟩
  obtain ⟨n, rfl⟩ := Int.eq_ofNat_of_zero_le i1
  rw [Int.toNat_natCast] at *
  have hk := key n (by omega)
  have h5 := p5 n (by omega)
  refine ⟨⟨by omega, by omega⟩, ?_⟩
  split
  · rename_i hlt
    have hn : n < (l2_tx a).length := by omega
    have hm : (l2_tx a).getD n 0 = (l2_tx a)[n] := by rw [List.getD_eq_getElem?_getD, List.getElem?_eq_getElem hn]; rfl
    have hcn := hc _ (List.getElem_mem hn)
    rw [hm]
    refine ⟨⟨by omega, by omega, by omega, by omega, by omega, by omega⟩, ?_⟩
    rintro _ rfl
    have e1 : ior (wcd ((l2_tx a).take n) * 256) ((l2_tx a)[n]) = wcd ((l2_tx a).take n) * 256 + (l2_tx a)[n] := ior_dis (j := 8) hk.1 (by omega) (by omega)
    rw [e1]
    refine hX _ _ ⟨by omega, by omega, ?_⟩ (by omega)
    have e2 : ((n : Int) + 1).toNat = n + 1 := by omega
    rw [e2, List.take_succ, List.getElem?_eq_getElem hn]
    unfold wcd
    rw [List.foldl_append]
    rfl
  · have e : n = (l2_tx a).length := by omega
    subst e
    rw [List.take_length] at *
    refine ⟨h1, fun w => ⟨(h2 w).1, hk.1, (h2 w).2, by omega⟩, b2i_p ?_ h⟩
    unfold lcm
    constructor
    · rintro ⟨z1, z2⟩
      refine ⟨z1, ?_⟩
      split at z2
      · omega
      · split at z2
        · assumption
        · omega
    · rintro ⟨z1, z2⟩
      refine ⟨z1, ?_⟩
      rw [if_neg (by omega), if_pos z2]
theorem o183g {B : va_E} {σ : l2_m} {K : Int → l2_m → Prop} (hs1 : rg (σ 186 19)) (hs2 : σ 186 19 = 2 → 0 ≤ σ 186 23 ∧ σ 186 23 < 9223372036854775808) (h : (if (σ 186 19) = 2 ∧ (σ 186 23) = wcd (l2_tx 13) then (wC B 185 [vr 186] σ (fun _ σ''' => K 0 σ''')) else (if (σ 186 19) = 2 ∧ (σ 186 23) = wcd (l2_tx 14) then (wC B 187 [vr 186] σ (fun _ σ'' => K 0 σ'')) else (rg (σ 186 22) ∧ ∀ σ' : l2_m, σ' = flw σ 1 → K 0 σ')))) : wC B 183 [vr 186] σ K := by
  have ck : pm_code 183 = pc_183 := rfl
  show wW B 183 0 [vr 186] [] σ K
  refine g_al 1 ck rfl rfl rfl ?_
  refine g_ldc 3 ck rfl rfl ?_
  refine g_cvi (as := [_]) (rest := []) 6 ck rfl rfl rfl rfl rfl rfl (by decide) rfl rfl rfl rfl (Nat.le_of_ble_eq_true rfl) (s179g (by decide) hs1 hs2 ?_)
  refine g_ifeq 9 16 ck rfl rfl rfl rg_b2i (fun hc => ?_) (fun hc => ?_)
  · replace h := ite_hf h (b2i_f hc)
    refine g_al 17 ck rfl rfl rfl ?_
    refine g_ldc 19 ck rfl rfl ?_
    refine g_cvi (as := [_]) (rest := []) 22 ck rfl rfl rfl rfl rfl rfl (by decide) rfl rfl rfl rfl (Nat.le_of_ble_eq_true rfl) (s179g (by decide) hs1 hs2 ?_)
    refine g_ifeq 25 32 ck rfl rfl rfl rg_b2i (fun hc => ?_) (fun hc => ?_)
    · replace h := ite_hf h (b2i_f hc)
      obtain ⟨hs4, h⟩ := h
      refine g_al 33 ck rfl rfl rfl ?_
      refine g_ic 34 ck rfl rfl ?_
      refine g_cvv (as := [_]) (rest := []) 37 ck rfl rfl rfl rfl rfl rfl rfl rfl rfl rfl (Nat.le_of_ble_eq_true rfl) (s178 hs4 ?_)
      replace h := h _ rfl
      exact g_retv ck rfl rfl h
    · replace h := ite_ht h (b2i_t hc)
      refine g_al 26 ck rfl rfl rfl ?_
      refine g_cvv (as := []) (rest := []) 29 ck rfl rfl rfl rfl rfl rfl rfl rfl rfl rfl (Nat.le_of_ble_eq_true rfl) (wC.mono h (fun _ σ'' h => ?_))
      refine g_goto 37 ck rfl rfl ?_
      exact g_retv ck rfl rfl h
  · replace h := ite_ht h (b2i_t hc)
    refine g_al 10 ck rfl rfl rfl ?_
    refine g_cvv (as := []) (rest := []) 13 ck rfl rfl rfl rfl rfl rfl rfl rfl rfl rfl (Nat.le_of_ble_eq_true rfl) (wC.mono h (fun _ σ''' h => ?_))
    refine g_goto 37 ck rfl rfl ?_
    exact g_retv ck rfl rfl h
section RX
variable {B : va_E} {T : Int → Int} {n s : Int} {σ : l2_m} {K : Int → l2_m → Prop}
theorem r182l {R : rdT} {t : l2_m} (hf : frRL σ t) (hI : (∃ (f : Nat) (z p h a b c : Int) (G : Int → Int → Int), RS T n z t ∧ RLF t p h a b c G ∧ p ≠ 0 ∧ 700 - f ≤ z ∧ R = rdE T n (rdL T n f) z p h a b c G) ∨ (R.1 ≠ 0 ∧ RF R.1 R.2.1 t)) (hF : ∀ τ : l2_m, frRL σ τ → R.1 ≠ 0 → τ 186 22 = R.1 → 0 < R.1 → R.1 < 100 → (0 ≤ R.2.1 ∧ R.2.1 ≤ 700) → τ 186 20 = R.2.1 → K 0 τ) (hO : ∀ (τ : l2_m) (z p h a b c : Int) (G : Int → Int → Int), frRL σ τ → R = (0, z, p, h, a, b, c, G) → p ≠ 0 → τ 186 22 = 0 → RLF τ p h a b c G → K 0 τ) : w182_40 B t K := by
  have bad : ∀ τ : l2_m, frRL σ τ → R.1 ≠ 0 → RF R.1 R.2.1 τ → w182_72 B τ K := by
    intro τ fτ r1 Fτ
    unfold w182_72
    refine ⟨(RF_22 Fτ).1, fun w => absurd w (RF_22 Fτ).2.1, ?_⟩
    rw [if_neg (fun w => (RF_22 Fτ).2.1 w.1)]
    exact hF τ fτ r1 Fτ.1 Fτ.2.1 Fτ.2.2.1.1 Fτ.2.2.1.2 Fτ.2.2.2.1
  unfold w182_40
  refine lz1_inv (fun u => frRL σ u ∧ ((∃ (f : Nat) (z p h a b c : Int) (G : Int → Int → Int), RS T n z u ∧ RLF u p h a b c G ∧ p ≠ 0 ∧ 700 - f ≤ z ∧ R = rdE T n (rdL T n f) z p h a b c G) ∨ (R.1 ≠ 0 ∧ RF R.1 R.2.1 u))) (fun u => if u 186 22 = 0 then n + 1 - u 186 20 else 0) ?_ ⟨hf, hI⟩
  intro X u hX ⟨fu, hI⟩
  rcases hI with ⟨f, z, p, h, a, b, c, G, Su, Lu, hp, hz, eR⟩ | ⟨r1, r2⟩
  · have hk := RS_k Su.1
    have hb := RS_b Su.1
    have u22 : u 186 22 = 0 := Su.1.2.2.2.1
    have u20 : u 186 20 = tA T n z := Su.1.2.2.2.2.2.1
    unfold rdE at eR
    refine ⟨(RS_g Su).1, ?_⟩
    by_cases h59 : sgS T n z 59
    · rw [if_pos (hk.2.2.2.1.mpr h59)]
      have hk0 : tK T n z ≠ 0 := by rw [h59.1]; decide
      have hlt := hb.2.2.2.2.2 hk0
      rw [if_neg hk0, if_pos h59] at eR
      obtain ⟨f', ef⟩ : ∃ f' : Nat, f = f' + 1 := ⟨f - 1, by omega⟩
      subst ef
      refine nxt Su (fun u1 g1 S1 => ?_)
      have L1 : RLF u1 p h a b c G := RLF_fr Lu (fun b j w => g1 b j (by omega))
      have fu1 : frRL σ u1 := frRL_t fu (fun b j w1 w2 => g1 b j (by omega))
      refine r183 (f := f') S1 L1 (fun τ f1 q1 q2 => ?_) (fun τ z' p' h' a' b' c' G' f1 q1 q2 q3 q4 q5 => ?_)
      · rw [← eR] at q1 q2
        refine hX τ ⟨frRL_t fu1 f1, Or.inr ⟨q1, q2⟩⟩ ?_
        rw [if_neg (RF_22 q2).2.1, if_pos u22, u20]; omega
      · rw [← eR] at q5
        have hb' := RS_b q1.1
        refine hX τ ⟨frRL_t fu1 f1, Or.inl ⟨f', z', p', h', a', b', c', G', q1, q4, q3, by omega, q5⟩⟩ ?_
        rw [if_pos q1.1.2.2.2.1, if_pos u22, u20, q1.1.2.2.2.2.2.1]; omega
    · rw [if_neg (fun w => h59 (hk.2.2.2.1.mp w))]
      by_cases h0 : tK T n z = 0
      · rw [if_pos (hk.1.mpr h0)]
        rw [if_pos h0] at eR
        unfold w182_72
        rw [u22, Lu.1]
        obtain ⟨k1, -⟩ := Lu.2.1 hp
        obtain ⟨p2, p97, -⟩ := pr_rest _ k1
        refine ⟨by decide, fun _ => ⟨by omega, by omega⟩, ?_⟩
        rw [if_neg (fun w => hp w.2)]
        exact hO u z p h a b c G fu eR hp u22 Lu
      · rw [if_neg (fun w => h0 (hk.1.mp w))]
        rw [if_neg h0, if_neg h59] at eR
        refine ⟨by rw [u22]; decide, ?_⟩
        intro τ et
        obtain ⟨Fw, gw⟩ := RS_flw Su (by decide) (by decide) et
        refine bad τ (frRL_t fu (fun b j w1 w2 => gw b j (by omega))) (by rw [eR]; exact (by decide : (1 : Int) ≠ 0)) (by rw [eR]; exact Fw)
  · refine ⟨(RF_g r2).1, ?_⟩
    rw [if_neg (by rw [r2.2.2.2.2.1]; decide), if_neg (by rw [r2.2.2.2.2.1]; decide)]
    refine ⟨(RF_22 r2).1, ?_⟩
    intro τ et
    obtain ⟨Fw, gw⟩ := RF_flw r2 et
    exact bad τ (frRL_t fu (fun b j w1 w2 => gw b j (by omega))) r1 Fw
theorem r182 (hT : TR T n σ) (h18 : σ 186 18 = 0) (h22 : σ 186 22 = 0) (hF : ∀ τ : l2_m, frRL σ τ → (rdL T n 701 0 0 0 0 0 0 (fun _ _ => 0)).1 ≠ 0 → τ 186 22 = (rdL T n 701 0 0 0 0 0 0 (fun _ _ => 0)).1 → 0 < (rdL T n 701 0 0 0 0 0 0 (fun _ _ => 0)).1 → (rdL T n 701 0 0 0 0 0 0 (fun _ _ => 0)).1 < 100 → (0 ≤ (rdL T n 701 0 0 0 0 0 0 (fun _ _ => 0)).2.1 ∧ (rdL T n 701 0 0 0 0 0 0 (fun _ _ => 0)).2.1 ≤ 700) → τ 186 20 = (rdL T n 701 0 0 0 0 0 0 (fun _ _ => 0)).2.1 → K 0 τ) (hO : ∀ (τ : l2_m) (z p h a b c : Int) (G : Int → Int → Int), frRL σ τ → rdL T n 701 0 0 0 0 0 0 (fun _ _ => 0) = (0, z, p, h, a, b, c, G) → p ≠ 0 → τ 186 22 = 0 → RLF τ p h a b c G → K 0 τ) : wC B 182 [vr 186] σ K := by
  obtain ⟨R, hR⟩ : ∃ R, R = rdL T n 701 0 0 0 0 0 0 (fun _ _ => 0) := ⟨_, rfl⟩
  rw [← hR] at hF hO
  refine o182 ?_
  unfold w182
  intro s1 e1 s2 e2
  have g : ∀ b j, s2 b j = if b = 186 ∧ j = 13 then 0 else if b = 186 ∧ j = 9 then 0 else σ b j := fun b j => by rw [e2, e1]; rfl
  unfold w182_12
  refine lz2_inv (fun (i : Int) u => 0 ≤ i ∧ i ≤ 24576 ∧ (∀ b j, b ≠ 188 → u b j = s2 b j) ∧ (∀ j : Int, 0 ≤ j → j < i → u 188 j = 0)) (fun i _ => 24576 - i) ?_ ⟨by decide, by decide, fun _ _ _ => rfl, fun j a b => by omega⟩
  intro X i u hX ⟨i0, i1, u1, u2⟩
  refine ⟨⟨by omega, by omega⟩, ?_⟩
  by_cases hi : i < 24576
  · rw [if_pos hi]
    refine ⟨⟨i0, hi⟩, ?_⟩
    intro u' eu
    refine hX (i + 1) u' ⟨by omega, by omega, fun b j z => by rw [eu, l2_u_ne z]; exact u1 b j z, fun j j0 j1 => ?_⟩ (by omega)
    rw [eu]
    unfold l2_u
    by_cases hj : j = i
    · rw [if_pos ⟨rfl, hj⟩]
    · rw [if_neg (fun w => hj w.2)]; exact u2 j j0 (by omega)
  · rw [if_neg hi]
    have un : ∀ b j, b ≠ 188 → ¬ (b = 186 ∧ (j = 9 ∨ j = 13)) → u b j = σ b j := fun b j w1 w2 => by rw [u1 b j w1, g, if_neg (by omega), if_neg (by omega)]
    have u9 : u 186 9 = 0 := by rw [u1 186 9 (by decide), g, if_neg (by decide), if_pos ⟨rfl, rfl⟩]
    have u13 : u 186 13 = 0 := by rw [u1 186 13 (by decide), g, if_pos ⟨rfl, rfl⟩]
    have fu : frRL σ u := fun b j w1 w2 => un b j w1 (by omega)
    have n0 := hT.2.1
    refine r175 (s := 0) (T := T) (n := n) (TR_fr hT (fun b j w => un b j (by omega) (by omega))) (by rw [un 186 22 (by omega) (by omega)]; exact h22) (by decide) n0 (by rw [un 186 18 (by omega) (by omega)]; exact h18) ?_
    intro v f1 S0 hw
    have fv : frRL σ v := frRL_t fu (fun b j w1 w2 => f1 b j (by omega))
    have Lv : RLF v 0 0 0 0 0 (fun _ _ => 0) := ⟨by rw [f1 186 9 (by omega)]; exact u9, fun w => absurd rfl w, by rw [f1 186 13 (by omega)]; exact u13, by decide, by decide, fun _ => rfl, fun i k x0 x1 y0 y1 => ⟨fun w => by omega, fun _ => by rw [f1 188 _ (by omega)]; exact u2 _ (by omega) (by omega)⟩⟩
    by_cases hk : tK T n 0 = 1
    · have hb23 : 0 ≤ v 186 23 ∧ v 186 23 < 9223372036854775808 := by
        obtain ⟨q1, q2, q3⟩ := tk1 (T := T) n0 hk
        have hwb := wcd_b (ltL T (tA T n 0) (tE T n 0 - tA T n 0).toNat) _ (ltL_len _ _ _) (ltL_mem _ (fun j x y => q3 j x (by omega)))
        have hp5 := p256 (tE T n 0 - tA T n 0).toNat (by omega)
        rw [S0.2.2.2.2.2.2.2.2 hk]
        omega
      have S1 : RS T n 0 v := ⟨S0, hb23⟩
      refine r183 (f := 700) S1 Lv (fun τ f2 q1 q2 => ?_) (fun τ z' p' h' a' b' c' G' f2 q1 q2 q3 q4 q5 => ?_)
      · rw [← hR] at q1 q2
        exact r182l (T := T) (n := n) (R := R) (frRL_t fv f2) (Or.inr ⟨q1, q2⟩) hF hO
      · rw [← hR] at q5
        exact r182l (T := T) (n := n) (R := R) (frRL_t fv f2) (Or.inl ⟨700, z', p', h', a', b', c', G', q1, q4, q3, by omega, q5⟩) hF hO
    · have hk2 := RS_k S0
      have hne : v 186 19 ≠ 2 := fun w => hk (hk2.2.1.mp w)
      have v22 : v 186 22 = 0 := S0.2.2.2.1
      have eR : R = rdX 1 (tA T n 0) := by
        rw [hR]
        unfold rdL
        rw [if_neg (fun w => hk w.1), if_neg (fun w => hk w.1)]
      refine o183g ⟨by omega, by omega⟩ (fun w => absurd w hne) ?_
      rw [if_neg (fun w => hne w.1), if_neg (fun w => hne w.1)]
      refine ⟨by rw [v22]; decide, ?_⟩
      intro w ew
      have w19 : w 186 19 = 0 := by rw [ew, flw_at, if_pos ⟨rfl, rfl⟩]
      have w22 : w 186 22 = 1 := by rw [ew, flw_at, if_neg (by decide), if_pos ⟨rfl, rfl⟩, if_pos v22]
      have wn : ∀ b j, ¬ (b = 186 ∧ (j = 19 ∨ j = 22)) → w b j = v b j := fun b j z => by rw [ew, flw_at, if_neg (by omega), if_neg (by omega)]
      unfold w182_40
      refine lz1_inv (fun u => u = w) (fun _ => 0) ?_ rfl
      intro Y y hY ey
      subst ey
      rw [w19]
      refine ⟨by decide, ?_⟩
      rw [if_neg (by decide), if_neg (by decide)]
      refine ⟨by rw [w22]; decide, ?_⟩
      intro x ex
      have x22 : x 186 22 = 1 := by rw [ex, flw_at, if_neg (by decide), if_pos ⟨rfl, rfl⟩, if_neg (by rw [w22]; decide)]; exact w22
      have xn : ∀ b j, ¬ (b = 186 ∧ (j = 19 ∨ j = 22)) → x b j = v b j := fun b j z => by rw [ex, flw_at, if_neg (by omega), if_neg (by omega)]; exact wn b j z
      unfold w182_72
      rw [x22]
      refine ⟨by decide, fun z => absurd z (by decide), ?_⟩
      rw [if_neg (fun z => absurd z.1 (by decide))]
      refine hF x (fun b j w1 w2 => by rw [xn b j (by omega)]; exact fv b j w1 w2) (by rw [eR]; exact (by decide : (1 : Int) ≠ 0)) (by rw [eR]; exact x22) (by rw [eR]; exact (by decide : (0 : Int) < 1)) (by rw [eR]; exact (by decide : (1 : Int) < 100)) (by rw [eR]; have hb := tE_b (T := T) n0; have h700 := hT.2.2.1; exact ⟨by show 0 ≤ tA T n 0; omega, by show tA T n 0 ≤ 700; omega⟩) ?_
      rw [eR, xn 186 20 (by omega)]
      exact S0.2.2.2.2.2.1
end RX
