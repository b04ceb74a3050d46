/-! ===== the reference: comparing, pairs, laying ===== -/
theorem rk_cmp {h f s : Int} (hO : isOr h f s) {k l : Int} (k0 : 0 ≤ k) (k1 : k < 4096) (l0 : 0 ≤ l) (l1 : l < 4096) : (MW (wt h f s) k < MW (wt h f s) l ↔ rk (wt h f s) k < rk (wt h f s) l) ∧ (rk (wt h f s) k = rk (wt h f s) l → k = l) := by
  obtain ⟨⟨h0, h1⟩, ⟨f0, f1⟩, ⟨s0, s1⟩, hne⟩ := hO
  have ek := rk_or (h := h) f0 f1 s0 s1 hne k
  have el := rk_or (h := h) f0 f1 s0 s1 hne l
  have a0 := e4_b k f
  have a1 := e4_b k s
  have a2 := e4_b k (3 - f - s)
  have b0 := e4_b l f
  have b1 := e4_b l s
  have b2 := e4_b l (3 - f - s)
  have inj : rk (wt h f s) k = rk (wt h f s) l → k = l := by
    intro e
    rw [ek, el] at e
    have : e4 k f = e4 l f ∧ e4 k s = e4 l s ∧ e4 k (3 - f - s) = e4 l (3 - f - s) := by
      by_cases c0 : h = 0
      · rw [if_pos c0, if_pos c0] at e; omega
      · rw [if_neg c0, if_neg c0] at e
        by_cases c1 : h = 1
        · rw [if_pos c1, if_pos c1] at e; omega
        · rw [if_neg c1, if_neg c1] at e; omega
    rw [← kk_of f0 f1 s0 s1 hne k0 k1, ← kk_of f0 f1 s0 s1 hne l0 l1, this.1, this.2.1, this.2.2]
  refine ⟨⟨fun z => ?_, MW_lt⟩, inj⟩
  rcases Int.lt_trichotomy (rk (wt h f s) k) (rk (wt h f s) l) with w | w | w
  · exact w
  · rw [inj w] at z; omega
  · have := MW_lt w; omega
section RF6
variable {B : va_E} {σ : l2_m} {K : Int → l2_m → Prop}
theorem r196 {h f s k l : Int} (hO : isOr h f s) (k0 : 0 ≤ k) (k1 : k < 4096) (l0 : 0 ≤ l) (l1 : l < 4096) (hK : ∀ d : Int, rg d → (0 < d ↔ MW (wt h f s) l < MW (wt h f s) k) → (d < 0 ↔ MW (wt h f s) k < MW (wt h f s) l) → K d σ) : wC B 196 [vi k, vi l, vi h, vi f, vi s] σ K := by
  obtain ⟨c1, c2⟩ := rk_cmp hO k0 k1 l0 l1
  obtain ⟨c3, -⟩ := rk_cmp hO l0 l1 k0 k1
  rw [c1, c3] at hK
  obtain ⟨⟨h0, h1⟩, ⟨f0, f1⟩, ⟨s0, s1⟩, hne⟩ := hO
  have ek := rk_or (h := h) f0 f1 s0 s1 hne k
  have el := rk_or (h := h) f0 f1 s0 s1 hne l
  have dk := deg_or f0 f1 s0 s1 hne k
  have dl := deg_or f0 f1 s0 s1 hne l
  have a0 := e4_b k f
  have a1 := e4_b k s
  have a2 := e4_b k (3 - f - s)
  have b0 := e4_b l f
  have b1 := e4_b l s
  have b2 := e4_b l (3 - f - s)
  rw [ek, el] at hK
  refine o196 ?_
  unfold w196
  intro t ht
  subst t
  refine ⟨⟨⟨by omega, by omega⟩, ⟨by omega, by omega⟩⟩, ?_⟩
  intro d hd'
  refine ⟨⟨by omega, by omega⟩, fun _ => ⟨by omega, by omega⟩, ?_⟩
  by_cases hc : h = 0 ∨ d = 0
  · rw [if_pos hc]
    unfold w196_31
    refine ⟨⟨by omega, by omega⟩, ?_⟩
    by_cases h2 : h = 2
    · rw [if_pos h2]
      have n0 : ¬ h = 0 := by omega
      have n1 : ¬ h = 1 := by omega
      simp only [if_neg n0, if_neg n1] at hK
      have d0 : d = 0 := by omega
      refine ⟨⟨⟨by omega, by omega⟩, by omega, by omega, ⟨by omega, by omega⟩⟩, ?_⟩
      intro x hx
      refine ⟨⟨by omega, by omega⟩, ?_⟩
      split
      · exact ⟨⟨s0, s1⟩, hK _ ⟨by omega, by omega⟩ (by omega) (by omega)⟩
      · exact hK _ ⟨by omega, by omega⟩ (by omega) (by omega)
    · rw [if_neg h2]
      refine ⟨⟨⟨by omega, by omega⟩, f0, f1, ⟨by omega, by omega⟩⟩, ?_⟩
      intro x hx
      refine ⟨⟨s0, s1⟩, ?_⟩
      intro y hy
      refine ⟨⟨by omega, by omega⟩, ?_⟩
      have key : ∀ z : Int, rg z → (0 < z ↔ (0 < x ∨ (x = 0 ∧ (0 < y ∨ (y = 0 ∧ 0 < e4 k (3 - f - s) - e4 l (3 - f - s)))))) → (z < 0 ↔ (x < 0 ∨ (x = 0 ∧ (y < 0 ∨ (y = 0 ∧ e4 k (3 - f - s) - e4 l (3 - f - s) < 0))))) → K z σ := by
        intro z rz z1 z2
        by_cases n0 : h = 0
        · simp only [if_pos n0] at hK
          exact hK z rz (by omega) (by omega)
        · have n1 : h = 1 := by omega
          simp only [if_neg n0, if_pos n1] at hK
          have d0 : d = 0 := by omega
          exact hK z rz (by omega) (by omega)
      split
      · refine ⟨⟨by omega, by omega⟩, ?_⟩
        split
        · exact ⟨⟨by omega, by omega⟩, key _ ⟨by omega, by omega⟩ (by omega) (by omega)⟩
        · exact key _ ⟨by omega, by omega⟩ (by omega) (by omega)
      · exact key _ ⟨by omega, by omega⟩ (by omega) (by omega)
  · rw [if_neg hc]
    have n0 : ¬ h = 0 := fun z => hc (Or.inl z)
    simp only [if_neg n0] at hK
    by_cases n1 : h = 1
    · simp only [if_pos n1] at hK
      exact hK d ⟨by omega, by omega⟩ (by omega) (by omega)
    · simp only [if_neg n1] at hK
      exact hK d ⟨by omega, by omega⟩ (by omega) (by omega)
/-- a register is laid, and what was there is remembered -/
theorem r240 {k : Int} (k0 : 0 ≤ k) (k1 : k < 8) (a0 : 0 ≤ σ 186 45) (a8 : σ 186 45 ≤ 8) (hb : σ 186 29 = 0 ∨ σ 186 29 = 1) (hw : ∀ j : Int, 0 ≤ j → j < 4096 → 0 ≤ σ 192 j ∧ σ 192 j < 97) (h0 : (σ 186 29 = 0 ∨ 60 < cnt (σ 192) 4096) → K (-1) (trr σ 3)) (h1 : ∀ τ : l2_m, σ 186 29 = 1 → cnt (σ 192) 4096 ≤ 60 → (∀ b j, (b < 199 ∨ 203 < b) → ¬ (b = 186 ∧ (j = 45 ∨ j = 1 ∨ j = 2)) → ¬ (b = 187 ∧ 4096 * k ≤ j ∧ j < 4096 * k + 4096) → τ b j = σ b j) → pshP σ τ k → (∀ j : Int, 0 ≤ j → j < 4096 → τ 187 (4096 * k + j) = σ 192 j) → τ 186 1 = 0 → τ 186 2 = -1 → K (cnt (σ 192) 4096) τ) : wC B 240 [vr 186, vi k] σ K := by
  refine o240 ?_
  unfold w240
  refine ⟨by rcases hb with z | z <;> rw [z] <;> decide, ?_⟩
  have rw' : ∀ j : Int, 0 ≤ j → j < 4096 → rg (σ 192 j) := fun j a b => by have := hw j a b; exact ⟨by omega, by omega⟩
  have cb := cnt_bi (σ 192) (n := 4096) (by decide)
  split
  · rename_i hz
    intro τ et
    rw [et]
    exact h0 (Or.inl hz)
  · rename_i hz
    have h29 : σ 186 29 = 1 := by omega
    refine ⟨⟨rw', ⟨by omega, by omega⟩⟩, ?_⟩
    split
    · rename_i hbig
      intro τ et
      rw [et]
      exact h0 (Or.inr hbig)
    · rename_i hbig
      refine r239 (Or.inr ⟨k0, k1⟩) a0 a8 (fun ρ r1 r2 => ?_)
      unfold w240_29
      refine lz2_inv (fun (x : Int) τ => 0 ≤ x ∧ x ≤ 4096 ∧ (∀ b j, ¬ (b = 187 ∧ 4096 * k ≤ j ∧ j < 4096 * k + 4096) → τ b j = ρ b j) ∧ (∀ j : Int, 0 ≤ j → j < x → τ 187 (4096 * k + j) = σ 192 j)) (fun x _ => 4096 - x) ?_ ⟨by omega, by omega, fun b j _ => rfl, fun j a b => by omega⟩
      rintro X x τ hX ⟨i1, i2, i3, i4⟩
      have t192 : ∀ j, τ 192 j = σ 192 j := fun j => by rw [i3 192 j (by omega)]; exact r1 192 j (by omega) (by omega)
      refine ⟨⟨by omega, by omega⟩, ?_⟩
      split
      · rename_i hx
        refine ⟨⟨i1, hx, by omega, by omega⟩, ?_⟩
        intro τ1 et
        have b1 : ∀ b j, τ1 b j = if b = 187 ∧ j = 4096 * k + x then σ 192 x else τ b j := fun b j => by rw [et, t192]; rfl
        refine hX _ _ ⟨by omega, by omega, fun b j z => by rw [b1, if_neg (by omega)]; exact i3 b j z, fun j a b => ?_⟩ (by omega)
        rw [b1]
        by_cases hj : j = x
        · rw [if_pos ⟨rfl, by rw [hj]⟩, hj]
        · rw [if_neg (by omega)]; exact i4 j a (by omega)
      · rename_i hx
        refine ⟨fun j a b => by rw [t192]; exact rw' j a b, ?_⟩
        intro τ1 et
        have b1 : ∀ b j, τ1 b j = if b = 186 ∧ j = 2 then -1 else if b = 186 ∧ j = 1 then 0 else τ b j := fun b j => by rw [et]; rfl
        have ec : cnt (τ 192) 4096 = cnt (σ 192) 4096 := cnt_congr (fun j _ _ => t192 j)
        rw [ec]
        refine h1 τ1 h29 (by omega) (fun b j z1 z2 z3 => ?_) ?_ (fun j a b => ?_) ?_ ?_
        · rw [b1, if_neg (by omega), if_neg (by omega), i3 b j z3]; exact r1 b j z1 (by omega)
        · have w : ∀ b j, b ≠ 187 → ¬ (b = 186 ∧ (j = 1 ∨ j = 2)) → τ1 b j = ρ b j := fun b j z1 z2 => by rw [b1, if_neg (by omega), if_neg (by omega)]; exact i3 b j (by omega)
          obtain ⟨a, sh, p1, p2, p3, p4, p5, p6, p7, p8, p9, p10, p11⟩ := r2
          refine ⟨a, sh, p1, p2, p3, by rw [w 186 45 (by decide) (by omega)]; exact p4, fun i j x0 x1 x2 x3 => by rw [w 199 _ (by decide) (by omega)]; exact p5 i j x0 x1 x2 x3, fun i x0 x1 => ?_, fun j x0 x1 x2 => by rw [w 199 _ (by decide) (by omega)]; exact p7 j x0 x1 x2, by rw [w 200 _ (by decide) (by omega)]; exact p8, by rw [w 201 _ (by decide) (by omega)]; exact p9, by rw [w 202 _ (by decide) (by omega)]; exact p10, by rw [w 203 _ (by decide) (by omega)]; exact p11⟩
          obtain ⟨q1, q2, q3, q4'⟩ := p6 i x0 x1
          exact ⟨by rw [w 200 _ (by decide) (by omega)]; exact q1, by rw [w 201 _ (by decide) (by omega)]; exact q2, by rw [w 202 _ (by decide) (by omega)]; exact q3, by rw [w 203 _ (by decide) (by omega)]; exact q4'⟩
        · rw [b1, if_neg (by omega), if_neg (by omega)]; exact i4 j a (by omega)
        · rw [b1, if_neg (by decide), if_pos ⟨rfl, rfl⟩]
        · rw [b1, if_pos ⟨rfl, rfl⟩]
theorem r236 {W : Int → Int} {p r q : Int} {ka kb : Int} (hp : σ 186 5 = p) (pp : isPr p) (r0 : 0 ≤ r) (r1 : r < 8) (q0 : 0 ≤ q) (q1 : q < 8) (hr : rngR σ p) (ha : alongOK σ W) (la : isLead W (regR σ r) ka) (lb : isLead W (regR σ q) kb) (h1 : ∀ τ : l2_m, (∀ b j, b ≠ 192 → ¬ (b = 186 ∧ j = 29) → τ b j = σ b j) → (∀ k : Int, 0 ≤ k → k < 4096 → τ 192 k = mixF p (ivp p (regR σ r ka)) (lcmK ka kb - ka) (regR σ r) (p - ivp p (regR σ q kb)) (lcmK ka kb - kb) (regR σ q) k) → τ 186 29 = 1 → (∀ k : Int, 0 ≤ k → k < 4096 → regR σ r k ≠ 0 → noO k (lcmK ka kb - ka)) → (∀ k : Int, 0 ≤ k → k < 4096 → regR σ q k ≠ 0 → noO k (lcmK ka kb - kb)) → cnt (mixF p (ivp p (regR σ r ka)) (lcmK ka kb - ka) (regR σ r) (p - ivp p (regR σ q kb)) (lcmK ka kb - kb) (regR σ q)) 4096 ≤ 60 → K 1 τ) (h0 : ∀ τ : l2_m, (∀ b j, b ≠ 192 → ¬ (b = 186 ∧ j = 29) → τ b j = σ b j) → ((∃ k : Int, 0 ≤ k ∧ k < 4096 ∧ regR σ r k ≠ 0 ∧ ¬ noO k (lcmK ka kb - ka)) ∨ (∃ k : Int, 0 ≤ k ∧ k < 4096 ∧ regR σ q k ≠ 0 ∧ ¬ noO k (lcmK ka kb - kb)) ∨ 60 < cnt (mixF p (ivp p (regR σ r ka)) (lcmK ka kb - ka) (regR σ r) (p - ivp p (regR σ q kb)) (lcmK ka kb - kb) (regR σ q)) 4096) → K 0 τ) : wC B 236 [vr 186, vi r, vi q] σ K := by
  obtain ⟨p2, p97, -⟩ := pr_rest p pp
  have ra := hr r ka r0 r1 la.1 la.2.1
  have rb := hr q kb q0 q1 lb.1 lb.2.1
  have na : σ 187 (4096 * r + ka) ≠ 0 := la.2.2.1
  have nb : σ 187 (4096 * q + kb) ≠ 0 := lb.2.2.1
  obtain ⟨va0, va1, -⟩ := ivp_ok (c := regR σ r ka) pp (by show 0 < σ 187 (4096 * r + ka); omega) ra.2
  obtain ⟨vb0, vb1, -⟩ := ivp_ok (c := regR σ q kb) pp (by show 0 < σ 187 (4096 * q + kb); omega) rb.2
  have sa := lcmK_s (l := kb) la.1 la.2.1
  have sb := lcmK_s (l := ka) lb.1 lb.2.1
  rw [lcmK_c kb ka] at sb
  obtain ⟨H, hH⟩ : ∃ H, H = mixF p (ivp p (regR σ r ka)) (lcmK ka kb - ka) (regR σ r) (p - ivp p (regR σ q kb)) (lcmK ka kb - kb) (regR σ q) := ⟨_, rfl⟩
  rw [← hH] at h1 h0
  refine o236 ?_
  unfold w236
  refine r204 r0 r1 p97 hr ha (fun k hk => ?_) (fun hall => absurd (hall ka la.1 la.2.1) la.2.2.1)
  rw [isLead_uniq hk la]
  refine r204 q0 q1 p97 hr ha (fun k hk => ?_) (fun hall => absurd (hall kb lb.1 lb.2.1) lb.2.2.1)
  rw [isLead_uniq hk lb]
  have a0 := e4_b ka 0
  have a1 := e4_b ka 1
  have a2 := e4_b ka 2
  have b0 := e4_b kb 0
  have b1 := e4_b kb 1
  have b2 := e4_b kb 2
  have ka0 := la.1
  have ka1 := la.2.1
  have kb0 := lb.1
  have kb1 := lb.2.1
  unfold w236_19
  refine lz2_inv (fun (x i : Int) => (i = 0 ∧ x = 0) ∨ (i = 1 ∧ x = max (e4 ka 0) (e4 kb 0)) ∨ (i = 2 ∧ x = max (e4 ka 0) (e4 kb 0) + 16 * max (e4 ka 1) (e4 kb 1)) ∨ (i = 3 ∧ x = lcmK ka kb)) (fun _ i => 3 - i) ?_ (Or.inl ⟨rfl, rfl⟩)
  rintro X x i hX hI
  have ib : 0 ≤ i ∧ i ≤ 3 := by rcases hI with ⟨rfl, -⟩ | ⟨rfl, -⟩ | ⟨rfl, -⟩ | ⟨rfl, -⟩ <;> omega
  refine ⟨⟨by omega, by omega⟩, ?_⟩
  split
  · rename_i hi
    refine ⟨⟨⟨by omega, by omega⟩, ib.1, hi, ⟨by omega, by omega⟩⟩, ?_⟩
    have go : ∀ z : Int, z = max (e4 ka i) (e4 kb i) → w236_57 B σ r q ka kb x i z X K := by
      intro z hz
      unfold w236_57
      rcases hI with ⟨rfl, rfl⟩ | ⟨rfl, rfl⟩ | ⟨rfl, rfl⟩ | ⟨rfl, -⟩
      · have e : z * 2 ^ (Int.toNat (4 * 0)) = z := Int.mul_one _
        rw [e]
        refine ⟨⟨by omega, by omega, by omega, by omega, by omega, by omega⟩, ?_⟩
        intro y hy
        refine hX _ _ (Or.inr (Or.inl ⟨rfl, ?_⟩)) (by decide)
        rw [hy, ← hz]
        unfold ior
        rw [Int.toNat_zero, Nat.zero_or, Int.toNat_of_nonneg (by omega)]
      · have e : z * 2 ^ (Int.toNat (4 * 1)) = z * 16 := rfl
        rw [e]
        refine ⟨⟨by omega, by omega, by omega, by omega, by omega, by omega⟩, ?_⟩
        intro y hy
        refine hX _ _ (Or.inr (Or.inr (Or.inl ⟨rfl, ?_⟩))) (by decide)
        rw [hy, ior_16 (by omega) (by omega) (by omega), hz]
        omega
      · have e : z * 2 ^ (Int.toNat (4 * 2)) = z * 256 := rfl
        rw [e]
        refine ⟨⟨by omega, by omega, by omega, by omega, by omega, by omega⟩, ?_⟩
        intro y hy
        refine hX _ _ (Or.inr (Or.inr (Or.inr ⟨rfl, ?_⟩))) (by decide)
        rw [hy, ior_256 (by omega) (by omega) (by omega), hz]
        unfold lcmK
        omega
      · omega
    split
    · rename_i hc
      exact go _ (by omega)
    · rename_i hc
      exact go _ (by omega)
  · rename_i hi
    have ex : x = lcmK ka kb := by rcases hI with ⟨rfl, -⟩ | ⟨rfl, -⟩ | ⟨rfl, -⟩ | ⟨-, z⟩ <;> first | omega | exact z
    subst x
    intro σ1 es
    have c1' : ∀ b j, σ1 b j = if b = 186 ∧ j = 29 then 1 else if b = 192 ∧ 0 ≤ j ∧ j < 4096 then 0 else σ b j := fun b j => by rw [es]; rfl
    have n1 : ∀ b j, b ≠ 192 → ¬ (b = 186 ∧ j = 29) → σ1 b j = σ b j := fun b j z w => by rw [c1', if_neg w, if_neg (fun y => z y.1)]
    have eR : ∀ τ : l2_m, (∀ b j, b ≠ 192 → ¬ (b = 186 ∧ j = 29) → τ b j = σ b j) → regR τ = regR σ := fun τ t => funext (fun e => funext (fun j => t 187 _ (by decide) (by omega)))
    have rR : ∀ τ : l2_m, (∀ b j, b ≠ 192 → ¬ (b = 186 ∧ j = 29) → τ b j = σ b j) → rngR τ p := fun τ t => fun e j x0 x1 x2 x3 => by rw [t 187 _ (by decide) (by omega)]; exact hr e j x0 x1 x2 x3
    refine ⟨⟨r0, r1, ka0, ka1⟩, ?_⟩
    rw [n1 187 _ (by decide) (by omega)]
    refine r226 (by rw [n1 186 5 (by decide) (by omega)]; exact hp) pp (by omega) ra.2 ?_
    refine r224 (by rw [n1 186 5 (by decide) (by omega)]; exact hp) p2 p97 r0 r1 (rR σ1 n1) (Int.le_of_lt va0) (by show ivp p (regR σ r ka) ≤ 97; omega) sa.1 sa.2.1 (fun k x0 x1 => by rw [c1', if_neg (by omega), if_pos ⟨rfl, x0, x1⟩]; omega) (fun τ t1 t2 t3 t4 => ?_)
    rw [eR σ1 n1] at t2 t3 t4
    have t29 : σ1 186 29 = 1 := by rw [c1', if_pos ⟨rfl, rfl⟩]
    have m1 : ∀ b j, b ≠ 192 → ¬ (b = 186 ∧ j = 29) → τ b j = σ b j := fun b j z w => by rw [t1 b j z w]; exact n1 b j z w
    refine ⟨⟨q0, q1, kb0, kb1⟩, ?_⟩
    rw [m1 187 _ (by decide) (by omega), m1 186 5 (by decide) (by omega), hp]
    refine r226 (by rw [m1 186 5 (by decide) (by omega)]; exact hp) pp (by omega) rb.2 ?_
    refine r224 (by rw [m1 186 5 (by decide) (by omega)]; exact hp) p2 p97 q0 q1 (rR τ m1) (by show 0 ≤ p - ivp p (regR σ q kb); omega) (by show p - ivp p (regR σ q kb) ≤ 97; omega) sb.1 sb.2.1 (fun k x0 x1 => by rw [t2 k x0 x1]; exact ⟨Int.emod_nonneg _ (by omega), Int.emod_lt_of_pos _ (by omega)⟩) (fun υ u1 u2 u3' u4 => ?_)
    rw [eR τ m1] at u2 u3' u4
    have m2 : ∀ b j, b ≠ 192 → ¬ (b = 186 ∧ j = 29) → υ b j = σ b j := fun b j z w => by rw [u1 b j z w]; exact m1 b j z w
    have hw : ∀ k : Int, 0 ≤ k → k < 4096 → υ 192 k = H k := fun k x0 x1 => by
      rw [u2 k x0 x1, t2 k x0 x1, c1', if_neg (by omega), if_pos ⟨rfl, x0, x1⟩, hH, Int.zero_add]
      unfold mixF
      exact md_add (md_md _ _) rfl
    have ec : cnt (υ 192) 4096 = cnt H 4096 := cnt_congr hw
    have cb := cnt_bi H (n := 4096) (by decide)
    have hb29 : υ 186 29 = 0 ∨ υ 186 29 = 1 := by
      by_cases z : (p - ivp p (regR σ q kb) = 0 ∨ ∀ k : Int, 0 ≤ k → k < 4096 → regR σ q k ≠ 0 → noO k (lcmK ka kb - kb))
      · rw [u3' z]
        by_cases y : (ivp p (regR σ r ka) = 0 ∨ ∀ k : Int, 0 ≤ k → k < 4096 → regR σ r k ≠ 0 → noO k (lcmK ka kb - ka))
        · rw [t3 y]; exact Or.inr t29
        · refine Or.inl (t4 ⟨fun w => y (Or.inl w), ?_⟩)
          apply Classical.byContradiction
          intro w
          exact y (Or.inr (fun k x0 x1 x2 => Classical.byContradiction (fun v => w ⟨k, x0, x1, x2, v⟩)))
      · refine Or.inl (u4 ⟨fun w => z (Or.inl w), ?_⟩)
        apply Classical.byContradiction
        intro w
        exact z (Or.inr (fun k x0 x1 x2 => Classical.byContradiction (fun v => w ⟨k, x0, x1, x2, v⟩)))
    rw [ec]
    refine ⟨by rcases hb29 with z | z <;> rw [z] <;> decide, fun _ => ⟨fun j x0 x1 => ?_, ⟨by omega, by omega⟩⟩, ?_⟩
    · have : 0 ≤ H j ∧ H j < p := by rw [hH]; exact ⟨Int.emod_nonneg _ (by omega), Int.emod_lt_of_pos _ (by omega)⟩
      rw [hw j x0 x1]
      exact ⟨by omega, by omega⟩
    · by_cases oa : ∀ k : Int, 0 ≤ k → k < 4096 → regR σ r k ≠ 0 → noO k (lcmK ka kb - ka)
      · by_cases ob : ∀ k : Int, 0 ≤ k → k < 4096 → regR σ q k ≠ 0 → noO k (lcmK ka kb - kb)
        · have e29 : υ 186 29 = 1 := by rw [u3' (Or.inr ob), t3 (Or.inr oa)]; exact t29
          split
          · rename_i hc
            exact h0 υ m2 (Or.inr (Or.inr (by omega)))
          · rename_i hc
            exact h1 υ m2 hw e29 oa ob (by omega)
        · have ex : ∃ k : Int, 0 ≤ k ∧ k < 4096 ∧ regR σ q k ≠ 0 ∧ ¬ noO k (lcmK ka kb - kb) := by
            apply Classical.byContradiction
            intro w
            exact ob (fun k x0 x1 x2 => Classical.byContradiction (fun v => w ⟨k, x0, x1, x2, v⟩))
          have e29 : υ 186 29 = 0 := u4 ⟨by show ¬ (p - ivp p (regR σ q kb) = 0); omega, ex⟩
          rw [if_pos (Or.inl e29)]
          exact h0 υ m2 (Or.inr (Or.inl ex))
      · have ex : ∃ k : Int, 0 ≤ k ∧ k < 4096 ∧ regR σ r k ≠ 0 ∧ ¬ noO k (lcmK ka kb - ka) := by
          apply Classical.byContradiction
          intro w
          exact oa (fun k x0 x1 x2 => Classical.byContradiction (fun v => w ⟨k, x0, x1, x2, v⟩))
        have e29' : τ 186 29 = 0 := t4 ⟨by show ¬ (ivp p (regR σ r ka) = 0); omega, ex⟩
        have e29 : υ 186 29 = 0 := by
          by_cases z : (p - ivp p (regR σ q kb) = 0 ∨ ∀ k : Int, 0 ≤ k → k < 4096 → regR σ q k ≠ 0 → noO k (lcmK ka kb - kb))
          · rw [u3' z]; exact e29'
          · refine u4 ⟨fun w => z (Or.inl w), ?_⟩
            apply Classical.byContradiction
            intro w
            exact z (Or.inr (fun k x0 x1 x2 => Classical.byContradiction (fun v => w ⟨k, x0, x1, x2, v⟩)))
        rw [if_pos (Or.inl e29)]
        exact h0 υ m2 (Or.inl ex)
end RF6
