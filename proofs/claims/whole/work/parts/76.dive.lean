section DV2
variable {B : va_E} {σ : l2_m} {K : Int → l2_m → Prop}
theorem c48 {W L : Int → Int} {p set k d : Int} {G : Int → Int → Int} {lk iv q : Int → Int} (hW : okW W) (hp : σ 34 0 = p) (p2 : 2 ≤ p) (p97 : p ≤ 97) (hv : invOK σ 34 p) (hdo : dvO σ) (hL : PR σ (Int.toNat (σ 74 3)) W L) (rL : ∀ l : Int, 0 ≤ l → l < 4096 → 0 ≤ L l ∧ L l < p) (hk : isLead W L k) (hG : ∀ d : Int, 0 ≤ d → d < 8 → PR σ (162 + 3 * Int.toNat d) W (G d)) (hd : dvOK p W set G lk iv) (hdv : dvr set lk k d) (hQ : PR σ (85 + 3 * Int.toNat d) W q) (hlt : ∀ x : Int, 0 ≤ x → x < 4096 → q x ≠ 0 → MW W k < MW W x + MW W (lk d)) (h1 : ∀ τ : l2_m, dvO τ → (∀ b j, b ≠ 74 → (b < 79 ∨ 84 < b) → b ≠ 85 + 3 * Int.toNat d → b ≠ 85 + 3 * Int.toNat d + 1 → b ≠ 85 + 3 * Int.toNat d + 2 → τ b j = σ b j) → τ 74 5 = σ 74 5 → τ 74 6 = σ 74 6 → (∀ l : Int, 0 ≤ l → l < 4096 → G d l ≠ 0 → noO l (k - lk d)) → cnt (dvL p G lk iv L k d) 4096 ≤ 60 → cnt (upI q (k - lk d) (L k * iv d % p)) 4096 ≤ 60 → PR τ (Int.toNat (τ 74 3)) W (dvL p G lk iv L k d) → PR τ (85 + 3 * Int.toNat d) W (upI q (k - lk d) (L k * iv d % p)) → K 1 τ) (h0 : ∀ τ : l2_m, frD σ τ → dvO τ → ((∃ l : Int, 0 ≤ l ∧ l < 4096 ∧ G d l ≠ 0 ∧ ¬ noO l (k - lk d)) ∨ 60 < cnt (dvL p G lk iv L k d) 4096 ∨ 60 < cnt (upI q (k - lk d) (L k * iv d % p)) 4096) → K 0 τ) : wC B 48 [vr 74, vr (162 + 3 * Int.toNat d), vr (85 + 3 * Int.toNat d)] σ K := by
  obtain ⟨x, y, ex, ey, px, py, hne, x79, x82, y79, y82, s3, s4, hxy⟩ := dvO_n hdo
  rw [ex] at hL
  obtain ⟨e0, e1, e2, e3, e4'⟩ := hdv
  have pD := isP_reg e0 e1
  have pQ := isP_quo e0 e1
  have hdn : Int.toNat d < 8 := by omega
  obtain ⟨rG, hGd⟩ := hd d e0 e1
  obtain ⟨hlead, v0, v1, v2⟩ := hGd e2
  have hgP := hG d e0 e1
  obtain ⟨g0, g1, g2, g3⟩ := hlead
  have hn : 0 < σ x 2 := by
    obtain ⟨i, i0, i1, -⟩ := hL.2.2.2.2 k hk.1 hk.2.1 hk.2.2.1
    omega
  have h60 := hL.2.1
  obtain ⟨k', k0, k1, k2, k3, k4, k5⟩ := PR_lead hL hn
  have ek := isLead_uniq (W := W) (L := L) ⟨k0, k1, k4, k5⟩ hk
  subst ek
  have hn2 : 0 < σ (162 + 3 * Int.toNat d) 2 := by
    obtain ⟨i, i0, i1, -⟩ := hgP.2.2.2.2 _ g0 g1 g2
    omega
  have g60 := hgP.2.1
  obtain ⟨l', l0, l1, l2, l3, l4, l5⟩ := PR_lead hgP hn2
  have el := isLead_uniq (W := W) (L := G d) ⟨l0, l1, l4, l5⟩ ⟨g0, g1, g2, g3⟩
  rw [el] at l2 l3
  obtain ⟨u0, u1, u2, u3'⟩ := isUn_sub k0 k1 g0 g1 e3
  have rg1 := rG (lk d) g0 g1
  have rk1 := rL k' k0 k1
  have einv : invO σ 34 (G d (lk d)) = iv d := by
    unfold invO
    rw [hp, if_pos ⟨by omega, rg1.2⟩]
    obtain ⟨w0, w1, w2⟩ := hv (G d (lk d)) (by omega) rg1.2
    exact inv_uniq w0 w1 v0 v1 w2 v2
  obtain ⟨z1, z2, z3, z4⟩ := dvL_lt p2 hW hd rL ⟨k0, k1, k4, k5⟩ ⟨e0, e1, e2, e3, e4'⟩
  refine o48 pD pQ ?_
  unfold w48
  simp only [ex, ey, if_pos hn, if_pos hn2, k2, l2, k3, l3, einv, hp]
  refine ⟨⟨px, ⟨by omega, by omega⟩, ⟨by omega, by omega⟩⟩, ?_⟩
  intro m hm
  have em : m = MW W (k' - lk d) := by rw [hm, u3' W]; omega
  have hmm := mul_b (a := L k') (b := iv d) (m := 97) (n := 97) (by omega) (by omega) (by omega) (by omega)
  refine ⟨⟨by omega, p97, ⟨by omega, by omega⟩, p2, ⟨by omega, by omega⟩⟩, ?_⟩
  intro c hc
  rw [em]
  subst c
  refine ⟨py, ?_⟩
  have key : wC B 1 [vr 38, vr x, vi 1, vi (MW W 0), vr (162 + 3 * Int.toNat d), vi (p - L k' * iv d % p), vi (MW W (k' - lk d)), vr y] σ (fun y' σ' => (rg y' ∧ (if y' = 0 then K 0 σ' else ((isP (Int.toNat (σ' 74 3)) ∧ isP (Int.toNat (σ' 74 4))) ∧ ∀ σ'' : l2_m, σ'' = l2_u σ' 74 3 (((Int.toNat (σ' 74 4)) : Nat) : Int) → ∀ σ''' : l2_m, σ''' = l2_u σ'' 74 4 (((Int.toNat (σ' 74 3)) : Nat) : Int) → (0 ≤ (σ''' (85 + 3 * Int.toNat d) 2) ∧ rg (σ''' (85 + 3 * Int.toNat d) 2)) ∧ ∀ σ'''' : l2_m, σ'''' = app σ''' (85 + 3 * Int.toNat d) (MW W (k' - lk d)) (L k' * iv d % p) → K (b2i ((σ''' (85 + 3 * Int.toNat d) 2) < 60)) σ'''')))) := by
    refine c1 px pD py (fun z => hne z.symm) (by omega) hW hp p2 p97 hL hgP rL rG (by decide) (by decide) (by omega) (by omega) (by decide) (by decide) u0 u1 (fun τ t1 t2 t3 t4 => ⟨by decide, ?_⟩) (fun τ t1 t2 => ⟨by decide, ?_⟩)
    · rw [if_neg (by decide)]
      have f3 : τ 74 3 = x := by rw [t1 74 3 (by omega) (by omega) (by omega)]; exact s3
      have f4 : τ 74 4 = y := by rw [t1 74 4 (by omega) (by omega) (by omega)]; exact s4
      rw [f3, f4, Int.toNat_natCast, Int.toNat_natCast]
      refine ⟨⟨px, py⟩, ?_⟩
      intro τ1 et τ2 et2
      have a2 : ∀ b j, τ2 b j = if b = 74 ∧ j = 4 then (x : Int) else if b = 74 ∧ j = 3 then (y : Int) else τ b j := fun b j => by rw [et2, et]; rfl
      have n2 : ∀ b j, b ≠ 74 → τ2 b j = τ b j := fun b j hb => by rw [a2, if_neg (fun z => hb z.1), if_neg (fun z => hb z.1)]
      have m2 : ∀ b j, b ≠ 74 → b ≠ y → b ≠ y + 1 → b ≠ y + 2 → τ2 b j = σ b j := fun b j hb w1 w2 w3 => by rw [n2 b j hb]; exact t1 b j w1 w2 w3
      have hQ2 : PR τ2 (85 + 3 * Int.toNat d) W q := PR_congr hQ (m2 _ _ (by omega) (by omega) (by omega) (by omega)) (fun i _ _ => m2 _ _ (by omega) (by omega) (by omega) (by omega)) (fun i _ _ => m2 _ _ (by omega) (by omega) (by omega) (by omega))
      have q60 := hQ2.2.1
      have q0 := hQ2.1
      have hq0 : q (k' - lk d) = 0 := Classical.byContradiction (fun z => by
        have := hlt _ u0 u1 z
        have := u3' W
        omega)
      have hqc : cnt (upI q (k' - lk d) (L k' * iv d % p)) 4096 = τ2 (85 + 3 * Int.toNat d) 2 + 1 := by rw [cnt_app u0 u1 hq0 z2, PR_cnt hQ2]
      refine ⟨⟨q0, ⟨by omega, by omega⟩⟩, ?_⟩
      intro τ3 et3
      have hL3 : PR τ2 y W (dvL p G lk iv L k' d) := PR_congr t4 (n2 _ _ (by omega)) (fun i _ _ => n2 _ _ (by omega)) (fun i _ _ => n2 _ _ (by omega))
      by_cases hroom : τ2 (85 + 3 * Int.toNat d) 2 < 60
      · rw [b2i, if_pos hroom]
        obtain ⟨r2, rm, rc, rf⟩ := app_row hroom et3
        have hQ3 := PR_app hQ2 u0 u1 rfl hq0 (fun l b1 b2 b3 => by have := hlt l b1 b2 b3; have := u3' W; omega) z2 hroom et3
        have g3' : ∀ j, τ3 74 j = τ2 74 j := fun j => rf 74 j (by omega) (by omega) (by omega)
        have h3 : τ3 74 3 = y := by rw [g3', a2, if_neg (by decide), if_pos ⟨rfl, rfl⟩]
        have h4 : τ3 74 4 = x := by rw [g3', a2, if_pos ⟨rfl, rfl⟩]
        refine h1 τ3 ?_ (fun b j w1 w2 w3 w4 w5 => ?_) ?_ ?_ t3 (by rw [PR_cnt hL3]; exact hL3.2.1) (by omega) ?_ hQ3
        · unfold dvO
          rw [h3, h4]
          rcases hxy with ⟨rfl, rfl⟩ | ⟨rfl, rfl⟩
          · exact Or.inr ⟨rfl, rfl⟩
          · exact Or.inl ⟨rfl, rfl⟩
        · rw [rf b j w3 w4 w5]; exact m2 b j w1 (by omega) (by omega) (by omega)
        · rw [g3', a2, if_neg (by decide), if_neg (by decide)]; exact t1 74 5 (by omega) (by omega) (by omega)
        · rw [g3', a2, if_neg (by decide), if_neg (by decide)]; exact t1 74 6 (by omega) (by omega) (by omega)
        · rw [h3, Int.toNat_natCast]
          exact PR_congr hL3 (rf _ _ (by omega) (by omega) (by omega)) (fun i _ _ => rf _ _ (by omega) (by omega) (by omega)) (fun i _ _ => rf _ _ (by omega) (by omega) (by omega))
      · rw [b2i, if_neg hroom]
        rw [et3, app_no hroom]
        have h3 : τ2 74 3 = y := by rw [a2, if_neg (by decide), if_pos ⟨rfl, rfl⟩]
        have h4 : τ2 74 4 = x := by rw [a2, if_pos ⟨rfl, rfl⟩]
        refine h0 τ2 (fun b j w => m2 b j (by omega) (by omega) (by omega) (by omega)) ?_ (Or.inr (Or.inr (by omega)))
        unfold dvO
        rw [h3, h4]
        rcases hxy with ⟨rfl, rfl⟩ | ⟨rfl, rfl⟩
        · exact Or.inr ⟨rfl, rfl⟩
        · exact Or.inl ⟨rfl, rfl⟩
    · rw [if_pos rfl]
      refine h0 τ (fun b j w => t1 b j (by omega) (by omega) (by omega)) ?_ ?_
      · unfold dvO
        rw [t1 74 3 (by omega) (by omega) (by omega), t1 74 4 (by omega) (by omega) (by omega)]
        exact hdo
      · rcases t2 with ⟨l, -, -, -, t⟩ | t | t
        · exact absurd (noO_0 l) t
        · exact Or.inl t
        · exact Or.inr (Or.inl t)
  rw [MW_0] at key
  exact key
theorem cpP_at {σ : l2_m} {o q : Nat} (b : Nat) (j : Int) : cpP σ o q b j = if b = o ∧ j = 2 then σ q 2 else if b = o + 1 ∧ 0 ≤ j ∧ j < σ q 2 then σ (q + 1) j else if b = o + 2 ∧ 0 ≤ j ∧ j < σ q 2 then σ (q + 2) j else σ b j := rfl
theorem PR_cpP {σ : l2_m} {o q : Nat} {W f : Int → Int} (h : PR σ q W f) : PR (cpP σ o q) o W f ∧ frQ o σ (cpP σ o q) := by
  have e0 : cpP σ o q o 2 = σ q 2 := by rw [cpP_at, if_pos ⟨rfl, rfl⟩]
  have e1 : ∀ j : Int, 0 ≤ j → j < σ q 2 → cpP σ o q (o + 1) j = σ (q + 1) j := fun j a b => by rw [cpP_at, if_neg (by omega), if_pos ⟨rfl, a, b⟩]
  have e2 : ∀ j : Int, 0 ≤ j → j < σ q 2 → cpP σ o q (o + 2) j = σ (q + 2) j := fun j a b => by rw [cpP_at, if_neg (by omega), if_neg (by omega), if_pos ⟨rfl, a, b⟩]
  obtain ⟨h1, h2, h3, h4, h5⟩ := h
  refine ⟨?_, fun b j x y z => by rw [cpP_at, if_neg (fun w => x w.1), if_neg (fun w => y w.1), if_neg (fun w => z w.1)]⟩
  unfold PR
  rw [e0]
  refine ⟨h1, h2, fun i a b => ?_, fun i j a b c => ?_, fun k a b c => ?_⟩
  · rw [e1 i a b, e2 i a b]; exact h3 i a b
  · rw [e1 i a (by omega), e1 j (by omega) c]; exact h4 i j a b c
  · obtain ⟨i, i1, i2, i3⟩ := h5 k a b c
    exact ⟨i, i1, i2, by rw [e1 i i1 i2]; exact i3⟩
theorem c45 {o : Nat} {W f : Int → Int} {p set : Int} {G : Int → Int → Int} {lk iv : Int → Int} (ho : isP o) (hob : 108 < o) (hW : okW W) (hs : rg set) (hp : σ 34 0 = p) (p2 : 2 ≤ p) (p97 : p ≤ 97) (hv : invOK σ 34 p) (hdo : dvO σ) (hf : PR σ o W f) (rf : ∀ l : Int, 0 ≤ l → l < 4096 → 0 ≤ f l ∧ f l < p) (hG : ∀ d : Int, 0 ≤ d → d < 8 → PR σ (162 + 3 * Int.toNat d) W (G d)) (hd : dvOK p W set G lk iv) (h1 : ∀ (τ : l2_m) (n : Nat) (s : dst), frD σ τ → dvO τ → dOK p W set G lk iv f n s → PR τ 76 W s.2.1 → (∀ d : Int, 0 ≤ d → d < 8 → PR τ (85 + 3 * Int.toNat d) W (s.2.2.1 d)) → τ 74 5 = n → τ 74 6 = s.2.2.2 → dGood p W lk s → K 1 τ) (h0 : ∀ τ : l2_m, frD σ τ → dvO τ → dNO p W set G lk iv f → K 0 τ) : wC B 45 [vr 74, vr o, vr 158, vi set] σ K := by
  obtain ⟨x, y, ex, ey, px, py, hne, x79, x82, y79, y82, s3, s4, hxy⟩ := dvO_n hdo
  refine o45 ho ?_
  unfold w45
  rw [ex]
  refine ⟨⟨px, by omega, hf.1, hf.2.1⟩, ?_⟩
  intro σ1 es1 σ2 es2
  obtain ⟨hc1, hc2⟩ := PR_cpP (o := x) hf
  rw [← es1] at hc1 hc2
  have a2 : ∀ b j, σ2 b j = if b = 76 ∧ j = 2 then 0 else σ1 b j := fun b j => by rw [es2]; rfl
  clear es1 es2
  unfold w45_19
  refine lz2_inv (fun (i : Int) τ => 0 ≤ i ∧ i ≤ 8 ∧ (∀ b j, (b < 85 ∨ 108 < b) → τ b j = σ2 b j) ∧ (∀ d : Int, 0 ≤ d → d < i → τ (85 + 3 * Int.toNat d) 2 = 0)) (fun i _ => 8 - i) ?_ ⟨by omega, by omega, fun b j _ => rfl, fun d a b => by omega⟩
  rintro X i τ hX ⟨i1, i2, i3, i4⟩
  refine ⟨⟨by omega, by omega⟩, ?_⟩
  split
  · rename_i hi
    refine ⟨⟨i1, hi⟩, ?_⟩
    intro τ1 et
    have b1 : ∀ b j, τ1 b j = if b = 85 + 3 * Int.toNat i ∧ j = 2 then 0 else τ b j := fun b j => by rw [et]; rfl
    refine hX _ _ ⟨by omega, by omega, fun b j z => ?_, fun d a b => ?_⟩ (by omega)
    · rw [b1, if_neg (by omega)]; exact i3 b j z
    · rw [b1]
      by_cases hdi : d = i
      · rw [if_pos ⟨by rw [hdi], rfl⟩]
      · rw [if_neg (by omega)]; exact i4 d a (by omega)
  · rename_i hi
    have fr0 : ∀ b j, (b < 74 ∨ 108 < b) → τ b j = σ b j := fun b j z => by
      rw [i3 b j (by omega), a2, if_neg (by omega)]; exact hc2 b j (by omega) (by omega) (by omega)
    have f74 : ∀ j, τ 74 j = σ 74 j := fun j => by
      rw [i3 74 j (by omega), a2, if_neg (by omega)]; exact hc2 74 j (by omega) (by omega) (by omega)
    have q3 : Int.toNat (τ 74 3) = x := by rw [f74]; exact ex
    have hL0 : PR τ x W f := PR_congr hc1 (by rw [i3 _ _ (by omega), a2, if_neg (by omega)]) (fun j _ _ => by rw [i3 _ _ (by omega), a2, if_neg (by omega)]) (fun j _ _ => by rw [i3 _ _ (by omega), a2, if_neg (by omega)])
    have h76 : τ 76 2 = 0 := by rw [i3 76 2 (by omega), a2, if_pos ⟨rfl, rfl⟩]
    rw [q3]
    refine ⟨px, ?_⟩
    intro τ1 et1 τ2 et2
    have b2 : ∀ b j, τ2 b j = if b = 74 ∧ j = 5 then 0 else if b = 74 ∧ j = 6 then τ x 2 else τ b j := fun b j => by rw [et2, et1]; rfl
    have n2 : ∀ b j, b ≠ 74 → τ2 b j = τ b j := fun b j hb => by rw [b2, if_neg (fun z => hb z.1), if_neg (fun z => hb z.1)]
    clear et1 et2
    unfold w45_62
    refine lz2_inv (fun (n : Int) υ => 0 ≤ n ∧ n ≤ 500 ∧ frD σ υ ∧ dvO υ ∧ υ 74 5 = n ∧ ∃ s : dst, dReach p W set G lk iv f n.toNat s ∧ dGood p W lk s ∧ PR υ (Int.toNat (υ 74 3)) W s.1 ∧ PR υ 76 W s.2.1 ∧ (∀ d : Int, 0 ≤ d → d < 8 → PR υ (85 + 3 * Int.toNat d) W (s.2.2.1 d)) ∧ υ 74 6 = s.2.2.2 ∧ 0 ≤ s.2.2.2 ∧ s.2.2.2 ≤ 60) (fun n _ => 500 - n) ?_ ?_
    · rintro Y n υ hY ⟨n0, n1, n2', n3, n4, s, s1, s2, s3', s4', s5, s6, s7, s8⟩
      obtain ⟨x', y', ex', ey', px', py', -⟩ := dvO_n n3
      rw [ex'] at s3'
      have l60 := s3'.2.1
      have l0 := s3'.1
      have lcnt := PR_cnt s3'
      rw [ex']
      refine ⟨⟨by omega, by omega⟩, fun _ => ⟨px', ⟨by omega, by omega⟩⟩, ?_⟩
      have hp' : υ 34 0 = p := by rw [← hp]; exact n2' 34 0 (by omega)
      have hv' : invOK υ 34 p := fun z z0 z1 => by rw [n2' 35 z (by omega)]; exact hv z z0 z1
      have hG' : ∀ d : Int, 0 ≤ d → d < 8 → PR υ (162 + 3 * Int.toNat d) W (G d) := fun d a b => PR_congr (hG d a b) (n2' _ _ (by omega)) (fun j _ _ => n2' _ _ (by omega)) (fun j _ _ => n2' _ _ (by omega))
      -- a step that went well
      have good : ∀ (ρ : l2_m) (t : dst), frD σ ρ → dvO ρ → ρ 74 5 = υ 74 5 → ρ 74 6 = υ 74 6 → dStep p W set G lk iv s t → PR ρ (Int.toNat (ρ 74 3)) W t.1 → PR ρ 76 W t.2.1 → (∀ d : Int, 0 ≤ d → d < 8 → PR ρ (85 + 3 * Int.toNat d) W (t.2.2.1 d)) → t.2.2.2 = max s.2.2.2 (cnt t.1 4096) → n < 500 → w45_116 B ρ set n 1 Y K := by
        intro ρ t r1 r2 r3 r4 r5 r6 r7 r8 r9 r10
        obtain ⟨x2, y2, ex2, ey2, px2, py2, hne2, x279, x282, y279, y282, -⟩ := dvO_n r2
        rw [ex2] at r6
        have c60 := r6.2.1
        have c0 := r6.1
        have cc := PR_cnt r6
        unfold w45_116
        refine ⟨by decide, ?_⟩
        rw [if_neg (by decide)]
        intro ρ1 er1
        have k1 : ∀ b j, ρ1 b j = if b = 74 ∧ j = 5 then ρ 74 5 + 1 else ρ b j := fun b j => by rw [er1]; rfl
        have k3 : ρ1 74 3 = ρ 74 3 := by rw [k1, if_neg (by decide)]
        have k6 : ρ1 74 6 = ρ 74 6 := by rw [k1, if_neg (by decide)]
        have kx : ρ1 x2 2 = ρ x2 2 := by rw [k1, if_neg (by omega)]
        rw [k3, ex2, k6, kx]
        refine ⟨⟨px2, ⟨by omega, by omega⟩, ⟨by omega, by omega⟩⟩, ?_⟩
        intro ρ2 er2
        have k2 : ∀ b j, ρ2 b j = if b = 74 ∧ j = 6 then max (ρ 74 6) (ρ x2 2) else if b = 74 ∧ j = 5 then ρ 74 5 + 1 else ρ b j := fun b j => by
          rw [er2]
          show (if b = 74 ∧ j = 6 then _ else ρ1 b j) = _
          rw [k1]
        have kn : ∀ b j, b ≠ 74 → ρ2 b j = ρ b j := fun b j hb => by rw [k2, if_neg (fun z => hb z.1), if_neg (fun z => hb z.1)]
        have k23 : ρ2 74 3 = ρ 74 3 := by rw [k2, if_neg (by decide), if_neg (by decide)]
        have k24 : ρ2 74 4 = ρ 74 4 := by rw [k2, if_neg (by decide), if_neg (by decide)]
        refine hY _ _ ⟨by omega, by omega, fun b j z => by rw [kn b j (by omega)]; exact r1 b j z, by unfold dvO; rw [k23, k24]; exact r2, by rw [k2, if_neg (by decide), if_pos ⟨rfl, rfl⟩, r3, n4], t, ?_, dGood_s p2 hW hd s2 r5, ?_, ?_, ?_, ?_, by omega, by omega⟩ (by omega)
        · have e : (n + 1).toNat = n.toNat + 1 := by omega
          rw [e]
          exact ⟨s, s1, r5⟩
        · rw [k23, ex2]
          exact PR_congr r6 (kn _ _ (by omega)) (fun j _ _ => kn _ _ (by omega)) (fun j _ _ => kn _ _ (by omega))
        · exact PR_congr r7 (kn _ _ (by omega)) (fun j _ _ => kn _ _ (by omega)) (fun j _ _ => kn _ _ (by omega))
        · intro d a b
          exact PR_congr (r8 d a b) (kn _ _ (by omega)) (fun j _ _ => kn _ _ (by omega)) (fun j _ _ => kn _ _ (by omega))
        · rw [k2, if_pos ⟨rfl, rfl⟩, r4, s6, r9, cc]
      split
      · rename_i hc
        have hlead : ∃ k, isLead W s.1 k := by
          obtain ⟨k, k0, k1, k2, k3, k4, k5⟩ := PR_lead s3' hc.2
          exact ⟨k, k0, k1, k4, k5⟩
        obtain ⟨k, hk⟩ := hlead
        have s3'' : PR υ (Int.toNat (υ 74 3)) W s.1 := by rw [ex']; exact s3'
        refine c46 hW hs n3 s3'' hk hG' hd (fun d hdv => ?_) (fun hno => ?_)
        · refine ⟨⟨by have := hdv.1; omega, by have := hdv.2.1; omega⟩, ?_⟩
          rw [if_neg (by have := hdv.1; omega)]
          refine ⟨⟨hdv.1, hdv.2.1⟩, ?_⟩
          have dn : Int.toNat d < 8 := by have := hdv.1; have := hdv.2.1; omega
          refine c48 hW hp' p2 p97 hv' n3 s3'' s2.1 hk hG' hd hdv (s5 d hdv.1 hdv.2.1) (fun xx a b c => s2.2.2.2.2 d xx k a b hk.1 hk.2.1 c hk.2.2.1) (fun ρ r1 r2 r3 r4 r5 r6 r7 r8 r9 => ?_) (fun ρ r1 r2 r3 => ?_)
          · refine good ρ (dvL p G lk iv s.1 k d, s.2.1, dvQ p lk iv s.1 s.2.2.1 k d, max s.2.2.2 (cnt (dvL p G lk iv s.1 k d) 4096)) (fun b j z => ?_) r1 r3 r4 ⟨k, hk, Or.inr ⟨d, hdv, r5, r6, ?_, rfl⟩⟩ r8 ?_ (fun e a b => ?_) rfl hc.1
            · rw [r2 b j (by omega) (by omega) (by omega) (by omega) (by omega)]; exact n2' b j z
            · unfold dvQ; rw [if_pos rfl]; exact r7
            · exact PR_congr s4' (r2 _ _ (by omega) (by omega) (by omega) (by omega) (by omega)) (fun j _ _ => r2 _ _ (by omega) (by omega) (by omega) (by omega) (by omega)) (fun j _ _ => r2 _ _ (by omega) (by omega) (by omega) (by omega) (by omega))
            · show PR ρ (85 + 3 * Int.toNat e) W (dvQ p lk iv s.1 s.2.2.1 k d e)
              unfold dvQ
              by_cases he : e = d
              · rw [if_pos he, he]; exact r9
              · rw [if_neg he]
                have : Int.toNat e ≠ Int.toNat d := by have := hdv.1; omega
                exact PR_congr (s5 e a b) (r2 _ _ (by omega) (by omega) (by omega) (by omega) (by omega)) (fun j _ _ => r2 _ _ (by omega) (by omega) (by omega) (by omega) (by omega)) (fun j _ _ => r2 _ _ (by omega) (by omega) (by omega) (by omega) (by omega))
          · unfold w45_116
            refine ⟨by decide, ?_⟩
            rw [if_pos rfl]
            refine h0 ρ (frD_tr n2' r1) r2 ⟨n.toNat, s, by omega, s1, Or.inl ⟨k, hk, Or.inr ⟨d, hdv, ?_⟩⟩⟩
            rcases r3 with r3 | r3 | r3
            · exact Or.inl r3
            · exact Or.inr (Or.inl r3)
            · refine Or.inr (Or.inr ?_)
              unfold dvQ; rw [if_pos rfl]; exact r3
        · refine ⟨by decide, ?_⟩
          rw [if_pos rfl]
          refine c47 hW n3 s3'' hk s4' (fun l a b c => s2.2.2.2.1 l k a b hk.1 hk.2.1 c hk.2.2.1) (fun ρ r1 r2 r3 r4 => ?_) (fun r1 => ?_)
          · rw [ex'] at r1 r4
            have k74 : ∀ j, ρ 74 j = υ 74 j := fun j => r1 74 j (by omega) (by omega) (by omega) (by rcases dvO_n n3 with ⟨a, b, c, d, e, f', g', h', i', j', k', l', m', o'⟩; omega) (by rcases dvO_n n3 with ⟨a, b, c, d, e, f', g', h', i', j', k', l', m', o'⟩; omega) (by rcases dvO_n n3 with ⟨a, b, c, d, e, f', g', h', i', j', k', l', m', o'⟩; omega)
            have hx2 : 79 ≤ x' ∧ x' ≤ 82 := by rcases dvO_n n3 with ⟨a, b, c, d, e, f', g', h', i', j', k', l', m', o'⟩; omega
            refine good ρ (upI s.1 k 0, upI s.2.1 k (s.1 k), s.2.2.1, max s.2.2.2 (cnt (upI s.1 k 0) 4096)) (fun b j z => ?_) (by unfold dvO; rw [k74, k74]; exact n3) (k74 5) (k74 6) ⟨k, hk, Or.inl ⟨hno, r2, rfl⟩⟩ (by rw [k74, ex']; exact r4) r3 (fun e a b => ?_) rfl hc.1
            · rw [r1 b j (by omega) (by omega) (by omega) (by omega) (by omega) (by omega)]; exact n2' b j z
            · exact PR_congr (s5 e a b) (r1 _ _ (by omega) (by omega) (by omega) (by omega) (by omega) (by omega)) (fun j _ _ => r1 _ _ (by omega) (by omega) (by omega) (by omega) (by omega) (by omega)) (fun j _ _ => r1 _ _ (by omega) (by omega) (by omega) (by omega) (by omega) (by omega))
          · unfold w45_116
            refine ⟨by decide, ?_⟩
            rw [if_pos rfl]
            exact h0 υ n2' n3 ⟨n.toNat, s, by omega, s1, Or.inl ⟨k, hk, Or.inl ⟨hno, r1⟩⟩⟩
      · rename_i hc
        unfold w45_159
        rw [ex']
        refine ⟨⟨px', ⟨by omega, by omega⟩⟩, ?_⟩
        split
        · rename_i hz
          exact h1 υ n.toNat s n2' n3 ⟨by omega, s1, by omega⟩ s4' s5 (by omega) s6 s2
        · rename_i hz
          exact h0 υ n2' n3 ⟨n.toNat, s, by omega, s1, Or.inr ⟨by omega, by omega⟩⟩
    · have t60 := hL0.2.1
      have t0 := hL0.1
      have e5 : τ2 74 5 = 0 := by rw [b2, if_pos ⟨rfl, rfl⟩]
      have e6 : τ2 74 6 = τ x 2 := by rw [b2, if_neg (by decide), if_pos ⟨rfl, rfl⟩]
      have e3 : τ2 74 3 = σ 74 3 := by rw [b2, if_neg (by decide), if_neg (by decide), f74]
      have e4 : τ2 74 4 = σ 74 4 := by rw [b2, if_neg (by decide), if_neg (by decide), f74]
      refine ⟨by omega, by omega, fun b j z => by rw [n2 b j (by omega)]; exact fr0 b j z, by unfold dvO; rw [e3, e4]; exact hdo, e5, dInit f, rfl, dGood_0 p2 rf, ?_, ?_, ?_, ?_, ?_, ?_⟩
      · rw [e3, ex]
        exact PR_congr hL0 (n2 _ _ (by omega)) (fun j _ _ => n2 _ _ (by omega)) (fun j _ _ => n2 _ _ (by omega))
      · exact PR_zero (by rw [n2 _ _ (by decide)]; exact h76)
      · intro d a b
        exact PR_zero (by rw [n2 _ _ (by omega)]; exact i4 d a (by omega))
      · rw [e6]; exact (PR_cnt hL0).symm
      · show 0 ≤ cnt f 4096; rw [PR_cnt hL0]; exact t0
      · show cnt f 4096 ≤ 60; rw [PR_cnt hL0]; exact t60
end DV2
