/-! ===== the reference's division ===== -/
theorem cnt_set {f : Int → Int} {k v : Int} (k0 : 0 ≤ k) (k1 : k < 4096) : cnt (upI f k v) 4096 = cnt f 4096 - (if f k = 0 then 0 else 1) + (if v = 0 then 0 else 1) := by
  rw [cnt_def, cnt_def]
  have e : sumN (fun j => if upI f k v j = 0 then (0 : Int) else 1) (Int.toNat 4096) = sumN (upI (fun j => if f j = 0 then (0 : Int) else 1) k (if v = 0 then 0 else 1)) (Int.toNat 4096) := sumN_congr (fun j a b => by
    unfold upI
    by_cases hj : j = k
    · simp [hj]
    · simp [hj])
  rw [e, sumN_upd k0 (by omega)]
def frT (σ τ : l2_m) : Prop := ∀ b j, b ≠ 193 → b ≠ 194 → b ≠ 195 → b ≠ 196 → ¬ (b = 186 ∧ 36 ≤ j ∧ j ≤ 39) → τ b j = σ b j
theorem frT_tr {σ τ υ : l2_m} (h1 : frT σ τ) (h2 : frT τ υ) : frT σ υ := fun b j a b' c d e => by rw [h2 b j a b' c d e]; exact h1 b j a b' c d e
def dvT (σ : l2_m) (s : dst) (n : Int) : Prop := (∀ k : Int, 0 ≤ k → k < 4096 → σ 193 k = s.1 k) ∧ (∀ k : Int, 0 ≤ k → k < 4096 → σ 194 k = s.2.1 k) ∧ (∀ d k : Int, 0 ≤ d → d < 8 → 0 ≤ k → k < 4096 → σ 195 (4096 * d + k) = s.2.2.1 d k) ∧ (∀ d : Int, 0 ≤ d → d < 8 → σ 196 d = cnt (s.2.2.1 d) 4096) ∧ σ 186 36 = cnt s.1 4096 ∧ σ 186 37 = cnt s.2.1 4096 ∧ σ 186 38 = n ∧ σ 186 39 = s.2.2.2 ∧ cnt s.1 4096 ≤ s.2.2.2 ∧ s.2.2.2 ≤ 4096
section RF2
variable {B : va_E} {σ : l2_m} {K : Int → l2_m → Prop}
theorem r232 {W : Int → Int} {p set k d n : Int} {lk iv : Int → Int} {s : dst} (hW : okW W) (hp : σ 186 5 = p) (p2 : 2 ≤ p) (p97 : p ≤ 97) (hr : rngR σ p) (hd : dvOK p W set (regR σ) lk iv) (hT : dvT σ s n) (n0 : 0 ≤ n) (n1 : n < 500) (hg : dGood p W lk s) (hk : isLead W s.1 k) (hdv : (d = -1 ∧ noDvr set lk k) ∨ dvr set lk k d) (hlk : ∀ e : Int, 0 ≤ e → e < 8 → bit set e = 1 → σ 197 e = lk e ∧ σ 198 e = iv e) (h1 : ∀ (τ : l2_m) (t : dst), frT σ τ → dStep p W set (regR σ) lk iv s t → dvT τ t (n + 1) → K 1 τ) (h0 : ∀ τ : l2_m, frT σ τ → dFail p W set (regR σ) lk iv s → K 0 τ) : wC B 232 [vr 186, vi k, vi d] σ K := by
  obtain ⟨T1, T2, T3, T4, T5, T6, T7, T8, T9, T10⟩ := hT
  have hk' := hk
  obtain ⟨k0, k1, k2, k3⟩ := hk
  have cL := cnt_bi s.1 (n := 4096) (by decide)
  have cR := cnt_bi s.2.1 (n := 4096) (by decide)
  have hg' := hg
  obtain ⟨g1, g2, g3, g4, g5⟩ := hg
  have rk' := g1 k k0 k1
  refine o232 ?_
  unfold w232
  intro σ1 e1
  have a1 : ∀ b j, σ1 b j = if b = 186 ∧ j = 38 then n + 1 else σ b j := fun b j => by rw [e1, ← T7]; rfl
  have n1' : ∀ b j, b ≠ 186 → σ1 b j = σ b j := fun b j hb => by rw [a1, if_neg (fun z => hb z.1)]
  rcases hdv with ⟨hd1, hno⟩ | hdv
  · refine ⟨by rw [hd1]; decide, ?_⟩
    rw [if_pos hd1]
    refine ⟨⟨k0, k1⟩, ?_⟩
    rw [n1' 193 k (by decide), T1 k k0 k1]
    intro σ2 e2 σ3 e3 σ4 e4' σ5 e5'
    have a5 : ∀ b j, σ5 b j = if b = 186 ∧ j = 37 then σ 186 37 + 1 else if b = 186 ∧ j = 36 then σ 186 36 - 1 else if b = 193 ∧ j = k then 0 else if b = 194 ∧ j = k then s.1 k else if b = 186 ∧ j = 38 then n + 1 else σ b j := fun b j => by
      have x4 : σ4 186 37 = σ 186 37 := by
        rw [e4', l2_u_nj (by decide), e3, l2_u_ne (by decide), e2, l2_u_ne (by decide), a1, if_neg (by decide)]
      have x3 : σ3 186 36 = σ 186 36 := by
        rw [e3, l2_u_ne (by decide), e2, l2_u_ne (by decide), a1, if_neg (by decide)]
      rw [e5', x4, e4', x3, e3, e2]
      unfold l2_u
      rw [a1]
    clear e2 e3 e4' e5'
    have hRk : s.2.1 k = 0 := Classical.byContradiction (fun z => by have := g4 k k k0 k1 k0 k1 z k2; omega)
    have cR' := cnt_app k0 k1 hRk k2
    have cL' : cnt (upI s.1 k 0) 4096 = cnt s.1 4096 - 1 := by rw [cnt_set k0 k1, if_neg k2, if_pos rfl]; omega
    have w37 : σ5 186 37 = cnt s.2.1 4096 + 1 := by rw [a5, if_pos ⟨rfl, rfl⟩, T6]
    have fr : frT σ σ5 := fun b j z1 z2 z3 z4 z5 => by
      rw [a5, if_neg (by omega), if_neg (by omega), if_neg (fun z => z1 z.1), if_neg (fun z => z2 z.1), if_neg (by omega)]
    rw [w37]
    refine ⟨⟨by omega, by omega⟩, ?_⟩
    split
    · rename_i hc
      exact h0 σ5 fr ⟨k, hk', Or.inl ⟨hno, by omega⟩⟩
    · rename_i hc
      refine h1 σ5 (upI s.1 k 0, upI s.2.1 k (s.1 k), s.2.2.1, max s.2.2.2 (cnt (upI s.1 k 0) 4096)) fr ⟨k, hk', Or.inl ⟨hno, by omega, rfl⟩⟩ ⟨fun l l0 l1 => ?_, fun l l0 l1 => ?_, fun e l e0 e1 l0 l1 => ?_, fun e e0 e1 => ?_, ?_, ?_, ?_, ?_, ?_, ?_⟩
      · show σ5 193 l = upI s.1 k 0 l
        unfold upI
        rw [a5, if_neg (by omega), if_neg (by omega)]
        by_cases hl : l = k
        · rw [if_pos ⟨rfl, hl⟩, if_pos hl]
        · rw [if_neg (fun z => hl z.2), if_neg (by omega), if_neg (by omega), if_neg hl]; exact T1 l l0 l1
      · show σ5 194 l = upI s.2.1 k (s.1 k) l
        unfold upI
        rw [a5, if_neg (by omega), if_neg (by omega), if_neg (by omega)]
        by_cases hl : l = k
        · rw [if_pos ⟨rfl, hl⟩, if_pos hl]
        · rw [if_neg (fun z => hl z.2), if_neg (by omega), if_neg hl]; exact T2 l l0 l1
      · rw [a5, if_neg (by omega), if_neg (by omega), if_neg (by omega), if_neg (by omega), if_neg (by omega)]; exact T3 e l e0 e1 l0 l1
      · rw [a5, if_neg (by omega), if_neg (by omega), if_neg (by omega), if_neg (by omega), if_neg (by omega)]; exact T4 e e0 e1
      · show σ5 186 36 = cnt (upI s.1 k 0) 4096
        rw [a5, if_neg (by omega), if_pos ⟨rfl, rfl⟩, T5, cL']
      · show σ5 186 37 = cnt (upI s.2.1 k (s.1 k)) 4096
        omega
      · rw [a5, if_neg (by omega), if_neg (by omega), if_neg (by omega), if_neg (by omega), if_pos ⟨rfl, rfl⟩]
      · show σ5 186 39 = max s.2.2.2 (cnt (upI s.1 k 0) 4096)
        rw [a5, if_neg (by omega), if_neg (by omega), if_neg (by omega), if_neg (by omega), if_neg (by omega), T8]
        omega
      · show cnt (upI s.1 k 0) 4096 ≤ max s.2.2.2 (cnt (upI s.1 k 0) 4096)
        omega
      · show max s.2.2.2 (cnt (upI s.1 k 0) 4096) ≤ 4096
        omega
  · obtain ⟨d0, d1, d2, d3, d4⟩ := id hdv
    obtain ⟨rG, hGd⟩ := hd d d0 d1
    obtain ⟨⟨l0, l1, l2, l3⟩, v0, v1, v2⟩ := hGd d2
    obtain ⟨u0, u1, u2, u3'⟩ := isUn_sub k0 k1 l0 l1 d3
    obtain ⟨z1, z2, z3, z4⟩ := dvL_lt p2 hW hd g1 hk' hdv
    obtain ⟨hl1, hl2⟩ := hlk d d0 d1 d2
    refine ⟨⟨by omega, by omega⟩, ?_⟩
    rw [if_neg (by omega), n1' 193 k (by decide), T1 k k0 k1, n1' 198 d (by decide), hl2, a1 186 5, if_neg (by decide), hp, n1' 197 d (by decide), hl1]
    have hmm := mul_b (a := s.1 k) (b := iv d) (m := 97) (n := 97) (by omega) (by omega) (by omega) (by omega)
    refine ⟨⟨k0, k1, d0, d1, ⟨by omega, by omega⟩, ⟨by omega, by omega⟩, by omega, hmm.1⟩, ?_⟩
    intro c hc x hx
    rw [← hc] at z2 z3 z4
    subst x
    refine ⟨⟨by omega, by omega⟩, ?_⟩
    intro σ2 e2 σ3 e3
    have hQ0 : s.2.2.1 d (k - lk d) = 0 := Classical.byContradiction (fun z => by
      have := g5 d (k - lk d) k u0 u1 k0 k1 z k2
      have := u3' W
      omega)
    have cQ := cnt_bi (s.2.2.1 d) (n := 4096) (by decide)
    have cQ' : cnt (upI (s.2.2.1 d) (k - lk d) c) 4096 = cnt (s.2.2.1 d) 4096 + 1 := cnt_app u0 u1 hQ0 z2
    have a3 : ∀ b j, σ3 b j = if b = 196 ∧ j = d then cnt (s.2.2.1 d) 4096 + 1 else if b = 195 ∧ j = 4096 * d + (k - lk d) then c else if b = 186 ∧ j = 38 then n + 1 else σ b j := fun b j => by
      have x2 : σ2 196 d = cnt (s.2.2.1 d) 4096 := by rw [e2, l2_u_ne (by decide), n1' 196 d (by decide), T4 d d0 d1]
      rw [e3, x2, e2]
      unfold l2_u
      rw [a1]
    clear e2 e3
    -- the loop over the divisor
    have mxL : ∀ l : Int, dvL p (regR σ) lk iv s.1 k d l = (s.1 l + (p - c) * shf (k - lk d) (regR σ d) l) % p := fun l => by
      unfold dvL mixF
      rw [shf_0, Int.one_mul, ← hc]
    unfold w232_125
    refine lz2_inv (fun (x : Int) τ => 0 ≤ x ∧ x ≤ 4096 ∧ (∀ b j, b ≠ 193 → ¬ (b = 186 ∧ j = 36) → τ b j = σ3 b j) ∧ (∀ l : Int, 0 ≤ l → l < 4096 → τ 193 l = (s.1 l + (p - c) * ptl (k - lk d) x (regR σ d) l) % p) ∧ τ 186 36 = cnt (τ 193) 4096 ∧ (∀ l : Int, 0 ≤ l → l < x → regR σ d l ≠ 0 → noO l (k - lk d))) (fun x _ => 4096 - x) ?_ ?_
    · rintro X x τ hX ⟨i1, i2, i3, i4, i5, i6⟩
      have t187 : ∀ j, τ 187 j = σ 187 j := fun j => by rw [i3 187 j (by decide) (by omega), a3, if_neg (by omega), if_neg (by omega), if_neg (by omega)]
      have t5 : τ 186 5 = p := by rw [i3 186 5 (by decide) (by omega), a3, if_neg (by omega), if_neg (by omega), if_neg (by omega), hp]
      have cT := cnt_bi (τ 193) (n := 4096) (by decide)
      have bT : ∀ l : Int, 0 ≤ l → l < 4096 → 0 ≤ τ 193 l ∧ τ 193 l < p := fun l a b => by rw [i4 l a b]; exact ⟨Int.emod_nonneg _ (by omega), Int.emod_lt_of_pos _ (by omega)⟩
      refine ⟨⟨by omega, by omega⟩, ?_⟩
      split
      · rename_i hx
        have e187 : τ 187 (4096 * d + x) = regR σ d x := t187 _
        have rx : 0 ≤ regR σ d x ∧ regR σ d x < p := hr d x d0 d1 i1 hx
        rw [e187]
        refine ⟨⟨d0, d1, i1, hx, ⟨by omega, by omega⟩⟩, ?_⟩
        have same : ∀ l : Int, (l - (k - lk d) ≠ x ∨ regR σ d x = 0) → ptl (k - lk d) (x + 1) (regR σ d) l = ptl (k - lk d) x (regR σ d) l := by
          intro l hl
          unfold ptl
          by_cases hcc : (e4 (k - lk d) 0 ≤ e4 l 0 ∧ e4 (k - lk d) 1 ≤ e4 l 1 ∧ e4 (k - lk d) 2 ≤ e4 l 2) ∧ l - (k - lk d) < x
          · rw [if_pos hcc, if_pos ⟨hcc.1, by omega⟩]
          · rw [if_neg hcc]
            split
            · rename_i hc2
              have e : l - (k - lk d) = x := by
                apply Classical.byContradiction
                intro z
                exact hcc ⟨hc2.1, by omega⟩
              rcases hl with hl | hl
              · exact absurd e hl
              · rw [e]; exact hl
            · rfl
        split
        · rename_i hz
          refine hX _ _ ⟨by omega, by omega, i3, fun l a b => by rw [same l (Or.inr hz)]; exact i4 l a b, i5, fun l a b c' => ?_⟩ (by omega)
          by_cases hl : l = x
          · rw [hl] at c'; exact absurd hz c'
          · exact i6 l a (by omega) c'
        · rename_i hz
          refine ⟨⟨by omega, by omega⟩, ?_⟩
          rw [ksum_eq i1 hx u0 u1]
          by_cases hno : noO x (k - lk d)
          · rw [if_pos hno]
            intro y hy
            obtain ⟨s0, s1, s2⟩ := add_e i1 hx u0 u1 hno
            have y0 : 0 ≤ y := by omega
            have y1 : y < 4096 := by omega
            refine ⟨⟨by omega, by omega⟩, ?_⟩
            rw [if_neg (by omega)]
            have by' := bT y y0 y1
            refine ⟨⟨y0, y1, ⟨by omega, by omega⟩⟩, ?_⟩
            have e4w := i4 y y0 y1
            have w0 : ptl (k - lk d) x (regR σ d) y = 0 := by unfold ptl; rw [if_neg (by omega)]
            rw [w0, Int.mul_zero, Int.add_zero, emod_self_lt (g1 y y0 y1).1 (g1 y y0 y1).2] at e4w
            have sh : ptl (k - lk d) (x + 1) (regR σ d) y = regR σ d x := by
              unfold ptl
              have b0 := e4_b x 0
              have b1 := e4_b x 1
              have b2 := e4_b x 2
              rw [← hy] at s2
              rw [if_pos (by omega)]
              congr 1
              omega
            have hm := mul_b (a := p - c) (b := regR σ d x) (m := 97) (n := 97) (by omega) (by omega) rx.1 (by omega)
            have go : ∀ z : Int, z = (if τ 193 y = 0 then 0 else 1) → w232_183 B τ d c (k - lk d) x y (τ 186 36) z X K := by
              intro z hzz
              unfold w232_183
              intro τ1 et1
              have b1 : ∀ b j, τ1 b j = if b = 186 ∧ j = 36 then τ 186 36 - z else τ b j := fun b j => by rw [et1]; rfl
              rw [b1 193 y, if_neg (by omega), b1 186 5, if_neg (by omega), t5, b1 187 _, if_neg (by omega), e187]
              refine ⟨⟨y0, y1, d0, d1, i1, hx, ⟨by omega, by omega⟩, ⟨by omega, by omega⟩, by omega, by omega⟩, ?_⟩
              intro τ2 et2
              obtain ⟨v, hv⟩ : ∃ v, v = (τ 193 y + (p - c) * regR σ d x) % p := ⟨_, rfl⟩
              rw [← hv] at et2
              have v0' : 0 ≤ v ∧ v < p := by rw [hv]; exact ⟨Int.emod_nonneg _ (by omega), Int.emod_lt_of_pos _ (by omega)⟩
              have b2 : ∀ b j, τ2 b j = if b = 193 ∧ j = y then v else if b = 186 ∧ j = 36 then τ 186 36 - z else τ b j := fun b j => by
                rw [et2]
                show (if b = 193 ∧ j = y then v else τ1 b j) = _
                rw [b1]
              have c2 : ∀ w : Int, w = (if v = 0 then 0 else 1) → ∀ τ3 : l2_m, τ3 = l2_u τ2 186 36 (τ2 186 36 + w) → X (x + 1) τ3 := by
                intro w hw τ3 et3
                have b3 : ∀ b j, τ3 b j = if b = 186 ∧ j = 36 then τ 186 36 - z + w else if b = 193 ∧ j = y then v else τ b j := fun b j => by
                  have q : τ2 186 36 = τ 186 36 - z := by rw [b2, if_neg (by omega), if_pos ⟨rfl, rfl⟩]
                  rw [et3, q]
                  show (if b = 186 ∧ j = 36 then _ else τ2 b j) = _
                  rw [b2]
                  by_cases hb : b = 186 ∧ j = 36
                  · rw [if_pos hb, if_pos hb]
                  · rw [if_neg hb, if_neg hb, if_neg hb]
                have hup : ∀ l, τ3 193 l = upI (τ 193) y v l := fun l => by
                  unfold upI
                  rw [b3, if_neg (by omega)]
                  by_cases hl : l = y
                  · rw [if_pos ⟨rfl, hl⟩, if_pos hl]
                  · rw [if_neg (fun q => hl q.2), if_neg hl]
                refine hX _ _ ⟨by omega, by omega, fun b j q1 q2 => ?_, fun l a b => ?_, ?_, fun l a b c' => ?_⟩ (by omega)
                · rw [b3, if_neg q2, if_neg (fun q => q1 q.1)]; exact i3 b j q1 q2
                · rw [hup]
                  unfold upI
                  by_cases hl : l = y
                  · rw [if_pos hl, hv, hl, sh, e4w]
                  · rw [if_neg hl, i4 l a b, same l (Or.inl (by omega))]
                · have e : cnt (τ3 193) 4096 = cnt (upI (τ 193) y v) 4096 := cnt_congr (fun l _ _ => hup l)
                  rw [e, cnt_set y0 y1, b3, if_pos ⟨rfl, rfl⟩, i5, hzz, hw]
                · by_cases hl : l = x
                  · rw [hl]; exact hno
                  · exact i6 l a (by omega) c'
              have q193 : τ2 193 y = v := by rw [b2, if_pos ⟨rfl, rfl⟩]
              rw [q193]
              refine ⟨⟨by omega, by omega⟩, ?_⟩
              split
              · rename_i hv0
                intro τ3 et3
                exact c2 0 (by rw [if_pos hv0]) τ3 et3
              · rename_i hv0
                intro τ3 et3
                exact c2 1 (by rw [if_neg hv0]) τ3 et3
            split
            · rename_i hz0
              exact go 0 (by rw [if_pos hz0])
            · rename_i hz0
              exact go 1 (by rw [if_neg hz0])
          · rw [if_neg hno]
            intro y hy
            subst y
            refine ⟨by decide, ?_⟩
            rw [if_pos rfl]
            refine h0 τ (fun b j q1 q2 q3 q4 q5 => ?_) ⟨k, hk', Or.inr ⟨d, hdv, Or.inl ⟨x, i1, hx, hz, hno⟩⟩⟩
            rw [i3 b j q1 (by omega), a3, if_neg (fun z => q4 z.1), if_neg (fun z => q3 z.1), if_neg (by omega)]
      · rename_i hx
        have ex : x = 4096 := by omega
        subst ex
        have hall : ∀ l : Int, 0 ≤ l → l < 4096 → τ 193 l = dvL p (regR σ) lk iv s.1 k d l := fun l a b => by
          rw [i4 l a b, mxL]
          have : ptl (k - lk d) 4096 (regR σ d) l = shf (k - lk d) (regR σ d) l := by
            unfold ptl shf
            by_cases hcc : e4 (k - lk d) 0 ≤ e4 l 0 ∧ e4 (k - lk d) 1 ≤ e4 l 1 ∧ e4 (k - lk d) 2 ≤ e4 l 2
            · rw [if_pos ⟨hcc, by omega⟩, if_pos hcc]
            · rw [if_neg (fun z => hcc z.1), if_neg hcc]
          rw [this]
        have hc36 : τ 186 36 = cnt (dvL p (regR σ) lk iv s.1 k d) 4096 := by rw [i5]; exact cnt_congr hall
        have t39 : τ 186 39 = s.2.2.2 := by rw [i3 186 39 (by decide) (by omega), a3, if_neg (by omega), if_neg (by omega), if_neg (by omega), T8]
        have cD := cnt_bi (dvL p (regR σ) lk iv s.1 k d) (n := 4096) (by decide)
        rw [hc36, t39]
        refine ⟨⟨⟨by omega, by omega⟩, ⟨by omega, by omega⟩⟩, ?_⟩
        have fin : ∀ υ : l2_m, (∀ b j, ¬ (b = 186 ∧ j = 39) → υ b j = τ b j) → υ 186 39 = max s.2.2.2 (cnt (dvL p (regR σ) lk iv s.1 k d) 4096) → w232_270 B υ d K := by
          intro υ u1' u2'
          have frU : frT σ υ := fun b j q1 q2 q3 q4 q5 => by
            rw [u1' b j (by omega), i3 b j q1 (by omega), a3, if_neg (fun z => q4 z.1), if_neg (fun z => q3 z.1), if_neg (by omega)]
          have u36 : υ 186 36 = cnt (dvL p (regR σ) lk iv s.1 k d) 4096 := by rw [u1' 186 36 (by omega)]; exact hc36
          have u196 : υ 196 d = cnt (s.2.2.1 d) 4096 + 1 := by rw [u1' 196 d (by omega), i3 196 d (by decide) (by omega), a3, if_pos ⟨rfl, rfl⟩]
          have eQd : dvQ p lk iv s.1 s.2.2.1 k d d = upI (s.2.2.1 d) (k - lk d) c := by unfold dvQ; rw [if_pos rfl, ← hc]
          unfold w232_270
          rw [u36, u196]
          refine ⟨⟨by omega, by omega⟩, fun _ => ⟨d0, d1, ⟨by omega, by omega⟩⟩, ?_⟩
          split
          · rename_i hf
            refine h0 υ frU ⟨k, hk', Or.inr ⟨d, hdv, Or.inr ?_⟩⟩
            rw [eQd, cQ']
            exact hf
          · rename_i hf
            refine h1 υ (dvL p (regR σ) lk iv s.1 k d, s.2.1, dvQ p lk iv s.1 s.2.2.1 k d, max s.2.2.2 (cnt (dvL p (regR σ) lk iv s.1 k d) 4096)) frU ⟨k, hk', Or.inr ⟨d, hdv, i6, by omega, by rw [eQd, cQ']; omega, rfl⟩⟩ ⟨fun l a b => ?_, fun l a b => ?_, fun e l e0 e1 a b => ?_, fun e e0 e1 => ?_, u36, ?_, ?_, u2', ?_, ?_⟩
            · rw [u1' 193 l (by omega)]; exact hall l a b
            · rw [u1' 194 l (by omega), i3 194 l (by decide) (by omega), a3, if_neg (by omega), if_neg (by omega), if_neg (by omega)]; exact T2 l a b
            · show υ 195 (4096 * e + l) = dvQ p lk iv s.1 s.2.2.1 k d e l
              rw [u1' 195 _ (by omega), i3 195 _ (by decide) (by omega), a3, if_neg (by omega)]
              unfold dvQ
              by_cases he : e = d
              · rw [if_pos he, ← hc]
                unfold upI
                by_cases hl : l = k - lk d
                · rw [if_pos ⟨rfl, by rw [he, hl]⟩, if_pos hl]
                · rw [if_neg (by omega), if_neg (by omega), if_neg hl, ← he]; exact T3 e l e0 e1 a b
              · rw [if_neg he, if_neg (by omega), if_neg (by omega)]; exact T3 e l e0 e1 a b
            · show υ 196 e = cnt (dvQ p lk iv s.1 s.2.2.1 k d e) 4096
              by_cases he : e = d
              · rw [he, u196, eQd, cQ']
              · rw [u1' 196 e (by omega), i3 196 e (by decide) (by omega), a3, if_neg (fun z => he z.2), if_neg (by omega), if_neg (by omega), T4 e e0 e1]
                unfold dvQ
                rw [if_neg he]
            · show υ 186 37 = cnt s.2.1 4096
              rw [u1' 186 37 (by omega), i3 186 37 (by decide) (by omega), a3, if_neg (by omega), if_neg (by omega), if_neg (by omega), T6]
            · rw [u1' 186 38 (by omega), i3 186 38 (by decide) (by omega), a3, if_neg (by omega), if_neg (by omega), if_pos ⟨rfl, rfl⟩]
            · show cnt (dvL p (regR σ) lk iv s.1 k d) 4096 ≤ max s.2.2.2 (cnt (dvL p (regR σ) lk iv s.1 k d) 4096)
              omega
            · show max s.2.2.2 (cnt (dvL p (regR σ) lk iv s.1 k d) 4096) ≤ 4096
              omega
        split
        · rename_i hlt
          intro υ eu
          have b1 : ∀ b j, υ b j = if b = 186 ∧ j = 39 then cnt (dvL p (regR σ) lk iv s.1 k d) 4096 else τ b j := fun b j => by rw [eu, ← hc36]; rfl
          exact fin υ (fun b j q => by rw [b1, if_neg q]) (by rw [b1, if_pos ⟨rfl, rfl⟩]; omega)
        · rename_i hlt
          exact fin τ (fun b j _ => rfl) (by rw [t39]; omega)
    · refine ⟨by omega, by omega, fun b j _ _ => rfl, fun l a b => ?_, ?_, fun l a b => by omega⟩
      · have : ptl (k - lk d) 0 (regR σ d) l = 0 := by
          unfold ptl
          rw [if_neg]
          rintro ⟨hcc, hlt⟩
          have := sub_e a b u0 u1 hcc
          omega
        rw [this, Int.mul_zero, Int.add_zero, emod_self_lt (g1 l a b).1 (g1 l a b).2, a3, if_neg (by omega), if_neg (by omega), if_neg (by omega)]
        exact T1 l a b
      · rw [a3, if_neg (by omega), if_neg (by omega), if_neg (by omega), T5]
        refine cnt_congr (fun l a b => ?_)
        rw [a3, if_neg (by omega), if_neg (by omega), if_neg (by omega)]
        exact (T1 l a b).symm
end RF2
