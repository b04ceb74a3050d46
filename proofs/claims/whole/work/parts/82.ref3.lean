def frV (σ τ : l2_m) : Prop := ∀ b j, (b < 193 ∨ 198 < b) → ¬ (b = 186 ∧ 36 ≤ j ∧ j ≤ 39) → τ b j = σ b j
section RF3
variable {B : va_E} {σ : l2_m} {K : Int → l2_m → Prop}
theorem r231 {W : Int → Int} {p set : Int} {lk f : Int → Int} (hW : okW W) (hp : σ 186 5 = p) (pp : isPr p) (hs : rg set) (hr : rngR σ p) (ha : alongOK σ W) (hf : ∀ k : Int, 0 ≤ k → k < 4096 → σ 192 k = f k) (rf : ∀ k : Int, 0 ≤ k → k < 4096 → 0 ≤ f k ∧ f k < p) (hlead : ∀ d : Int, 0 ≤ d → d < 8 → bit set d = 1 → isLead W (regR σ d) (lk d)) (h1 : ∀ (τ : l2_m) (n : Nat) (s : dst), frV σ τ → dOK p W set (regR σ) lk (fun d => ivp p (regR σ d (lk d))) f n s → dvT τ s n → dGood p W lk s → K 1 τ) (h0 : ∀ τ : l2_m, frV σ τ → dNO p W set (regR σ) lk (fun d => ivp p (regR σ d (lk d))) f → K 0 τ) : wC B 231 [vr 186, vi set] σ K := by
  obtain ⟨p2, p97, -⟩ := pr_rest p pp
  obtain ⟨iv, hiv⟩ : ∃ iv : Int → Int, iv = fun d => ivp p (regR σ d (lk d)) := ⟨_, rfl⟩
  rw [← hiv] at h1 h0
  have hd : dvOK p W set (regR σ) lk iv := by
    intro d d0 d1
    refine ⟨fun k k0 k1 => hr d k d0 d1 k0 k1, fun hb => ?_⟩
    have hl := hlead d d0 d1 hb
    have rl := hr d (lk d) d0 d1 hl.1 hl.2.1
    have nz : regR σ d (lk d) ≠ 0 := hl.2.2.1
    have nz' : σ 187 (4096 * d + lk d) ≠ 0 := nz
    obtain ⟨a, b, c⟩ := ivp_ok (c := regR σ d (lk d)) pp (by show 0 < σ 187 (4096 * d + lk d); omega) rl.2
    rw [hiv]
    exact ⟨hl, a, b, c⟩
  refine o231 ?_
  unfold w231
  intro σ1 e1 σ2 e2 σ3 e3
  have a3 : ∀ b j, σ3 b j = if b = 186 ∧ j = 38 then 0 else if b = 186 ∧ j = 37 then 0 else if b = 186 ∧ j = 36 then 0 else σ b j := fun b j => by rw [e3, e2, e1]; rfl
  clear e1 e2 e3
  have fr3 : frV σ σ3 := fun b j z w => by rw [a3, if_neg (by omega), if_neg (by omega), if_neg (by omega)]
  unfold w231_17
  refine lz2_inv (fun (x : Int) τ => 0 ≤ x ∧ x ≤ 4096 ∧ frV σ τ ∧ τ 186 37 = 0 ∧ τ 186 38 = 0 ∧ τ 186 36 = cnt f x ∧ (∀ k : Int, 0 ≤ k → k < x → τ 193 k = f k ∧ τ 194 k = 0)) (fun x _ => 4096 - x) ?_ ⟨by omega, by omega, fr3, by rw [a3, if_neg (by decide), if_pos (by decide)], by rw [a3, if_pos (by decide)], by rw [cnt_0, a3, if_neg (by decide), if_neg (by decide), if_pos (by decide)], fun k a b => by omega⟩
  rintro X x τ hX ⟨i1, i2, i3, i4, i5, i6, i7⟩
  refine ⟨⟨by omega, by omega⟩, ?_⟩
  split
  · rename_i hx
    refine ⟨⟨i1, hx⟩, ?_⟩
    rw [i3 192 x (by omega) (by omega), hf x i1 hx]
    intro τ1 et1
    have b1 : ∀ b j, τ1 b j = if b = 193 ∧ j = x then f x else τ b j := fun b j => by rw [et1]; rfl
    have rx := rf x i1 hx
    rw [b1 193 x, if_pos ⟨rfl, rfl⟩]
    refine ⟨⟨by omega, by omega⟩, ?_⟩
    have fin : ∀ w : Int, w = (if f x = 0 then 0 else 1) → ∀ τ2 : l2_m, τ2 = l2_u τ1 186 36 (τ1 186 36 + w) → ∀ τ3 : l2_m, τ3 = l2_u τ2 194 x 0 → X (x + 1) τ3 := by
      intro w hw τ2 et2 τ3 et3
      have b3 : ∀ b j, τ3 b j = if b = 194 ∧ j = x then 0 else if b = 186 ∧ j = 36 then τ 186 36 + w else if b = 193 ∧ j = x then f x else τ b j := fun b j => by
        have q : τ1 186 36 = τ 186 36 := by rw [b1, if_neg (by omega)]
        rw [et3, et2, q]
        show (if b = 194 ∧ j = x then 0 else if b = 186 ∧ j = 36 then _ else τ1 b j) = _
        rw [b1]
      refine hX _ _ ⟨by omega, by omega, fun b j z w => ?_, ?_, ?_, ?_, fun k a b => ?_⟩ (by omega)
      · rw [b3, if_neg (by omega), if_neg (by omega), if_neg (by omega)]; exact i3 b j z w
      · rw [b3, if_neg (by omega), if_neg (by omega), if_neg (by omega)]; exact i4
      · rw [b3, if_neg (by omega), if_neg (by omega), if_neg (by omega)]; exact i5
      · rw [b3, if_neg (by omega), if_pos ⟨rfl, rfl⟩, cnt_step i1, i6, hw]
      · rw [b3 193 k, b3 194 k, if_neg (by omega), if_neg (by omega), if_neg (show ¬ (194 = 186 ∧ k = 36) by omega), if_neg (show ¬ (194 = 193 ∧ k = x) by omega)]
        by_cases hk : k = x
        · rw [if_pos ⟨rfl, hk⟩, if_pos ⟨rfl, hk⟩, hk]
          exact ⟨rfl, rfl⟩
        · rw [if_neg (fun z => hk z.2), if_neg (fun z => hk z.2)]
          exact i7 k a (by omega)
    split
    · rename_i hz
      intro τ2 et2 τ3 et3
      exact fin 0 (by rw [if_pos hz]) τ2 et2 τ3 et3
    · rename_i hz
      intro τ2 et2 τ3 et3
      exact fin 1 (by rw [if_neg hz]) τ2 et2 τ3 et3
  · rename_i hx
    have ex : x = 4096 := by omega
    subst ex
    clear hX X
    unfold w231_74
    refine lz2_inv (fun (y : Int) υ => 0 ≤ y ∧ y ≤ 32768 ∧ (∀ b j, b ≠ 195 → υ b j = τ b j) ∧ (∀ k : Int, 0 ≤ k → k < y → υ 195 k = 0)) (fun y _ => 32768 - y) ?_ ⟨by omega, by omega, fun b j _ => rfl, fun k a b => by omega⟩
    rintro X y υ hX ⟨j1, j2, j3, j4⟩
    refine ⟨⟨by omega, by omega⟩, ?_⟩
    split
    · rename_i hy
      refine ⟨⟨j1, hy⟩, ?_⟩
      intro υ1 eu
      have b1 : ∀ b j, υ1 b j = if b = 195 ∧ j = y then 0 else υ b j := fun b j => by rw [eu]; rfl
      refine hX _ _ ⟨by omega, by omega, fun b j z => by rw [b1, if_neg (fun w => z w.1)]; exact j3 b j z, fun k a b => ?_⟩ (by omega)
      rw [b1]
      by_cases hk : k = y
      · rw [if_pos ⟨rfl, hk⟩]
      · rw [if_neg (fun w => hk w.2)]; exact j4 k a (by omega)
    · rename_i hy
      clear hX X
      have fU : frV σ υ := fun b j z w => by rw [j3 b j (by omega)]; exact i3 b j z w
      have h195 : ∀ k : Int, 0 ≤ k → k < 32768 → υ 195 k = 0 := fun k a b => j4 k a (by omega)
      unfold w231_95
      refine lz2_inv (fun (z : Int) ρ => 0 ≤ z ∧ z ≤ 8 ∧ (∀ b j, b ≠ 196 → b ≠ 197 → b ≠ 198 → ρ b j = υ b j) ∧ (∀ e : Int, 0 ≤ e → e < z → ρ 196 e = 0 ∧ rg (ρ 197 e) ∧ (bit set e = 1 → ρ 197 e = lk e ∧ ρ 198 e = iv e))) (fun z _ => 8 - z) ?_ ⟨by omega, by omega, fun b j _ _ _ => rfl, fun e a b => by omega⟩
      rintro X z ρ hX ⟨k1, k2, k3, k4⟩
      refine ⟨⟨by omega, by omega⟩, ?_⟩
      split
      · rename_i hz
        refine ⟨⟨k1, hz⟩, ?_⟩
        intro ρ1 er
        have b1 : ∀ b j, ρ1 b j = if b = 196 ∧ j = z then 0 else ρ b j := fun b j => by rw [er]; rfl
        refine ⟨⟨hs, by omega⟩, ?_⟩
        -- the lead is laid
        have lay : ∀ l : Int, rg l → (bit set z = 1 → l = lk z ∧ 0 ≤ l ∧ l < 4096) → (¬ bit set z = 1 → l = -1) → w231_131 B ρ1 set z z l X K := by
          intro l rl hl hl'
          unfold w231_131
          refine ⟨⟨k1, hz⟩, ?_⟩
          intro ρ2 er2
          have b2 : ∀ b j, ρ2 b j = if b = 197 ∧ j = z then l else if b = 196 ∧ j = z then 0 else ρ b j := fun b j => by
            rw [er2]
            show (if b = 197 ∧ j = z then l else ρ1 b j) = _
            rw [b1]
          have q : ρ2 197 z = l := by rw [b2, if_pos ⟨rfl, rfl⟩]
          rw [q]
          refine ⟨⟨k1, hz, rl⟩, ?_⟩
          have last : ∀ v : Int, (bit set z = 1 → v = iv z) → ∀ ρ3 : l2_m, ρ3 = l2_u ρ2 198 z v → X (z + 1) ρ3 := by
            intro v hv ρ3 er3
            have b3 : ∀ b j, ρ3 b j = if b = 198 ∧ j = z then v else if b = 197 ∧ j = z then l else if b = 196 ∧ j = z then 0 else ρ b j := fun b j => by
              rw [er3]
              show (if b = 198 ∧ j = z then v else ρ2 b j) = _
              rw [b2]
            refine hX _ _ ⟨by omega, by omega, fun b j x1 x2 x3 => ?_, fun e a b => ?_⟩ (by omega)
            · rw [b3, if_neg (fun w => x3 w.1), if_neg (fun w => x2 w.1), if_neg (fun w => x1 w.1)]; exact k3 b j x1 x2 x3
            · rw [b3 196 e, b3 197 e, b3 198 e, if_neg (show ¬ (196 = 198 ∧ e = z) by omega), if_neg (show ¬ (196 = 197 ∧ e = z) by omega), if_neg (show ¬ (197 = 198 ∧ e = z) by omega), if_neg (show ¬ (197 = 196 ∧ e = z) by omega), if_neg (show ¬ (198 = 197 ∧ e = z) by omega), if_neg (show ¬ (198 = 196 ∧ e = z) by omega)]
              by_cases he : e = z
              · rw [if_pos ⟨rfl, he⟩, if_pos ⟨rfl, he⟩, if_pos ⟨rfl, he⟩, he]
                exact ⟨rfl, rl, fun hb => ⟨(hl hb).1, hv hb⟩⟩
              · rw [if_neg (fun w => he w.2), if_neg (fun w => he w.2), if_neg (fun w => he w.2)]
                exact k4 e a (by omega)
          split
          · rename_i hm
            intro ρ3 er3
            exact last 0 (fun hb => by have := hl hb; omega) ρ3 er3
          · rename_i hm
            have hb : bit set z = 1 := Classical.byContradiction (fun w => hm (hl' w))
            obtain ⟨hl1, hl2, hl3⟩ := hl hb
            refine ⟨⟨hl2, hl3⟩, ?_⟩
            have e187 : ∀ j, ρ2 187 j = σ 187 j := fun j => by rw [b2, if_neg (by omega), if_neg (by omega), k3 187 j (by decide) (by decide) (by decide)]; exact fU 187 j (by omega) (by omega)
            have e5 : ρ2 186 5 = p := by rw [b2, if_neg (by omega), if_neg (by omega), k3 186 5 (by decide) (by decide) (by decide), ← hp]; exact fU 186 5 (by omega) (by omega)
            obtain ⟨-, hG⟩ := hd z k1 hz
            have hh := (hG hb).1
            have rr := hr z (lk z) k1 hz hh.1 hh.2.1
            have nz : σ 187 (4096 * z + lk z) ≠ 0 := hh.2.2.1
            rw [e187, hl1]
            refine r226 e5 pp (by omega) rr.2 ?_
            refine ⟨⟨k1, hz⟩, ?_⟩
            intro ρ3 er3
            exact last _ (fun _ => by rw [hiv]; rfl) ρ3 er3
        have e187' : ∀ j, ρ1 187 j = σ 187 j := fun j => by rw [b1, if_neg (by omega), k3 187 j (by decide) (by decide) (by decide)]; exact fU 187 j (by omega) (by omega)
        have e190' : ∀ j, ρ1 190 j = σ 190 j := fun j => by rw [b1, if_neg (by omega), k3 190 j (by decide) (by decide) (by decide)]; exact fU 190 j (by omega) (by omega)
        have eR : ∀ e, regR ρ1 e = regR σ e := fun e => funext (fun j => e187' _)
        split
        · rename_i hb
          have hb' : bit set z = 1 := hb
          have hh := hlead z k1 hz hb'
          refine r204 (W := W) k1 hz p97 (fun r k a b c d => by rw [e187']; exact hr r k a b c d) ⟨fun i a b => by rw [e190']; exact ha.1 i a b, fun i j a b c => by rw [e190', e190']; exact ha.2.1 i j a b c, fun k a b => by obtain ⟨i, x1, x2, x3⟩ := ha.2.2 k a b; exact ⟨i, x1, x2, by rw [e190']; exact x3⟩⟩ (fun k hk => ?_) (fun hall => ?_)
          · rw [eR] at hk
            have ek := isLead_uniq hk hh
            rw [ek]
            exact lay (lk z) ⟨by have := hh.1; omega, by have := hh.2.1; omega⟩ (fun _ => ⟨rfl, hh.1, hh.2.1⟩) (fun w => absurd hb' w)
          · rw [eR] at hall
            exact absurd (hall (lk z) hh.1 hh.2.1) hh.2.2.1
        · rename_i hb
          exact lay (-1) (by decide) (fun w => absurd w hb) (fun _ => rfl)
      · rename_i hz
        clear hX X
        have hk4 : ∀ e : Int, 0 ≤ e → e < 8 → ρ 196 e = 0 ∧ rg (ρ 197 e) ∧ (bit set e = 1 → ρ 197 e = lk e ∧ ρ 198 e = iv e) := fun e a b => k4 e a (by omega)
        intro π ep
        have b1 : ∀ b j, π b j = if b = 186 ∧ j = 39 then ρ 186 36 else ρ b j := fun b j => by rw [ep]; rfl
        have eRU : ∀ b j, b ≠ 195 → b ≠ 196 → b ≠ 197 → b ≠ 198 → ρ b j = τ b j := fun b j x0 x1 x2 x3 => by rw [k3 b j x1 x2 x3]; exact j3 b j x0
        have r36 : ρ 186 36 = cnt f 4096 := by rw [eRU 186 36 (by decide) (by decide) (by decide) (by decide)]; exact i6
        have fP : frV σ π := fun b j x0 x1 => by rw [b1, if_neg (by omega), k3 b j (by omega) (by omega) (by omega)]; exact fU b j x0 x1
        have cf := cnt_bi f (n := 4096) (by decide)
        -- the loop
        unfold w231_183
        refine lz2_inv (fun (sp : Int) υ' => 0 ≤ sp ∧ sp ≤ 4096 ∧ frV σ υ' ∧ (∀ e : Int, 0 ≤ e → e < 8 → rg (υ' 197 e) ∧ (bit set e = 1 → υ' 197 e = lk e ∧ υ' 198 e = iv e)) ∧ ∃ (n : Nat) (s : dst), n ≤ 500 ∧ dReach p W set (regR σ) lk iv f n s ∧ dGood p W lk s ∧ dvT υ' s n ∧ (∀ j : Int, 0 ≤ j → j < sp → s.1 (σ 190 j) = 0)) (fun _ υ' => 501 - υ' 186 38) ?_ ⟨by omega, by omega, fP, fun e a b => ?_, 0, dInit f, by omega, rfl, dGood_0 p2 rf, ?_, fun j a b => by omega⟩
        · rintro Y sp υ' hY ⟨m1, m2, m3, m4, n, s, s1, s2, s3, s4, s5⟩
          obtain ⟨T1, T2, T3, T4, T5, T6, T7, T8, T9, T10⟩ := id s4
          have cL := cnt_bi s.1 (n := 4096) (by decide)
          rw [T5]
          refine ⟨⟨by omega, by omega⟩, ?_⟩
          split
          · rename_i hpos
            obtain ⟨kk, kk0, kk1, kk2⟩ := cnt_ne (f := s.1) (N := 4096) (by omega)
            obtain ⟨q0, q00, q01, q02⟩ := ha.2.2 kk kk0 kk1
            have e190 : ∀ j, υ' 190 j = σ 190 j := fun j => m3 190 j (by omega) (by omega)
            unfold w231_190
            refine lz1_inv (fun (sq : Int) => 0 ≤ sq ∧ sq ≤ q0 ∧ (∀ j : Int, 0 ≤ j → j < sq → s.1 (σ 190 j) = 0)) (fun sq => q0 - sq) ?_ ⟨m1, ?_, s5⟩
            · rintro Z sq hZ ⟨o1', o2', o3'⟩
              have asq := ha.1 sq o1' (by omega)
              rw [e190 sq, T1 _ asq.1 asq.2]
              have rs := s3.1 _ asq.1 asq.2
              refine ⟨⟨o1', by omega, asq.1, asq.2, ⟨by omega, by omega⟩⟩, ?_⟩
              split
              · rename_i hz0
                have : sq ≠ q0 := by
                  rintro rfl
                  rw [q02] at hz0
                  exact kk2 hz0
                refine hZ _ ⟨by omega, by omega, fun j a b => ?_⟩ (by omega)
                by_cases hj : j = sq
                · rw [hj]; exact hz0
                · exact o3' j a (by omega)
              · rename_i hz0
                have hlk' : isLead W s.1 (σ 190 sq) := ⟨asq.1, asq.2, hz0, fun l l0 l1 l2 => by
                  obtain ⟨j, j0, j1, j2⟩ := ha.2.2 l l0 l1
                  rw [← j2]
                  rcases Int.lt_trichotomy j sq with q | q | q
                  · rw [← j2] at l2; exact absurd (o3' j j0 q) l2
                  · rw [q]; exact Int.le_refl _
                  · have := ha.2.1 sq j o1' q j1; omega⟩
                rw [T7]
                refine ⟨⟨by omega, by omega⟩, ?_⟩
                split
                · rename_i h500
                  exact h0 υ' m3 ⟨n, s, s1, s2, Or.inr ⟨by omega, by omega⟩⟩
                · rename_i h500
                  have hcont : ∀ dd : Int, ((dd = -1 ∧ noDvr set lk (σ 190 sq)) ∨ dvr set lk (σ 190 sq) dd) → wC B 232 [vr 186, vi (σ 190 sq), vi dd] υ' (fun y' σ'' => (rg y' ∧ (if y' = 0 then K 0 σ'' else Y sq σ''))) := by
                    intro dd hdd
                    have eRR : regR υ' = regR σ := funext (fun e => funext (fun j => m3 187 _ (by omega) (by omega)))
                    refine r232 hW (by rw [m3 186 5 (by omega) (by omega)]; exact hp) p2 p97 (fun r k a b c d => by rw [m3 187 _ (by omega) (by omega)]; exact hr r k a b c d) (by rw [eRR]; exact hd) s4 (by omega) (by omega) s3 hlk' hdd (fun e a b c => (m4 e a b).2 c) (fun τ' t t1 t2 t3 => ⟨by decide, ?_⟩) (fun τ' t1 t2 => ⟨by decide, ?_⟩)
                    · rw [if_neg (by decide)]
                      rw [eRR] at t2
                      have frt : frV σ τ' := fun b j a c => by rw [t1 b j (by omega) (by omega) (by omega) (by omega) (by omega)]; exact m3 b j a c
                      refine hY _ _ ⟨o1', by omega, frt, fun e a b => ?_, n + 1, t, by omega, ⟨s, s2, t2⟩, dGood_s p2 hW hd s3 t2, by rw [show ((n + 1 : Nat) : Int) = (n : Int) + 1 by omega]; exact t3, fun j a b => ?_⟩ (by rw [t3.2.2.2.2.2.2.1, T7]; omega)
                      · rw [t1 197 e (by decide) (by decide) (by decide) (by decide) (by omega), t1 198 e (by decide) (by decide) (by decide) (by decide) (by omega)]
                        exact m4 e a b
                      · -- nothing is left above
                        have hlt : ∀ l : Int, 0 ≤ l → l < 4096 → t.1 l ≠ 0 → MW W l < MW W (σ 190 sq) := by
                          intro l l0 l1 l2
                          obtain ⟨k', hk', hcase⟩ := t2
                          have ek := isLead_uniq hk' hlk'
                          subst ek
                          rcases hcase with ⟨-, -, et⟩ | ⟨d', hd', -, -, -, et⟩
                          · rw [et] at l2
                            have l2' : upI s.1 (σ 190 sq) 0 l ≠ 0 := l2
                            unfold upI at l2'
                            by_cases hl : l = σ 190 sq
                            · rw [if_pos hl] at l2'; exact absurd rfl l2'
                            · rw [if_neg hl] at l2'
                              have := hlk'.2.2.2 l l0 l1 l2'
                              have : MW W l ≠ MW W (σ 190 sq) := fun w => hl (MW_inj l0 l1 asq.1 asq.2 w)
                              omega
                          · rw [et] at l2
                            exact (dvL_lt p2 hW hd s3.1 hlk' hd').1 l l0 l1 l2
                        apply Classical.byContradiction
                        intro hne
                        have aj := ha.1 j a (by omega)
                        have h1' := hlt _ aj.1 aj.2 hne
                        have := ha.2.1 j sq a b (by omega)
                        omega
                    · rw [if_pos rfl]
                      rw [eRR] at t2
                      exact h0 τ' (fun b j a c => by rw [t1 b j (by omega) (by omega) (by omega) (by omega) (by omega)]; exact m3 b j a c) ⟨n, s, s1, s2, Or.inl t2⟩
                  exact r230 hs ⟨by omega, by omega⟩ (fun e a b => (m4 e a b).1) (fun e a b c => ((m4 e a b).2 c).1) (fun dd hdd => hcont dd (Or.inr hdd)) (fun hno => hcont (-1) (Or.inl ⟨rfl, hno⟩))
            · apply Classical.byContradiction
              intro hgt
              have := s5 q0 q00 (by omega)
              rw [q02] at this
              exact kk2 this
          · rename_i hpos
            exact h1 υ' n s m3 ⟨s1, s2, by omega⟩ s4 s3
        · rw [b1 197 e, b1 198 e, if_neg (by omega), if_neg (by omega)]
          exact (hk4 e a b).2
        · refine ⟨fun k a b => ?_, fun k a b => ?_, fun d k a b c e => ?_, fun d a b => ?_, ?_, ?_, ?_, ?_, ?_, ?_⟩
          · rw [b1, if_neg (by omega), eRU 193 k (by decide) (by decide) (by decide) (by decide)]; exact (i7 k a b).1
          · rw [b1, if_neg (by omega), eRU 194 k (by decide) (by decide) (by decide) (by decide)]; exact (i7 k a b).2
          · rw [b1, if_neg (by omega), k3 195 _ (by decide) (by decide) (by decide)]; exact h195 _ (by omega) (by omega)
          · rw [b1, if_neg (by omega), (hk4 d a b).1]
            have : cnt (fun _ : Int => (0 : Int)) 4096 = 0 := by rw [cnt_def]; exact sumN_zero (fun _ _ _ => rfl)
            exact this.symm
          · rw [b1, if_neg (by decide)]; exact r36
          · rw [b1, if_neg (by decide), eRU 186 37 (by decide) (by decide) (by decide) (by decide), i4]
            have : cnt (fun _ : Int => (0 : Int)) 4096 = 0 := by rw [cnt_def]; exact sumN_zero (fun _ _ _ => rfl)
            exact this.symm
          · rw [b1, if_neg (by decide), eRU 186 38 (by decide) (by decide) (by decide) (by decide), i5]; rfl
          · rw [b1, if_pos ⟨rfl, rfl⟩]; exact r36
          · exact Int.le_refl _
          · show cnt f 4096 ≤ 4096; omega
end RF3
