/-! ===== times a term, pairs, another order's lead, exchanged and put unknowns ===== -/
section O4
variable {B : va_E} {σ : l2_m} {K : Int → l2_m → Prop}
theorem PR_zero {σ : l2_m} {o : Nat} {W : Int → Int} (h : σ o 2 = 0) : PR σ o W (fun _ => 0) := ⟨by omega, by omega, fun i a b => by omega, fun i j a b c => by omega, fun k _ _ c => absurd rfl c⟩
theorem MW_0 (W : Int → Int) : MW W 0 = 0 := by
  unfold MW rk
  have e0 : e4 0 0 = 0 := by decide
  have e1 : e4 0 1 = 0 := by decide
  have e2 : e4 0 2 = 0 := by decide
  rw [e0, e1, e2]
  omega
theorem noO_0 (k : Int) : noO k 0 := by
  have e0 : e4 0 0 = 0 := by decide
  have e1 : e4 0 1 = 0 := by decide
  have e2 : e4 0 2 = 0 := by decide
  have := e4_b k 0
  have := e4_b k 1
  have := e4_b k 2
  unfold noO
  rw [e0, e1, e2]
  omega
theorem shf_0 (f : Int → Int) (k : Int) : shf 0 f k = f k := by
  have e0 : e4 0 0 = 0 := by decide
  have e1 : e4 0 1 = 0 := by decide
  have e2 : e4 0 2 = 0 := by decide
  have := e4_b k 0
  have := e4_b k 1
  have := e4_b k 2
  unfold shf
  rw [if_pos (by omega)]
  congr 1
  omega
def sclF (p c d : Int) (f : Int → Int) (k : Int) : Int := c * shf d f k % p
theorem c2 {a o : Nat} {W f : Int → Int} {p c d : Int} (ha : isP a) (ho : isP o) (na : o ≠ a) (nz : o ≠ 41) (hW : okW W) (hp : σ 34 0 = p) (p2 : 2 ≤ p) (p97 : p ≤ 97) (hz : σ 41 2 = 0) (fa : PR σ a W f) (ra : ∀ k : Int, 0 ≤ k → k < 4096 → 0 ≤ f k ∧ f k < p) (cc0 : 0 ≤ c) (cc1 : c < p) (d0 : 0 ≤ d) (d1 : d < 4096) (h1 : ∀ τ : l2_m, frQ o σ τ → (c = 0 ∨ ∀ k : Int, 0 ≤ k → k < 4096 → f k ≠ 0 → noO k d) → PR τ o W (sclF p c d f) → K 1 τ) (h0 : ∀ τ : l2_m, frQ o σ τ → c ≠ 0 → ((∃ k : Int, 0 ≤ k ∧ k < 4096 ∧ f k ≠ 0 ∧ ¬ noO k d) ∨ 60 < cnt (sclF p c d f) 4096) → K 0 τ) : wC B 2 [vr 38, vr a, vi c, vi (MW W d), vr o] σ K := by
  refine o2 ha ho ?_
  unfold w2
  refine ⟨⟨by omega, by omega⟩, ?_⟩
  split
  · rename_i hc
    intro σ1 es
    have z0 : σ1 o 2 = 0 := by rw [es]; exact l2_u_self _ _ _ _
    refine h1 σ1 (fun b j x y z => by rw [es]; exact l2_u_ne x) (Or.inl hc) (PR_ext (PR_zero z0) (fun k _ _ => ?_))
    unfold sclF
    rw [hc, Int.zero_mul, Int.zero_emod]
  · rename_i hc
    have e0 : vi (0 : Int) = vi (MW W 0) := by rw [MW_0]
    have eF : ∀ k : Int, mixF p c d f 0 0 (fun _ => 0) k = sclF p c d f k := fun k => by unfold mixF sclF; rw [Int.zero_mul, Int.add_zero]
    have key : wC B 1 [vr 38, vr a, vi c, vi (MW W d), vr 41, vi 0, vi (MW W 0), vr o] σ (fun y σ' => ((y = 0 ∨ y = 1) ∧ K y σ')) := c1 ha rfl ho na nz hW hp p2 p97 fa (PR_zero hz) ra (fun k _ _ => ⟨by decide, by omega⟩) cc0 (by omega) (by decide) (by decide) d0 d1 (by decide) (by decide) (fun τ t1 t2 t3 t4 => ⟨Or.inr rfl, h1 τ t1 (Or.inr t2) (PR_ext t4 (fun k _ _ => (eF k).symm))⟩) (fun τ t1 t2 => ⟨Or.inl rfl, h0 τ t1 hc (by
        rcases t2 with t | ⟨k, -, -, t, -⟩ | t
        · exact Or.inl t
        · exact absurd rfl t
        · exact Or.inr (by rw [← cnt_congr (fun k _ _ => eF k)]; exact t))⟩)
    rw [← e0] at key
    exact key
/-- the lead of a polynomial that isn't zero -/
theorem PR_lead {σ : l2_m} {o : Nat} {W f : Int → Int} (hf : PR σ o W f) (hn : 0 < σ o 2) : ∃ k : Int, 0 ≤ k ∧ k < 4096 ∧ σ (o + 1) 0 = MW W k ∧ σ (o + 2) 0 = f k ∧ f k ≠ 0 ∧ ∀ l : Int, 0 ≤ l → l < 4096 → f l ≠ 0 → MW W l ≤ MW W k := by
  obtain ⟨h1, h2, h3, h4, h5⟩ := hf
  obtain ⟨k, k0, k1, k2, k3, k4⟩ := h3 0 (by omega) hn
  refine ⟨k, k0, k1, k2, k3, k4, fun l l0 l1 l2 => ?_⟩
  obtain ⟨i, i0, i1, i2⟩ := h5 l l0 l1 l2
  rw [← i2, ← k2]
  by_cases hi : i = 0
  · rw [hi]; exact Int.le_refl _
  · have := h4 0 i (by omega) (by omega) i1
    omega
/-- the least exponents that both divide -/
def lcmK (k l : Int) : Int := max (e4 k 0) (e4 l 0) + 16 * max (e4 k 1) (e4 l 1) + 256 * max (e4 k 2) (e4 l 2)
theorem lcmK_e (k l : Int) : 0 ≤ lcmK k l ∧ lcmK k l < 4096 ∧ e4 (lcmK k l) 0 = max (e4 k 0) (e4 l 0) ∧ e4 (lcmK k l) 1 = max (e4 k 1) (e4 l 1) ∧ e4 (lcmK k l) 2 = max (e4 k 2) (e4 l 2) := by
  have := e4_b k 0
  have := e4_b k 1
  have := e4_b k 2
  have := e4_b l 0
  have := e4_b l 1
  have := e4_b l 2
  unfold lcmK
  have kb := key_b (x := max (e4 k 0) (e4 l 0)) (y := max (e4 k 1) (e4 l 1)) (z := max (e4 k 2) (e4 l 2)) (by omega) (by omega) (by omega) (by omega) (by omega) (by omega)
  exact ⟨kb.1, kb.2, e4_d0 (by omega) (by omega), e4_d1 (by omega) (by omega) (by omega) (by omega), e4_d2 (by omega) (by omega) (by omega) (by omega) (by omega) (by omega)⟩
theorem lcmK_s {k l : Int} (k0 : 0 ≤ k) (k1 : k < 4096) : 0 ≤ lcmK k l - k ∧ lcmK k l - k < 4096 ∧ (∀ W : Int → Int, MW W (lcmK k l - k) = MW W (lcmK k l) - MW W k) := by
  obtain ⟨a, b, c, d, e⟩ := lcmK_e k l
  obtain ⟨s0, s1, s2⟩ := sub_e a b k0 k1 (by omega)
  refine ⟨s0, s1, fun W => ?_⟩
  have := MW_add (W := W) s0 s1 k0 k1 s2
  rw [show lcmK k l - k + k = lcmK k l by omega] at this
  omega
theorem lcmK_c (k l : Int) : lcmK k l = lcmK l k := by unfold lcmK; rw [Int.max_comm (e4 k 0), Int.max_comm (e4 k 1), Int.max_comm (e4 k 2)]
theorem c8 {a b o : Nat} {W f g : Int → Int} {p ka kb : Int} (ha : isP a) (hb : isP b) (ho : isP o) (na : o ≠ a) (nb : o ≠ b) (hW : okW W) (hp : σ 34 0 = p) (p2 : 2 ≤ p) (p97 : p ≤ 97) (hU : ∀ v : Int, 0 ≤ v → v < 3 → σ 37 v = UW W v) (hv : invOK σ 34 p) (fa : PR σ a W f) (fb : PR σ b W g) (ra : ∀ k : Int, 0 ≤ k → k < 4096 → 0 ≤ f k ∧ f k < p) (rb : ∀ k : Int, 0 ≤ k → k < 4096 → 0 ≤ g k ∧ g k < p) (ca : 0 < σ a 2) (cb : 0 < σ b 2) (ka0 : 0 ≤ ka) (ka1 : ka < 4096) (ka2 : σ (a + 1) 0 = MW W ka) (kb0 : 0 ≤ kb) (kb1 : kb < 4096) (kb2 : σ (b + 1) 0 = MW W kb) (h1 : ∀ τ : l2_m, frQ o σ τ → (∀ k : Int, 0 ≤ k → k < 4096 → f k ≠ 0 → noO k (lcmK ka kb - ka)) → (∀ k : Int, 0 ≤ k → k < 4096 → g k ≠ 0 → noO k (lcmK ka kb - kb)) → PR τ o W (mixF p (σ 35 (f ka)) (lcmK ka kb - ka) f (p - σ 35 (g kb)) (lcmK ka kb - kb) g) → K 1 τ) (h0 : ∀ τ : l2_m, frQ o σ τ → ((∃ k : Int, 0 ≤ k ∧ k < 4096 ∧ f k ≠ 0 ∧ ¬ noO k (lcmK ka kb - ka)) ∨ (∃ k : Int, 0 ≤ k ∧ k < 4096 ∧ g k ≠ 0 ∧ ¬ noO k (lcmK ka kb - kb)) ∨ 60 < cnt (mixF p (σ 35 (f ka)) (lcmK ka kb - ka) f (p - σ 35 (g kb)) (lcmK ka kb - kb) g) 4096) → K 0 τ) : wC B 8 [vr 38, vr a, vr b, vr o] σ K := by
  obtain ⟨ka', x0, x1, x2, x3, x4, -⟩ := PR_lead fa ca
  have e1 := MW_inj x0 x1 ka0 ka1 (x2.symm.trans ka2)
  subst e1
  obtain ⟨kb', y0, y1, y2, y3, y4, -⟩ := PR_lead fb cb
  have e2 := MW_inj y0 y1 kb0 kb1 (y2.symm.trans kb2)
  subst e2
  have rx := ra ka' x0 x1
  have ry := rb kb' y0 y1
  obtain ⟨vx0, vx1, -⟩ := hv (f ka') (by omega) rx.2
  obtain ⟨vy0, vy1, -⟩ := hv (g kb') (by omega) ry.2
  have sa := lcmK_s (l := kb') x0 x1
  have sb := lcmK_s (l := ka') y0 y1
  rw [lcmK_c kb' ka'] at sb
  have hna := fa.2.1
  have hnb := fb.2.1
  refine o8 ha hb ho ?_
  unfold w8
  rw [if_pos ca, if_pos cb, if_pos ca, if_pos cb, ka2, kb2, x3, y3, hU 0 (by decide) (by decide), hU 1 (by decide) (by decide), hU 2 (by decide) (by decide), hp]
  rw [(MW_e W ka').1, (MW_e W ka').2.1, (MW_e W ka').2.2, (MW_e W kb').1, (MW_e W kb').2.1, (MW_e W kb').2.2]
  refine ⟨⟨⟨by omega, by omega⟩, ⟨by omega, by omega⟩, MW_rg hW ka', MW_rg hW kb'⟩, ?_⟩
  intro m hm
  obtain ⟨l0, l1, l2, l3, l4⟩ := lcmK_e ka' kb'
  have em : m = MW W (lcmK ka' kb') := by rw [hm, ← MW_U, l2, l3, l4]
  refine ⟨⟨by omega, p97, ⟨by omega, by omega⟩⟩, ?_⟩
  intro c hc
  have ec : c = σ 35 (f ka') := by rw [hc]; unfold invO; rw [hp, if_pos ⟨by omega, rx.2⟩]
  refine ⟨⟨by omega, by omega⟩, ?_⟩
  intro d hd'
  have ed : d = p - σ 35 (g kb') := by rw [hd']; unfold invO; rw [hp, if_pos ⟨by omega, ry.2⟩]
  rw [ec, ed, em, ← sa.2.2 W, ← sb.2.2 W]
  exact c1 ha hb ho na nb hW hp p2 p97 fa fb ra rb (Int.le_of_lt vx0) (by show σ 35 (f ka') ≤ 97; exact Int.le_trans (Int.le_of_lt vx1) p97) (by show 0 ≤ p - σ 35 (g kb'); exact Int.sub_nonneg_of_le (Int.le_of_lt vy1)) (by have h9 : 0 < σ 35 (g kb') := vy0; omega) sa.1 sa.2.1 sb.1 sb.2.1 (fun τ t1 t2 t3 t4 => ⟨Or.inr rfl, h1 τ t1 t2 t3 t4⟩) (fun τ t1 t2 => ⟨Or.inl rfl, h0 τ t1 t2⟩)
theorem c11 {o : Nat} {W f : Int → Int} {x y z : Int} (ho : isP o) (hW : okW W) (hx : isOr x y z) (fa : PR σ o W f) (hn : 0 < σ o 2) (h : ∀ (τ : l2_m) (k : Int), (∀ b j, b ≠ 39 → b ≠ 40 → τ b j = σ b j) → 0 ≤ k → k < 4096 → f k ≠ 0 → (∀ l : Int, 0 ≤ l → l < 4096 → f l ≠ 0 → MW (wt x y z) l ≤ MW (wt x y z) k) → K (MW (wt x y z) k) τ) : wC B 11 [vr 38, vr o, vi x, vi y, vi z] σ K := by
  have obig := isP_big ho
  obtain ⟨h1, h2, h3, h4, h5⟩ := fa
  have hV := wt_ok x y z
  refine o11 ho ?_
  unfold w11
  refine c75 rfl hx (fun τ t1 t2 t3 t4 t5 t6 => ?_)
  have r0 : ∀ j, τ o j = σ o j := fun j => t1 o j (by omega) (by omega)
  have r1 : ∀ j, τ (o + 1) j = σ (o + 1) j := fun j => t1 (o + 1) j (by omega) (by omega)
  unfold w11_17
  refine lz2_inv (fun (m i : Int) => 0 ≤ i ∧ i ≤ σ o 2 ∧ (∀ j : Int, 0 ≤ j → j < i → ∀ k : Int, 0 ≤ k → k < 4096 → σ (o + 1) j = MW W k → MW (wt x y z) k ≤ m) ∧ ((i = 0 ∧ m = 0) ∨ ∃ k : Int, 0 ≤ k ∧ k < 4096 ∧ f k ≠ 0 ∧ m = MW (wt x y z) k)) (fun _ i => σ o 2 - i) ?_ ⟨by omega, h1, fun j a b => by omega, Or.inl ⟨rfl, rfl⟩⟩
  rintro X m i hX ⟨i1, i2, i3, i4⟩
  have rm : 0 ≤ m ∧ m < 500000000 := by
    rcases i4 with ⟨-, e⟩ | ⟨k, -, -, -, e⟩
    · omega
    · rw [e]; exact MW_b hV k
  rw [r0, r1, t6 0 (by decide) (by decide), t6 1 (by decide) (by decide), t6 2 (by decide) (by decide)]
  refine ⟨⟨⟨by omega, by omega⟩, ⟨by omega, by omega⟩⟩, ?_⟩
  split
  · rename_i hi
    obtain ⟨l, l0, l1, l2, l3, l4⟩ := h3 i i1 hi
    rw [l2, (MW_e W l).1, (MW_e W l).2.1, (MW_e W l).2.2, MW_U]
    have bl := MW_b hV l
    refine ⟨⟨i1, by omega, MW_rg hW l, ⟨by omega, by omega⟩, ⟨by omega, by omega⟩⟩, ?_⟩
    intro m' hm'
    refine hX _ _ ⟨by omega, by omega, fun j a b k k0 k1 k2 => ?_, Or.inr ?_⟩ (by omega)
    · by_cases hj : j = i
      · rw [hj, l2] at k2
        rw [← MW_inj l0 l1 k0 k1 k2]
        omega
      · have := i3 j a (by omega) k k0 k1 k2
        omega
    · by_cases hc : m ≤ MW (wt x y z) l
      · exact ⟨l, l0, l1, l4, by omega⟩
      · rcases i4 with ⟨-, e⟩ | ⟨k, k0, k1, k2, e⟩
        · omega
        · exact ⟨k, k0, k1, k2, by omega⟩
  · rename_i hi
    rcases i4 with ⟨e, -⟩ | ⟨k, k0, k1, k2, e⟩
    · omega
    · rw [e]
      refine h τ k t1 k0 k1 k2 (fun l l0 l1 l2 => ?_)
      obtain ⟨j, j0, j1, j2⟩ := h5 l l0 l1 l2
      rw [← e]
      exact i3 j j0 (by omega) l l0 l1 j2
end O4
