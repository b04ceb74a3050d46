/-! ===== derivative, another order ===== -/
def pu (u : Int) : Int := if u = 0 then 1 else if u = 1 then 16 else 256
theorem pu_e {u : Int} (h0 : 0 ≤ u) (h1 : u < 3) : 0 ≤ pu u ∧ pu u < 4096 ∧ (∀ v : Int, 0 ≤ v → v < 3 → e4 (pu u) v = if v = u then 1 else 0) := by
  refine u3 (P := fun u => 0 ≤ pu u ∧ pu u < 4096 ∧ (∀ v : Int, 0 ≤ v → v < 3 → e4 (pu u) v = if v = u then 1 else 0)) ?_ ?_ ?_ h0 h1
  · exact ⟨by decide, by decide, fun v a b => u3 (P := fun v => e4 (pu 0) v = if v = 0 then 1 else 0) (by decide) (by decide) (by decide) a b⟩
  · exact ⟨by decide, by decide, fun v a b => u3 (P := fun v => e4 (pu 1) v = if v = 1 then 1 else 0) (by decide) (by decide) (by decide) a b⟩
  · exact ⟨by decide, by decide, fun v a b => u3 (P := fun v => e4 (pu 2) v = if v = 2 then 1 else 0) (by decide) (by decide) (by decide) a b⟩
theorem pu_MW {W : Int → Int} {u : Int} (h0 : 0 ≤ u) (h1 : u < 3) : MW W (pu u) = UW W u := by
  obtain ⟨-, -, e⟩ := pu_e h0 h1
  rw [← MW_U, e 0 (by decide) (by decide), e 1 (by decide) (by decide), e 2 (by decide) (by decide)]
  refine u3 (P := fun u => (if (0 : Int) = u then (1 : Int) else 0) * UW W 0 + (if (1 : Int) = u then 1 else 0) * UW W 1 + (if (2 : Int) = u then 1 else 0) * UW W 2 = UW W u) ?_ ?_ ?_ h0 h1
  · simp
  · simp
  · simp
theorem pu_no {k u : Int} (h0 : 0 ≤ u) (h1 : u < 3) : noO k (pu u) ↔ e4 k u < 15 := by
  obtain ⟨-, -, e⟩ := pu_e h0 h1
  unfold noO
  rw [e 0 (by decide) (by decide), e 1 (by decide) (by decide), e 2 (by decide) (by decide)]
  have a0 := e4_b k 0
  have a1 := e4_b k 1
  have a2 := e4_b k 2
  refine u3 (P := fun u => (e4 k 0 + (if (0 : Int) = u then 1 else 0) < 16 ∧ e4 k 1 + (if (1 : Int) = u then 1 else 0) < 16 ∧ e4 k 2 + (if (2 : Int) = u then 1 else 0) < 16) ↔ e4 k u < 15) ?_ ?_ ?_ h0 h1
  · simp; omega
  · simp; omega
  · simp; omega
theorem pu_add {k u : Int} (k0 : 0 ≤ k) (k1 : k < 4096) (h0 : 0 ≤ u) (h1 : u < 3) (h : e4 k u < 15) : 0 ≤ k + pu u ∧ k + pu u < 4096 ∧ (∀ v : Int, 0 ≤ v → v < 3 → e4 (k + pu u) v = e4 k v + if v = u then 1 else 0) := by
  obtain ⟨p0, p1, e⟩ := pu_e h0 h1
  obtain ⟨a1, a2, a3, a4, a5⟩ := add_e k0 k1 p0 p1 ((pu_no h0 h1).mpr h)
  refine ⟨a1, a2, fun v v0 v1 => ?_⟩
  rw [← e v v0 v1]
  exact u3 (P := fun v => e4 (k + pu u) v = e4 k v + e4 (pu u) v) a3 a4 a5 v0 v1
theorem pu_sub {k u : Int} (k0 : 0 ≤ k) (k1 : k < 4096) (h0 : 0 ≤ u) (h1 : u < 3) (h : 0 < e4 k u) : 0 ≤ k - pu u ∧ k - pu u < 4096 ∧ e4 (k - pu u) u = e4 k u - 1 := by
  obtain ⟨p0, p1, e⟩ := pu_e h0 h1
  have hg : e4 (pu u) 0 ≤ e4 k 0 ∧ e4 (pu u) 1 ≤ e4 k 1 ∧ e4 (pu u) 2 ≤ e4 k 2 := by
    rw [e 0 (by decide) (by decide), e 1 (by decide) (by decide), e 2 (by decide) (by decide)]
    have a0 := e4_b k 0
    have a1 := e4_b k 1
    have a2 := e4_b k 2
    revert h
    refine u3 (P := fun u => 0 < e4 k u → ((if (0 : Int) = u then (1 : Int) else 0) ≤ e4 k 0 ∧ (if (1 : Int) = u then (1 : Int) else 0) ≤ e4 k 1 ∧ (if (2 : Int) = u then (1 : Int) else 0) ≤ e4 k 2)) ?_ ?_ ?_ h0 h1
    · simp; omega
    · simp; omega
    · simp; omega
  obtain ⟨s0, s1, s2⟩ := sub_e k0 k1 p0 p1 hg
  have hno := (pu_no h0 h1).mp s2
  obtain ⟨-, -, q⟩ := pu_add s0 s1 h0 h1 hno
  have := q u h0 h1
  rw [if_pos rfl, show k - pu u + pu u = k by omega] at this
  exact ⟨s0, s1, by omega⟩
def derF (p : Int) (f : Int → Int) (u k : Int) : Int := if e4 k u < 15 then f (k + pu u) * (e4 k u + 1) % p else 0
theorem c5 {B : va_E} {σ : l2_m} {K : Int → l2_m → Prop} {a o : Nat} {W f : Int → Int} {p u : Int} (ha : isP a) (ho : isP o) (na : o ≠ a) (hW : okW W) (hp : σ 34 0 = p) (p2 : 2 ≤ p) (p97 : p ≤ 97) (hU : ∀ v : Int, 0 ≤ v → v < 3 → σ 37 v = UW W v) (u0 : 0 ≤ u) (u1 : u < 3) (fa : PR σ a W f) (ra : ∀ k : Int, 0 ≤ k → k < 4096 → 0 ≤ f k ∧ f k < p) (h : ∀ τ : l2_m, frQ o σ τ → PR τ o W (derF p f u) → K 0 τ) : wC B 5 [vr 38, vr a, vi u, vr o] σ K := by
  have obig := isP_big ho
  have hna := fa.2.1
  have hna0 := fa.1
  refine o5 ha ho ?_
  unfold w5
  intro σ1 es
  have fr1 : frQ o σ σ1 := fun b' j x y z => by rw [es]; exact l2_u_ne x
  have z0 : σ1 o 2 = 0 := by rw [es]; exact l2_u_self _ _ _ _
  obtain ⟨ap0, fl0⟩ := AP_0 (W := W) (H := derF p f u) z0
  unfold w5_8
  refine lz2_inv (fun (x : Int) τ => 0 ≤ x ∧ x ≤ σ a 2 ∧ frQ o σ τ ∧ τ o 2 ≤ x ∧ AP τ o W (derF p f u) (fun k => ∃ i : Int, 0 ≤ i ∧ i < x ∧ σ (a + 1) i = MW W k + UW W u) ∧ fall τ o) (fun x _ => σ a 2 - x) ?_ ⟨by omega, hna0, fr1, by omega, AP_skip ap0 (fun k z => z.elim) (fun k _ _ _ z => by obtain ⟨i, i1, i2, -⟩ := z; omega), fl0⟩
  rintro X x τ hX ⟨i1, i2, i3, i4, i5, i6⟩
  have qa := frQ_row ho ha na i3
  have tp : τ 34 0 = p := by rw [← hp]; exact i3 34 0 (by omega) (by omega) (by omega)
  have tU : τ 37 u = UW W u := by rw [← hU u u0 u1]; exact i3 37 u (by omega) (by omega) (by omega)
  rw [qa.1]
  refine ⟨⟨⟨by omega, by omega⟩, ⟨by omega, by omega⟩⟩, ?_⟩
  split
  · rename_i hx
    rw [qa.2.1, qa.2.2, tp, tU]
    obtain ⟨l, l0, l1, l2, l3, l4⟩ := fa.2.2.1 x i1 hx
    have rl := ra l l0 l1
    have el := e4_b l u
    rw [l2, l3, MW_eu W l u0 u1]
    have hm := mul_b (a := f l) (b := e4 l u) (m := 97) (n := 16) (by omega) (by omega) el.1 (by omega)
    refine ⟨⟨i1, by omega, MW_rg hW l, u0, u1, p2, p97, ⟨by omega, by omega⟩⟩, ?_⟩
    intro c hc
    have hpi : ∀ k : Int, 0 ≤ k → k < 4096 → derF p f u k ≠ 0 → MW W l = MW W k + UW W u → k + pu u = l ∧ derF p f u k = c := by
      intro k k0 k1 k2 k3
      have k4 : e4 k u < 15 := by
        apply Classical.byContradiction
        intro z
        unfold derF at k2
        rw [if_neg z] at k2
        exact k2 rfl
      obtain ⟨q0, q1, q2⟩ := pu_add k0 k1 u0 u1 k4
      obtain ⟨p0, p1, -⟩ := pu_e u0 u1
      have e : MW W (k + pu u) = MW W k + MW W (pu u) := MW_add k0 k1 p0 p1 ((pu_no u0 u1).mpr k4)
      rw [pu_MW u0 u1, ← k3] at e
      have ek := MW_inj q0 q1 l0 l1 e
      refine ⟨ek, ?_⟩
      have := q2 u u0 u1
      rw [if_pos rfl, ek] at this
      unfold derF
      rw [if_pos k4, ek, hc, this]
    split
    · rename_i hz
      refine hX _ _ ⟨by omega, by omega, i3, by omega, AP_skip i5 (fun k z => ?_) (fun k k0 k1 k2 z => ?_), i6⟩ (by omega)
      · obtain ⟨i, g1, g2, g3⟩ := z
        exact ⟨i, g1, by omega, g3⟩
      · obtain ⟨i, g1, g2, g3⟩ := z
        by_cases hi : i = x
        · rw [hi, l2] at g3
          exact absurd ((hpi k k0 k1 k2 g3).2.trans hz) k2
        · exact ⟨i, g1, by omega, g3⟩
    · rename_i hz
      have c0 := i5.1
      refine ⟨⟨c0, ⟨by omega, by omega⟩⟩, ?_⟩
      intro τ1 et
      have he : 0 < e4 l u := by
        apply Classical.byContradiction
        intro z
        have : e4 l u = 0 := by omega
        rw [this, Int.mul_zero, Int.zero_emod] at hc
        exact hz hc
      obtain ⟨s0, s1, s2⟩ := pu_sub l0 l1 u0 u1 he
      have sl : l - pu u + pu u = l := by omega
      have s3 : e4 (l - pu u) u < 15 := by omega
      have s4 : MW W l = MW W (l - pu u) + UW W u := by
        obtain ⟨p0, p1, -⟩ := pu_e u0 u1
        have := MW_add (W := W) s0 s1 p0 p1 ((pu_no u0 u1).mpr s3)
        rw [sl, pu_MW u0 u1] at this
        exact this
      have s5 : derF p f u (l - pu u) = c := by
        unfold derF
        rw [if_pos s3, sl, s2, hc, show e4 l u - 1 + 1 = e4 l u by omega]
      have nP : ¬ ∃ i : Int, 0 ≤ i ∧ i < x ∧ σ (a + 1) i = MW W (l - pu u) + UW W u := by
        rintro ⟨i, g1, g2, g3⟩
        have := fa.2.2.2.1 i x g1 g2 hx
        rw [g3, l2] at this
        omega
      obtain ⟨t2, -, -, tf⟩ := app_row (by omega) et
      refine hX _ _ ⟨by omega, by omega, frQ_tr i3 tf, by omega, AP_app i5 s0 s1 nP (by omega) s5.symm (by rw [s5]; exact hz) (by omega) (fun k z => ?_) ⟨x, i1, by omega, by rw [l2]; exact s4⟩ (fun k k0 k1 k2 z => ?_) et, fall_app i6 c0 (by omega) (fun e e0 e1 => ?_) et⟩ (by omega)
      · obtain ⟨i, g1, g2, g3⟩ := z
        exact ⟨i, g1, by omega, g3⟩
      · obtain ⟨i, g1, g2, g3⟩ := z
        by_cases hi : i = x
        · rw [hi, l2] at g3
          have := (hpi k k0 k1 k2 g3).1
          exact Or.inr (by omega)
        · exact Or.inl ⟨i, g1, by omega, g3⟩
      · obtain ⟨k, k0, k1, ⟨i, g1, g2, g3⟩, k3, -, -⟩ := i5.2.2.1 e e0 e1
        have := fa.2.2.2.1 i x g1 g2 hx
        rw [g3, l2] at this
        omega
  · rename_i hx
    have ex : x = σ a 2 := by omega
    refine h τ i3 (AP_PR i5 (fun k k0 k1 k2 => ?_) i6)
    have k4 : e4 k u < 15 := by
      apply Classical.byContradiction
      intro z
      unfold derF at k2
      rw [if_neg z] at k2
      exact k2 rfl
    obtain ⟨q0, q1, q2⟩ := pu_add k0 k1 u0 u1 k4
    have hfk : f (k + pu u) ≠ 0 := by
      intro z
      unfold derF at k2
      rw [if_pos k4, z, Int.zero_mul, Int.zero_emod] at k2
      exact k2 rfl
    obtain ⟨i, g1, g2, g3⟩ := fa.2.2.2.2 (k + pu u) q0 q1 hfk
    obtain ⟨p0, p1, -⟩ := pu_e u0 u1
    refine ⟨i, g1, by omega, ?_⟩
    rw [g3, MW_add k0 k1 p0 p1 ((pu_no u0 u1).mpr k4), pu_MW u0 u1]
/-- the order is exchanged: the terms of one polynomial -/
theorem c10 {B : va_E} {σ : l2_m} {K : Int → l2_m → Prop} {o : Nat} {W V f : Int → Int} (ho : isP o) (hW : okW W) (hV : okW V) (hU : ∀ v : Int, 0 ≤ v → v < 3 → σ 37 v = UW V v) (fa : PR σ o W f) (h : ∀ τ : l2_m, frP o σ τ → PR τ o V f → K 0 τ) : wC B 10 [vr 38, vr o] σ K := by
  have obig := isP_big ho
  obtain ⟨h1, h2, h3, h4, h5⟩ := fa
  refine o10 ho ?_
  unfold w10 w10_2
  refine lz2_inv (fun (x : Int) τ => 0 ≤ x ∧ x ≤ σ o 2 ∧ (∀ b j, b ≠ o + 1 → τ b j = σ b j) ∧ (∀ j : Int, 0 ≤ j → j < x → ∀ k : Int, 0 ≤ k → k < 4096 → σ (o + 1) j = MW W k → τ (o + 1) j = MW V k) ∧ (∀ j : Int, x ≤ j → τ (o + 1) j = σ (o + 1) j)) (fun x _ => σ o 2 - x) ?_ ⟨by omega, h1, fun b j _ => rfl, fun j a b => by omega, fun j _ => rfl⟩
  rintro X x τ hX ⟨i1, i2, i3, i4, i5⟩
  have t0 : τ o 2 = σ o 2 := i3 o 2 (by omega)
  have tU : ∀ v : Int, 0 ≤ v → v < 3 → τ (36 + 1) v = UW V v := fun v v0 v1 => by rw [← hU v v0 v1]; exact i3 37 v (by omega)
  rw [t0, tU 0 (by decide) (by decide), tU 1 (by decide) (by decide), tU 2 (by decide) (by decide)]
  refine ⟨⟨⟨by omega, by omega⟩, ⟨by omega, by omega⟩⟩, ?_⟩
  split
  · rename_i hx
    obtain ⟨l, l0, l1, l2, l3, l4⟩ := h3 x i1 hx
    rw [i5 x (Int.le_refl x), l2, (MW_e W l).1, (MW_e W l).2.1, (MW_e W l).2.2, MW_U]
    refine ⟨⟨i1, by omega, MW_rg hW l⟩, ?_⟩
    intro τ1 et
    have ta : ∀ b j, τ1 b j = if b = o + 1 ∧ j = x then MW V l else τ b j := fun b j => by rw [et]; rfl
    refine hX _ _ ⟨by omega, by omega, fun b j hb => ?_, fun j a b k k0 k1 k2 => ?_, fun j a => ?_⟩ (by omega)
    · rw [ta, if_neg (fun z => hb z.1)]; exact i3 b j hb
    · rw [ta]
      by_cases hj : j = x
      · rw [if_pos ⟨rfl, hj⟩]
        rw [hj, l2] at k2
        rw [MW_inj l0 l1 k0 k1 k2]
      · rw [if_neg (fun z => hj z.2)]; exact i4 j a (by omega) k k0 k1 k2
    · rw [ta, if_neg (by omega)]; exact i5 j (by omega)
  · rename_i hx
    have ex : x = σ o 2 := by omega
    have hur : UR τ o V f := by
      unfold UR
      rw [t0]
      refine ⟨h1, h2, fun i a b => ?_, fun i j a b c => ?_, fun k k0 k1 k2 => ?_⟩
      · obtain ⟨k, k1, k2, k3, k4, k5⟩ := h3 i a b
        exact ⟨k, k1, k2, i4 i a (by omega) k k1 k2 k3, by rw [i3 _ _ (by omega)]; exact k4, k5⟩
      · obtain ⟨k, k1, k2, k3, k4, k5⟩ := h3 i a (by omega)
        obtain ⟨l, l1, l2, l3, l4, l5⟩ := h3 j (by omega) c
        rw [i4 i a (by omega) k k1 k2 k3, i4 j (by omega) (by omega) l l1 l2 l3]
        intro z
        have := MW_inj k1 k2 l1 l2 z
        subst this
        have := h4 i j a b c
        omega
      · obtain ⟨i, g1, g2, g3⟩ := h5 k k0 k1 k2
        exact ⟨i, g1, g2, i4 i g1 (by omega) k k0 k1 g3⟩
    refine c90 ho hV hur (fun υ u1 u2 => h υ (fun b j b1 b2 => ?_) u2)
    rw [u1 b j b1 b2]; exact i3 b j b1
