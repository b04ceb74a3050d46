/-! ===== exchanged and put unknowns ===== -/
def prm (u v w : Int) : Int := if w = u then v else if w = v then u else w
def swk (u v k : Int) : Int := e4 k (prm u v 0) + 16 * e4 k (prm u v 1) + 256 * e4 k (prm u v 2)
theorem swk_e (u v k : Int) : 0 ≤ swk u v k ∧ swk u v k < 4096 ∧ e4 (swk u v k) 0 = e4 k (prm u v 0) ∧ e4 (swk u v k) 1 = e4 k (prm u v 1) ∧ e4 (swk u v k) 2 = e4 k (prm u v 2) := by
  have := e4_b k (prm u v 0)
  have := e4_b k (prm u v 1)
  have := e4_b k (prm u v 2)
  unfold swk
  have kb := key_b (x := e4 k (prm u v 0)) (y := e4 k (prm u v 1)) (z := e4 k (prm u v 2)) (by omega) (by omega) (by omega) (by omega) (by omega) (by omega)
  exact ⟨kb.1, kb.2, e4_d0 (by omega) (by omega), e4_d1 (by omega) (by omega) (by omega) (by omega), e4_d2 (by omega) (by omega) (by omega) (by omega) (by omega) (by omega)⟩
theorem swk_eu (u v k : Int) {w : Int} (w0 : 0 ≤ w) (w1 : w < 3) : e4 (swk u v k) w = e4 k (prm u v w) :=
  u3 (P := fun w => e4 (swk u v k) w = e4 k (prm u v w)) (swk_e u v k).2.2.1 (swk_e u v k).2.2.2.1 (swk_e u v k).2.2.2.2 w0 w1
theorem prm_b {u v w : Int} (u0 : 0 ≤ u) (u1 : u < 3) (v0 : 0 ≤ v) (v1 : v < 3) (w0 : 0 ≤ w) (w1 : w < 3) : 0 ≤ prm u v w ∧ prm u v w < 3 ∧ prm u v (prm u v w) = w := by
  unfold prm
  split
  · rename_i h
    refine ⟨v0, v1, ?_⟩
    split
    · omega
    · rw [if_pos rfl]; omega
  · split
    · rename_i h1 h2
      exact ⟨u0, u1, by rw [if_pos rfl]; omega⟩
    · rename_i h1 h2
      exact ⟨w0, w1, by first | rfl | rw [if_neg h1, if_neg h2]⟩
theorem swk_inv {u v k : Int} (u0 : 0 ≤ u) (u1 : u < 3) (v0 : 0 ≤ v) (v1 : v < 3) (k0 : 0 ≤ k) (k1 : k < 4096) : swk u v (swk u v k) = k := by
  have a := swk_e u v (swk u v k)
  have p0 := prm_b u0 u1 v0 v1 (w := 0) (by decide) (by decide)
  have p1 := prm_b u0 u1 v0 v1 (w := 1) (by decide) (by decide)
  have p2 := prm_b u0 u1 v0 v1 (w := 2) (by decide) (by decide)
  refine key_ext a.1 a.2.1 k0 k1 ?_ ?_ ?_
  · rw [a.2.2.1, swk_eu u v k p0.1 p0.2.1, p0.2.2]
  · rw [a.2.2.2.1, swk_eu u v k p1.1 p1.2.1, p1.2.2]
  · rw [a.2.2.2.2, swk_eu u v k p2.1 p2.2.1, p2.2.2]
theorem swk_MW (W : Int → Int) {u v : Int} (k : Int) (u0 : 0 ≤ u) (u1 : u < 3) (v0 : 0 ≤ v) (v1 : v < 3) : MW W (swk u v k) = MW W k + (e4 k u - e4 k v) * (UW W v - UW W u) := by
  rw [← MW_U, ← MW_U, (swk_e u v k).2.2.1, (swk_e u v k).2.2.2.1, (swk_e u v k).2.2.2.2]
  refine u3 (P := fun u => e4 k (prm u v 0) * UW W 0 + e4 k (prm u v 1) * UW W 1 + e4 k (prm u v 2) * UW W 2 = e4 k 0 * UW W 0 + e4 k 1 * UW W 1 + e4 k 2 * UW W 2 + (e4 k u - e4 k v) * (UW W v - UW W u)) ?_ ?_ ?_ u0 u1
  · refine u3 (P := fun v => e4 k (prm 0 v 0) * UW W 0 + e4 k (prm 0 v 1) * UW W 1 + e4 k (prm 0 v 2) * UW W 2 = e4 k 0 * UW W 0 + e4 k 1 * UW W 1 + e4 k 2 * UW W 2 + (e4 k 0 - e4 k v) * (UW W v - UW W 0)) ?_ ?_ ?_ v0 v1
    · simp [prm]
    · simp [prm]; grind
    · simp [prm]; grind
  · refine u3 (P := fun v => e4 k (prm 1 v 0) * UW W 0 + e4 k (prm 1 v 1) * UW W 1 + e4 k (prm 1 v 2) * UW W 2 = e4 k 0 * UW W 0 + e4 k 1 * UW W 1 + e4 k 2 * UW W 2 + (e4 k 1 - e4 k v) * (UW W v - UW W 1)) ?_ ?_ ?_ v0 v1
    · simp [prm]; grind
    · simp [prm]
    · simp [prm]; grind
  · refine u3 (P := fun v => e4 k (prm 2 v 0) * UW W 0 + e4 k (prm 2 v 1) * UW W 1 + e4 k (prm 2 v 2) * UW W 2 = e4 k 0 * UW W 0 + e4 k 1 * UW W 1 + e4 k 2 * UW W 2 + (e4 k 2 - e4 k v) * (UW W v - UW W 2)) ?_ ?_ ?_ v0 v1
    · simp [prm]; grind
    · simp [prm]; grind
    · simp [prm]
section O5
variable {B : va_E} {σ : l2_m} {K : Int → l2_m → Prop}
theorem c7 {a o : Nat} {W f : Int → Int} {u v : Int} (ha : isP a) (ho : isP o) (na : o ≠ a) (hW : okW W) (hU : ∀ v : Int, 0 ≤ v → v < 3 → σ 37 v = UW W v) (u0 : 0 ≤ u) (u1 : u < 3) (v0 : 0 ≤ v) (v1 : v < 3) (fa : PR σ a W f) (h : ∀ τ : l2_m, frQ o σ τ → PR τ o W (fun k => f (swk u v k)) → K 0 τ) : wC B 7 [vr 38, vr a, vi u, vi v, vr o] σ K := by
  have obig := isP_big ho
  have hna := fa.2.1
  have hna0 := fa.1
  refine o7 ha ho ?_
  unfold w7
  intro σ1 es
  have fr1 : frQ o σ σ1 := fun b' j x y z => by rw [es]; exact l2_u_ne x
  have z0 : σ1 o 2 = 0 := by rw [es]; exact l2_u_self _ _ _ _
  refine ⟨⟨v0, v1, u0, u1⟩, ?_⟩
  intro d hd'
  rw [fr1 37 v (by omega) (by omega) (by omega), fr1 37 u (by omega) (by omega) (by omega), hU v v0 v1, hU u u0 u1] at hd'
  obtain ⟨ap0, -⟩ := AP_0 (W := W) (H := fun k => f (swk u v k)) z0
  unfold w7_30
  refine lz2_inv (fun (x : Int) τ => 0 ≤ x ∧ x ≤ σ a 2 ∧ frQ o σ τ ∧ τ o 2 ≤ x ∧ AP τ o W (fun k => f (swk u v k)) (fun k => ∃ i : Int, 0 ≤ i ∧ i < x ∧ σ (a + 1) i = MW W (swk u v k))) (fun x _ => σ a 2 - x) ?_ ⟨by omega, hna0, fr1, by omega, AP_skip ap0 (fun k z => z.elim) (fun k _ _ _ z => by obtain ⟨i, i1, i2, -⟩ := z; omega)⟩
  rintro X x τ hX ⟨i1, i2, i3, i4, i5⟩
  have qa := frQ_row ho ha na i3
  rw [qa.1]
  refine ⟨⟨⟨by omega, by omega⟩, ⟨by omega, by omega⟩⟩, ?_⟩
  split
  · rename_i hx
    refine ⟨⟨i1, by omega⟩, ?_⟩
    intro m hm
    rw [qa.2.1] at hm
    obtain ⟨l, l0, l1, l2, l3, l4⟩ := fa.2.2.1 x i1 hx
    rw [l2] at hm
    subst m
    refine ⟨⟨MW_rg hW l, u0, u1, v0, v1⟩, ?_⟩
    intro e he
    rw [MW_eu W l u0 u1, MW_eu W l v0 v1] at he
    have c0 := i5.1
    refine ⟨⟨c0, ⟨by omega, by omega⟩⟩, ?_⟩
    intro τ1 et
    rw [qa.2.2, l3] at et
    have sw := swk_e u v l
    have em : MW W l + e * d = MW W (swk u v l) := by rw [swk_MW W l u0 u1 v0 v1, he, hd']
    have ei := swk_inv u0 u1 v0 v1 l0 l1
    have nP : ¬ ∃ i : Int, 0 ≤ i ∧ i < x ∧ σ (a + 1) i = MW W (swk u v (swk u v l)) := by
      rintro ⟨i, g1, g2, g3⟩
      have := fa.2.2.2.1 i x g1 g2 hx
      rw [g3, l2, ei] at this
      omega
    obtain ⟨t2, -, -, tf⟩ := app_row (by omega) et
    refine hX _ _ ⟨by omega, by omega, frQ_tr i3 tf, by omega, AP_app i5 sw.1 sw.2.1 nP em (by show f l = f (swk u v (swk u v l)); rw [ei]) (by show f (swk u v (swk u v l)) ≠ 0; rw [ei]; exact l4) (by omega) (fun k z => ?_) ⟨x, i1, by omega, by rw [l2, ei]⟩ (fun k k0 k1 k2 z => ?_) et⟩ (by omega)
    · obtain ⟨i, g1, g2, g3⟩ := z
      exact ⟨i, g1, by omega, g3⟩
    · obtain ⟨i, g1, g2, g3⟩ := z
      by_cases hi : i = x
      · rw [hi, l2] at g3
        have sk := swk_e u v k
        have := MW_inj l0 l1 sk.1 sk.2.1 g3
        refine Or.inr ?_
        rw [this, swk_inv u0 u1 v0 v1 k0 k1]
      · exact Or.inl ⟨i, g1, by omega, g3⟩
  · rename_i hx
    refine c90 ho hW (AP_UR i5 (fun k k0 k1 k2 => ?_)) (fun ρ r1 r2 => h ρ (fun b j x y z => ?_) r2)
    · have sk := swk_e u v k
      obtain ⟨i, g1, g2, g3⟩ := fa.2.2.2.2 (swk u v k) sk.1 sk.2.1 k2
      exact ⟨i, g1, by omega, g3⟩
    · rw [r1 b j y z]; exact i3 b j x y z
/-- an unknown's exponent is taken out -/
def clr (u k : Int) : Int := k - e4 k u * pu u
theorem clr_e {u k : Int} (u0 : 0 ≤ u) (u1 : u < 3) (k0 : 0 ≤ k) (k1 : k < 4096) : 0 ≤ clr u k ∧ clr u k < 4096 ∧ ∀ W : Int → Int, MW W (clr u k) = MW W k - e4 k u * UW W u := by
  have a0 := e4_b k 0
  have a1 := e4_b k 1
  have a2 := e4_b k 2
  have kk := key_eq k0 k1
  refine u3 (P := fun u => 0 ≤ clr u k ∧ clr u k < 4096 ∧ ∀ W : Int → Int, MW W (clr u k) = MW W k - e4 k u * UW W u) ?_ ?_ ?_ u0 u1
  · have e : clr 0 k = 0 + 16 * e4 k 1 + 256 * e4 k 2 := by unfold clr; rw [show pu 0 = 1 from rfl]; omega
    rw [e]
    refine ⟨by omega, by omega, fun W => ?_⟩
    rw [← MW_U, ← MW_U, e4_d0 (by omega) (by omega), e4_d1 (by omega) (by omega) (by omega) (by omega), e4_d2 (by omega) (by omega) (by omega) (by omega) (by omega) (by omega)]
    omega
  · have e : clr 1 k = e4 k 0 + 16 * 0 + 256 * e4 k 2 := by unfold clr; rw [show pu 1 = 16 from rfl]; omega
    rw [e]
    refine ⟨by omega, by omega, fun W => ?_⟩
    rw [← MW_U, ← MW_U, e4_d0 (by omega) (by omega), e4_d1 (by omega) (by omega) (by omega) (by omega), e4_d2 (by omega) (by omega) (by omega) (by omega) (by omega) (by omega)]
    omega
  · have e : clr 2 k = e4 k 0 + 16 * e4 k 1 + 256 * 0 := by unfold clr; rw [show pu 2 = 256 from rfl]; omega
    rw [e]
    refine ⟨by omega, by omega, fun W => ?_⟩
    rw [← MW_U, ← MW_U, e4_d0 (by omega) (by omega), e4_d1 (by omega) (by omega) (by omega) (by omega), e4_d2 (by omega) (by omega) (by omega) (by omega) (by omega) (by omega)]
    omega
def putF (p : Int) (f : Int → Int) (u c k : Int) : Int := sumN (fun l => if clr u l = k then f l * pw p c (e4 l u) % p else 0) 4096 % p
theorem c6 {a o : Nat} {W f : Int → Int} {p u c : Int} (ha : isP a) (ho : isP o) (na : o ≠ a) (hW : okW W) (hp : σ 34 0 = p) (p2 : 2 ≤ p) (p97 : p ≤ 97) (hU : ∀ v : Int, 0 ≤ v → v < 3 → σ 37 v = UW W v) (u0 : 0 ≤ u) (u1 : u < 3) (cc0 : 0 ≤ c) (cc1 : c < p) (fa : PR σ a W f) (ra : ∀ k : Int, 0 ≤ k → k < 4096 → 0 ≤ f k ∧ f k < p) (h : ∀ τ : l2_m, frQ o σ τ → PR τ o W (putF p f u c) → K 0 τ) : wC B 6 [vr 38, vr a, vi u, vi c, vr o] σ K := by
  have obig := isP_big ho
  have hna := fa.2.1
  have hna0 := fa.1
  refine o6 ha ho ?_
  unfold w6
  intro σ1 es
  have fr1 : frQ o σ σ1 := fun b' j x y z => by rw [es]; exact l2_u_ne x
  have z0 : σ1 o 2 = 0 := by rw [es]; exact l2_u_self _ _ _ _
  unfold w6_9
  refine lz2_inv (fun (x : Int) τ => 0 ≤ x ∧ x ≤ σ a 2 ∧ frQ o σ τ ∧ τ o 2 = x ∧ (∀ i : Int, 0 ≤ i → i < x → τ (o + 1) i = MW W (clr u (kom (σ (a + 1) i))) ∧ τ (o + 2) i = σ (a + 2) i * pw p c (e4 (kom (σ (a + 1) i)) u) % p)) (fun x _ => σ a 2 - x) ?_ ⟨by omega, hna0, fr1, z0, fun i a b => by omega⟩
  rintro X x τ hX ⟨i1, i2, i3, i4, i5⟩
  have qa := frQ_row ho ha na i3
  have tp : τ 34 0 = p := by rw [← hp]; exact i3 34 0 (by omega) (by omega) (by omega)
  have tU : τ 37 u = UW W u := by rw [← hU u u0 u1]; exact i3 37 u (by omega) (by omega) (by omega)
  rw [qa.1]
  refine ⟨⟨⟨by omega, by omega⟩, ⟨by omega, by omega⟩⟩, ?_⟩
  split
  · rename_i hx
    rw [qa.2.1, qa.2.2, tp, tU]
    obtain ⟨l, l0, l1, l2, l3, l4⟩ := fa.2.2.1 x i1 hx
    have rl := ra l l0 l1
    have el := e4_b l u
    rw [l2, l3]
    refine ⟨⟨i1, by omega, MW_rg hW l, u0, u1⟩, ?_⟩
    intro e he
    rw [MW_eu W l u0 u1] at he
    intro m hm
    have hb := pw_b (v := c) p2 e
    have hmm := mul_b (a := f l) (b := pw p c e) (m := 97) (n := 97) (by omega) (by omega) hb.1 (by omega)
    have c0 : 0 ≤ τ o 2 := by omega
    refine ⟨⟨p2, p97, cc0, cc1, by omega, by omega, ⟨by omega, by omega⟩, c0, ⟨by omega, by omega⟩⟩, ?_⟩
    intro τ1 et
    obtain ⟨t2, tm, tc, tf⟩ := app_row (by omega) et
    have cl := clr_e u0 u1 l0 l1
    have em : m = MW W (clr u l) := by rw [hm, he, cl.2.2 W]
    refine hX _ _ ⟨by omega, by omega, frQ_tr i3 tf, by omega, fun i a b => ?_⟩ (by omega)
    rw [tm, tc]
    by_cases hi : i = τ o 2
    · rw [if_pos hi, if_pos hi]
      have hix : i = x := by omega
      rw [hix, l2, l3, kom_MW l0 l1, em, he]
      exact ⟨rfl, rfl⟩
    · rw [if_neg hi, if_neg hi]
      exact i5 i a (by omega)
  · rename_i hx
    have ex : x = σ a 2 := by omega
    rw [ex] at i4 i5
    refine c91 ho rfl ⟨by omega, by omega, by omega⟩ hW tp p2 p97 (by omega) (by omega) (fun i a b => ?_) (fun ρ r1 r2 => h ρ (frQ_tr i3 r1) (PR_ext r2 (fun k k0 k1 => ?_)))
    · rw [i4] at b
      obtain ⟨l, l0, l1, l2, l3, l4⟩ := fa.2.2.1 i a b
      have cl := clr_e u0 u1 l0 l1
      have := i5 i a b
      rw [this.1, this.2, l2, kom_MW l0 l1]
      exact ⟨⟨clr u l, cl.1, cl.2.1, rfl⟩, Int.emod_nonneg _ (by omega), Int.emod_lt_of_pos _ (by omega)⟩
    · show putF p f u c k = mgs τ o (τ o 2) (MW W k) % p
      unfold putF mgs tsum
      rw [i4, ← PR_sum fa (fun l d => if clr u l = k then d * pw p c (e4 l u) % p else 0) (fun l => by split; rw [Int.zero_mul, Int.zero_emod]; rfl)]
      congr 1
      refine sumN_congr (fun i ix0 ix1 => ?_)
      have b' : i < σ a 2 := by omega
      obtain ⟨l, l0, l1, l2, l3, l4⟩ := fa.2.2.1 i ix0 b'
      have cl := clr_e u0 u1 l0 l1
      have := i5 i ix0 b'
      rw [this.1, this.2, l2, kom_MW l0 l1]
      dsimp only
      by_cases hk : clr u l = k
      · rw [if_pos hk, if_pos (by rw [hk])]
      · rw [if_neg hk, if_neg (fun z => hk (MW_inj cl.1 cl.2.1 k0 k1 z))]
end O5
