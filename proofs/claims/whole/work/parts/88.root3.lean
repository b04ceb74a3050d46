section RT3
variable {B : va_E} {σ : l2_m} {K : Int → l2_m → Prop}
theorem rt_row {p : Int} (p2 : 2 ≤ p) (f : Int → Int) {t0 t1 t2 : Int} (f0 : 0 ≤ t0) (f1 : t0 < 3) (s0 : 0 ≤ t1) (s1 : t1 < 3) (hne : ¬ t0 = t1) (h2 : t2 = 3 - t0 - t1) (a b : Int) (row : Int → Int) (hr : ∀ e : Int, 0 ≤ e → e < 16 → row e = irow f t0 t1 t2 a b e % p) (c : Int) : (if sumN (fun e => row e * pwr c e) 16 % p = 0 then (1 : Int) else 0) = rtI p f (asg t0 t1 a b c 0) (asg t0 t1 a b c 1) (asg t0 t1 a b c 2) := by
  have e : sumN (fun e => row e * pwr c e) 16 % p = valF p f (asg t0 t1 a b c 0) (asg t0 t1 a b c 1) (asg t0 t1 a b c 2) := by
    rw [valF_z p2]
    have q1 : sumN (fun e => row e * pwr c e) 16 % p = sumN (fun e => irow f t0 t1 t2 a b e * pwr c e) 16 % p := md_sum (fun e a b => md_mul (by rw [hr e a (by omega), md_md]) rfl)
    have q2 : sumN (fun k => f k * pwr a (e4 k t2) * pwr b (e4 k t1) * pwr c (e4 k t0)) 4096 = sumN (fun k => tz (asg t0 t1 a b c 0) (asg t0 t1 a b c 1) (asg t0 t1 a b c 2) k (f k)) 4096 := sumN_congr (fun k _ _ => (asg_tz f0 f1 s0 s1 hne h2 a b c k (f k)).symm)
    rw [q1, irow_sum, q2]
  unfold rtI
  rw [e]
theorem c14 {o : Nat} {W f nn : Int → Int} {p : Int} (ho : isP o) (hob : 48 < o) (hW : okW W) (hp : σ 34 0 = p) (p2 : 2 ≤ p) (p97 : p ≤ 97) (hf : PR σ o W f) (rf : ∀ k : Int, 0 ≤ k → k < 4096 → 0 ≤ f k ∧ f k < p) (hn : ∀ u : Int, 0 ≤ u → u < 3 → (occ f u → nn u = p) ∧ (¬ occ f u → nn u = 1)) (h1 : ∀ τ : l2_m, (∀ b j, (b < 45 ∨ 48 < b) → τ b j = σ b j) → nn 0 * nn 1 * nn 2 ≤ 10000 → K (rootsF p f (nn 0) (nn 1) (nn 2)) τ) (h0 : ∀ τ : l2_m, (∀ b j, (b < 45 ∨ 48 < b) → τ b j = σ b j) → 10000 < nn 0 * nn 1 * nn 2 → K (-1) τ) : wC B 14 [vr 38, vr o] σ K := by
  refine o14 ho ?_
  unfold w14
  refine c15 ho hob hW hf (fun τ n t0 t1 t2 g1 e0 e1 e2 x0 x1 y0 y1 hne hz n0 n3 q0 q1 q2 => ?_)
  have z0 : 0 ≤ t2 := by omega
  have z1 : t2 < 3 := by omega
  have v0 : nn t0 = if 0 < n then p else 1 := by
    by_cases hc : 0 < n
    · rw [if_pos hc]; exact (hn t0 x0 x1).1 (q0.mp hc)
    · rw [if_neg hc]; exact (hn t0 x0 x1).2 (fun z => hc (q0.mpr z))
  have v1 : nn t1 = if 1 < n then p else 1 := by
    by_cases hc : 1 < n
    · rw [if_pos hc]; exact (hn t1 y0 y1).1 (q1.mp hc)
    · rw [if_neg hc]; exact (hn t1 y0 y1).2 (fun z => hc (q1.mpr z))
  have v2 : nn t2 = if 2 < n then p else 1 := by
    by_cases hc : 2 < n
    · rw [if_pos hc]; exact (hn t2 z0 z1).1 (q2.mp hc)
    · rw [if_neg hc]; exact (hn t2 z0 z1).2 (fun z => hc (q2.mpr z))
  have prod : nn 0 * nn 1 * nn 2 = nn t2 * nn t1 * nn t0 := by
    rw [hz]
    refine perm6 (P := fun t0 t1 => nn 0 * nn 1 * nn 2 = nn (3 - t0 - t1) * nn t1 * nn t0) ?_ ?_ ?_ ?_ ?_ ?_ x0 x1 y0 y1 hne
    · show nn 0 * nn 1 * nn 2 = nn 2 * nn 1 * nn 0; grind
    · show nn 0 * nn 1 * nn 2 = nn 1 * nn 2 * nn 0; grind
    · show nn 0 * nn 1 * nn 2 = nn 2 * nn 0 * nn 1; grind
    · show nn 0 * nn 1 * nn 2 = nn 0 * nn 2 * nn 1; grind
    · show nn 0 * nn 1 * nn 2 = nn 1 * nn 0 * nn 2; grind
    · rfl
  have bn : ∀ u : Int, 0 ≤ u → u < 3 → 1 ≤ nn u ∧ nn u ≤ p := fun u a b => by
    by_cases hc : occ f u
    · rw [(hn u a b).1 hc]; omega
    · rw [(hn u a b).2 hc]; omega
  have b0 := bn t0 x0 x1
  have b1 := bn t1 y0 y1
  have b2 := bn t2 z0 z1
  have tp : τ 34 0 = p := by rw [g1 34 0 (by decide)]; exact hp
  have pp1 : p * p ≤ 9409 := by have := mul_b (a := p) (b := p) (m := 97) (n := 97) (by omega) p97 (by omega) p97; omega
  have pp0 : 4 ≤ p * p := by
    have := Int.mul_le_mul p2 p2 (by decide) (by omega)
    omega
  have pp3 : p * p * p ≤ 912673 := by have := mul_b (a := p * p) (b := p) (m := 9409) (n := 97) (by omega) pp1 (by omega) p97; omega
  have pp30 : 0 ≤ p * p * p := Int.mul_nonneg (by omega) (by omega)
  -- the loops
  have main : nn t2 * nn t1 * nn t0 ≤ 10000 → w14_101 B τ o (nn t2) (nn t1) (nn t0) 0 0 K := by
    intro hle
    unfold w14_101
    obtain ⟨T, hT⟩ : ∃ T : Int → Int → Int, T = fun a b => sumN (fun c => rtI p f (asg t0 t1 a b c 0) (asg t0 t1 a b c 1) (asg t0 t1 a b c 2)) (nn t0).toNat := ⟨_, rfl⟩
    have frm : ∀ υ : l2_m, (∀ b j, b ≠ 46 → b ≠ 47 → b ≠ 48 → υ b j = τ b j) → (PR υ o W f ∧ υ 34 0 = p ∧ υ 45 0 = t0 ∧ υ 45 1 = t1 ∧ υ 45 2 = t2) := fun υ u1 => by
      have w : ∀ b j, (b < 45 ∨ 48 < b) → υ b j = σ b j := fun b j z => by rw [u1 b j (by omega) (by omega) (by omega)]; exact g1 b j (by omega)
      refine ⟨PR_congr hf (w _ _ (by omega)) (fun j _ _ => w _ _ (by omega)) (fun j _ _ => w _ _ (by omega)), by rw [w 34 0 (by decide)]; exact hp, ?_, ?_, ?_⟩
      · rw [u1 45 0 (by decide) (by decide) (by decide)]; exact e0
      · rw [u1 45 1 (by decide) (by decide) (by decide)]; exact e1
      · rw [u1 45 2 (by decide) (by decide) (by decide)]; exact e2
    refine lz3_inv (fun (s a : Int) υ => 0 ≤ a ∧ a ≤ nn t2 ∧ (∀ b j, b ≠ 46 → b ≠ 47 → b ≠ 48 → υ b j = τ b j) ∧ s = sumN (fun a => sumN (fun b => T a b) (nn t1).toNat) a.toNat) (fun _ a _ => nn t2 - a) ?_ ⟨by omega, by omega, fun b j _ _ _ => rfl, rfl⟩
    rintro X s a υ hX ⟨a0, a1, u1, s1⟩
    refine ⟨⟨⟨by omega, by omega⟩, ⟨by omega, by omega⟩⟩, ?_⟩
    split
    · rename_i ha
      obtain ⟨f1, f2, f3, f4, f5⟩ := frm υ u1
      refine c16 rfl (by decide) f2 p2 p97 a0 (by omega) (fun υ1 w1 w2 => ?_)
      have u2 : ∀ b j, b ≠ 46 → b ≠ 47 → b ≠ 48 → υ1 b j = τ b j := fun b j z1 z2 z3 => by rw [w1 b j z1]; exact u1 b j z1 z2 z3
      unfold w14_121
      refine lz3_inv (fun (s' b : Int) ρ => 0 ≤ b ∧ b ≤ nn t1 ∧ (∀ b j, b ≠ 46 → b ≠ 47 → b ≠ 48 → ρ b j = τ b j) ∧ (∀ e : Int, 0 ≤ e → e < 16 → ρ 46 e = pw p a e) ∧ s' = s + sumN (fun b => T a b) b.toNat) (fun _ b _ => nn t1 - b) ?_ ⟨by omega, by omega, u2, w2, (Int.add_zero s).symm⟩
      rintro Y s' b ρ hY ⟨c0, c1', c2', c3', c4'⟩
      refine ⟨⟨⟨by omega, by omega⟩, ⟨by omega, by omega⟩⟩, ?_⟩
      split
      · rename_i hb
        obtain ⟨l1, l2, l3, l4, l5⟩ := frm ρ c2'
        refine c16 rfl (by decide) l2 p2 p97 c0 (by omega) (fun ρ1 m1 m2 => ?_)
        have u3' : ∀ b j, b ≠ 46 → b ≠ 47 → b ≠ 48 → ρ1 b j = τ b j := fun b j z1 z2 z3 => by rw [m1 b j z2]; exact c2' b j z1 z2 z3
        obtain ⟨k1, k2, k3, k4, k5⟩ := frm ρ1 u3'
        refine c17 ho hob hW k2 p2 p97 k1 rf k3 k4 k5 x0 x1 y0 y1 z0 z1 (fun e q0 q1 => by rw [m1 46 e (by decide)]; exact c3' e q0 q1) m2 (fun ρ2 r1 r2 => ?_)
        have u4 : ∀ b j, b ≠ 46 → b ≠ 47 → b ≠ 48 → ρ2 b j = τ b j := fun b j z1 z2 z3 => by rw [r1 b j z3]; exact u3' b j z1 z2 z3
        obtain ⟨-, j2, -⟩ := frm ρ2 u4
        refine c18 j2 p2 p97 (by omega) b0.2 (fun e q0 q1 => by rw [r2 e q0 q1]; exact ⟨Int.emod_nonneg _ (by omega), Int.emod_lt_of_pos _ (by omega)⟩) ?_
        intro s'' hs''
        refine hY _ _ _ ⟨by omega, by omega, u4, fun e q0 q1 => by rw [r1 46 e (by decide), m1 46 e (by decide)]; exact c3' e q0 q1, ?_⟩ (by omega)
        rw [sumN_step c0, hs'', c4']
        have : sumN (fun c => if sumN (fun e => ρ2 48 e * pwr c e) 16 % p = 0 then 1 else 0) (nn t0).toNat = T a b := by
          rw [hT]
          exact sumN_congr (fun c _ _ => rt_row p2 f x0 x1 y0 y1 hne hz a b (ρ2 48) r2 c)
        rw [this]
        omega
      · rename_i hb
        have eb : b = nn t1 := by omega
        refine hX _ _ _ ⟨by omega, by omega, c2', ?_⟩ (by omega)
        rw [sumN_step a0, c4', s1, eb]
    · rename_i ha
      have ea : a = nn t2 := by omega
      have key : s = rootsF p f (nn 0) (nn 1) (nn 2) := by
        rw [s1, ea, hT]
        unfold rootsF
        rw [hz]
        exact turn_sum x0 x1 y0 y1 hne (fun x y z => rtI p f x y z) (fun u => (nn u).toNat)
      rw [key]
      exact h1 υ (fun b j z => by rw [u1 b j (by omega) (by omega) (by omega)]; exact g1 b j (by omega)) (by rw [prod]; exact hle)
  unfold w14_11
  rw [tp]
  refine lz2_inv (fun (x i : Int) => (i = 0 ∧ x = 1) ∨ (i = 1 ∧ x = p ∧ 1 ≤ n) ∨ (i = 2 ∧ x = p * p ∧ 2 ≤ n) ∨ (i = 3 ∧ x = p * p * p ∧ n = 3)) (fun _ i => 3 - i) ?_ (Or.inl ⟨rfl, rfl⟩)
  rintro X x i hX hI
  have ib : 0 ≤ i ∧ i ≤ 3 ∧ i ≤ n := by rcases hI with ⟨rfl, -⟩ | ⟨rfl, -, z⟩ | ⟨rfl, -, z⟩ | ⟨rfl, -, z⟩ <;> omega
  refine ⟨⟨⟨by omega, by omega⟩, ⟨by omega, by omega⟩⟩, ?_⟩
  split
  · rename_i hi
    intro x' hx'
    refine hX _ _ ?_ (by omega)
    rcases hI with ⟨rfl, rfl⟩ | ⟨rfl, rfl, z⟩ | ⟨rfl, rfl, z⟩ | ⟨rfl, rfl, z⟩
    · exact Or.inr (Or.inl ⟨rfl, by rw [hx', Int.one_mul], by omega⟩)
    · exact Or.inr (Or.inr (Or.inl ⟨rfl, hx', by omega⟩))
    · exact Or.inr (Or.inr (Or.inr ⟨rfl, hx', by omega⟩))
    · omega
  · rename_i hi
    have ein : i = n := by omega
    subst ein
    have hx : x = nn t2 * nn t1 * nn t0 := by
      rw [v0, v1, v2]
      rcases hI with ⟨rfl, rfl⟩ | ⟨rfl, rfl, z⟩ | ⟨rfl, rfl, z⟩ | ⟨rfl, rfl, z⟩
      · simp
      · simp
      · simp
      · simp
    have xb : 0 ≤ x ∧ x ≤ 912673 := by rcases hI with ⟨rfl, rfl⟩ | ⟨rfl, rfl, z⟩ | ⟨rfl, rfl, z⟩ | ⟨rfl, rfl, z⟩ <;> omega
    refine ⟨⟨by omega, by omega⟩, ?_⟩
    split
    · rename_i hbig
      exact h0 τ (fun b j z => g1 b j (by omega)) (by rw [prod, ← hx]; exact hbig)
    · rename_i hbig
      have mm := main (by omega)
      have s3 : w14_76 B τ o i (nn t2) (nn t1) K := by
        unfold w14_76
        rw [tp]
        refine ⟨⟨by omega, by omega⟩, ?_⟩
        split
        · rename_i hc
          intro y hy
          rw [if_pos hc] at v0
          rw [hy, ← v0]; exact mm
        · rename_i hc
          rw [if_neg hc] at v0
          rw [v0] at mm; exact mm
      have s2 : w14_58 B τ o i (nn t2) K := by
        unfold w14_58
        rw [tp]
        refine ⟨⟨by omega, by omega⟩, ?_⟩
        split
        · rename_i hc
          rw [if_pos hc] at v1
          rw [← v1]; exact s3
        · rename_i hc
          rw [if_neg hc] at v1
          rw [v1] at s3; exact s3
      split
      · rename_i hc
        rw [if_pos hc] at v2
        rw [← v2]; exact s2
      · rename_i hc
        rw [if_neg hc] at v2
        rw [v2] at s2; exact s2
end RT3
