/-! ===== roots: the same sums, unknowns in turns ===== -/
theorem md_add {p a b a' b' : Int} (h1 : a % p = a' % p) (h2 : b % p = b' % p) : (a + b) % p = (a' + b') % p := by rw [Int.add_emod, h1, h2, ← Int.add_emod]
theorem md_mul {p a b a' b' : Int} (h1 : a % p = a' % p) (h2 : b % p = b' % p) : (a * b) % p = (a' * b') % p := by rw [Int.mul_emod, h1, h2, ← Int.mul_emod]
theorem md_md (a p : Int) : a % p % p = a % p := Int.emod_emod a p
theorem md_sum {p : Int} {f g : Int → Int} {n : Nat} (h : ∀ j : Int, 0 ≤ j → j < n → f j % p = g j % p) : sumN f n % p = sumN g n % p := by
  induction n with
  | zero => rfl
  | succ n ih => exact md_add (ih (fun j a b => h j a (by omega))) (h n (by omega) (by omega))
/-- powers -/
def pwr (v e : Int) : Int := v ^ e.toNat
theorem pw_md {p v : Int} (p2 : 2 ≤ p) (e : Int) : pw p v e % p = pwr v e % p := by
  unfold pw pwr
  generalize e.toNat = n
  induction n with
  | zero => rw [Int.pow_zero]; rfl
  | succ n ih =>
    rw [Int.pow_succ]
    show (pwN p v n * v % p) % p = (v ^ n * v) % p
    rw [md_md]
    exact md_mul ih rfl
/-- a term's value, not reckoned by the prime -/
def tz (v0 v1 v2 k x : Int) : Int := x * pwr v0 (e4 k 0) * pwr v1 (e4 k 1) * pwr v2 (e4 k 2)
theorem tv_md {p : Int} (p2 : 2 ≤ p) (a b c k x : Int) : tv p a b c k x % p = tz a b c k x % p := by
  unfold tv tz
  rw [md_md]
  refine md_mul ?_ (pw_md p2 _)
  rw [md_md]
  refine md_mul ?_ (pw_md p2 _)
  rw [md_md]
  exact md_mul rfl (pw_md p2 _)
theorem valF_z {p : Int} (p2 : 2 ≤ p) (f : Int → Int) (a b c : Int) : valF p f a b c = sumN (fun k => tz a b c k (f k)) 4096 % p := md_sum (fun k _ _ => tv_md p2 a b c k (f k))
/-- the three unknowns' values, by turns -/
def asg (t0 t1 : Int) (a b c u : Int) : Int := if u = t0 then c else if u = t1 then b else a
/-- what the inner row comes to -/
def irow (f : Int → Int) (t0 t1 t2 a b e : Int) : Int := sumN (fun k => if e4 k t0 = e then f k * pwr a (e4 k t2) * pwr b (e4 k t1) else 0) 4096
theorem irow_sum (f : Int → Int) (t0 t1 t2 a b c : Int) : sumN (fun e => irow f t0 t1 t2 a b e * pwr c e) 16 = sumN (fun k => f k * pwr a (e4 k t2) * pwr b (e4 k t1) * pwr c (e4 k t0)) 4096 := by
  have e1 : sumN (fun e => irow f t0 t1 t2 a b e * pwr c e) 16 = sumN (fun e => sumN (fun k => if e4 k t0 = e then f k * pwr a (e4 k t2) * pwr b (e4 k t1) * pwr c (e4 k t0) else 0) 4096) 16 := sumN_congr (fun e _ _ => by
    unfold irow
    rw [Int.mul_comm, ← sumN_mul]
    refine sumN_congr (fun k _ _ => ?_)
    by_cases h : e4 k t0 = e
    · rw [if_pos h, if_pos h, h, Int.mul_comm]
    · rw [if_neg h, if_neg h, Int.mul_zero])
  rw [e1, sumN_swap]
  refine sumN_congr (fun k _ _ => ?_)
  have := e4_b k t0
  rw [sumN_one (j := e4 k t0) this.1 (by omega) (fun i _ _ hi => if_neg (fun z => hi z.symm)), if_pos rfl]
theorem asg_tz {t0 t1 t2 : Int} (f0 : 0 ≤ t0) (f1 : t0 < 3) (s0 : 0 ≤ t1) (s1 : t1 < 3) (hne : ¬ t0 = t1) (h2 : t2 = 3 - t0 - t1) (a b c k x : Int) : tz (asg t0 t1 a b c 0) (asg t0 t1 a b c 1) (asg t0 t1 a b c 2) k x = x * pwr a (e4 k t2) * pwr b (e4 k t1) * pwr c (e4 k t0) := by
  subst h2
  refine perm6 (P := fun t0 t1 => tz (asg t0 t1 a b c 0) (asg t0 t1 a b c 1) (asg t0 t1 a b c 2) k x = x * pwr a (e4 k (3 - t0 - t1)) * pwr b (e4 k t1) * pwr c (e4 k t0)) ?_ ?_ ?_ ?_ ?_ ?_ f0 f1 s0 s1 hne
  · show x * pwr c (e4 k 0) * pwr b (e4 k 1) * pwr a (e4 k 2) = x * pwr a (e4 k 2) * pwr b (e4 k 1) * pwr c (e4 k 0); grind
  · show x * pwr c (e4 k 0) * pwr a (e4 k 1) * pwr b (e4 k 2) = x * pwr a (e4 k 1) * pwr b (e4 k 2) * pwr c (e4 k 0); grind
  · show x * pwr b (e4 k 0) * pwr c (e4 k 1) * pwr a (e4 k 2) = x * pwr a (e4 k 2) * pwr b (e4 k 0) * pwr c (e4 k 1); grind
  · show x * pwr a (e4 k 0) * pwr c (e4 k 1) * pwr b (e4 k 2) = x * pwr a (e4 k 0) * pwr b (e4 k 2) * pwr c (e4 k 1); grind
  · show x * pwr b (e4 k 0) * pwr a (e4 k 1) * pwr c (e4 k 2) = x * pwr a (e4 k 1) * pwr b (e4 k 0) * pwr c (e4 k 2); grind
  · show x * pwr a (e4 k 0) * pwr b (e4 k 1) * pwr c (e4 k 2) = x * pwr a (e4 k 0) * pwr b (e4 k 1) * pwr c (e4 k 2); rfl
def rtI (p : Int) (f : Int → Int) (a b c : Int) : Int := if valF p f a b c = 0 then 1 else 0
def rootsF (p : Int) (f : Int → Int) (nx ny nz : Int) : Int := sumN (fun a => sumN (fun b => sumN (fun c => rtI p f a b c) nz.toNat) ny.toNat) nx.toNat
/-- sums in turns -/
theorem turn_sum {t0 t1 : Int} (f0 : 0 ≤ t0) (f1 : t0 < 3) (s0 : 0 ≤ t1) (s1 : t1 < 3) (hne : ¬ t0 = t1) (F : Int → Int → Int → Int) (n : Int → Nat) : sumN (fun a => sumN (fun b => sumN (fun c => F (asg t0 t1 a b c 0) (asg t0 t1 a b c 1) (asg t0 t1 a b c 2)) (n t0)) (n t1)) (n (3 - t0 - t1)) = sumN (fun x => sumN (fun y => sumN (fun z => F x y z) (n 2)) (n 1)) (n 0) := by
  refine perm6 (P := fun t0 t1 => sumN (fun a => sumN (fun b => sumN (fun c => F (asg t0 t1 a b c 0) (asg t0 t1 a b c 1) (asg t0 t1 a b c 2)) (n t0)) (n t1)) (n (3 - t0 - t1)) = sumN (fun x => sumN (fun y => sumN (fun z => F x y z) (n 2)) (n 1)) (n 0)) ?_ ?_ ?_ ?_ ?_ ?_ f0 f1 s0 s1 hne
  · show sumN (fun a => sumN (fun b => sumN (fun c => F c b a) (n 0)) (n 1)) (n 2) = _
    have e : sumN (fun a => sumN (fun b => sumN (fun c => F c b a) (n 0)) (n 1)) (n 2) = sumN (fun a => sumN (fun c => sumN (fun b => F c b a) (n 1)) (n 0)) (n 2) := sumN_congr (fun a _ _ => sumN_swap (fun b c => F c b a) (n 1) (n 0))
    rw [e, sumN_swap (fun a c => sumN (fun b => F c b a) (n 1)) (n 2) (n 0)]
    exact sumN_congr (fun c _ _ => sumN_swap (fun a b => F c b a) (n 2) (n 1))
  · show sumN (fun a => sumN (fun b => sumN (fun c => F c a b) (n 0)) (n 2)) (n 1) = _
    have e : sumN (fun a => sumN (fun b => sumN (fun c => F c a b) (n 0)) (n 2)) (n 1) = sumN (fun a => sumN (fun c => sumN (fun b => F c a b) (n 2)) (n 0)) (n 1) := sumN_congr (fun a _ _ => sumN_swap (fun b c => F c a b) (n 2) (n 0))
    rw [e, sumN_swap (fun a c => sumN (fun b => F c a b) (n 2)) (n 1) (n 0)]
  · show sumN (fun a => sumN (fun b => sumN (fun c => F b c a) (n 1)) (n 0)) (n 2) = _
    rw [sumN_swap (fun a b => sumN (fun c => F b c a) (n 1)) (n 2) (n 0)]
    exact sumN_congr (fun b _ _ => sumN_swap (fun a c => F b c a) (n 2) (n 1))
  · show sumN (fun a => sumN (fun b => sumN (fun c => F a c b) (n 1)) (n 2)) (n 0) = _
    exact sumN_congr (fun a _ _ => sumN_swap (fun b c => F a c b) (n 2) (n 1))
  · show sumN (fun a => sumN (fun b => sumN (fun c => F b a c) (n 2)) (n 0)) (n 1) = _
    exact sumN_swap (fun a b => sumN (fun c => F b a c) (n 2)) (n 1) (n 0)
  · rfl
section RT
variable {B : va_E} {σ : l2_m} {K : Int → l2_m → Prop}
theorem c16 {o : Nat} {p a : Int} (ho : l2_al o = some 16) (ob : o ≠ 34) (hp : σ 34 0 = p) (p2 : 2 ≤ p) (p97 : p ≤ 97) (a0 : 0 ≤ a) (a1 : a < p) (h : ∀ τ : l2_m, (∀ b j, b ≠ o → τ b j = σ b j) → (∀ e : Int, 0 ≤ e → e < 16 → τ o e = pw p a e) → K 0 τ) : wC B 16 [vr 38, vr o, vi a] σ K := by
  refine o16 ho ?_
  unfold w16 w16_5
  refine lz3_inv (fun (x i : Int) τ => 0 ≤ i ∧ i ≤ 16 ∧ x = pw p a i ∧ (∀ b j, b ≠ o → τ b j = σ b j) ∧ (∀ e : Int, 0 ≤ e → e < i → τ o e = pw p a e)) (fun _ i _ => 16 - i) ?_ ⟨by omega, by omega, rfl, fun b j _ => rfl, fun e a b => by omega⟩
  rintro X x i τ hX ⟨i1, i2, i3, i4, i5⟩
  have h16 : ((16 : Nat) : Int) = 16 := rfl
  rw [h16]
  refine ⟨⟨by omega, by omega⟩, ?_⟩
  split
  · rename_i hi
    refine ⟨⟨i1, hi⟩, ?_⟩
    intro τ1 et
    have b1 : ∀ b j, τ1 b j = if b = o ∧ j = i then x else τ b j := fun b j => by rw [et]; rfl
    have tp : τ1 34 0 = p := by rw [b1, if_neg (fun z => ob z.1.symm), i4 34 0 (fun z => ob z.symm)]; exact hp
    have hb := pw_b (v := a) p2 i
    rw [← i3] at hb
    have hm := mul_rg hb.1 (by omega) a0 (by omega)
    rw [tp]
    refine ⟨⟨p2, p97, ⟨by omega, by omega⟩⟩, ?_⟩
    intro x' hx'
    refine hX _ _ _ ⟨by omega, by omega, by rw [pw_step i1, hx', i3], fun b j z => by rw [b1, if_neg (fun w => z w.1)]; exact i4 b j z, fun e x0 x1 => ?_⟩ (by omega)
    rw [b1]
    by_cases he : e = i
    · rw [if_pos ⟨rfl, he⟩, he]; exact i3
    · rw [if_neg (fun z => he z.2)]; exact i5 e x0 (by omega)
  · exact h τ i4 (fun e x0 x1 => i5 e x0 (by omega))
theorem c17 {o : Nat} {W f : Int → Int} {p a b t0 t1 t2 : Int} (ho : isP o) (hob : 48 < o) (hW : okW W) (hp : σ 34 0 = p) (p2 : 2 ≤ p) (p97 : p ≤ 97) (hf : PR σ o W f) (rf : ∀ k : Int, 0 ≤ k → k < 4096 → 0 ≤ f k ∧ f k < p) (e0 : σ 45 0 = t0) (e1 : σ 45 1 = t1) (e2 : σ 45 2 = t2) (x0 : 0 ≤ t0) (x1 : t0 < 3) (y0 : 0 ≤ t1) (y1 : t1 < 3) (z0 : 0 ≤ t2) (z1 : t2 < 3) (ha : ∀ e : Int, 0 ≤ e → e < 16 → σ 46 e = pw p a e) (hb : ∀ e : Int, 0 ≤ e → e < 16 → σ 47 e = pw p b e) (h : ∀ τ : l2_m, (∀ b j, b ≠ 48 → τ b j = σ b j) → (∀ e : Int, 0 ≤ e → e < 16 → τ 48 e = irow f t0 t1 t2 a b e % p) → K 0 τ) : wC B 17 [vr 38, vr o] σ K := by
  have hf' := hf
  obtain ⟨h1, h2, h3, h4, h5⟩ := hf
  refine o17 ho ?_
  unfold w17
  intro σ1 es
  have a1 : ∀ b j, σ1 b j = if b = 48 ∧ 0 ≤ j ∧ j < 16 then 0 else σ b j := fun b j => by rw [es]; rfl
  have n1 : ∀ b j, b ≠ 48 → σ1 b j = σ b j := fun b j z => by rw [a1, if_neg (fun w => z w.1)]
  obtain ⟨G, hG⟩ : ∃ G : Int → Int → Int → Int, G = fun e k x => if e4 k t0 = e then x * pwr a (e4 k t2) * pwr b (e4 k t1) else 0 := ⟨_, rfl⟩
  unfold w17_10
  refine lz2_inv (fun (i : Int) τ => 0 ≤ i ∧ i ≤ σ o 2 ∧ (∀ b j, b ≠ 48 → τ b j = σ b j) ∧ (∀ e : Int, 0 ≤ e → e < 16 → τ 48 e = sumN (fun j => G e (kom (σ (o + 1) j)) (σ (o + 2) j)) i.toNat % p)) (fun i _ => σ o 2 - i) ?_ ⟨by omega, h1, n1, fun e q0 q1 => by rw [a1, if_pos ⟨rfl, q0, q1⟩]; exact (Int.zero_emod p).symm⟩
  rintro X i τ hX ⟨i1, i2, i3, i4⟩
  rw [i3 o 2 (by omega)]
  refine ⟨⟨⟨by omega, by omega⟩, ⟨by omega, by omega⟩⟩, ?_⟩
  split
  · rename_i hi
    obtain ⟨k, k0, k1, k2, k3, k4⟩ := h3 i i1 hi
    have rk' := rf k k0 k1
    refine ⟨⟨i1, by omega⟩, ?_⟩
    intro m hm
    rw [i3 (o + 1) i (by omega), k2] at hm
    have q0 := e4_b k t0
    have q1 := e4_b k t1
    have q2 := e4_b k t2
    rw [i3 45 0 (by decide), i3 45 1 (by decide), i3 45 2 (by decide), e0, e1, e2, i3 34 0 (by decide), hp, i3 (o + 2) i (by omega), k3, hm, MW_eu W k x0 x1, MW_eu W k y0 y1, MW_eu W k z0 z1]
    have c0 : e4 k t0 % 16 = e4 k t0 := Int.emod_eq_of_lt q0.1 q0.2
    have c1' : e4 k t1 % 16 = e4 k t1 := Int.emod_eq_of_lt q1.1 q1.2
    have c2' : e4 k t2 % 16 = e4 k t2 := Int.emod_eq_of_lt q2.1 q2.2
    rw [c0, c1', c2', i3 46 _ (by decide), i3 47 _ (by decide), ha _ q2.1 q2.2, hb _ q1.1 q1.2]
    have pa := pw_b (v := a) p2 (e4 k t2)
    have pb := pw_b (v := b) p2 (e4 k t1)
    refine ⟨⟨MW_rg hW k, z0, z1, q2.1, q2.2⟩, ?_⟩
    intro x hx
    have m1 := mul_b (a := x) (b := pw p b (e4 k t1)) (m := 97) (n := 97) (by omega) (by omega) pb.1 (by omega)
    refine ⟨⟨y0, y1, q1.1, q1.2, p2, p97, ⟨by omega, by omega⟩⟩, ?_⟩
    intro y hy
    have yb : 0 ≤ y ∧ y < p := by rw [hy]; exact ⟨Int.emod_nonneg _ (by omega), Int.emod_lt_of_pos _ (by omega)⟩
    refine ⟨⟨x0, x1⟩, ?_⟩
    intro e he
    subst e
    have t48 := i4 (e4 k t0) q0.1 q0.2
    have tb : 0 ≤ τ 48 (e4 k t0) ∧ τ 48 (e4 k t0) < p := by rw [t48]; exact ⟨Int.emod_nonneg _ (by omega), Int.emod_lt_of_pos _ (by omega)⟩
    have m2 := mul_b (a := y) (b := f k) (m := 97) (n := 97) (by omega) (by omega) rk'.1 (by omega)
    refine ⟨⟨q0.1, q0.2, ⟨by omega, by omega⟩⟩, ?_⟩
    intro τ1 et
    have b1 : ∀ b j, τ1 b j = if b = 48 ∧ j = e4 k t0 then (τ 48 (e4 k t0) + y * f k) % p else τ b j := fun b j => by rw [et]; rfl
    refine hX _ _ ⟨by omega, by omega, fun b j z => by rw [b1, if_neg (fun w => z w.1)]; exact i3 b j z, fun e g0 g1 => ?_⟩ (by omega)
    rw [sumN_step i1, k2, k3, kom_MW k0 k1, b1]
    by_cases he : e = e4 k t0
    · rw [if_pos ⟨rfl, he⟩, ← he]
      refine md_add (by rw [i4 e g0 g1, md_md]) ?_
      rw [hG]
      show y * f k % p = (if e4 k t0 = e then f k * pwr a (e4 k t2) * pwr b (e4 k t1) else 0) % p
      rw [if_pos he.symm, hy, hx, Int.mul_comm, Int.mul_assoc]
      refine md_mul rfl ?_
      rw [md_md]
      exact md_mul (pw_md p2 _) (pw_md p2 _)
    · rw [if_neg (fun z => he z.2), i4 e g0 g1]
      have : G e k (f k) = 0 := by rw [hG]; exact if_neg (fun z => he z.symm)
      rw [this, Int.add_zero]
  · rename_i hi
    have ei : i = σ o 2 := by omega
    refine h τ i3 (fun e g0 g1 => ?_)
    rw [i4 e g0 g1, ei]
    have es' := PR_sum hf' (fun k x => G e k x) (fun k => by rw [hG]; show (if e4 k t0 = e then 0 * pwr a (e4 k t2) * pwr b (e4 k t1) else 0) = 0; split; rw [Int.zero_mul, Int.zero_mul]; rfl)
    rw [es', hG]
    rfl
end RT
