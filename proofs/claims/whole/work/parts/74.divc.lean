/-! ===== division: facts of a step ===== -/
theorem cnt_app {f : Int → Int} {k c : Int} (k0 : 0 ≤ k) (k1 : k < 4096) (hf : f k = 0) (hc : c ≠ 0) : cnt (upI f k c) 4096 = cnt f 4096 + 1 := by
  have e := cnt_upd (f := upI f k c) (N := 4096) k0 k1 (by unfold upI; rw [if_pos rfl]; exact hc)
  have e2 : cnt (upI (upI f k c) k 0) 4096 = cnt f 4096 := cnt_congr (fun j _ _ => by
    unfold upI
    by_cases hj : j = k
    · rw [if_pos hj, hj, hf]
    · rw [if_neg hj, if_neg hj])
  omega
theorem PR_app {τ υ : l2_m} {o : Nat} {W f : Int → Int} {k c m : Int} (h : PR τ o W f) (k0 : 0 ≤ k) (k1 : k < 4096) (hm : m = MW W k) (hf : f k = 0) (hb : ∀ l : Int, 0 ≤ l → l < 4096 → f l ≠ 0 → MW W k < MW W l) (hc : c ≠ 0) (hl : τ o 2 < 60) (he : υ = app τ o m c) : PR υ o W (upI f k c) := by
  obtain ⟨h1, h2, h3, h4, h5⟩ := h
  obtain ⟨t2, tm, tc, -⟩ := app_row hl he
  have uk : upI f k c k = c := by unfold upI; rw [if_pos rfl]
  have un : ∀ l, l ≠ k → upI f k c l = f l := fun l hl => by unfold upI; rw [if_neg hl]
  unfold PR
  rw [t2]
  refine ⟨by omega, by omega, fun i a b => ?_, fun i j a b d => ?_, fun l l0 l1 l2 => ?_⟩
  · rw [tm, tc]
    by_cases hi : i = τ o 2
    · rw [if_pos hi, if_pos hi]
      exact ⟨k, k0, k1, hm, uk.symm, by rw [uk]; exact hc⟩
    · rw [if_neg hi, if_neg hi]
      obtain ⟨l, l0, l1, l2, l3, l4⟩ := h3 i a (by omega)
      have hlk : l ≠ k := by rintro rfl; exact l4 hf
      exact ⟨l, l0, l1, l2, by rw [un l hlk]; exact l3, by rw [un l hlk]; exact l4⟩
  · rw [tm j, tm i, if_neg (show ¬ i = τ o 2 by omega)]
    by_cases hj : j = τ o 2
    · rw [if_pos hj]
      obtain ⟨l, l0, l1, l2, l3, l4⟩ := h3 i a (by omega)
      rw [l2, hm]
      exact hb l l0 l1 l4
    · rw [if_neg hj]; exact h4 i j a b (by omega)
  · by_cases hlk : l = k
    · exact ⟨τ o 2, h1, by omega, by rw [tm, if_pos rfl, hm, hlk]⟩
    · rw [un l hlk] at l2
      obtain ⟨i, i0, i1, i2⟩ := h5 l l0 l1 l2
      exact ⟨i, i0, by omega, by rw [tm, if_neg (by omega)]; exact i2⟩
theorem app_no {τ : l2_m} {o : Nat} {m c : Int} (hl : ¬ τ o 2 < 60) : app τ o m c = τ := by unfold app; rw [if_neg hl]
/-- what is asked of the divisors -/
def dvOK (p : Int) (W : Int → Int) (set : Int) (G : Int → Int → Int) (lk iv : Int → Int) : Prop := ∀ d : Int, 0 ≤ d → d < 8 → (∀ k : Int, 0 ≤ k → k < 4096 → 0 ≤ G d k ∧ G d k < p) ∧ (bit set d = 1 → isLead W (G d) (lk d) ∧ 0 < iv d ∧ iv d < p ∧ G d (lk d) * iv d % p = 1)
theorem isUn_sub {k l : Int} (k0 : 0 ≤ k) (k1 : k < 4096) (l0 : 0 ≤ l) (l1 : l < 4096) (h : isUn l k) : 0 ≤ k - l ∧ k - l < 4096 ∧ noO (k - l) l ∧ ∀ W : Int → Int, MW W k = MW W (k - l) + MW W l := by
  obtain ⟨a, b, c⟩ := sub_e k0 k1 l0 l1 h
  refine ⟨a, b, c, fun W => ?_⟩
  have := MW_add (W := W) a b l0 l1 c
  rwa [show k - l + l = k by omega] at this
theorem noO_comm {k l : Int} (h : noO k l) : noO l k := by unfold noO at *; omega
/-- behind a step of the second kind all is below the lead -/
theorem dvL_lt {p : Int} {W : Int → Int} {set : Int} {G : Int → Int → Int} {lk iv L : Int → Int} {k d : Int} (p2 : 2 ≤ p) (hW : okW W) (hd : dvOK p W set G lk iv) (rL : ∀ l : Int, 0 ≤ l → l < 4096 → 0 ≤ L l ∧ L l < p) (hk : isLead W L k) (hdv : dvr set lk k d) : (∀ l : Int, 0 ≤ l → l < 4096 → dvL p G lk iv L k d l ≠ 0 → MW W l < MW W k) ∧ L k * iv d % p ≠ 0 ∧ 0 ≤ L k * iv d % p ∧ L k * iv d % p < p := by
  obtain ⟨k0, k1, k2, k3⟩ := hk
  obtain ⟨d0, d1, d2, d3, -⟩ := hdv
  obtain ⟨rG, hG⟩ := hd d d0 d1
  obtain ⟨⟨g0, g1, g2, g3⟩, v0, v1, v2⟩ := hG d2
  obtain ⟨s0, s1, s2, s3⟩ := isUn_sub k0 k1 g0 g1 d3
  have rk' := rL k k0 k1
  have c0 : 0 ≤ L k * iv d % p := Int.emod_nonneg _ (by omega)
  have c1 : L k * iv d % p < p := Int.emod_lt_of_pos _ (by omega)
  have cn : L k * iv d % p ≠ 0 := fun z => by
    have := mod_cancel v2 p2 z
    rw [emod_self_lt rk'.1 rk'.2] at this
    exact k2 this
  refine ⟨fun l l0 l1 l2 => ?_, cn, c0, c1⟩
  have hle : MW W l ≤ MW W k := by
    apply Classical.byContradiction
    intro hgt
    apply l2
    unfold dvL mixF
    have e1 : shf 0 L l = 0 := by
      rw [shf_0]
      exact Classical.byContradiction (fun z => by have := k3 l l0 l1 z; omega)
    have e2 : shf (k - lk d) (G d) l = 0 := by
      apply Classical.byContradiction
      intro z
      unfold shf at z
      split at z
      · rename_i hc
        obtain ⟨q0, q1, q2⟩ := sub_e l0 l1 s0 s1 hc
        have h1 := g3 _ q0 q1 z
        have h2 := MW_add (W := W) q0 q1 s0 s1 q2
        rw [show l - (k - lk d) + (k - lk d) = l by omega] at h2
        have h3 := s3 W
        omega
      · exact z rfl
    rw [e1, e2, Int.mul_zero, Int.mul_zero]
    exact Int.zero_emod p
  by_cases hlk : l = k
  · exfalso
    apply l2
    rw [hlk]
    unfold dvL mixF
    have e2 : shf (k - lk d) (G d) k = G d (lk d) := by
      have := shf_add (d := k - lk d) (G d) g0 g1 s0 s1 (noO_comm s2)
      rwa [show lk d + (k - lk d) = k by omega] at this
    rw [shf_0, e2, Int.one_mul, Int.sub_mul]
    have e3 : (L k * iv d % p * G d (lk d)) % p = L k := by
      rw [Int.mul_emod, Int.emod_emod, ← Int.mul_emod, Int.mul_assoc, Int.mul_comm (iv d), Int.mul_emod, v2, Int.mul_one, Int.emod_emod]
      exact emod_self_lt rk'.1 rk'.2
    have e4 : L k + (p * G d (lk d) - L k * iv d % p * G d (lk d)) = (L k - L k * iv d % p * G d (lk d)) + p * G d (lk d) := by omega
    rw [e4, Int.add_mul_emod_self_left, Int.sub_emod, e3, emod_self_lt rk'.1 rk'.2, Int.sub_self]
    exact Int.zero_emod p
  · have : MW W l ≠ MW W k := fun z => hlk (MW_inj l0 l1 k0 k1 z)
    omega
/-- what holds of a state on the way -/
def dGood (p : Int) (W : Int → Int) (lk : Int → Int) (s : dst) : Prop := (∀ l : Int, 0 ≤ l → l < 4096 → 0 ≤ s.1 l ∧ s.1 l < p) ∧ (∀ l : Int, 0 ≤ l → l < 4096 → 0 ≤ s.2.1 l ∧ s.2.1 l < p) ∧ (∀ d l : Int, 0 ≤ l → l < 4096 → 0 ≤ s.2.2.1 d l ∧ s.2.2.1 d l < p) ∧ (∀ l m : Int, 0 ≤ l → l < 4096 → 0 ≤ m → m < 4096 → s.2.1 l ≠ 0 → s.1 m ≠ 0 → MW W m < MW W l) ∧ (∀ d x m : Int, 0 ≤ x → x < 4096 → 0 ≤ m → m < 4096 → s.2.2.1 d x ≠ 0 → s.1 m ≠ 0 → MW W m < MW W x + MW W (lk d))
theorem dGood_0 {p : Int} {W lk f : Int → Int} (p2 : 2 ≤ p) (rf : ∀ l : Int, 0 ≤ l → l < 4096 → 0 ≤ f l ∧ f l < p) : dGood p W lk (dInit f) := ⟨rf, fun _ _ _ => ⟨Int.le_refl _, by show (0 : Int) < p; omega⟩, fun _ _ _ _ => ⟨Int.le_refl _, by show (0 : Int) < p; omega⟩, fun _ _ _ _ _ _ z => absurd rfl z, fun _ _ _ _ _ _ _ z => absurd rfl z⟩
theorem dGood_s {p : Int} {W : Int → Int} {set : Int} {G : Int → Int → Int} {lk iv : Int → Int} {s t : dst} (p2 : 2 ≤ p) (hW : okW W) (hd : dvOK p W set G lk iv) (hg : dGood p W lk s) (h : dStep p W set G lk iv s t) : dGood p W lk t := by
  obtain ⟨g1, g2, g3, g4, g5⟩ := hg
  obtain ⟨k, hk, hc⟩ := h
  have hk' := hk
  obtain ⟨k0, k1, k2, k3⟩ := hk
  rcases hc with ⟨a1, a2, a3⟩ | ⟨d, d1, d2, d3, d4, d5⟩
  · subst a3
    have sub : ∀ m : Int, upI s.1 k 0 m ≠ 0 → s.1 m ≠ 0 ∧ m ≠ k := fun m z => by
      unfold upI at z
      by_cases hm : m = k
      · rw [if_pos hm] at z; exact absurd rfl z
      · rw [if_neg hm] at z; exact ⟨z, hm⟩
    refine ⟨fun l l0 l1 => ?_, fun l l0 l1 => ?_, g3, fun l m l0 l1 m0 m1 z w => ?_, fun e x m x0 x1 m0 m1 z w => g5 e x m x0 x1 m0 m1 z (sub m w).1⟩
    · show 0 ≤ upI s.1 k 0 l ∧ upI s.1 k 0 l < p
      unfold upI
      split
      · omega
      · exact g1 l l0 l1
    · show 0 ≤ upI s.2.1 k (s.1 k) l ∧ upI s.2.1 k (s.1 k) l < p
      unfold upI
      split
      · exact g1 k k0 k1
      · exact g2 l l0 l1
    · obtain ⟨w1, w2⟩ := sub m w
      have hmk : MW W m < MW W k := by
        have := k3 m m0 m1 w1
        have : MW W m ≠ MW W k := fun z => w2 (MW_inj m0 m1 k0 k1 z)
        omega
      have z' : upI s.2.1 k (s.1 k) l ≠ 0 := z
      unfold upI at z'
      by_cases hl : l = k
      · rw [hl]; exact hmk
      · rw [if_neg hl] at z'
        exact g4 l m l0 l1 m0 m1 z' w1
  · subst d5
    obtain ⟨q1, q2, q3, q4⟩ := dvL_lt p2 hW hd g1 hk' d1
    have d1' := d1
    obtain ⟨e0, e1, e2, e3, -⟩ := d1
    obtain ⟨⟨l0', l1', -, -⟩, -⟩ := (hd d e0 e1).2 e2
    obtain ⟨s0, s1, s2, s3⟩ := isUn_sub k0 k1 l0' l1' e3
    refine ⟨fun l _ _ => ⟨Int.emod_nonneg _ (by omega), Int.emod_lt_of_pos _ (by omega)⟩, g2, fun e l l0 l1 => ?_, fun l m l0 l1 m0 m1 z w => ?_, fun e x m x0 x1 m0 m1 z w => ?_⟩
    · show 0 ≤ dvQ p lk iv s.1 s.2.2.1 k d e l ∧ dvQ p lk iv s.1 s.2.2.1 k d e l < p
      unfold dvQ
      split
      · unfold upI
        split
        · exact ⟨q3, q4⟩
        · exact g3 d l l0 l1
      · exact g3 e l l0 l1
    · have := q1 m m0 m1 w
      have := g4 l k l0 l1 k0 k1 z k2
      omega
    · have hmk := q1 m m0 m1 w
      have z' : dvQ p lk iv s.1 s.2.2.1 k d e x ≠ 0 := z
      unfold dvQ at z'
      split at z'
      · rename_i he
        subst he
        unfold upI at z'
        split at z'
        · rename_i hx
          rw [hx]
          have := s3 W
          omega
        · have := g5 e x k x0 x1 k0 k1 z' k2
          omega
      · have := g5 e x k x0 x1 k0 k1 z' k2
        omega
