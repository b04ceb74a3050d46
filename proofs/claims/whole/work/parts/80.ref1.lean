/-! ===== the reference: leads, what is put to the work, sets ===== -/
theorem inv_ex {p : Int} (hp : isPr p) : ∀ (n : Nat) (c : Int), 0 < c → c < p → c.toNat ≤ n → ∃ i : Int, 0 < i ∧ i < p ∧ c * i % p = 1 := by
  obtain ⟨p2, p97, pr⟩ := pr_rest p hp
  intro n
  induction n with
  | zero => intro c c0 c1 c2; omega
  | succ n ih =>
    intro c c0 c1 c2
    by_cases hc : c = 1
    · exact ⟨1, by decide, by omega, by rw [hc, Int.mul_one]; exact Int.emod_eq_of_lt (by decide) (by omega)⟩
    · have r0 : 0 ≤ p % c := Int.emod_nonneg p (by omega)
      have r1 : p % c < c := Int.emod_lt_of_pos p (by omega)
      have r2 : p % c ≠ 0 := by
        have := pr c.toNat (by omega) (by omega)
        rwa [Int.toNat_of_nonneg (by omega)] at this
      obtain ⟨i, i0, i1, i2⟩ := ih (p % c) (by omega) (by omega) (by omega)
      have hdm : c * (p / c) + p % c = p := Int.mul_ediv_add_emod p c
      have e1 : (p - p / c) * i % p < p := Int.emod_lt_of_pos _ (by omega)
      have e0 : 0 ≤ (p - p / c) * i % p := Int.emod_nonneg _ (by omega)
      have e2 : c * ((p - p / c) * i % p) % p = 1 := by
        rw [Int.mul_emod, Int.emod_emod, ← Int.mul_emod, ← Int.mul_assoc]
        have : c * (p - p / c) = p * (c - 1) + p % c := by
          rw [Int.mul_sub, Int.mul_sub, Int.mul_one, Int.mul_comm p c]
          omega
        rw [this, Int.add_mul, Int.mul_assoc, Int.add_comm, Int.add_mul_emod_self_left]
        exact i2
      refine ⟨(p - p / c) * i % p, ?_, e1, e2⟩
      apply Classical.byContradiction
      intro hz
      have : (p - p / c) * i % p = 0 := by omega
      rw [this, Int.mul_zero, Int.zero_emod] at e2
      omega
theorem ivp_ok {p c : Int} (hp : isPr p) (c0 : 0 < c) (c1 : c < p) : 0 < ivp p c ∧ ivp p c < p ∧ c * ivp p c % p = 1 := by
  obtain ⟨i, i0, i1, i2⟩ := inv_ex hp c.toNat c c0 c1 (Nat.le_refl _)
  rw [ivp_eq i0 i1 i2]
  exact ⟨i0, i1, i2⟩
def regR (σ : l2_m) (r : Int) : Int → Int := fun k => σ 187 (4096 * r + k)
def rngR (σ : l2_m) (p : Int) : Prop := ∀ r k : Int, 0 ≤ r → r < 8 → 0 ≤ k → k < 4096 → 0 ≤ σ 187 (4096 * r + k) ∧ σ 187 (4096 * r + k) < p
def alongOK (σ : l2_m) (W : Int → Int) : Prop := (∀ i : Int, 0 ≤ i → i < 4096 → 0 ≤ σ 190 i ∧ σ 190 i < 4096) ∧ (∀ i j : Int, 0 ≤ i → i < j → j < 4096 → MW W (σ 190 j) < MW W (σ 190 i)) ∧ (∀ k : Int, 0 ≤ k → k < 4096 → ∃ i : Int, 0 ≤ i ∧ i < 4096 ∧ σ 190 i = k)
section RF
variable {B : va_E} {σ : l2_m} {K : Int → l2_m → Prop}
theorem r226 {p c : Int} (hp : σ 186 5 = p) (pp : isPr p) (c0 : 0 < c) (c1 : c < p) (h : K (ivp p c) σ) : wC B 226 [vr 186, vi c] σ K := by
  obtain ⟨p2, p97, -⟩ := pr_rest p pp
  obtain ⟨i0, i1, i2⟩ := ivp_ok pp c0 c1
  refine s226 (i0 := ivp p c) (by omega) (by omega) c0 (by omega) (by omega) (by omega) (by rw [hp, Int.mul_comm]; exact i2) (fun i a b d => ?_)
  rw [hp, Int.mul_comm] at d
  rw [inv_uniq (show 0 < i by omega) (by omega) i0 i1 d i2]
  exact h
theorem r204 {W : Int → Int} {p r : Int} (r0 : 0 ≤ r) (r1 : r < 8) (p97 : p ≤ 97) (hr : rngR σ p) (ha : alongOK σ W) (h1 : ∀ k : Int, isLead W (regR σ r) k → K k σ) (h0 : (∀ k : Int, 0 ≤ k → k < 4096 → regR σ r k = 0) → K (-1) σ) : wC B 204 [vr 186, vi r] σ K := by
  obtain ⟨a1, a2, a3⟩ := ha
  refine o204 ?_
  unfold w204 w204_2
  refine lz1_inv (fun i => 0 ≤ i ∧ i ≤ 4096 ∧ ∀ j : Int, 0 ≤ j → j < i → σ 187 (4096 * r + σ 190 j) = 0) (fun i => 4096 - i) ?_ ⟨by omega, by omega, fun j a b => by omega⟩
  rintro X i hX ⟨i1, i2, i3⟩
  refine ⟨⟨by omega, by omega⟩, ?_⟩
  split
  · rename_i hi
    have ai := a1 i i1 hi
    have ri := hr r (σ 190 i) r0 r1 ai.1 ai.2
    refine ⟨⟨i1, hi, r0, r1, ai.1, ai.2, ⟨by omega, by omega⟩⟩, ?_⟩
    split
    · rename_i hz
      refine hX _ ⟨by omega, by omega, fun j a b => ?_⟩ (by omega)
      by_cases hj : j = i
      · rw [hj]; exact hz
      · exact i3 j a (by omega)
    · rename_i hz
      refine h1 _ ⟨ai.1, ai.2, hz, fun l l0 l1 l2 => ?_⟩
      obtain ⟨j, j0, j1, j2⟩ := a3 l l0 l1
      rw [← j2]
      rcases Int.lt_trichotomy j i with q | q | q
      · rw [← j2] at l2; exact absurd (i3 j j0 q) l2
      · rw [q]; exact Int.le_refl _
      · have := a2 i j i1 q j1; omega
  · rename_i hi
    refine h0 (fun k k0 k1 => ?_)
    obtain ⟨j, j0, j1, j2⟩ := a3 k k0 k1
    rw [← j2]
    exact i3 j j0 (by omega)
/-- what is put to the work so far -/
def ptl (d x : Int) (f : Int → Int) (k : Int) : Int := if (e4 d 0 ≤ e4 k 0 ∧ e4 d 1 ≤ e4 k 1 ∧ e4 d 2 ≤ e4 k 2) ∧ k - d < x then f (k - d) else 0
theorem r224 {p r c d : Int} (hp : σ 186 5 = p) (p2 : 2 ≤ p) (p97 : p ≤ 97) (r0 : 0 ≤ r) (r1 : r < 8) (hr : rngR σ p) (cc0 : 0 ≤ c) (cc1 : c ≤ 97) (d0 : 0 ≤ d) (d1 : d < 4096) (hw : ∀ k : Int, 0 ≤ k → k < 4096 → 0 ≤ σ 192 k ∧ σ 192 k < p) (h : ∀ τ : l2_m, (∀ b j, b ≠ 192 → ¬ (b = 186 ∧ j = 29) → τ b j = σ b j) → (∀ k : Int, 0 ≤ k → k < 4096 → τ 192 k = (σ 192 k + c * shf d (regR σ r) k) % p) → ((c = 0 ∨ ∀ k : Int, 0 ≤ k → k < 4096 → regR σ r k ≠ 0 → noO k d) → τ 186 29 = σ 186 29) → ((c ≠ 0 ∧ ∃ k : Int, 0 ≤ k ∧ k < 4096 ∧ regR σ r k ≠ 0 ∧ ¬ noO k d) → τ 186 29 = 0) → K 0 τ) : wC B 224 [vr 186, vi r, vi c, vi d] σ K := by
  refine o224 ?_
  unfold w224 w224_3
  refine lz2_inv (fun (x : Int) τ => 0 ≤ x ∧ x ≤ 4096 ∧ (∀ b j, b ≠ 192 → ¬ (b = 186 ∧ j = 29) → τ b j = σ b j) ∧ (∀ k : Int, 0 ≤ k → k < 4096 → τ 192 k = (σ 192 k + c * ptl d x (regR σ r) k) % p) ∧ ((c = 0 ∨ ∀ k : Int, 0 ≤ k → k < x → regR σ r k ≠ 0 → noO k d) → τ 186 29 = σ 186 29) ∧ ((c ≠ 0 ∧ ∃ k : Int, 0 ≤ k ∧ k < x ∧ regR σ r k ≠ 0 ∧ ¬ noO k d) → τ 186 29 = 0)) (fun x _ => 4096 - x) ?_ ?_
  · rintro X x τ hX ⟨i1, i2, i3, i4, i5, i6⟩
    refine ⟨⟨by omega, by omega⟩, ?_⟩
    split
    · rename_i hx
      have e187 : τ 187 (4096 * r + x) = regR σ r x := i3 187 _ (by decide) (by omega)
      have rx := hr r x r0 r1 i1 hx
      have rx' : 0 ≤ regR σ r x ∧ regR σ r x < p := rx
      rw [e187, i3 186 5 (by decide) (by omega), hp]
      refine ⟨⟨r0, r1, i1, hx, ⟨by omega, by omega⟩⟩, fun _ => ⟨by omega, by omega⟩, ?_⟩
      -- a key that isn't reached by this one
      have same : ∀ k : Int, 0 ≤ k → k < 4096 → (k - d ≠ x ∨ regR σ r x = 0 ∨ c = 0) → (σ 192 k + c * ptl d (x + 1) (regR σ r) k) % p = (σ 192 k + c * ptl d x (regR σ r) k) % p := by
        intro k k0 k1 hk
        rcases hk with hk | hk | hk
        · have : ptl d (x + 1) (regR σ r) k = ptl d x (regR σ r) k := by
            unfold ptl
            by_cases hc : (e4 d 0 ≤ e4 k 0 ∧ e4 d 1 ≤ e4 k 1 ∧ e4 d 2 ≤ e4 k 2) ∧ k - d < x
            · rw [if_pos hc, if_pos ⟨hc.1, by omega⟩]
            · rw [if_neg hc, if_neg (fun z => hc ⟨z.1, by omega⟩)]
          rw [this]
        · have : ptl d (x + 1) (regR σ r) k = ptl d x (regR σ r) k := by
            unfold ptl
            by_cases hc : (e4 d 0 ≤ e4 k 0 ∧ e4 d 1 ≤ e4 k 1 ∧ e4 d 2 ≤ e4 k 2) ∧ k - d < x
            · rw [if_pos hc, if_pos ⟨hc.1, by omega⟩]
            · rw [if_neg hc]
              split
              · rename_i hc2
                have : k - d = x := by
                  apply Classical.byContradiction
                  intro z
                  exact hc ⟨hc2.1, by omega⟩
                rw [this]; exact hk
              · rfl
          rw [this]
        · rw [hk, Int.zero_mul, Int.zero_mul]
      split
      · rename_i hc
        refine hX _ _ ⟨by omega, by omega, i3, fun k k0 k1 => ?_, fun z => i5 (z.imp id (fun z k a b => z k a (by omega))), fun z => ?_⟩ (by omega)
        · rw [i4 k k0 k1]
          exact (same k k0 k1 (Or.inr hc)).symm
        · obtain ⟨z1, k, k0, k1, k2, k3⟩ := z
          refine i6 ⟨z1, k, k0, ?_, k2, k3⟩
          by_cases hk : k = x
          · exact absurd (hc.elim (fun z => by rw [← hk] at z; exact z) (fun z => absurd z z1)) k2
          · omega
      · rename_i hc
        have hc1 : regR σ r x ≠ 0 := fun z => hc (Or.inl z)
        have hc2 : c ≠ 0 := fun z => hc (Or.inr z)
        refine ⟨⟨by omega, by omega⟩, ?_⟩
        rw [ksum_eq i1 hx d0 d1]
        by_cases hno : noO x d
        · rw [if_pos hno]
          intro y hy
          obtain ⟨s0, s1, s2⟩ := add_e i1 hx d0 d1 hno
          subst y
          refine ⟨⟨by omega, by omega⟩, ?_⟩
          rw [if_neg (by omega)]
          have e4w := i4 (x + d) s0 s1
          have w0 : ptl d x (regR σ r) (x + d) = 0 := by unfold ptl; rw [if_neg (by omega)]
          rw [w0, Int.mul_zero, Int.add_zero, emod_self_lt (hw _ s0 s1).1 (hw _ s0 s1).2] at e4w
          have hm := mul_b (a := regR σ r x) (b := c) (m := 97) (n := 97) (by omega) (by omega) cc0 cc1
          have hwx := hw _ s0 s1
          rw [e4w]
          refine ⟨⟨s0, s1, ⟨by omega, by omega⟩, ⟨by omega, by omega⟩, by omega, by omega⟩, ?_⟩
          intro τ1 et
          have a1 : ∀ b j, τ1 b j = if b = 192 ∧ j = x + d then (σ 192 (x + d) + regR σ r x * c) % p else τ b j := fun b j => by rw [et]; rfl
          have sh : ptl d (x + 1) (regR σ r) (x + d) = regR σ r x := by
            unfold ptl
            have b0 := e4_b x 0
            have b1 := e4_b x 1
            have b2 := e4_b x 2
            rw [if_pos (by omega)]
            congr 1
            omega
          refine hX _ _ ⟨by omega, by omega, fun b j z1 z2 => ?_, fun k k0 k1 => ?_, fun z => ?_, fun z => ?_⟩ (by omega)
          · rw [a1, if_neg (fun z => z1 z.1)]; exact i3 b j z1 z2
          · rw [a1]
            by_cases hk : k = x + d
            · rw [if_pos ⟨rfl, hk⟩, hk, sh, Int.mul_comm c]
            · rw [if_neg (fun z => hk z.2), i4 k k0 k1]
              exact (same k k0 k1 (Or.inl (by omega))).symm
          · rw [a1, if_neg (by omega)]
            exact i5 (z.imp id (fun z k a b => z k a (by omega)))
          · rw [a1, if_neg (by omega)]
            obtain ⟨z1, k, k0, k1, k2, k3⟩ := z
            refine i6 ⟨z1, k, k0, ?_, k2, k3⟩
            by_cases hk : k = x
            · rw [hk] at k3; exact absurd hno k3
            · omega
        · rw [if_neg hno]
          intro y hy
          subst y
          refine ⟨by decide, ?_⟩
          rw [if_pos rfl]
          intro τ1 et
          have a1 : ∀ b j, τ1 b j = if b = 186 ∧ j = 29 then 0 else τ b j := fun b j => by rw [et]; rfl
          refine hX _ _ ⟨by omega, by omega, fun b j z1 z2 => ?_, fun k k0 k1 => ?_, fun z => ?_, fun _ => ?_⟩ (by omega)
          · rw [a1, if_neg z2]; exact i3 b j z1 z2
          · rw [a1, if_neg (by omega), i4 k k0 k1]
            by_cases hkx : k - d = x
            · -- no key is reached
              have p1 : ptl d x (regR σ r) k = 0 := by unfold ptl; rw [if_neg (by omega)]
              have p2' : ptl d (x + 1) (regR σ r) k = 0 := by
                unfold ptl
                rw [if_neg]
                rintro ⟨hcc, -⟩
                obtain ⟨q0, q1, q2⟩ := sub_e k0 k1 d0 d1 hcc
                rw [hkx] at q2
                exact hno q2
              rw [p1, p2']
            · exact (same k k0 k1 (Or.inl hkx)).symm
          · exfalso
            rcases z with z | z
            · exact hc2 z
            · exact hno (z x i1 (by omega) hc1)
          · rw [a1, if_pos ⟨rfl, rfl⟩]
    · rename_i hx
      have ex : x = 4096 := by omega
      subst ex
      refine h τ i3 (fun k k0 k1 => ?_) i5 i6
      rw [i4 k k0 k1]
      have : ptl d 4096 (regR σ r) k = shf d (regR σ r) k := by
        unfold ptl shf
        by_cases hc : e4 d 0 ≤ e4 k 0 ∧ e4 d 1 ≤ e4 k 1 ∧ e4 d 2 ≤ e4 k 2
        · rw [if_pos ⟨hc, by omega⟩, if_pos hc]
        · rw [if_neg (fun z => hc z.1), if_neg hc]
      rw [this]
  · refine ⟨by omega, by omega, fun b j _ _ => rfl, fun k k0 k1 => ?_, fun _ => rfl, fun z => ?_⟩
    · have : ptl d 0 (regR σ r) k = 0 := by
        unfold ptl
        rw [if_neg]
        rintro ⟨hcc, hlt⟩
        have := sub_e k0 k1 d0 d1 hcc
        omega
      rw [this, Int.mul_zero, Int.add_zero, emod_self_lt (hw k k0 k1).1 (hw k k0 k1).2]
    · obtain ⟨-, k, k0, k1, -⟩ := z
      omega
theorem r227 {r : Int} (r0 : 0 ≤ r) (r1 : r < 8) (h : ∀ τ : l2_m, (∀ b j, b ≠ 192 → ¬ (b = 186 ∧ j = 29) → τ b j = σ b j) → (∀ k : Int, 0 ≤ k → k < 4096 → τ 192 k = regR σ r k) → τ 186 29 = 1 → K 0 τ) : wC B 227 [vr 186, vi r] σ K := by
  refine o227 ?_
  unfold w227 w227_2
  refine lz2_inv (fun (x : Int) τ => 0 ≤ x ∧ x ≤ 4096 ∧ (∀ b j, b ≠ 192 → τ b j = σ b j) ∧ (∀ k : Int, 0 ≤ k → k < x → τ 192 k = regR σ r k)) (fun x _ => 4096 - x) ?_ ⟨by omega, by omega, fun b j _ => rfl, fun k a b => by omega⟩
  rintro X x τ hX ⟨i1, i2, i3, i4⟩
  refine ⟨⟨by omega, by omega⟩, ?_⟩
  split
  · rename_i hx
    rw [i3 187 _ (by decide)]
    refine ⟨⟨r0, r1, i1, hx⟩, ?_⟩
    intro τ1 et
    have a1 : ∀ b j, τ1 b j = if b = 192 ∧ j = x then regR σ r x else τ b j := fun b j => by rw [et]; rfl
    refine hX _ _ ⟨by omega, by omega, fun b j z => ?_, fun k k0 k1 => ?_⟩ (by omega)
    · rw [a1, if_neg (fun w => z w.1)]; exact i3 b j z
    · rw [a1]
      by_cases hk : k = x
      · rw [if_pos ⟨rfl, hk⟩, hk]
      · rw [if_neg (fun w => hk w.2)]; exact i4 k k0 (by omega)
  · rename_i hx
    intro τ1 et
    have a1 : ∀ b j, τ1 b j = if b = 186 ∧ j = 29 then 1 else τ b j := fun b j => by rw [et]; rfl
    refine h τ1 (fun b j z w => by rw [a1, if_neg w]; exact i3 b j z) (fun k k0 k1 => by rw [a1, if_neg (by omega)]; exact i4 k k0 (by omega)) (by rw [a1, if_pos ⟨rfl, rfl⟩])
theorem r229 {p set : Int} (hs : rg set) (p97 : p ≤ 97) (hr : rngR σ p) (h2 : ¬ (1 ≤ set ∧ set ≤ 255) → K 2 σ) (h5 : (1 ≤ set ∧ set ≤ 255) → (∃ d : Int, 0 ≤ d ∧ d < 8 ∧ bit set d = 1 ∧ cnt (regR σ d) 4096 = 0) → K 5 σ) (h0 : (1 ≤ set ∧ set ≤ 255) → (∀ d : Int, 0 ≤ d → d < 8 → bit set d = 1 → cnt (regR σ d) 4096 ≠ 0) → K 0 σ) : wC B 229 [vr 186, vi set] σ K := by
  refine o229 ?_
  unfold w229
  refine ⟨hs, ?_⟩
  split
  · rename_i hset
    unfold w229_15
    refine lz1_inv (fun i => 0 ≤ i ∧ i ≤ 8 ∧ ∀ d : Int, 0 ≤ d → d < i → bit set d = 1 → cnt (regR σ d) 4096 ≠ 0) (fun i => 8 - i) ?_ ⟨by omega, by omega, fun d a b => by omega⟩
    rintro X i hX ⟨i1, i2, i3⟩
    refine ⟨⟨by omega, by omega⟩, ?_⟩
    split
    · rename_i hi
      refine ⟨⟨hs, i1, by omega⟩, fun _ => ⟨hi, fun j a b => by have := hr i j i1 hi a b; exact ⟨by omega, by omega⟩⟩, ?_⟩
      split
      · rename_i hc
        exact h5 hset ⟨i, i1, hi, hc.1, hc.2⟩
      · rename_i hc
        refine hX _ ⟨by omega, by omega, fun d a b => ?_⟩ (by omega)
        by_cases hd : d = i
        · rw [hd]; exact fun z w => hc ⟨z, w⟩
        · exact i3 d a (by omega)
    · exact h0 hset (fun d a b => i3 d a (by omega))
  · rename_i hset
    exact h2 hset
theorem r230 {set k : Int} {lk : Int → Int} (hs : rg set) (hk : rg k) (hl : ∀ d : Int, 0 ≤ d → d < 8 → rg (σ 197 d)) (he : ∀ d : Int, 0 ≤ d → d < 8 → bit set d = 1 → σ 197 d = lk d) (h1 : ∀ d : Int, dvr set lk k d → K d σ) (h0 : noDvr set lk k → K (-1) σ) : wC B 230 [vr 186, vi set, vi k] σ K := by
  refine o230 ?_
  unfold w230 w230_2
  refine lz1_inv (fun i => 0 ≤ i ∧ i ≤ 8 ∧ ∀ e : Int, 0 ≤ e → e < i → ¬ (bit set e = 1 ∧ isUn (lk e) k)) (fun i => 8 - i) ?_ ⟨by omega, by omega, fun d a b => by omega⟩
  rintro X i hX ⟨i1, i2, i3⟩
  refine ⟨⟨by omega, by omega⟩, ?_⟩
  split
  · rename_i hi
    refine ⟨⟨hs, i1, by omega⟩, fun _ => ⟨hi, hl i i1 hi, hk⟩, ?_⟩
    split
    · rename_i hc
      have hb : bit set i = 1 := hc.1
      rw [he i i1 hi hb] at hc
      exact h1 i ⟨i1, hi, hb, hc.2, i3⟩
    · rename_i hc
      refine hX _ ⟨by omega, by omega, fun d a b => ?_⟩ (by omega)
      by_cases hd : d = i
      · rw [hd]
        rintro ⟨z, w⟩
        have hb : bit set i = 1 := z
        exact hc ⟨z, by rw [he i i1 hi hb]; exact w⟩
      · exact i3 d a (by omega)
  · exact h0 (fun d a b => i3 d a (by omega))
end RF
