/-! ===== more unknowns than equations ===== -/
def smR {S : Type} [Lean.Grind.CommRing S] (f : Nat → S) : Nat → S
  | 0 => 0
  | n + 1 => smR f n + f n
theorem sm_s {S : Type} [Lean.Grind.CommRing S] (f : Nat → S) (n : Nat) : smR f (n + 1) = smR f n + f n := rfl
theorem sm_cg {S : Type} [Lean.Grind.CommRing S] {f g : Nat → S} : ∀ n : Nat, (∀ i, i < n → f i = g i) → smR f n = smR g n
  | 0, _ => rfl
  | n + 1, h => by rw [sm_s, sm_s, sm_cg n (fun i hi => h i (by omega)), h n (by omega)]
theorem sm_ad {S : Type} [Lean.Grind.CommRing S] (f g : Nat → S) : ∀ n : Nat, smR (fun i => f i + g i) n = smR f n + smR g n
  | 0 => by show (0 : S) = 0 + 0; grind
  | n + 1 => by rw [sm_s, sm_s, sm_s, sm_ad f g n]; grind
theorem sm_mu {S : Type} [Lean.Grind.CommRing S] (s : S) (f : Nat → S) : ∀ n : Nat, smR (fun i => s * f i) n = s * smR f n
  | 0 => by show (0 : S) = s * 0; grind
  | n + 1 => by rw [sm_s, sm_s, sm_mu s f n]; grind
theorem sm_z {S : Type} [Lean.Grind.CommRing S] {f : Nat → S} : ∀ n : Nat, (∀ i, i < n → f i = 0) → smR f n = 0
  | 0, _ => rfl
  | n + 1, h => by rw [sm_s, sm_z n (fun i hi => h i (by omega)), h n (by omega)]; grind
def skp (i0 i : Nat) : Nat := if i < i0 then i else i + 1
theorem sm_skip {S : Type} [Lean.Grind.CommRing S] (f : Nat → S) (i0 : Nat) : ∀ n : Nat, i0 < n + 1 → smR f (n + 1) = smR (fun i => f (skp i0 i)) n + f i0
  | 0, h => by
    have : i0 = 0 := by omega
    subst this
    rfl
  | n + 1, h => by
    by_cases hi : i0 = n + 1
    · rw [sm_s, hi, sm_cg (f := fun i => f (skp (n + 1) i)) (g := f) (n + 1) (fun i h2 => by show f (skp (n + 1) i) = f i; unfold skp; rw [if_pos h2])]
    · rw [sm_s, sm_skip f i0 n (by omega), sm_s, show skp i0 n = n + 1 by unfold skp; rw [if_neg (by omega)]]
      grind
theorem null {K : Type} [Lean.Grind.Field K] : ∀ (m N : Nat), m < N → ∀ a : Nat → Nat → K, ∃ v : Nat → K, (∃ i, i < N ∧ v i ≠ 0) ∧ (∀ i, N ≤ i → v i = 0) ∧ ∀ j, j < m → smR (fun i => a j i * v i) N = 0
  | 0, N, h, a => ⟨fun i => if i = 0 then 1 else 0, ⟨0, h, by show (if (0 : Nat) = 0 then (1 : K) else 0) ≠ 0; rw [if_pos rfl]; exact fun w => Lean.Grind.Field.zero_ne_one w.symm⟩, fun i hi => if_neg (by omega), fun j hj => absurd hj (by omega)⟩
  | m + 1, N, h, a => by
    by_cases hz : ∀ i, i < N → a m i = 0
    · obtain ⟨v, v1, v2, v3⟩ := null m N (by omega) a
      refine ⟨v, v1, v2, fun j hj => ?_⟩
      by_cases hjm : j = m
      · rw [hjm]
        exact sm_z N (fun i hi => by show a m i * v i = 0; rw [hz i hi]; grind)
      · exact v3 j (by omega)
    · obtain ⟨i0, hi0⟩ := Classical.not_forall.mp hz
      obtain ⟨i1, i2⟩ := Classical.not_imp.mp hi0
      obtain ⟨M, rfl⟩ : ∃ M, N = M + 1 := ⟨N - 1, by omega⟩
      have hin := Lean.Grind.Field.mul_inv_cancel i2
      obtain ⟨w, ew⟩ : ∃ w : K, w = (a m i0)⁻¹ := ⟨_, rfl⟩
      rw [← ew] at hin
      obtain ⟨v, ⟨iv, iv1, iv2⟩, v2, v3⟩ := null m M (by omega) (fun j i => a j (skp i0 i) - a j i0 * w * a m (skp i0 i))
      obtain ⟨z, ez⟩ : ∃ z : K, z = - w * smR (fun i => a m (skp i0 i) * v i) M := ⟨_, rfl⟩
      obtain ⟨u, eu⟩ : ∃ u : Nat → K, u = fun i => if i = i0 then z else if i < i0 then v i else v (i - 1) := ⟨_, rfl⟩
      have us : ∀ i, u (skp i0 i) = v i := fun i => by
        rw [eu]
        unfold skp
        by_cases hi : i < i0
        · rw [if_pos hi]
          show (if i = i0 then z else if i < i0 then v i else v (i - 1)) = v i
          rw [if_neg (by omega), if_pos hi]
        · rw [if_neg hi]
          show (if i + 1 = i0 then z else if i + 1 < i0 then v (i + 1) else v (i + 1 - 1)) = v i
          rw [if_neg (by omega), if_neg (by omega), Nat.add_sub_cancel]
      have u0 : u i0 = z := by rw [eu]; exact if_pos rfl
      have sum : ∀ j, smR (fun i => a j i * u i) (M + 1) = smR (fun i => a j (skp i0 i) * v i) M + a j i0 * z := fun j => by
        rw [sm_skip (fun i => a j i * u i) i0 M i1, u0]
        rw [sm_cg (f := fun i => a j (skp i0 i) * u (skp i0 i)) (g := fun i => a j (skp i0 i) * v i) M (fun i _ => by show a j (skp i0 i) * u (skp i0 i) = _; rw [us])]
      refine ⟨u, ⟨skp i0 iv, ?_, by rw [us]; exact iv2⟩, fun i hi => ?_, fun j hj => ?_⟩
      · unfold skp; split <;> omega
      · rw [eu]
        show (if i = i0 then z else if i < i0 then v i else v (i - 1)) = 0
        rw [if_neg (by omega), if_neg (by omega)]
        exact v2 (i - 1) (by omega)
      · rw [sum j]
        by_cases hjm : j = m
        · rw [hjm, ez]; grind
        · have h3 := v3 j (by omega)
          have e : smR (fun i => (a j (skp i0 i) - a j i0 * w * a m (skp i0 i)) * v i) M = smR (fun i => a j (skp i0 i) * v i) M + (- (a j i0 * w)) * smR (fun i => a m (skp i0 i) * v i) M := by
            rw [← sm_mu, ← sm_ad]
            exact sm_cg M (fun i _ => by grind)
          rw [e] at h3
          rw [ez]
          grind
/-- a linear form is what it says of the units -/
theorem lin_sum {K : Type} [Lean.Grind.Field K] (φ : (Nat → K) → K) (hl : ∀ (u v : Nat → K) (s : K), φ (fun t => u t + s * v t) = φ u + s * φ v) : ∀ (N : Nat) (v : Nat → K), (∀ t, N ≤ t → v t = 0) → φ v = smR (fun t => φ (fun x => if x = t then 1 else 0) * v t) N
  | 0, v, h => by
    have e : v = fun _ => 0 := funext (fun t => h t (Nat.zero_le t))
    have h2 := hl (fun _ => 0) (fun _ => 0) 1
    rw [show (fun t : Nat => (0 : K) + 1 * 0) = (fun _ => 0) from funext (fun t => by grind)] at h2
    show φ v = 0
    rw [e]
    grind
  | N + 1, v, h => by
    have e : v = fun t => (fun t => if t < N then v t else 0) t + v N * (fun x => if x = N then 1 else 0) t := funext (fun t => by
      show v t = (if t < N then v t else 0) + v N * (if t = N then 1 else 0)
      by_cases h1 : t < N
      · rw [if_pos h1, if_neg (by omega)]; grind
      · by_cases h2 : t = N
        · rw [if_neg h1, if_pos h2, h2]; grind
        · rw [if_neg h1, if_neg h2, h t (by omega)]; grind)
    have h1 := lin_sum φ hl N (fun t => if t < N then v t else 0) (fun t ht => if_neg (by omega))
    have h2 := hl (fun t => if t < N then v t else 0) (fun x => if x = N then 1 else 0) (v N)
    rw [← e] at h2
    rw [h2, h1, sm_s, sm_cg (f := fun t => φ (fun x => if x = t then 1 else 0) * (if t < N then v t else 0)) (g := fun t => φ (fun x => if x = t then 1 else 0) * v t) N (fun i hi => by show _ * (if i < N then v i else 0) = _; rw [if_pos hi])]
    grind
/-! heights: degrees in y -/
def hlt {K R A : Type} [Lean.Grind.Field K] (c1 : R → Nat → K) (c2 : A → Nat → R) (a : A) (n : Nat) : Prop := ∀ i, dlt c1 (c2 a i) n
theorem hlt_add {K R A : Type} [Lean.Grind.Field K] [Lean.Grind.CommRing R] [Lean.Grind.CommRing A] {c1 : R → Nat → K} {k1 : K → R} {Y : R} (H1 : IsPol c1 k1 Y) {c2 : A → Nat → R} {k2 : R → A} {X : A} (H2 : IsPol c2 k2 X) {a b : A} {n : Nat} (ha : hlt c1 c2 a n) (hb : hlt c1 c2 b n) : hlt c1 c2 (a + b) n := fun i => by
  rw [po_a H2]; exact dlt_add H1 (ha i) (hb i)
theorem hlt_mul {K R A : Type} [Lean.Grind.Field K] [Lean.Grind.CommRing R] [Lean.Grind.CommRing A] {c1 : R → Nat → K} {k1 : K → R} {Y : R} (H1 : IsPol c1 k1 Y) {c2 : A → Nat → R} {k2 : R → A} {X : A} (H2 : IsPol c2 k2 X) {b : A} {m l : Nat} (hb : hlt c1 c2 b (l + 1)) : ∀ (n : Nat) (a : A), dlt c2 a n → hlt c1 c2 a m → hlt c1 c2 (a * b) (m + l)
  | 0, a, ha, _ => by
    rw [dlt_z H2 ha, show (0 : A) * b = 0 by grind]
    intro i
    rw [po_0 H2]; exact dlt_0 H1 _
  | n + 1, a, ha, hm => by
    obtain ⟨a', e, h1, h2⟩ := po_dec H2 ha
    have e2 : a * b = a' * b + X ^ n * (k2 (c2 a n) * b) := by grind
    have hm' : hlt c1 c2 a' m := fun i => by
      by_cases hi : i < n
      · rw [h2 i hi]; exact hm i
      · rw [h1 i (by omega)]; exact dlt_0 H1 _
    rw [e2]
    refine hlt_add H1 H2 (hlt_mul H1 H2 hb n a' h1 hm') (fun i => ?_)
    by_cases hi : i < n
    · rw [po_xl H2 _ n i hi]; exact dlt_0 H1 _
    · obtain ⟨j, rfl⟩ : ∃ j, i = j + n := ⟨i - n, by omega⟩
      rw [po_x H2, po_km H2]
      exact po_mul H1 (hb j) m _ (hm n)
theorem hlt_m {K R A : Type} [Lean.Grind.Field K] [Lean.Grind.CommRing R] [Lean.Grind.CommRing A] {c1 : R → Nat → K} {k1 : K → R} {Y : R} (H1 : IsPol c1 k1 Y) {c2 : A → Nat → R} {k2 : R → A} {X : A} (H2 : IsPol c2 k2 X) {a b : A} {m l : Nat} (ha : hlt c1 c2 a m) (hb : hlt c1 c2 b (l + 1)) : hlt c1 c2 (a * b) (m + l) := by
  obtain ⟨n, hn⟩ := H2.2.2.2.2.2.2.2 a
  exact hlt_mul H1 H2 hb n a hn ha
theorem mkA_ex {K R A : Type} [Lean.Grind.Field K] [Lean.Grind.CommRing R] [Lean.Grind.CommRing A] {c1 : R → Nat → K} {k1 : K → R} {Y : R} (H1 : IsPol c1 k1 Y) {c2 : A → Nat → R} {k2 : R → A} {X : A} (H2 : IsPol c2 k2 X) (w : Nat → Nat → K) (a b : Nat) : ∃ U : A, ∀ i j, c1 (c2 U i) j = if i < a ∧ j < b then w i j else 0 := by
  obtain ⟨U, h1, h2⟩ := po_mk H2 (fun i => (po_mk H1 (w i) b).choose) a
  refine ⟨U, fun i j => ?_⟩
  by_cases hi : i < a
  · rw [h1 i hi]
    obtain ⟨q1, q2⟩ := (po_mk H1 (w i) b).choose_spec
    by_cases hj : j < b
    · rw [if_pos ⟨hi, hj⟩]; exact q1 j hj
    · rw [if_neg (fun z => hj z.2)]; exact q2 j (by omega)
  · rw [if_neg (fun z => hi z.1), h2 i (by omega), po_0 H1]
theorem two_ext {K R A : Type} [Lean.Grind.Field K] [Lean.Grind.CommRing R] [Lean.Grind.CommRing A] {c1 : R → Nat → K} {k1 : K → R} {Y : R} (H1 : IsPol c1 k1 Y) {c2 : A → Nat → R} {k2 : R → A} {X : A} (H2 : IsPol c2 k2 X) {a b : A} (h : ∀ i j, c1 (c2 a i) j = c1 (c2 b i) j) : a = b := po_ext H2 (fun i => po_ext H1 (fun j => h i j))
theorem two_k {K R A : Type} [Lean.Grind.Field K] [Lean.Grind.CommRing R] [Lean.Grind.CommRing A] {c1 : R → Nat → K} {k1 : K → R} {Y : R} (H1 : IsPol c1 k1 Y) {c2 : A → Nat → R} {k2 : R → A} {X : A} (H2 : IsPol c2 k2 X) (s : K) (a : A) (i j : Nat) : c1 (c2 (k2 (k1 s) * a) i) j = s * c1 (c2 a i) j := by rw [po_km H2, po_km H1]
theorem two_a {K R A : Type} [Lean.Grind.Field K] [Lean.Grind.CommRing R] [Lean.Grind.CommRing A] {c1 : R → Nat → K} {k1 : K → R} {Y : R} (H1 : IsPol c1 k1 Y) {c2 : A → Nat → R} {k2 : R → A} {X : A} (H2 : IsPol c2 k2 X) (a b : A) (i j : Nat) : c1 (c2 (a + b) i) j = c1 (c2 a i) j + c1 (c2 b i) j := by rw [po_a H2, po_a H1]
theorem cof_ex {K R A : Type} [Lean.Grind.Field K] [Lean.Grind.CommRing R] [Lean.Grind.CommRing A] {c1 : R → Nat → K} {k1 : K → R} {Y : R} (H1 : IsPol c1 k1 Y) {c2 : A → Nat → R} {k2 : R → A} {X : A} (H2 : IsPol c2 k2 X) {f g : A} {n m h e : Nat} (hf : dlt c2 f (n + 1)) (hg : dlt c2 g (m + 1)) (yf : hlt c1 c2 f (h + 1)) (yg : hlt c1 c2 g (h + 1)) (en : e ≤ n) (em : e ≤ m) : ∃ U V : A, (U ≠ 0 ∨ V ≠ 0) ∧ dlt c2 U (m - e + 1) ∧ dlt c2 V (n - e + 1) ∧ hlt c1 c2 U (h * (n + m - 2 * e + 1) + 1) ∧ hlt c1 c2 V (h * (n + m - 2 * e + 1) + 1) ∧ dlt c2 (U * f + V * g) e := by
  obtain ⟨N, hN⟩ : ∃ N, N = n + m - 2 * e + 1 := ⟨_, rfl⟩
  rw [← hN]
  obtain ⟨D, hD⟩ : ∃ D, D = h * N + 1 := ⟨_, rfl⟩
  rw [← hD]
  obtain ⟨a, ha⟩ : ∃ a, a = m - e + 1 := ⟨_, rfl⟩
  obtain ⟨b, hb⟩ : ∃ b, b = n - e + 1 := ⟨_, rfl⟩
  rw [← ha, ← hb]
  have mk : ∀ (v : Nat → K) (o x : Nat), ∃ U : A, ∀ i j, c1 (c2 U i) j = if i < x ∧ j < D then v (o + i * D + j) else 0 := fun v o x => mkA_ex H1 H2 (fun i j => v (o + i * D + j)) x D
  obtain ⟨UU, hU⟩ : ∃ UU : (Nat → K) → A, ∀ v i j, c1 (c2 (UU v) i) j = if i < a ∧ j < D then v (0 + i * D + j) else 0 := ⟨fun v => (mk v 0 a).choose, fun v => (mk v 0 a).choose_spec⟩
  obtain ⟨VV, hV⟩ : ∃ VV : (Nat → K) → A, ∀ v i j, c1 (c2 (VV v) i) j = if i < b ∧ j < D then v (a * D + i * D + j) else 0 := ⟨fun v => (mk v (a * D) b).choose, fun v => (mk v (a * D) b).choose_spec⟩
  have lU : ∀ (u v : Nat → K) (s : K), UU (fun t => u t + s * v t) = UU u + k2 (k1 s) * UU v := fun u v s => two_ext H1 H2 (fun i j => by
    rw [two_a H1 H2, two_k H1 H2, hU, hU, hU]
    split <;> grind)
  have lV : ∀ (u v : Nat → K) (s : K), VV (fun t => u t + s * v t) = VV u + k2 (k1 s) * VV v := fun u v s => two_ext H1 H2 (fun i j => by
    rw [two_a H1 H2, two_k H1 H2, hV, hV, hV]
    split <;> grind)
  obtain ⟨E, hE⟩ : ∃ E, E = D + h := ⟨_, rfl⟩
  have cnt1 : N * E < (a + b) * D := by
    have e1 : a + b = N + 1 := by omega
    rw [e1, hE, hD]
    have : (N + 1) * (h * N + 1) = N * (h * N + 1) + (h * N + 1) := Nat.succ_mul _ _
    rw [this, Nat.mul_add, Nat.mul_comm h N]
    omega
  have lin : ∀ (x y : Nat) (u v : Nat → K) (s : K), c1 (c2 (UU (fun t => u t + s * v t) * f + VV (fun t => u t + s * v t) * g) x) y = c1 (c2 (UU u * f + VV u * g) x) y + s * c1 (c2 (UU v * f + VV v * g) x) y := fun x y u v s => by
    rw [lU, lV, ← two_k H1 H2, ← two_a H1 H2]
    have : (UU u + k2 (k1 s) * UU v) * f + (VV u + k2 (k1 s) * VV v) * g = UU u * f + VV u * g + k2 (k1 s) * (UU v * f + VV v * g) := by grind
    rw [this]
  obtain ⟨v, ⟨t, t1, t2⟩, v2, v3⟩ := null (N * E) ((a + b) * D) cnt1 (fun s t => c1 (c2 (UU (fun x => if x = t then 1 else 0) * f + VV (fun x => if x = t then 1 else 0) * g) (e + s / E)) (s % E))
  have Dpos : 0 < D := by omega
  have Epos : 0 < E := by omega
  have dU : dlt c2 (UU v) a := fun i hi => po_ext H1 (fun j => by rw [hU, if_neg (by omega), po_0 H1])
  have dV : dlt c2 (VV v) b := fun i hi => po_ext H1 (fun j => by rw [hV, if_neg (by omega), po_0 H1])
  have yU : hlt c1 c2 (UU v) D := fun i j hj => by rw [hU, if_neg (by omega)]
  have yV : hlt c1 c2 (VV v) D := fun i j hj => by rw [hV, if_neg (by omega)]
  refine ⟨UU v, VV v, ?_, dU, dV, yU, yV, fun i hi => po_ext H1 (fun j => ?_)⟩
  · by_cases ht : t < a * D
    · refine Or.inl (fun w => t2 ?_)
      have h1 := hU v (t / D) (t % D)
      rw [w, po_0 H2, po_0 H1, if_pos ⟨Nat.div_lt_of_lt_mul (by rw [Nat.mul_comm]; exact ht), Nat.mod_lt _ Dpos⟩] at h1
      rw [h1, Nat.zero_add, Nat.mul_comm, Nat.div_add_mod]
    · refine Or.inr (fun w => t2 ?_)
      have h1 := hV v ((t - a * D) / D) ((t - a * D) % D)
      have h2 : t - a * D < b * D := by rw [Nat.add_mul] at t1; omega
      rw [w, po_0 H2, po_0 H1, if_pos ⟨Nat.div_lt_of_lt_mul (by rw [Nat.mul_comm D b]; exact h2), Nat.mod_lt _ Dpos⟩] at h1
      rw [h1, Nat.add_assoc, Nat.mul_comm ((t - a * D) / D) D, Nat.div_add_mod]
      congr 1
      omega
  · rw [po_0 H1]
    by_cases hj : j < E
    · by_cases hiN : i < e + N
      · have hs : (i - e) * E + j < N * E := by
          have : (i - e) * E + E ≤ N * E := by
            have h1 : i - e + 1 ≤ N := by omega
            have h2 := Nat.mul_le_mul_right E h1
            rw [Nat.add_mul, Nat.one_mul] at h2
            exact h2
          omega
        have h1 := v3 _ hs
        have h2 := lin_sum (fun v => c1 (c2 (UU v * f + VV v * g) (e + ((i - e) * E + j) / E)) (((i - e) * E + j) % E)) (fun u v s => lin _ _ u v s) ((a + b) * D) v v2
        have q1 : ((i - e) * E + j) / E = i - e := by
          rw [Nat.mul_comm, Nat.mul_add_div Epos, Nat.div_eq_of_lt hj, Nat.add_zero]
        have q2 : ((i - e) * E + j) % E = j := by
          rw [Nat.mul_comm, Nat.mul_add_mod, Nat.mod_eq_of_lt hj]
        rw [← h2] at h1
        rw [q1, q2, show e + (i - e) = i by omega] at h1
        exact h1
      · have b1 : dlt c2 (UU v * f) (a + n) := po_mul H2 hf a _ dU
        have b2 : dlt c2 (VV v * g) (b + m) := po_mul H2 hg b _ dV
        rw [two_a H1 H2, b1 i (by omega), b2 i (by omega), po_0 H1]
        grind
    · have b1 : hlt c1 c2 (UU v * f) (D + h) := hlt_m H1 H2 yU yf
      have b2 : hlt c1 c2 (VV v * g) (D + h) := hlt_m H1 H2 yV yg
      rw [two_a H1 H2, b1 i j (by omega), b2 i j (by omega)]
      grind
/-- a combination without x, of small height -/
theorem res_ex {K R A : Type} [Lean.Grind.Field K] [Lean.Grind.CommRing R] [Lean.Grind.CommRing A] {c1 : R → Nat → K} {k1 : K → R} {Y : R} (H1 : IsPol c1 k1 Y) {c2 : A → Nat → R} {k2 : R → A} {X : A} (H2 : IsPol c2 k2 X) {f g : A} {n m h : Nat} (hf : isDg c2 f n) (hg : isDg c2 g m) (yf : hlt c1 c2 f (h + 1)) (yg : hlt c1 c2 g (h + 1)) (n1 : 1 ≤ n) (m1 : 1 ≤ m) {U0 V0 : A} {r0 : R} (hr0 : r0 ≠ 0) (e0 : k2 r0 = U0 * f + V0 * g) : ∃ (U V : A) (r : R), r ≠ 0 ∧ k2 r = U * f + V * g ∧ dlt c1 r (h * (n + m) + 1) := by
  have D1 := po_dom H1 fld_dom
  have D2 := po_dom H2 D1
  obtain ⟨U, V, nz, dU, dV, yU, yV, hd⟩ := cof_ex H1 H2 (e := 1) hf.2 hg.2 yf yg n1 m1
  have er : U * f + V * g = k2 (c2 (U * f + V * g) 0) := po_ext H2 (fun i => by
    rw [po_ki H2]
    by_cases hi : i = 0
    · rw [if_pos hi, hi]
    · rw [if_neg hi]; exact hd i (by omega))
  refine ⟨U, V, c2 (U * f + V * g) 0, fun w => ?_, er.symm, ?_⟩
  · rw [w, po_kz H2] at er
    have kr0 : k2 r0 ≠ 0 := fun w => hr0 (po_kinj H2 (by rw [w, po_kz H2]))
    have e1 : k2 r0 * U = g * (U * V0 - U0 * V) := by grind
    have U00 : U = 0 := by
      by_cases hU : U = 0
      · exact hU
      · exfalso
        have hn0 : U * V0 - U0 * V ≠ 0 := fun z => by
          have : k2 r0 * U = 0 := by rw [e1, z]; grind
          rcases D2 _ _ this with y | y
          · exact kr0 y
          · exact hU y
        obtain ⟨d, hd'⟩ := po_dg H2 hn0
        have h1 := isDg_mul H2 D1 hg hd'
        rw [← e1] at h1
        have h2 := isDg_lt h1 (dlt_k H2 r0 dU)
        omega
    rcases nz with z | z
    · exact z U00
    · have : V * g = 0 := by rw [U00] at er; grind
      rcases D2 _ _ this with y | y
      · exact z y
      · exact isDg_nz H2 hg y
  · have hN : h * (n + m - 2 * 1 + 1) + 1 + h = h * (n + m) + 1 := by
      obtain ⟨M, hM⟩ : ∃ M, n + m = M + 2 := ⟨n + m - 2, by omega⟩
      rw [hM, show M + 2 - 2 * 1 + 1 = M + 1 by omega, Nat.mul_add, Nat.mul_add]
      omega
    have b1 := hlt_m H1 H2 yU yf
    have b2 := hlt_m H1 H2 yV yg
    have b3 := hlt_add H1 H2 b1 b2
    rw [hN] at b3
    exact b3 0
/-- the heights of what is left in a sequence of divisions -/
theorem ht_ex {K R A : Type} [Lean.Grind.Field K] [Lean.Grind.CommRing R] [Lean.Grind.CommRing A] {c1 : R → Nat → K} {k1 : K → R} {Y : R} (H1 : IsPol c1 k1 Y) {c2 : A → Nat → R} {k2 : R → A} {X : A} (H2 : IsPol c2 k2 X) {f g a b UA VA UB VB : A} {n m h d : Nat} {ca cb δ : R} (hf : isDg c2 f n) (hg : isDg c2 g m) (yf : hlt c1 c2 f (h + 1)) (yg : hlt c1 c2 g (h + 1)) (pb : prim c2 b) (hcb : cb ≠ 0) (hδ : δ ≠ 0) (ea : k2 ca * a = UA * f + VA * g) (eb : k2 cb * b = UB * f + VB * g) (ed : k2 δ = UA * VB - UB * VA) (da : dlt c2 a (d + 1)) (db : dlt c2 b d) (dn : d ≤ n) (dm : d ≤ m) (u1 : dlt c2 UA (m - d + 1)) (u2 : dlt c2 VA (n - d + 1)) (u3 : dlt c2 UB (m - d + 1)) (u4 : dlt c2 VB (n - d + 1)) : hlt c1 c2 b (h * (n + m - 2 * d + 2) + 1) := by
  have D1 := po_dom H1 fld_dom
  have D2 := po_dom H2 D1
  have kk : ∀ s : R, s ≠ 0 → k2 s ≠ 0 := fun s hs w => hs (po_kinj H2 (by rw [w, po_kz H2]))
  have b0 := prim_nz H1 H2 pb
  obtain ⟨U, V, nz, dU, dV, yU, yV, hd⟩ := cof_ex H1 H2 (e := d) hf.2 hg.2 yf yg dn dm
  obtain ⟨r, er⟩ : ∃ r, r = U * f + V * g := ⟨_, rfl⟩
  rw [← er] at hd
  have d1 : 1 ≤ d := by
    rcases Nat.eq_zero_or_pos d with z | z
    · rw [z] at db; exact absurd (dlt_z H2 db) b0
    · exact z
  obtain ⟨d', rfl⟩ : ∃ d', d = d' + 1 := ⟨d - 1, by omega⟩
  -- B and r have no x in their mixed combination
  have w0 : V * UB - VB * U = 0 := by
    by_cases hw : V * UB - VB * U = 0
    · exact hw
    · exfalso
      obtain ⟨x, hx⟩ := po_dg H2 hw
      have h1 := isDg_mul H2 D1 hx hf
      have e1 : (V * UB - VB * U) * f = k2 cb * (V * b) - VB * r := by grind
      have h2 : dlt c2 (V * b) (n - (d' + 1) + 1 + d') := po_mul H2 db _ _ dV
      have h3 : dlt c2 (VB * r) (n - (d' + 1) + 1 + d') := po_mul H2 hd _ _ u4
      rw [e1] at h1
      have h4 := isDg_lt h1 (dlt_sub H2 (dlt_k H2 cb h2) h3)
      omega
  obtain ⟨s, es⟩ : ∃ s : R, V * UA - VA * U = k2 s := by
    refine ⟨c2 (V * UA - VA * U) 0, po_ext H2 (fun i => ?_)⟩
    rw [po_ki H2]
    by_cases hi : i = 0
    · rw [if_pos hi, hi]
    · rw [if_neg hi]
      by_cases hw : V * UA - VA * U = 0
      · rw [hw, po_0 H2]
      · obtain ⟨x, hx⟩ := po_dg H2 hw
        have h1 := isDg_mul H2 D1 hx hf
        have e1 : (V * UA - VA * U) * f = k2 ca * (V * a) - VA * r := by grind
        have h2 : dlt c2 (V * a) (n - (d' + 1) + 1 + (d' + 1)) := po_mul H2 da _ _ dV
        have h3 : dlt c2 (VA * r) (n - (d' + 1) + 1 + d') := po_mul H2 hd _ _ u2
        rw [e1] at h1
        have h4 := isDg_lt h1 (dlt_sub H2 (dlt_k H2 ca h2) (dlt_mono h3 (by omega)))
        exact hx.2 i (by omega)
  have eV : k2 δ * V = k2 s * VB := by grind
  have eU : k2 δ * U = k2 s * UB := by grind
  have key : k2 δ * r = k2 s * (k2 cb * b) := by grind
  have s0 : s ≠ 0 := fun w => by
    rw [w, po_kz H2] at eV eU
    have hV : V = 0 := by
      rcases D2 (k2 δ) V (by grind) with z | z
      · exact absurd z (kk δ hδ)
      · exact z
    have hU : U = 0 := by
      rcases D2 (k2 δ) U (by grind) with z | z
      · exact absurd z (kk δ hδ)
      · exact z
    rcases nz with z | z
    · exact z hU
    · exact z hV
  obtain ⟨x, hx⟩ : dv δ (s * cb) := prim_dv H1 H2 pb hδ (fun i => ⟨c2 r i, by
    have : c2 (k2 δ * r) i = c2 (k2 s * (k2 cb * b)) i := by rw [key]
    rw [po_km H2, po_km H2, po_km H2] at this
    grind⟩)
  have x0 : x ≠ 0 := fun w => by
    rw [w] at hx
    rcases D1 s cb (by grind) with z | z
    · exact s0 z
    · exact hcb z
  have ek : k2 s * k2 cb = k2 δ * k2 x := by rw [← po_kmul H2, hx, po_kmul H2]
  have e2 : r = k2 x * b := dom_can D2 (kk δ hδ) (by grind)
  have hr : hlt c1 c2 r (h * (n + m - 2 * (d' + 1) + 1) + 1 + h) := by rw [er]; exact hlt_add H1 H2 (hlt_m H1 H2 yU yf) (hlt_m H1 H2 yV yg)
  intro i
  have h1 := hr i
  rw [e2, po_km H2] at h1
  by_cases hb : c2 b i = 0
  · rw [hb]; exact dlt_0 H1 _
  · obtain ⟨p, hp⟩ := po_dg H1 hb
    obtain ⟨q, hq⟩ := po_dg H1 x0
    have h2 := isDg_lt (isDg_mul H1 fld_dom hq hp) h1
    have h3 : h * (n + m - 2 * (d' + 1) + 2) = h * (n + m - 2 * (d' + 1) + 1) + h := by rw [← Nat.mul_succ]
    exact dlt_mono hp.2 (by omega)
