/-! ===== polynomials over a ring ===== -/
def dlt {S P : Type} [Lean.Grind.CommRing S] (c : P → Nat → S) (a : P) (n : Nat) : Prop := ∀ i, n ≤ i → c a i = 0
def isDg {S P : Type} [Lean.Grind.CommRing S] (c : P → Nat → S) (a : P) (d : Nat) : Prop := c a d ≠ 0 ∧ dlt c a (d + 1)
def dv {P : Type} [Lean.Grind.CommRing P] (a b : P) : Prop := ∃ h, b = a * h
def unt {P : Type} [Lean.Grind.CommRing P] (a : P) : Prop := ∃ h, a * h = 1
theorem po_0 {S P : Type} [Lean.Grind.CommRing S] [Lean.Grind.CommRing P] {c : P → Nat → S} {k : S → P} {X : P} (H : IsPol c k X) (i : Nat) : c 0 i = 0 := by
  have h := H.2.1 0 0 i
  rw [show (0 : P) + 0 = 0 by grind] at h
  grind
theorem po_n {S P : Type} [Lean.Grind.CommRing S] [Lean.Grind.CommRing P] {c : P → Nat → S} {k : S → P} {X : P} (H : IsPol c k X) (a : P) (i : Nat) : c (-a) i = - c a i := by
  have h := H.2.1 a (-a) i
  rw [show a + -a = 0 by grind, po_0 H] at h
  grind
theorem po_s {S P : Type} [Lean.Grind.CommRing S] [Lean.Grind.CommRing P] {c : P → Nat → S} {k : S → P} {X : P} (H : IsPol c k X) (a b : P) (i : Nat) : c (a - b) i = c a i - c b i := by
  have h := H.2.1 a (-b) i
  rw [show a + -b = a - b by grind, po_n H] at h
  grind
theorem po_a {S P : Type} [Lean.Grind.CommRing S] [Lean.Grind.CommRing P] {c : P → Nat → S} {k : S → P} {X : P} (H : IsPol c k X) (a b : P) (i : Nat) : c (a + b) i = c a i + c b i := H.2.1 a b i
theorem po_km {S P : Type} [Lean.Grind.CommRing S] [Lean.Grind.CommRing P] {c : P → Nat → S} {k : S → P} {X : P} (H : IsPol c k X) (s : S) (a : P) (i : Nat) : c (k s * a) i = s * c a i := H.2.2.1 s a i
theorem po_k0 {S P : Type} [Lean.Grind.CommRing S] [Lean.Grind.CommRing P] {c : P → Nat → S} {k : S → P} {X : P} (H : IsPol c k X) (s : S) : c (k s) 0 = s := by
  have h := po_km H s 1 0
  rw [show k s * 1 = k s by grind, H.2.2.2.2.2.2.1] at h
  grind
theorem po_k1 {S P : Type} [Lean.Grind.CommRing S] [Lean.Grind.CommRing P] {c : P → Nat → S} {k : S → P} {X : P} (H : IsPol c k X) (s : S) (i : Nat) : c (k s) (i + 1) = 0 := by
  have h := po_km H s 1 (i + 1)
  rw [show k s * 1 = k s by grind, H.2.2.2.2.2.1 i] at h
  grind
theorem po_ki {S P : Type} [Lean.Grind.CommRing S] [Lean.Grind.CommRing P] {c : P → Nat → S} {k : S → P} {X : P} (H : IsPol c k X) (s : S) (i : Nat) : c (k s) i = if i = 0 then s else 0 := by
  cases i with
  | zero => rw [if_pos rfl]; exact po_k0 H s
  | succ i => rw [if_neg (by omega)]; exact po_k1 H s i
theorem po_ext {S P : Type} [Lean.Grind.CommRing S] [Lean.Grind.CommRing P] {c : P → Nat → S} {k : S → P} {X : P} (H : IsPol c k X) {a b : P} (h : ∀ i, c a i = c b i) : a = b := H.1 a b h
theorem po_kadd {S P : Type} [Lean.Grind.CommRing S] [Lean.Grind.CommRing P] {c : P → Nat → S} {k : S → P} {X : P} (H : IsPol c k X) (s t : S) : k (s + t) = k s + k t := by
  refine po_ext H (fun i => ?_)
  rw [po_a H, po_ki H, po_ki H, po_ki H]
  split <;> grind
theorem po_kmul {S P : Type} [Lean.Grind.CommRing S] [Lean.Grind.CommRing P] {c : P → Nat → S} {k : S → P} {X : P} (H : IsPol c k X) (s t : S) : k (s * t) = k s * k t := by
  refine po_ext H (fun i => ?_)
  rw [po_km H, po_ki H, po_ki H]
  split <;> grind
theorem po_kone {S P : Type} [Lean.Grind.CommRing S] [Lean.Grind.CommRing P] {c : P → Nat → S} {k : S → P} {X : P} (H : IsPol c k X) : k 1 = 1 := by
  refine po_ext H (fun i => ?_)
  rw [po_ki H]
  cases i with
  | zero => rw [if_pos rfl]; exact H.2.2.2.2.2.2.1.symm
  | succ i => rw [if_neg (by omega)]; exact (H.2.2.2.2.2.1 i).symm
theorem po_kz {S P : Type} [Lean.Grind.CommRing S] [Lean.Grind.CommRing P] {c : P → Nat → S} {k : S → P} {X : P} (H : IsPol c k X) : k 0 = 0 := by
  refine po_ext H (fun i => ?_)
  rw [po_ki H, po_0 H]
  split <;> rfl
theorem po_kneg {S P : Type} [Lean.Grind.CommRing S] [Lean.Grind.CommRing P] {c : P → Nat → S} {k : S → P} {X : P} (H : IsPol c k X) (s : S) : k (-s) = - k s := by
  refine po_ext H (fun i => ?_)
  rw [po_n H, po_ki H, po_ki H]
  split <;> grind
theorem po_kinj {S P : Type} [Lean.Grind.CommRing S] [Lean.Grind.CommRing P] {c : P → Nat → S} {k : S → P} {X : P} (H : IsPol c k X) {s t : S} (h : k s = k t) : s = t := by
  have := po_k0 H s
  rw [h, po_k0 H] at this
  exact this.symm
theorem po_x {S P : Type} [Lean.Grind.CommRing S] [Lean.Grind.CommRing P] {c : P → Nat → S} {k : S → P} {X : P} (H : IsPol c k X) (a : P) : ∀ (n i : Nat), c (X ^ n * a) (i + n) = c a i
  | 0, i => by rw [show X ^ 0 * a = a by grind]; rfl
  | n + 1, i => by
    rw [show X ^ (n + 1) * a = X * (X ^ n * a) by grind]
    have := H.2.2.2.2.1 (X ^ n * a) (i + n)
    rw [show i + (n + 1) = i + n + 1 by omega, this]
    exact po_x H a n i
theorem po_xl {S P : Type} [Lean.Grind.CommRing S] [Lean.Grind.CommRing P] {c : P → Nat → S} {k : S → P} {X : P} (H : IsPol c k X) (a : P) : ∀ (n i : Nat), i < n → c (X ^ n * a) i = 0
  | 0, i, h => absurd h (by omega)
  | n + 1, 0, h => by
    rw [show X ^ (n + 1) * a = X * (X ^ n * a) by grind]
    exact H.2.2.2.1 _
  | n + 1, i + 1, h => by
    rw [show X ^ (n + 1) * a = X * (X ^ n * a) by grind, H.2.2.2.2.1]
    exact po_xl H a n i (by omega)
/-- a monomial -/
theorem po_mo {S P : Type} [Lean.Grind.CommRing S] [Lean.Grind.CommRing P] {c : P → Nat → S} {k : S → P} {X : P} (H : IsPol c k X) (s : S) (n i : Nat) : c (k s * X ^ n) i = if i = n then s else 0 := by
  rw [show k s * X ^ n = X ^ n * k s by grind]
  by_cases h : i < n
  · rw [po_xl H _ n i h, if_neg (by omega)]
  · obtain ⟨j, rfl⟩ : ∃ j, i = j + n := ⟨i - n, by omega⟩
    rw [po_x H, po_ki H]
    by_cases hj : j = 0
    · rw [if_pos hj, if_pos (by omega)]
    · rw [if_neg hj, if_neg (by omega)]
theorem dlt_mono {S P : Type} [Lean.Grind.CommRing S] {c : P → Nat → S} {a : P} {m n : Nat} (h : dlt c a m) (hn : m ≤ n) : dlt c a n := fun i hi => h i (by omega)
theorem dlt_add {S P : Type} [Lean.Grind.CommRing S] [Lean.Grind.CommRing P] {c : P → Nat → S} {k : S → P} {X : P} (H : IsPol c k X) {a b : P} {n : Nat} (ha : dlt c a n) (hb : dlt c b n) : dlt c (a + b) n := fun i hi => by
  rw [po_a H, ha i hi, hb i hi]; grind
theorem dlt_sub {S P : Type} [Lean.Grind.CommRing S] [Lean.Grind.CommRing P] {c : P → Nat → S} {k : S → P} {X : P} (H : IsPol c k X) {a b : P} {n : Nat} (ha : dlt c a n) (hb : dlt c b n) : dlt c (a - b) n := fun i hi => by
  rw [po_s H, ha i hi, hb i hi]; grind
theorem dlt_k {S P : Type} [Lean.Grind.CommRing S] [Lean.Grind.CommRing P] {c : P → Nat → S} {k : S → P} {X : P} (H : IsPol c k X) {a : P} {n : Nat} (s : S) (ha : dlt c a n) : dlt c (k s * a) n := fun i hi => by
  rw [po_km H, ha i hi]; grind
theorem dlt_x {S P : Type} [Lean.Grind.CommRing S] [Lean.Grind.CommRing P] {c : P → Nat → S} {k : S → P} {X : P} (H : IsPol c k X) {a : P} {n : Nat} (m : Nat) (ha : dlt c a n) : dlt c (X ^ m * a) (n + m) := fun i hi => by
  obtain ⟨j, rfl⟩ : ∃ j, i = j + m := ⟨i - m, by omega⟩
  rw [po_x H]; exact ha j (by omega)
theorem dlt_mo {S P : Type} [Lean.Grind.CommRing S] [Lean.Grind.CommRing P] {c : P → Nat → S} {k : S → P} {X : P} (H : IsPol c k X) (s : S) (m : Nat) : dlt c (k s * X ^ m) (m + 1) := fun i hi => by
  rw [po_mo H, if_neg (by omega)]
theorem dlt_z {S P : Type} [Lean.Grind.CommRing S] [Lean.Grind.CommRing P] {c : P → Nat → S} {k : S → P} {X : P} (H : IsPol c k X) {a : P} (h : dlt c a 0) : a = 0 := po_ext H (fun i => by rw [po_0 H]; exact h i (Nat.zero_le i))
theorem dlt_0 {S P : Type} [Lean.Grind.CommRing S] [Lean.Grind.CommRing P] {c : P → Nat → S} {k : S → P} {X : P} (H : IsPol c k X) (n : Nat) : dlt c (0 : P) n := fun i _ => po_0 H i
theorem po_dec {S P : Type} [Lean.Grind.CommRing S] [Lean.Grind.CommRing P] {c : P → Nat → S} {k : S → P} {X : P} (H : IsPol c k X) {a : P} {m : Nat} (h : dlt c a (m + 1)) : ∃ a', a = a' + k (c a m) * X ^ m ∧ dlt c a' m ∧ ∀ i, i < m → c a' i = c a i := by
  refine ⟨a - k (c a m) * X ^ m, by grind, fun i hi => ?_, fun i hi => ?_⟩
  · rw [po_s H, po_mo H]
    by_cases him : i = m
    · rw [if_pos him, him]; grind
    · rw [if_neg him, h i (by omega)]; grind
  · rw [po_s H, po_mo H, if_neg (by omega)]; grind
theorem po_mul {S P : Type} [Lean.Grind.CommRing S] [Lean.Grind.CommRing P] {c : P → Nat → S} {k : S → P} {X : P} (H : IsPol c k X) {b : P} {n : Nat} (hb : dlt c b (n + 1)) : ∀ (m : Nat) (a : P), dlt c a m → dlt c (a * b) (m + n)
  | 0, a, ha => by
    rw [dlt_z H ha, show (0 : P) * b = 0 by grind]; exact dlt_0 H _
  | m + 1, a, ha => by
    obtain ⟨a', e, h1, -⟩ := po_dec H ha
    have e2 : a * b = a' * b + X ^ m * (k (c a m) * b) := by grind
    rw [e2]
    refine dlt_add H (dlt_mono (po_mul H hb m a' h1) (by omega)) (dlt_mono (dlt_x H m (dlt_k H (c a m) hb)) (by omega))
theorem po_lead {S P : Type} [Lean.Grind.CommRing S] [Lean.Grind.CommRing P] {c : P → Nat → S} {k : S → P} {X : P} (H : IsPol c k X) {a b : P} {m n : Nat} (ha : dlt c a (m + 1)) (hb : dlt c b (n + 1)) : c (a * b) (m + n) = c a m * c b n := by
  obtain ⟨a', e, h1, -⟩ := po_dec H ha
  have e2 : a * b = a' * b + X ^ m * (k (c a m) * b) := by grind
  rw [e2, po_a H, po_mul H hb m a' h1 (m + n) (Nat.le_refl _), show m + n = n + m by omega, po_x H, po_km H]
  grind
theorem po_mk {S P : Type} [Lean.Grind.CommRing S] [Lean.Grind.CommRing P] {c : P → Nat → S} {k : S → P} {X : P} (H : IsPol c k X) (f : Nat → S) : ∀ n : Nat, ∃ a : P, (∀ i, i < n → c a i = f i) ∧ dlt c a n
  | 0 => ⟨0, fun i h => absurd h (by omega), dlt_0 H 0⟩
  | n + 1 => by
    obtain ⟨a, h1, h2⟩ := po_mk H f n
    refine ⟨a + k (f n) * X ^ n, fun i hi => ?_, dlt_add H (dlt_mono h2 (by omega)) (dlt_mo H (f n) n)⟩
    rw [po_a H, po_mo H]
    by_cases hin : i = n
    · rw [if_pos hin, hin, h2 n (Nat.le_refl _)]; grind
    · rw [if_neg hin, h1 i (by omega)]; grind
theorem po_dgn {S P : Type} [Lean.Grind.CommRing S] [Lean.Grind.CommRing P] {c : P → Nat → S} {k : S → P} {X : P} (H : IsPol c k X) {a : P} (ha : a ≠ 0) : ∀ n : Nat, dlt c a n → ∃ d, d < n ∧ isDg c a d
  | 0, h => absurd (dlt_z H h) ha
  | n + 1, h => by
    by_cases hn : c a n = 0
    · obtain ⟨d, d1, d2⟩ := po_dgn H ha n (fun i hi => by
        by_cases hin : i = n
        · rw [hin]; exact hn
        · exact h i (by omega))
      exact ⟨d, by omega, d2⟩
    · exact ⟨n, by omega, hn, h⟩
theorem po_dg {S P : Type} [Lean.Grind.CommRing S] [Lean.Grind.CommRing P] {c : P → Nat → S} {k : S → P} {X : P} (H : IsPol c k X) {a : P} (ha : a ≠ 0) : ∃ d, isDg c a d := by
  obtain ⟨n, hn⟩ := H.2.2.2.2.2.2.2 a
  obtain ⟨d, -, h⟩ := po_dgn H ha n hn
  exact ⟨d, h⟩
theorem isDg_nz {S P : Type} [Lean.Grind.CommRing S] [Lean.Grind.CommRing P] {c : P → Nat → S} {k : S → P} {X : P} (H : IsPol c k X) {a : P} {d : Nat} (h : isDg c a d) : a ≠ 0 := fun w => h.1 (by rw [w]; exact po_0 H d)
theorem isDg_lt {S P : Type} [Lean.Grind.CommRing S] {c : P → Nat → S} {a : P} {d n : Nat} (h : isDg c a d) (hn : dlt c a n) : d < n := by
  rcases Nat.lt_or_ge d n with w | w
  · exact w
  · exact absurd (hn d w) h.1
theorem isDg_u {S P : Type} [Lean.Grind.CommRing S] {c : P → Nat → S} {a : P} {d e : Nat} (h : isDg c a d) (h' : isDg c a e) : d = e := by
  have h1 := isDg_lt h h'.2
  have h2 := isDg_lt h' h.2
  omega
def domn (S : Type) [Lean.Grind.CommRing S] : Prop := ∀ s t : S, s * t = 0 → s = 0 ∨ t = 0
theorem isDg_mul {S P : Type} [Lean.Grind.CommRing S] [Lean.Grind.CommRing P] {c : P → Nat → S} {k : S → P} {X : P} (H : IsPol c k X) (D : domn S) {a b : P} {m n : Nat} (ha : isDg c a m) (hb : isDg c b n) : isDg c (a * b) (m + n) := by
  refine ⟨fun w => ?_, dlt_mono (po_mul H hb.2 (m + 1) a ha.2) (by omega)⟩
  rw [po_lead H ha.2 hb.2] at w
  rcases D _ _ w with z | z
  · exact ha.1 z
  · exact hb.1 z
theorem po_dom {S P : Type} [Lean.Grind.CommRing S] [Lean.Grind.CommRing P] {c : P → Nat → S} {k : S → P} {X : P} (H : IsPol c k X) (D : domn S) : domn P := fun a b w => by
  by_cases ha : a = 0
  · exact Or.inl ha
  · by_cases hb : b = 0
    · exact Or.inr hb
    · obtain ⟨m, hm⟩ := po_dg H ha
      obtain ⟨n, hn⟩ := po_dg H hb
      exact absurd w (isDg_nz H (isDg_mul H D hm hn))
theorem dom_can {P : Type} [Lean.Grind.CommRing P] (D : domn P) {a b d : P} (hd : d ≠ 0) (h : d * a = d * b) : a = b := by
  rcases D d (a - b) (by grind) with z | z
  · exact absurd z hd
  · grind
theorem fld_dom {K : Type} [Lean.Grind.Field K] : domn K := fun s t w => Lean.Grind.Field.of_mul_eq_zero w
theorem dv_refl {P : Type} [Lean.Grind.CommRing P] (a : P) : dv a a := ⟨1, by grind⟩
theorem dv_tr {P : Type} [Lean.Grind.CommRing P] {a b d : P} (h : dv a b) (h' : dv b d) : dv a d := by
  obtain ⟨x, rfl⟩ := h
  obtain ⟨y, rfl⟩ := h'
  exact ⟨x * y, by grind⟩
theorem dv_add {P : Type} [Lean.Grind.CommRing P] {a b d : P} (h : dv a b) (h' : dv a d) : dv a (b + d) := by
  obtain ⟨x, rfl⟩ := h
  obtain ⟨y, rfl⟩ := h'
  exact ⟨x + y, by grind⟩
theorem dv_sub {P : Type} [Lean.Grind.CommRing P] {a b d : P} (h : dv a b) (h' : dv a d) : dv a (b - d) := by
  obtain ⟨x, rfl⟩ := h
  obtain ⟨y, rfl⟩ := h'
  exact ⟨x - y, by grind⟩
theorem dv_mul {P : Type} [Lean.Grind.CommRing P] {a b : P} (d : P) (h : dv a b) : dv a (d * b) := by
  obtain ⟨x, rfl⟩ := h
  exact ⟨d * x, by grind⟩
theorem dv_0 {P : Type} [Lean.Grind.CommRing P] (a : P) : dv a 0 := ⟨0, by grind⟩
theorem dv_z {P : Type} [Lean.Grind.CommRing P] {a : P} (h : dv 0 a) : a = 0 := by
  obtain ⟨x, rfl⟩ := h
  grind
theorem unt_dv {P : Type} [Lean.Grind.CommRing P] {a : P} (h : unt a) (b : P) : dv a b := by
  obtain ⟨x, hx⟩ := h
  exact ⟨x * b, by grind⟩
/-! over a field -/
theorem fe_div {K R : Type} [Lean.Grind.Field K] [Lean.Grind.CommRing R] {c : R → Nat → K} {k : K → R} {Y : R} (H : IsPol c k Y) {b : R} {d : Nat} (hb : isDg c b d) : ∀ (n : Nat) (a : R), dlt c a n → ∃ q r, a = q * b + r ∧ dlt c r d
  | 0, a, ha => ⟨0, a, by grind, dlt_mono ha (Nat.zero_le d)⟩
  | n + 1, a, ha => by
    by_cases hn : n < d
    · exact ⟨0, a, by grind, dlt_mono ha (by omega)⟩
    · obtain ⟨s, hs⟩ : ∃ s : K, s = c a n * (c b d)⁻¹ := ⟨_, rfl⟩
      have hbd := Lean.Grind.Field.mul_inv_cancel hb.1
      have h1 : dlt c (a - Y ^ (n - d) * (k s * b)) n := fun i hi => by
        rw [po_s H]
        by_cases hin : i = n
        · have : c (Y ^ (n - d) * (k s * b)) (d + (n - d)) = c (k s * b) d := po_x H _ (n - d) d
          rw [show d + (n - d) = n by omega, po_km H] at this
          rw [hin, this, hs]
          grind
        · have : dlt c (Y ^ (n - d) * (k s * b)) (d + 1 + (n - d)) := dlt_x H (n - d) (dlt_k H s hb.2)
          rw [ha i (by omega), this i (by omega)]
          grind
      obtain ⟨q, r, e, h2⟩ := fe_div H hb n _ h1
      exact ⟨q + Y ^ (n - d) * k s, r, by grind, h2⟩
theorem fe_dv {K R : Type} [Lean.Grind.Field K] [Lean.Grind.CommRing R] {c : R → Nat → K} {k : K → R} {Y : R} (H : IsPol c k Y) {b : R} {d : Nat} (hb : isDg c b d) (a : R) : ∃ q r, a = q * b + r ∧ dlt c r d := by
  obtain ⟨n, hn⟩ := H.2.2.2.2.2.2.2 a
  exact fe_div H hb n a hn
theorem fe_bez {K R : Type} [Lean.Grind.Field K] [Lean.Grind.CommRing R] {c : R → Nat → K} {k : K → R} {Y : R} (H : IsPol c k Y) : ∀ (n : Nat) (a b : R), dlt c b n → ∃ g s t, g = s * a + t * b ∧ dv g a ∧ dv g b
  | 0, a, b, hb => ⟨a, 1, 0, by grind, dv_refl a, by rw [dlt_z H hb]; exact dv_0 a⟩
  | n + 1, a, b, hb => by
    by_cases hn : c b n = 0
    · exact fe_bez H n a b (fun i hi => by
        by_cases hin : i = n
        · rw [hin]; exact hn
        · exact hb i (by omega))
    · obtain ⟨q, r, e, h1⟩ := fe_dv H (b := b) (d := n) ⟨hn, hb⟩ a
      obtain ⟨g, s, t, e2, g1, g2⟩ := fe_bez H n b r h1
      refine ⟨g, t, s - t * q, by grind, ?_, g1⟩
      rw [e]
      exact dv_add (dv_mul q g1) g2
theorem fe_bz {K R : Type} [Lean.Grind.Field K] [Lean.Grind.CommRing R] {c : R → Nat → K} {k : K → R} {Y : R} (H : IsPol c k Y) (a b : R) : ∃ g s t, g = s * a + t * b ∧ dv g a ∧ dv g b := by
  obtain ⟨n, hn⟩ := H.2.2.2.2.2.2.2 b
  exact fe_bez H n a b hn
/-- a number /= 0 is a unit -/
theorem fe_unt {K R : Type} [Lean.Grind.Field K] [Lean.Grind.CommRing R] {c : R → Nat → K} {k : K → R} {Y : R} (H : IsPol c k Y) {a : R} (h : isDg c a 0) : unt a := by
  refine ⟨k ((c a 0)⁻¹), ?_⟩
  have e : a = k (c a 0) := po_ext H (fun i => by
    rw [po_ki H]
    by_cases hi : i = 0
    · rw [if_pos hi, hi]
    · rw [if_neg hi]; exact h.2 i (by omega))
  rw [e, po_k0 H, ← po_kmul H, Lean.Grind.Field.mul_inv_cancel h.1, po_kone H]
theorem fe_untd {K R : Type} [Lean.Grind.Field K] [Lean.Grind.CommRing R] {c : R → Nat → K} {k : K → R} {Y : R} (H : IsPol c k Y) {a : R} (h : unt a) : isDg c a 0 := by
  obtain ⟨b, hb⟩ := h
  have D := po_dom H fld_dom
  have one : (1 : R) ≠ 0 := fun w => by
    have := H.2.2.2.2.2.2.1
    rw [w, po_0 H] at this
    exact Lean.Grind.Field.zero_ne_one this
  have ha : a ≠ 0 := fun w => one (by rw [← hb, w]; grind)
  have hb0 : b ≠ 0 := fun w => one (by rw [← hb, w]; grind)
  obtain ⟨m, hm⟩ := po_dg H ha
  obtain ⟨l, hl⟩ := po_dg H hb0
  have h1 := isDg_mul H fld_dom hm hl
  rw [hb] at h1
  have h2 := isDg_lt h1 (n := 1) (fun i hi => by
    obtain ⟨j, rfl⟩ : ∃ j, i = j + 1 := ⟨i - 1, by omega⟩
    exact H.2.2.2.2.2.1 j)
  have : m = 0 := by omega
  rw [this] at hm
  exact hm
