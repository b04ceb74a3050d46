/-! ===== Commons: what is built ===== -/
theorem c39g {K1 L : Type} [Lean.Grind.Field K1] [Lean.Grind.Field L] {B : va_E} {σ : l2_m} {K : Int → l2_m → Prop} {p : Int} {em : Int → K1} {φ : K1 → L} {cd : L → Int} (F : isFi p em φ cd σ) (hK : ∀ τ : l2_m, (∀ b j, b ≠ 120 → b ≠ 125 → ¬ (b = 109 ∧ j = 17) → τ b j = σ b j) → (∀ n : Int, 0 ≤ n → n < 512 → τ 120 n = cd 0) → τ 125 0 = cd 1 → (∀ n : Int, 0 < n → n < 32 → τ 125 n = cd 0) → τ 109 17 = 0 → K 0 τ) : wC B 39 [vr 109] σ K := by
  refine o39 ?_
  unfold w39
  intro s1 es1 s2 es2
  have f1 : ∀ b j, b ≠ 120 → s1 b j = σ b j := fun b j w => by rw [es1]; unfold fil; rw [if_neg (fun h => w h.1)]
  have f2 : ∀ b j, b ≠ 125 → s2 b j = s1 b j := fun b j w => by rw [es2]; unfold fil; rw [if_neg (fun h => w h.1)]
  have F2 : isFi p em φ cd s2 := isFi_cg F (fun b j b0 b1 => by rw [f2 b j (by omega), f1 b j (by omega)])
  obtain ⟨E, hφ, ⟨C0, -⟩, h3, hof, -⟩ := F2
  have p2 := E.1
  have p97 := E.2.1
  have z0 := cd_0 F.2.2.1.1
  refine ⟨⟨by rw [h3]; omega, by rw [h3]; omega⟩, ?_⟩
  intro s3 es3 s4 es4
  rw [hof 1 (by decide) (by omega), E.2.2.2.2.1, hφ.2.1] at es3
  have e4 : ∀ b j, ¬ (b = 109 ∧ j = 17) → s4 b j = s3 b j := fun b j w => by rw [es4]; unfold l2_u; rw [if_neg w]
  refine hK s4 (fun b j w w' w'' => ?_) (fun n n0 n1 => ?_) ?_ (fun n n0 n1 => ?_) (by rw [es4, l2_u_self])
  · rw [e4 b j w'', es3, l2_u_ne w', f2 b j w', f1 b j w]
  · rw [e4 120 n (fun h => absurd h.1 (by decide)), es3, l2_u_ne (by decide), f2 120 n (by decide), es1]
    unfold fil
    rw [if_pos ⟨rfl, n0, n1⟩]
    exact z0.symm
  · rw [e4 125 0 (fun h => absurd h.1 (by decide)), es3, l2_u_self]
  · rw [e4 125 n (fun h => absurd h.1 (by decide)), es3, l2_u_nj (by omega), es2]
    unfold fil
    rw [if_pos ⟨rfl, by omega, n1⟩, f1 110 7 (by decide)]
    exact z0.symm
def bld {L RL Q : Type} [Lean.Grind.Field L] [Lean.Grind.CommRing RL] (d1 : RL → Nat → L) (j1 : L → RL) (W : RL) (cq : Q → Nat → L) (cd : L → Int) (lv : L → L) (At : L → Nat → Q → Prop) (t : Nat) (x5 : Int) (s : l2_m) (T : Nat) (b : Nat → RL) (a : Nat → L) (M : RL) : Prop := s 109 17 = (T : Int) ∧ (∀ x : Nat, x < 16 → cpw d1 cd (fun j => s 120 ((x : Int) * 32 + j)) 32 (b x) ∧ dlt d1 (b x) T ∧ (t < x → b x = 0)) ∧ cpw d1 cd (s 125) 32 M ∧ dlt d1 M (T + 1) ∧ (∀ i, i < T → ev j1 W (a i) M = 0) ∧ (∀ β : L, (∀ i, i < T → a i ≠ β) → ev j1 W β M ≠ 0) ∧ (∀ i j, i < T → j < T → a i = a j → i = j) ∧ (∀ i, i < T → cd (a i) < x5) ∧ ∀ i, i < T → ∃ D : Q, At (a i) t D ∧ ∀ x, x ≤ t → ev j1 W (a i) (b x) = cq D x * (lv (a i) * (cq D t)⁻¹)
theorem bld_mono {L RL Q : Type} [Lean.Grind.Field L] [Lean.Grind.CommRing RL] {d1 : RL → Nat → L} {j1 : L → RL} {W : RL} {cq : Q → Nat → L} {cd : L → Int} {lv : L → L} {At : L → Nat → Q → Prop} {t : Nat} {x5 x5' : Int} {s s' : l2_m} {T : Nat} {b : Nat → RL} {a : Nat → L} {M : RL} (h : bld d1 j1 W cq cd lv At t x5 s T b a M) (hx : x5 ≤ x5') (e17 : s' 109 17 = s 109 17) (e120 : ∀ j, s' 120 j = s 120 j) (e125 : ∀ j, s' 125 j = s 125 j) : bld d1 j1 W cq cd lv At t x5' s' T b a M := by
  obtain ⟨h1, h2, h3, h4, h5, h6, h7, h8, h9⟩ := h
  exact ⟨e17.trans h1, fun x hx => ⟨cpw_cg (h2 x hx).1 (fun i _ => e120 _), (h2 x hx).2⟩, cpw_cg h3 (fun i _ => e125 _), h4, h5, h6, h7, fun i hi => Int.lt_of_lt_of_le (h8 i hi) hx, h9⟩
theorem one_ne {L : Type} [Lean.Grind.Field L] : (1 : L) ≠ 0 := fun w => Lean.Grind.Field.zero_ne_one (α := L) w.symm
theorem bld_0 {L RL Q : Type} [Lean.Grind.Field L] [Lean.Grind.CommRing RL] {d1 : RL → Nat → L} {j1 : L → RL} {W : RL} (HL : IsPol d1 j1 W) {cq : Q → Nat → L} {cd : L → Int} {lv : L → L} {At : L → Nat → Q → Prop} {t : Nat} {x5 : Int} {s : l2_m} (h1 : ∀ n : Int, 0 ≤ n → n < 512 → s 120 n = cd 0) (h2 : s 125 0 = cd 1) (h3 : ∀ n : Int, 0 < n → n < 32 → s 125 n = cd 0) (h4 : s 109 17 = 0) : bld d1 j1 W cq cd lv At t x5 s 0 (fun _ => (0 : RL)) (fun _ => 0) 1 := by
  have o : ∀ i, d1 (1 : RL) i = if i = 0 then 1 else 0 := fun i => by
    have := po_ki HL 1 i
    rw [po_kone HL] at this; exact this
  have d0 : dlt d1 (1 : RL) 1 := fun i hi => by rw [o i, if_neg (by omega)]
  refine ⟨h4, fun x hx => ⟨⟨fun i hi => ?_, dlt_0 HL 32⟩, dlt_0 HL 0, fun _ => rfl⟩, ⟨fun i hi => ?_, dlt_mono d0 (by omega)⟩, d0, fun i hi => by omega, fun β _ => ?_, fun i j hi => by omega, fun i hi => by omega, fun i hi => by omega⟩
  · rw [po_0 HL]
    exact h1 _ (by omega) (by omega)
  · rw [o i]
    by_cases h0 : i = 0
    · rw [if_pos h0, h0]; exact h2
    · rw [if_neg h0]; exact h3 _ (by omega) (by omega)
  · rw [ev_1 HL]; exact one_ne
theorem bld_s {L RL Q : Type} [Lean.Grind.Field L] [Lean.Grind.CommRing RL] {d1 : RL → Nat → L} {j1 : L → RL} {W : RL} (HL : IsPol d1 j1 W) {cq : Q → Nat → L} {cd : L → Int} {lv : L → L} {At : L → Nat → Q → Prop} {t : Nat} {x5 : Int} {s τ : l2_m} {T : Nat} {b b' : Nat → RL} {a : Nat → L} {M : RL} {α : L} {D : Q} (h : bld d1 j1 W cq cd lv At t x5 s T b a M) (T30 : T ≤ 30) (hα : cd α = x5) (hD : At α t D) (g1 : ∀ x : Nat, x < 16 → cpw d1 cd (fun j => τ 120 ((x : Int) * 32 + j)) 32 (b' x)) (g2 : ∀ x, x ≤ t → b' x = b x + j1 ((cq D x * (lv α * (cq D t)⁻¹) + -(ev j1 W α (b x))) * (ev j1 W α M)⁻¹) * M) (g3 : ∀ x, t < x → b' x = b x) (g4 : cpw d1 cd (τ 125) 32 ((W - j1 α) * M)) (g5 : τ 109 17 = (T : Int) + 1) : bld d1 j1 W cq cd lv At t (x5 + 1) τ (T + 1) b' (fun i => if i < T then a i else α) ((W - j1 α) * M) := by
  obtain ⟨h1, h2, h3, h4, h5, h6, h7, h8, h9⟩ := h
  have na : ∀ i, i < T → a i ≠ α := fun i hi w => by
    have := h8 i hi
    rw [w, hα] at this; omega
  have eα := h6 α na
  have ea : ∀ i, i < T → (if i < T then a i else α) = a i := fun i hi => if_pos hi
  have eb : ∀ i, i = T → (if i < T then a i else α) = α := fun i hi => if_neg (by omega)
  have evM : ∀ β, ev j1 W β ((W - j1 α) * M) = (β - α) * ev j1 W β M := fun β => by rw [ev_mul HL, ev_sub HL, ev_Y HL, ev_k HL]
  have evb : ∀ β x, x ≤ t → ev j1 W β (b' x) = ev j1 W β (b x) + (cq D x * (lv α * (cq D t)⁻¹) + -(ev j1 W α (b x))) * (ev j1 W α M)⁻¹ * ev j1 W β M := fun β x hx => by rw [g2 x hx, ev_add HL, ev_mul HL, ev_k HL]
  refine ⟨by rw [g5]; omega, fun x hx => ⟨g1 x hx, ?_, fun w => by rw [g3 x w]; exact (h2 x hx).2.2 w⟩, g4, ?_, fun i hi => ?_, fun β hβ => ?_, fun i j hi hj hij => ?_, fun i hi => ?_, fun i hi => ?_⟩
  · by_cases hxt : x ≤ t
    · rw [g2 x hxt]
      exact dlt_add HL (dlt_mono (h2 x hx).2.1 (by omega)) (dlt_k HL _ h4)
    · rw [g3 x (by omega)]
      exact dlt_mono (h2 x hx).2.1 (by omega)
  · have := po_mul HL h4 2 (W - j1 α) (lin_dg HL α).2
    exact dlt_mono this (by omega)
  · show ev j1 W (if i < T then a i else α) ((W - j1 α) * M) = 0
    rw [evM]
    by_cases hiT : i < T
    · rw [ea i hiT, h5 i hiT]; grind
    · rw [eb i (by omega)]; grind
  · rw [evM]
    have h10 := h6 β (fun i hi w => hβ i (by omega) (by show (if i < T then a i else α) = β; rw [ea i hi]; exact w))
    have h11 : β - α ≠ 0 := fun w => hβ T (by omega) (by show (if T < T then a T else α) = β; rw [eb T rfl]; grind)
    intro w
    rcases fld_dom _ _ w with w | w
    · exact h11 w
    · exact h10 w
  · have hij' : (if i < T then a i else α) = (if j < T then a j else α) := hij
    by_cases hiT : i < T
    · by_cases hjT : j < T
      · rw [ea i hiT, ea j hjT] at hij'; exact h7 i j hiT hjT hij'
      · rw [ea i hiT, eb j (by omega)] at hij'; exact absurd hij' (na i hiT)
    · by_cases hjT : j < T
      · rw [eb i (by omega), ea j hjT] at hij'; exact absurd hij'.symm (na j hjT)
      · omega
  · show cd (if i < T then a i else α) < x5 + 1
    by_cases hiT : i < T
    · rw [ea i hiT]; have := h8 i hiT; omega
    · rw [eb i (by omega), hα]; omega
  · show ∃ D' : Q, At (if i < T then a i else α) t D' ∧ ∀ x, x ≤ t → ev j1 W (if i < T then a i else α) (b' x) = cq D' x * (lv (if i < T then a i else α) * (cq D' t)⁻¹)
    by_cases hiT : i < T
    · rw [ea i hiT]
      obtain ⟨D', q1, q2⟩ := h9 i hiT
      refine ⟨D', q1, fun x hx => ?_⟩
      rw [evb _ x hx, h5 i hiT, q2 x hx]; grind
    · rw [eb i (by omega)]
      refine ⟨D, hD, fun x hx => ?_⟩
      rw [evb _ x hx]; grind
/-! counting -/
noncomputable def cnp (P : Nat → Prop) : Nat → Nat
  | 0 => 0
  | n + 1 => cnp P n + @ite Nat (P n) (Classical.propDecidable _) 1 0
theorem cnp_t {P : Nat → Prop} {n : Nat} (h : P n) : cnp P (n + 1) = cnp P n + 1 := by
  show cnp P n + @ite Nat (P n) (Classical.propDecidable _) 1 0 = _
  rw [if_pos h]
theorem cnp_f {P : Nat → Prop} {n : Nat} (h : ¬ P n) : cnp P (n + 1) = cnp P n := by
  show cnp P n + @ite Nat (P n) (Classical.propDecidable _) 1 0 = _
  rw [if_neg h]; rfl
theorem cnp_le {P : Nat → Prop} (n : Nat) : cnp P n ≤ cnp P (n + 1) := by
  rcases Classical.em (P n) with h | h
  · rw [cnp_t h]; omega
  · rw [cnp_f h]; omega
theorem cnp_cov {P Q1 Q2 Q3 : Nat → Prop} : ∀ n : Nat, (∀ i, i < n → P i ∨ Q1 i ∨ Q2 i ∨ Q3 i) → n ≤ cnp P n + cnp Q1 n + cnp Q2 n + cnp Q3 n
  | 0, _ => Nat.zero_le _
  | n + 1, h => by
    have ih := cnp_cov n (fun i hi => h i (by omega))
    have a1 := cnp_le (P := P) n
    have a2 := cnp_le (P := Q1) n
    have a3 := cnp_le (P := Q2) n
    have a4 := cnp_le (P := Q3) n
    rcases h n (by omega) with w | w | w | w
    · have := cnp_t w; omega
    · have := cnp_t w; omega
    · have := cnp_t w; omega
    · have := cnp_t w; omega
theorem cnp_en {P : Nat → Prop} : ∀ n : Nat, ∃ a : Nat → Nat, (∀ i, i < cnp P n → a i < n ∧ P (a i)) ∧ ∀ i j, i < cnp P n → j < cnp P n → a i = a j → i = j
  | 0 => ⟨fun _ => 0, fun i hi => absurd hi (Nat.not_lt_zero i), fun i _ hi => absurd hi (Nat.not_lt_zero i)⟩
  | n + 1 => by
    obtain ⟨a, h1, h2⟩ := cnp_en (P := P) n
    rcases Classical.em (P n) with h | h
    · rw [cnp_t h]
      refine ⟨fun i => if i < cnp P n then a i else n, fun i hi => ?_, fun i j hi hj hij => ?_⟩
      · show (if i < cnp P n then a i else n) < n + 1 ∧ P (if i < cnp P n then a i else n)
        by_cases hin : i < cnp P n
        · rw [if_pos hin]; have := h1 i hin; exact ⟨by omega, this.2⟩
        · rw [if_neg hin]; exact ⟨by omega, h⟩
      · have hij' : (if i < cnp P n then a i else n) = (if j < cnp P n then a j else n) := hij
        by_cases hin : i < cnp P n
        · by_cases hjn : j < cnp P n
          · rw [if_pos hin, if_pos hjn] at hij'; exact h2 i j hin hjn hij'
          · rw [if_pos hin, if_neg hjn] at hij'; have := (h1 i hin).1; omega
        · by_cases hjn : j < cnp P n
          · rw [if_neg hin, if_pos hjn] at hij'; have := (h1 j hjn).1; omega
          · omega
    · rw [cnp_f h]
      exact ⟨a, fun i hi => ⟨by have := (h1 i hi).1; omega, (h1 i hi).2⟩, h2⟩
theorem cnp_rt {L RL : Type} [Lean.Grind.Field L] [Lean.Grind.CommRing RL] {d1 : RL → Nat → L} {j1 : L → RL} {W : RL} (HL : IsPol d1 j1 W) {P : Nat → Prop} {n m : Nat} {r : RL} (el : Nat → L) (hi : ∀ i j, i < n → j < n → el i = el j → i = j) (r0 : r ≠ 0) (hr : dlt d1 r (m + 1)) (h : ∀ i, i < n → P i → ev j1 W (el i) r = 0) : cnp P n ≤ m := by
  obtain ⟨dd, hd⟩ := po_dg HL r0
  have h1 := isDg_lt hd hr
  obtain ⟨a, a1, a2⟩ := cnp_en (P := P) n
  have h2 := roots_le HL (cnp P n) dd r (fun i => el (a i)) hd (fun i j hi' hj' w => a2 i j hi' hj' (hi _ _ (a1 i hi').1 (a1 j hj').1 w)) (fun i hi' => h (a i) (a1 i hi').1 (a1 i hi').2)
  omega
