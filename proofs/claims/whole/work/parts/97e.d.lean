/-! ===== Commons: the content of a grid ===== -/
theorem rpw_0 {L R : Type} [Lean.Grind.Field L] [Lean.Grind.CommRing R] {c : R → Nat → L} {k : L → R} {Y : R} (H : IsPol c k Y) {p : Int} {em : Int → L} (E : isEm p em) {u : Int → Int} {n : Nat} (h : ∀ i : Nat, i < n → u i = 0) : rpw c em p u n 0 := by
  have p2 := E.1
  exact ⟨fun i hi => by rw [h i hi]; exact ⟨by decide, by omega, by rw [po_0 H, em_z E]⟩, dlt_0 H n⟩
theorem c26b {L R : Type} [Lean.Grind.Field L] [Lean.Grind.CommRing R] {c : R → Nat → L} {k : L → R} {Y : R} (H : IsPol c k Y) {p : Int} {em : Int → L} (E : isEm p em) {B : va_E} {σ : l2_m} {K : Int → l2_m → Prop} {o2 : Nat} {x3 x4 : Int} {d : R} (hg : 113 < o2) (hp : σ 34 0 = p) (hd : rpw c em p (σ o2) 32 d) (x0 : -1 ≤ x3) (x1 : x3 < 32) (hz : ∀ j : Int, x3 < j → j < 32 → σ o2 j = 0) (y0 : 0 ≤ x4) (y1 : x4 < p) (hK : ∀ τ : l2_m, (∀ q j, q ≠ o2 → τ q j = σ q j) → rpw c em p (τ o2) 32 (k (em x4) * d) → K 0 τ) : w26_60 B σ o2 x3 x4 0 K := by
  have p2 := E.1
  have p97 := E.2.1
  unfold w26_60
  refine lz2_inv (fun (y : Int) z => 0 ≤ y ∧ y ≤ x3 + 1 ∧ (∀ q j, q ≠ o2 → z q j = σ q j) ∧ (∀ j : Int, 0 ≤ j → j < y → z o2 j = (σ o2 j * x4) % p) ∧ (∀ j : Int, y ≤ j → z o2 j = σ o2 j)) (fun y _ => x3 + 1 - y) ?_ ⟨by decide, by omega, fun _ _ _ => rfl, fun j _ _ => by omega, fun _ _ => rfl⟩
  intro Z y z hZ ⟨a0, a1, z0, z2, z3⟩
  refine ⟨⟨⟨by omega, by omega⟩, ⟨by omega, by omega⟩⟩, ?_⟩
  by_cases hy : x3 < y
  · rw [if_pos hy]
    refine hK z z0 ⟨fun i hi => ?_, dlt_k H _ hd.2⟩
    have h1 := hd.1 i hi
    rw [po_km H, h1.2.2]
    by_cases hi3 : (i : Int) ≤ x3
    · rw [z2 i (by omega) (by omega)]
      exact ⟨Int.emod_nonneg _ (by omega), Int.emod_lt_of_pos _ (by omega), by rw [em_md E, E.2.2.2.1]; grind⟩
    · rw [z3 i (by omega), hz i (by omega) (by omega)]
      exact ⟨by decide, by omega, by rw [em_z E]; grind⟩
  · rw [if_neg hy]
    have es : z 34 0 = p := (z0 34 0 (by omega)).trans hp
    have h1 := rgr E hd a0 (show y < ((32 : Nat) : Int) by omega)
    rw [es, z3 y (by omega)]
    have g1 : 0 ≤ σ o2 y * x4 := Int.mul_nonneg h1.1 y0
    have g2 : σ o2 y * x4 ≤ 97 * 97 := Int.mul_le_mul (by omega) (by omega) y0 (by omega)
    refine ⟨⟨by omega, by omega, by omega, by omega, ⟨by omega, by omega⟩⟩, ?_⟩
    intro z' ez'
    refine hZ _ z' ⟨by omega, by omega, fun q j w => by rw [ez', l2_u_ne w]; exact z0 q j w, fun j j0 j1 => ?_, fun j j1 => ?_⟩ (by omega)
    · by_cases hj : j = y
      · rw [ez', hj, l2_u_self]
      · rw [ez', l2_u_nj hj]; exact z2 j j0 (by omega)
    · have hj : j ≠ y := by omega
      rw [ez', l2_u_nj hj]; exact z3 j (by omega)
theorem c26 {L R : Type} [Lean.Grind.Field L] [Lean.Grind.CommRing R] {c : R → Nat → L} {k : L → R} {Y : R} (H : IsPol c k Y) {p : Int} {em : Int → L} (E : isEm p em) {B : va_E} {σ : l2_m} {K : Int → l2_m → Prop} {o1 o2 : Nat} {g : Nat → R} (ho1 : l2_al o1 = some 512) (ho2 : l2_al o2 = some 32) (hg : 113 < o2) (n1 : o2 ≠ 124) (n2 : o1 ≠ o2) (n3 : o1 ≠ 124) (hp : σ 34 0 = p) (hI : invOK σ 34 p) (hG : ∀ i : Nat, i < 16 → rpw c em p (fun j => σ o1 ((i : Int) * 32 + j)) 32 (g i)) (hK : ∀ (τ : l2_m) (d : R), (∀ q j, q ≠ o2 → q ≠ 124 → τ q j = σ q j) → rpw c em p (τ o2) 32 d → (∀ e, dv e d ↔ ∀ i, i < 16 → dv e (g i)) → (d = 0 ∨ ∃ t, isDg c d t ∧ c d t = 1) → K 0 τ) : wC B 26 [vr 109, vr o1, vr o2] σ K := by
  have p2 := E.1
  have p97 := E.2.1
  refine o26 ho1 ho2 ?_
  unfold w26
  intro s1 es1
  have f1 : ∀ q j, q ≠ o2 → s1 q j = σ q j := fun q j w => by rw [es1]; unfold fil; rw [if_neg (fun h => w h.1)]
  have z1 : ∀ u : Int → Int, (fun j => u (0 + j)) = u := fun u => funext (fun j => by rw [Int.zero_add])
  have hr1 : rpw c em p (s1 o2) 32 0 := rpw_0 H E (fun i hi => by rw [es1]; unfold fil; rw [if_pos ⟨rfl, by omega, by omega⟩])
  unfold w26_7
  refine lz2_inv (fun (x : Int) s => 0 ≤ x ∧ x ≤ 16 ∧ (∀ q j, q ≠ o2 → q ≠ 124 → s q j = σ q j) ∧ ∃ d : R, rpw c em p (s o2) 32 d ∧ ∀ e, dv e d ↔ ∀ i : Nat, (i : Int) < x → dv e (g i)) (fun x _ => 16 - x) ?_ ⟨by decide, by decide, fun q j w _ => f1 q j w, 0, hr1, fun e => ⟨fun _ i hi => by omega, fun _ => dv_0 e⟩⟩
  intro X x s hX ⟨a0, a1, s2, d, h1, hd⟩
  have es : s 34 0 = p := (s2 34 0 (by omega) (by decide)).trans hp
  refine ⟨⟨by omega, by omega⟩, ?_⟩
  by_cases hx : x < 16
  · rw [if_pos hx]
    obtain ⟨m, rfl⟩ : ∃ m : Nat, x = (m : Int) := ⟨x.toNat, by omega⟩
    refine c27 H E ho2 ho1 hg n1 (by omega) (by omega) es (fun y h h' => by rw [s2 (34 + 1) y (by omega) (by decide)]; exact hI y h h') h1 (rpw_cg (hG m (by omega)) (fun i _ => s2 o1 _ n2 n3)) (fun τ r' f g' hd' => ?_)
    refine hX _ τ ⟨by omega, by omega, fun q j w w' => by rw [f q j w w']; exact s2 q j w w', r', g', fun e => ?_⟩ (by omega)
    rw [hd' e, hd e]
    refine ⟨fun w i hi => ?_, fun w => ⟨fun i hi => w i (by omega), w m (by omega)⟩⟩
    by_cases him : i = m
    · rw [him]; exact w.2
    · exact w.1 i (by omega)
  · rw [if_neg hx]
    refine ⟨⟨by decide, fun j j0 j1 => by rw [Int.zero_add]; exact (rgr E h1 j0 j1).2.2⟩, ?_⟩
    intro t et
    rw [z1 (s o2)] at et
    have T := rpw_t32 H E h1
    have TS := top_spec (s o2) (p := 32) (by decide)
    rw [← et] at T TS
    have hall : ∀ e, dv e d ↔ ∀ i, i < 16 → dv e (g i) := fun e => by
      rw [hd e]
      exact ⟨fun w i hi => w i (by omega), fun w i hi => w i (by omega)⟩
    refine ⟨⟨by omega, by omega⟩, ?_⟩
    by_cases ht : t < 0
    · rw [if_pos ht]
      refine c26b H E hg es h1 T.1 T.2.1 TS.2.2.1 (Int.le_refl 0) (by omega) (fun τ f g' => ?_)
      have d0 := T.2.2.1 ht
      refine hK τ d (fun q j w w' => by rw [f q j w]; exact s2 q j w w') ?_ hall (Or.inl d0)
      have e : k (em 0) * d = d := by rw [d0]; grind
      rw [e] at g'; exact g'
    · rw [if_neg ht]
      obtain ⟨m, rfl⟩ : ∃ m : Nat, t = (m : Int) := ⟨t.toNat, by omega⟩
      have D := T.2.2.2 (by omega)
      rw [Int.toNat_natCast] at D
      have v0 := h1.1 m (by omega)
      have v1 : s o2 (m : Int) ≠ 0 := TS.2.2.2 (by omega)
      have I0 := hI (s o2 (m : Int)) (by omega) (by omega)
      have iv : invO s 34 (s o2 (m : Int)) = σ 35 (s o2 (m : Int)) := by
        unfold invO
        rw [if_pos ⟨by omega, by omega⟩]
        exact s2 35 _ (by omega) (by decide)
      refine ⟨⟨by omega, by omega, by omega, by omega, ⟨by omega, by omega⟩⟩, ?_⟩
      intro x4 ex4
      rw [iv] at ex4
      have I0' : 0 < x4 ∧ x4 < p ∧ s o2 (m : Int) * x4 % p = 1 := by rw [ex4]; exact I0
      have e8 : em (s o2 (m : Int)) * em x4 = 1 := by rw [← E.2.2.2.1, ← em_md E, I0'.2.2]; exact E.2.2.2.2.1
      have lead : c (k (em x4) * d) m = 1 := by rw [po_km H, v0.2.2]; grind
      refine c26b H E hg es h1 T.1 T.2.1 TS.2.2.1 (Int.le_of_lt I0'.1) I0'.2.1 (fun τ f g' => ?_)
      refine hK τ _ (fun q j w w' => by rw [f q j w]; exact s2 q j w w') g' (fun e => ?_) (Or.inr ⟨m, ⟨by rw [lead]; grind, dlt_k H _ D.2⟩, lead⟩)
      rw [← hall e]
      refine ⟨fun w => ?_, fun w => dv_mul _ w⟩
      have h3 := dv_mul (k (em (s o2 (m : Int)))) w
      have e9 : k (em (s o2 (m : Int))) * (k (em x4) * d) = d := by
        have e10 := po_kmul H (em (s o2 (m : Int))) (em x4)
        rw [e8, po_kone H] at e10
        grind
      rw [e9] at h3; exact h3
