/-! ===== complete ===== -/
def fz (σ : l2_m) (x : Int) : Prop := (x = -1 ∧ ∀ d : Int, 0 ≤ d → d < 8 → cnt (regR σ d) 4096 ≠ 0) ∨ (0 ≤ x ∧ x < 8 ∧ cnt (regR σ x) 4096 = 0 ∧ ∀ d : Int, 0 ≤ d → d < x → cnt (regR σ d) 4096 ≠ 0)
theorem fz_uniq {σ : l2_m} {x y : Int} (h : fz σ x) (h' : fz σ y) : x = y := by
  rcases h with ⟨e, h⟩ | ⟨x0, x1, x2, x3⟩
  · rcases h' with ⟨e', -⟩ | ⟨y0, y1, y2, y3⟩
    · omega
    · exact absurd y2 (h y y0 y1)
  · rcases h' with ⟨e', h'⟩ | ⟨y0, y1, y2, y3⟩
    · exact absurd x2 (h' x x0 x1)
    · rcases Int.lt_trichotomy x y with z | z | z
      · exact absurd x2 (y3 x x0 z)
      · exact z
      · exact absurd y2 (x3 y y0 z)
theorem c160 {B : va_E} {σ : l2_m} {K : Int → l2_m → Prop} (hr : ∀ d : Int, 0 ≤ d → d < 8 → rg (σ (162 + 3 * Int.toNat d) 2)) (h : ∀ x : Int, ((x = -1 ∧ ∀ d : Int, 0 ≤ d → d < 8 → σ (162 + 3 * Int.toNat d) 2 ≠ 0) ∨ (0 ≤ x ∧ x < 8 ∧ σ (162 + 3 * Int.toNat x) 2 = 0 ∧ ∀ d : Int, 0 ≤ d → d < x → σ (162 + 3 * Int.toNat d) 2 ≠ 0)) → K x σ) : wC B 160 [vr 32] σ K := by
  refine o160 ?_
  unfold w160 w160_2
  refine lz1_inv (fun x => 0 ≤ x ∧ x ≤ 8 ∧ ∀ d : Int, 0 ≤ d → d < x → σ (162 + 3 * Int.toNat d) 2 ≠ 0) (fun x => 8 - x) ?_ ⟨by decide, by decide, fun d d0 d1 => by omega⟩
  intro X x hX ⟨x0, x1, hI⟩
  refine ⟨⟨by omega, by omega⟩, ?_⟩
  by_cases hx : x < 8
  · rw [if_pos hx]
    refine ⟨⟨x0, hx, hr x x0 hx⟩, ?_⟩
    by_cases hz : σ (162 + 3 * Int.toNat x) 2 = 0
    · rw [if_pos hz]
      exact h x (Or.inr ⟨x0, hx, hz, hI⟩)
    · rw [if_neg hz]
      refine hX (x + 1) ⟨by omega, by omega, fun d d0 d1 => ?_⟩ (by omega)
      by_cases hd : d = x
      · rw [hd]; exact hz
      · exact hI d d0 (by omega)
  · rw [if_neg hx]
    exact h (-1) (Or.inl ⟨rfl, fun d d0 d1 => hI d d0 (by omega)⟩)
theorem r271 {B : va_E} {σ υ : l2_m} {K : Int → l2_m → Prop} {set : Int} (hs : rg set) (e187 : ∀ j, υ 187 j = σ 187 j) (hr : ∀ q k : Int, 0 ≤ q → q < 8 → 0 ≤ k → k < 4096 → 0 ≤ σ 187 (4096 * q + k) ∧ σ 187 (4096 * q + k) < 97) (v : ∀ d : Int, 0 ≤ d → d < 8 → bit set d = 1 → cnt (regR σ d) 4096 ≠ 0) (h : ∀ x : Int, fz σ x → K x υ) : wC B 271 [vr 186, vi set] υ K := by
  refine o271 ?_
  unfold w271 w271_2
  refine lz1_inv (fun x => 0 ≤ x ∧ x ≤ 8 ∧ ∀ d : Int, 0 ≤ d → d < x → cnt (regR σ d) 4096 ≠ 0) (fun x => 8 - x) ?_ ⟨by decide, by decide, fun d d0 d1 => by omega⟩
  intro X x hX ⟨x0, x1, hI⟩
  refine ⟨⟨by omega, by omega⟩, ?_⟩
  by_cases hx : x < 8
  · rw [if_pos hx]
    refine ⟨⟨hs, x0, by omega⟩, fun _ => ⟨hx, fun j j0 j1 => by rw [e187]; have := hr x j x0 hx j0 j1; exact ⟨by omega, by omega⟩⟩, ?_⟩
    have ec : cnt (fun k => υ 187 (4096 * x + k)) 4096 = cnt (regR σ x) 4096 := cnt_congr (fun j _ _ => e187 _)
    rw [ec, show (set / 2 ^ (Int.toNat x)) % 2 = bit set x from rfl]
    by_cases hz : bit set x = 0 ∧ cnt (regR σ x) 4096 = 0
    · rw [if_pos hz]
      exact h x (Or.inr ⟨x0, hx, hz.2, hI⟩)
    · rw [if_neg hz]
      refine hX (x + 1) ⟨by omega, by omega, fun d d0 d1 => ?_⟩ (by omega)
      by_cases hd : d = x
      · rw [hd]
        intro w
        rcases bit_b set x with z | z
        · exact hz ⟨z, w⟩
        · exact v x x0 hx z w
      · exact hI d d0 (by omega)
  · rw [if_neg hx]
    exact h (-1) (Or.inl ⟨rfl, fun d d0 d1 => hI d d0 (by omega)⟩)
section CP
variable {F : l2_m → Prop} {B : va_E} {σ σ1 τ υ : l2_m} {K : Int → l2_m → Prop} {set : Int}
/-- as lay_r, and what trouble stands then -/
theorem lay_r2 {k : Int} {h : Int → Int} (hR : RWF σ) (ht : σ 186 14 = 1) (k0 : 0 ≤ k) (k1 : k < 8) (hL : ∀ A', LayR σ A' k h → CI F τ A') (u : ∀ b j, 186 ≤ b → b < 204 → (b < 191 ∨ 198 < b) → ¬ (b = 186 ∧ (j = 0 ∨ j = 29 ∨ j = 1 ∨ j = 2 ∨ (36 ≤ j ∧ j ≤ 39))) → υ b j = σ b j) (ul : ∀ b j, b < 186 → υ b j = τ b j) (h29 : υ 186 29 = 1) (hw : ∀ j : Int, 0 ≤ j → j < 4096 → υ 192 j = h j) (hh : ∀ j : Int, 0 ≤ j → j < 4096 → 0 ≤ h j ∧ h j < σ 186 5) (h60 : cnt h 4096 ≤ 60) : wC B 240 [vr 186, vi k] υ (fun y ω => cnt h 4096 = y ∧ CI F ω ω ∧ RWF ω ∧ ω 186 1 = 0 ∧ ω 186 2 = -1) := by
  obtain ⟨a1, a2, a3, a4, a5, a6, a7, a8, a9, a10⟩ := id hR
  obtain ⟨p2, p97, -⟩ := pr_rest _ (a10 ht).1
  have e45 : υ 186 45 = σ 186 45 := u 186 45 (by omega) (by omega) (by omega) (by omega)
  have ec : cnt (υ 192) 4096 = cnt h 4096 := cnt_congr hw
  refine r240 k0 k1 (by omega) (by omega) (Or.inr h29) (fun j j0 j1 => by rw [hw j j0 j1]; have := hh j j0 j1; omega) (fun z => by omega) ?_
  intro ω z1 z2 z3 z4 z5 z6 z7
  have hLay : LayR σ ω k h := by
    refine ⟨fun b j x1 x2 x3 x4 x5 x6 x7 x8 x9 => ?_, ?_, fun j j0 j1 => by rw [z5 j j0 j1]; exact hw j j0 j1, z6, z7⟩
    · rw [z3 b j x1 x3 x7]
      exact u b j x2 x9 x8 (by omega)
    · obtain ⟨a, sh, p1, p2', p3, p4, p5, p6, p7, p8, p9, p10, p11⟩ := z4
      rw [e45] at p2' p3
      have v : ∀ b j, 199 ≤ b → b ≤ 203 → υ b j = σ b j := fun b j x y => u b j (by omega) (by omega) (by omega) (by omega)
      refine ⟨a, sh, p1, p2', p3, p4, fun i j x0 x1 x2 x3 => by rw [p5 i j x0 x1 x2 x3]; exact v _ _ (by omega) (by omega), fun i x0 x1 => ?_, fun j j0 j1 x => by rw [p7 j j0 j1 x]; exact u 187 _ (by omega) (by omega) (by omega) (by omega), p8, by rw [p9]; exact u 186 6 (by omega) (by omega) (by omega) (by omega), by rw [p10]; exact u 186 7 (by omega) (by omega) (by omega) (by omega), by rw [p11]; exact u 186 8 (by omega) (by omega) (by omega) (by omega)⟩
      obtain ⟨y1, y2, y3, y4⟩ := p6 i x0 x1
      exact ⟨by rw [y1]; exact v _ _ (by omega) (by omega), by rw [y2]; exact v _ _ (by omega) (by omega), by rw [y3]; exact v _ _ (by omega) (by omega), by rw [y4]; exact v _ _ (by omega) (by omega)⟩
  refine ⟨ec.symm, CI_lo (hL ω hLay) (fun b j z => ?_), RWF_lay hR ht k0 k1 hh h60 hLay, z6, z7⟩
  rw [z3 b j (by omega) (by omega) (by omega)]
  exact ul b j z
theorem c139l {free : Int} (hC : CI F σ σ) (hR : RWF σ) (ht : σ 186 14 = 1) (fr : frE σ σ1) (hdo : dvO σ1) (hs : rg set) (hl : setL σ set) (h3 : ∀ (τ : l2_m) (k : Int), frE σ τ → dvO τ → 0 ≤ k → k < 64 → noi σ set k → (∀ j : Int, 0 ≤ j → j < k → ¬ noi σ set j ∧ ¬ nzi σ set j) → ∀ υ, υ = trb τ 3 → K (-1) υ) (h0 : ∀ τ, frE σ τ → dvO τ → (∀ j : Int, 0 ≤ j → j < 64 → ¬ noi σ set j ∧ ¬ nzi σ set j) → ∀ υ, υ = trb τ 0 → K (-2) υ) (h1 : ∀ (τ : l2_m) (k : Int) (n : Nat) (s : dst), frE σ τ → dvO τ → 0 ≤ k → k < 64 → prV set k → pOK σ set (k / 8) (k % 8) n s → cnt s.2.1 4096 ≠ 0 → (∀ j : Int, 0 ≤ j → j < k → ¬ noi σ set j ∧ ¬ nzi σ set j) → PR τ 76 (ordA σ) s.2.1 → dGood (σ 186 5) (ordA σ) (lkA σ) s → wC B 164 [vr 32, vr 76, vi free] τ (fun _ s2 => (∀ s3 : l2_m, s3 = trb s2 0 → K free s3))) : w139_35 B σ1 set free 0 K := by
  unfold w139_35
  refine lz2_inv (fun (x : Int) s => 0 ≤ x ∧ x ≤ 8 ∧ (∀ i : Int, 0 ≤ i → i < 8 * x → ¬ noi σ set i ∧ ¬ nzi σ set i) ∧ frE σ s ∧ dvO s) (fun x _ => 8 - x) ?_ ⟨by decide, by decide, fun i i0 i1 => by omega, fr, hdo⟩
  intro X x s hX ⟨x0, x1, hn, hf, hd⟩
  refine ⟨⟨by omega, by omega⟩, ?_⟩
  by_cases hx : x < 8
  · rw [if_pos hx]
    intro y0' ey0
    unfold w139_48
    refine lz2_inv (fun (y : Int) s => x + 1 ≤ y ∧ y ≤ 8 ∧ (∀ i : Int, 0 ≤ i → i < 8 * x + y → ¬ noi σ set i ∧ ¬ nzi σ set i) ∧ frE σ s ∧ dvO s) (fun y _ => 8 - y) ?_ ⟨by omega, by omega, fun i i0 i1 => ?_, hf, hd⟩
    · intro Y y s hY ⟨y1, y2, hn, hf, hd⟩
      refine ⟨⟨by omega, by omega⟩, ?_⟩
      by_cases hy : y < 8
      · rw [if_pos hy]
        have e8 : (8 * x + y) / 8 = x := by omega
        have e9 : (8 * x + y) % 8 = y := by omega
        refine ⟨⟨hs, x0, by omega⟩, fun _ => ⟨by omega, by omega⟩, ?_⟩
        have next : ∀ (s' : l2_m), ¬ noi σ set (8 * x + y) → ¬ nzi σ set (8 * x + y) → frE σ s' → dvO s' → Y (y + 1) s' := fun s' no' nz' f' d' => by
          refine hY (y + 1) s' ⟨by omega, by omega, fun i i0 i1 => ?_, f', d'⟩ (by omega)
          by_cases hi : i = 8 * x + y
          · rw [hi]; exact ⟨no', nz'⟩
          · exact hn i i0 (by omega)
        by_cases hb : bit set x = 1 ∧ bit set y = 1
        · rw [if_pos hb]
          have hv : prV set (8 * x + y) := by unfold prV; rw [e8, e9]; exact ⟨by omega, hb⟩
          refine c162 hC hR ht hf hd x0 hx (by omega) hy hs hb.1 hb.2 hl (fun τ n t t1 t2 t3 t4 t5 => ⟨by decide, ?_⟩) (fun τ t1 t2 t3 => ⟨by decide, ?_⟩)
          · rw [if_neg (by decide)]
            have q0 := t4.1
            have q1 := t4.2.1
            have qc := PR_cnt t4
            have t3' : pOK σ set ((8 * x + y) / 8) ((8 * x + y) % 8) n t := by rw [e8, e9]; exact t3
            refine ⟨⟨by omega, by omega⟩, ?_⟩
            by_cases hz : 0 < τ 76 2
            · rw [if_pos hz]
              exact h1 τ (8 * x + y) n t t1 t2 (by omega) (by omega) hv t3' (by omega) hn t4 t5
            · rw [if_neg hz]
              exact next τ (pok_no t3') (pok_nz t3' (by omega)) t1 t2
          · rw [if_pos rfl]
            exact h3 τ (8 * x + y) t1 t2 (by omega) (by omega) ⟨hv, by rw [e8, e9]; exact t3⟩ hn
        · rw [if_neg hb]
          have hv : ¬ prV set (8 * x + y) := by unfold prV; rw [e8, e9]; exact fun w => hb w.2
          exact next s (fun w => hv w.1) (fun w => hv w.1) hf hd
      · rw [if_neg hy]
        exact hX (x + 1) s ⟨by omega, by omega, fun i i0 i1 => hn i i0 (by omega), hf, hd⟩ (by omega)
    · by_cases hi : i < 8 * x
      · exact hn i i0 hi
      · refine ⟨fun w => ?_, fun w => ?_⟩
        · have := w.1.1
          omega
        · have := w.1.1
          omega
  · rw [if_neg hx]
    exact h0 s hf hd (fun i i0 i1 => hn i i0 (by omega))
theorem r272l {k : Int} {Q : Int → l2_m → Prop} (h : ∀ s : l2_m, (∀ b j, b ≠ 192 → ¬ (b = 186 ∧ j = 29) → s b j = υ b j) → (∀ j : Int, 0 ≤ j → j < 4096 → s 192 j = υ 194 j) → s 186 29 = 1 → wC B 240 [vr 186, vi k] s (fun _ s2 => (∀ s3 : l2_m, s3 = trr s2 0 → Q k s3))) : w272_88 B υ k 0 Q := by
  unfold w272_88
  refine lz2_inv (fun (i : Int) s => 0 ≤ i ∧ i ≤ 4096 ∧ (∀ b j, b ≠ 192 → s b j = υ b j) ∧ (∀ j : Int, 0 ≤ j → j < i → s 192 j = υ 194 j)) (fun i _ => 4096 - i) ?_ ⟨by decide, by decide, fun _ _ _ => rfl, fun j j0 j1 => by omega⟩
  intro X i s hX ⟨i0, i1, s1, s2⟩
  refine ⟨⟨by omega, by omega⟩, ?_⟩
  by_cases hi : i < 4096
  · rw [if_pos hi]
    refine ⟨⟨i0, hi⟩, ?_⟩
    intro s' es
    refine hX (i + 1) s' ⟨by omega, by omega, fun b j z => by rw [es, l2_u_ne z]; exact s1 b j z, fun j j0 j1 => ?_⟩ (by omega)
    by_cases hj : j = i
    · rw [es, hj]
      unfold l2_u
      rw [if_pos ⟨rfl, rfl⟩]
      exact s1 194 i (by decide)
    · rw [es, l2_u_nj hj]
      exact s2 j j0 (by omega)
  · rw [if_neg hi]
    intro s' es
    refine h s' (fun b j z w => ?_) (fun j j0 j1 => ?_) ?_
    · rw [es]; unfold l2_u; rw [if_neg w]; exact s1 b j z
    · rw [es, l2_u_ne (by decide)]; exact s2 j j0 (by omega)
    · rw [es]; unfold l2_u; rw [if_pos ⟨rfl, rfl⟩]
/-- trouble told once more, as it stands -/
theorem trr_id {ω ω' : l2_m} (hC : CI F ω ω) (hR : RWF ω) (e1 : ω 186 1 = 0) (e2 : ω 186 2 = -1) (ew : ω' = trr ω 0) : CI F ω' ω' ∧ RWF ω' := by
  have : ω' = ω := by
    rw [ew]
    funext b j
    rw [trr_at]
    by_cases h2 : b = 186 ∧ j = 2
    · rw [if_pos h2, h2.1, h2.2, e2]
    · rw [if_neg h2]
      by_cases h1 : b = 186 ∧ j = 1
      · rw [if_pos h1, h1.1, h1.2, e1]
      · rw [if_neg h1]
  rw [this]
  exact ⟨hC, hR⟩
end CP
