/-! ===== Commons: layOut ===== -/
def gH (u : Int → Int) (k : Int) : Int := if k < 256 then u (k % 16 * 32 + k / 16) else 0
theorem c24 {B : va_E} {σ : l2_m} {K : Int → l2_m → Prop} {o1 o2 : Nat} {W : Int → Int} (hW : okW W) (ho1 : l2_al o1 = some 512) (ho2 : isP o2) (n0 : o1 ≠ o2) (n1 : o1 ≠ o2 + 1) (n2 : o1 ≠ o2 + 2) (hU : ∀ v : Int, 0 ≤ v → v < 3 → σ 37 v = UW W v) (hr : ∀ n : Int, 0 ≤ n → n < 512 → rg (σ o1 n)) (hz : ∀ n : Int, 0 ≤ n → n < 512 → 16 ≤ n % 32 → σ o1 n = 0) (hK1 : ∀ τ : l2_m, frQ o2 σ τ → PR τ o2 W (gH (σ o1)) → K 1 τ) (hK0 : ∀ τ : l2_m, frQ o2 σ τ → 60 < cnt (gH (σ o1)) 4096 → K 0 τ) : wC B 24 [vr 109, vr o1, vr o2] σ K := by
  have obig := isP_big ho2
  refine o24 ho1 ho2 ?_
  unfold w24
  intro σ1 es
  have fr1 : frQ o2 σ σ1 := fun b' j x y z => by rw [es]; exact l2_u_ne x
  have z0 : σ1 o2 2 = 0 := by rw [es]; exact l2_u_self _ _ _ _
  obtain ⟨ap0, -⟩ := AP_0 (W := W) (H := gH (σ o1)) z0
  unfold w24_7
  refine lz2_inv (fun (x : Int) τ => 0 ≤ x ∧ x ≤ 512 ∧ frQ o2 σ τ ∧ AP τ o2 W (gH (σ o1)) (fun k => k < 256 ∧ k % 16 * 32 + k / 16 < x)) (fun x _ => 512 - x) ?_ ⟨by decide, by decide, fr1, AP_skip ap0 (fun k z => z.elim) (fun k k0 _ _ z => by omega)⟩
  intro X x τ hX ⟨i1, i2, i3, i5⟩
  refine ⟨⟨by omega, by omega⟩, ?_⟩
  by_cases hx : x < 512
  · rw [if_pos hx, i3 o1 x n0 n1 n2]
    refine ⟨⟨i1, hx, hr x i1 hx⟩, ?_⟩
    by_cases hc : σ o1 x = 0
    · rw [if_pos hc]
      refine hX _ _ ⟨by omega, by omega, i3, AP_skip i5 (fun k z => ⟨z.1, by omega⟩) (fun k k0 k1 k2 z => ⟨z.1, ?_⟩)⟩ (by omega)
      rcases Int.lt_or_le (k % 16 * 32 + k / 16) x with w | w
      · exact w
      · have e : k % 16 * 32 + k / 16 = x := by omega
        unfold gH at k2
        rw [if_pos z.1, e] at k2
        exact absurd hc k2
    · rw [if_neg hc]
      intro x4 e4'
      have hy : x % 32 < 16 := by
        rcases Int.lt_or_le (x % 32) 16 with w | w
        · exact w
        · exact absurd (hz x i1 hx w) hc
      have tU : ∀ v : Int, 0 ≤ v → v < 3 → τ (36 + 1) v = UW W v := fun v v0 v1 => by rw [← hU v v0 v1]; exact i3 37 v (by omega) (by omega) (by omega)
      obtain ⟨k, ek⟩ : ∃ k : Int, k = x / 32 + 16 * (x % 32) := ⟨_, rfl⟩
      have k0 : 0 ≤ k := by omega
      have k1 : k < 256 := by omega
      have q0 : k % 16 = x / 32 := by omega
      have q1 : k / 16 = x % 32 := by omega
      have hm : x4 = MW W k := by
        have h1 := MW_U W k
        rw [e4_0, e4_1, e4_2, q0, q1, show k / 256 % 16 = 0 by rw [Int.ediv_eq_zero_of_lt k0 k1]; rfl, show x % 32 % 16 = x % 32 by omega] at h1
        rw [tU 0 (by decide) (by decide), tU 1 (by decide) (by decide), tU 2 (by decide) (by decide), h1] at e4'
        exact e4'
      have hk : gH (σ o1) k = σ o1 x := by
        unfold gH
        rw [if_pos k1, q0, q1, show x / 32 * 32 + x % 32 = x by omega]
      refine ⟨⟨i5.1, by have := i5.2.1; have := i5.1; exact ⟨by omega, by omega⟩⟩, ?_⟩
      intro υ eυ
      have nP : ¬ (k < 256 ∧ k % 16 * 32 + k / 16 < x) := fun w => by
        have := w.2
        rw [q0, q1] at this
        omega
      by_cases hl : τ o2 2 < 60
      · rw [if_pos hl]
        obtain ⟨-, -, -, tf⟩ := app_row hl eυ
        refine hX _ _ ⟨by omega, by omega, frQ_tr i3 tf, AP_app i5 k0 (by omega) nP hm hk.symm (by rw [hk]; exact hc) hl (fun l z => ⟨z.1, by omega⟩) ⟨k1, by rw [q0, q1]; omega⟩ (fun l l0 l1 l2 z => ?_) eυ⟩ (by omega)
        rcases Int.lt_or_le (l % 16 * 32 + l / 16) x with w | w
        · exact Or.inl ⟨z.1, w⟩
        · right
          have h2 : l % 16 * 32 + l / 16 = x := by omega
          have h3 : 0 ≤ l / 16 ∧ l / 16 < 16 := by omega
          have h4 : l / 16 = x % 32 := by omega
          have h5 : l % 16 = x / 32 := by omega
          omega
      · rw [if_neg hl]
        refine hK0 υ ?_ (AP_full i5 k0 (by omega) nP (by rw [hk]; exact hc) hl)
        rw [eυ]; unfold app; rw [if_neg hl]; exact i3
  · rw [if_neg hx]
    refine c90 ho2 hW (AP_UR i5 (fun k k0 k1 k2 => ?_)) (fun υ fr hP => hK1 υ (fun b j w w1 w2 => by rw [fr b j w1 w2]; exact i3 b j w w1 w2) hP)
    by_cases h : k < 256
    · exact ⟨h, by omega⟩
    · unfold gH at k2
      rw [if_neg h] at k2
      exact absurd rfl k2
