/-! ===== swap ===== -/
def psw (u v x n : Int) : Int := if n = 0 then 0 else if n = 1 then e4 x (prm u v 0) else if n = 2 then e4 x (prm u v 0) + 16 * e4 x (prm u v 1) else swk u v x
theorem psw_b (u v x n : Int) : 0 ≤ psw u v x n ∧ psw u v x n < 4096 := by
  have := e4_b x (prm u v 0)
  have := e4_b x (prm u v 1)
  have := swk_e u v x
  unfold psw
  split
  · omega
  · split
    · omega
    · split
      · omega
      · exact ⟨this.1, this.2.1⟩
theorem psw_step {u v x n : Int} (n0 : 0 ≤ n) (n1 : n < 3) : ior (psw u v x n) (e4 x (prm u v n) * 2 ^ (Int.toNat (4 * n))) = psw u v x (n + 1) ∧ 0 ≤ e4 x (prm u v n) * 2 ^ (Int.toNat (4 * n)) ∧ e4 x (prm u v n) * 2 ^ (Int.toNat (4 * n)) < 2147483648 := by
  have b0 := e4_b x (prm u v 0)
  have b1 := e4_b x (prm u v 1)
  have b2 := e4_b x (prm u v 2)
  have : n = 0 ∨ n = 1 ∨ n = 2 := by omega
  rcases this with z | z | z
  · subst z
    have e : (2 : Int) ^ (Int.toNat (4 * 0)) = 1 := by decide
    have q := ior_dis (a := 0) (b := e4 x (prm u v 0)) (j := 4) (by decide) b0.1 (by omega)
    rw [Int.zero_mul, Int.zero_add] at q
    rw [e, Int.mul_one]
    refine ⟨?_, by omega, by omega⟩
    show ior 0 _ = e4 x (prm u v 0)
    exact q
  · subst z
    have e : (2 : Int) ^ (Int.toNat (4 * 1)) = 16 := by decide
    rw [e]
    refine ⟨?_, by omega, by omega⟩
    show ior (e4 x (prm u v 0)) _ = e4 x (prm u v 0) + 16 * e4 x (prm u v 1)
    rw [ior_16 b1.1 b0.1 b0.2]
    omega
  · subst z
    have e : (2 : Int) ^ (Int.toNat (4 * 2)) = 256 := by decide
    rw [e]
    refine ⟨?_, by omega, by omega⟩
    show ior (e4 x (prm u v 0) + 16 * e4 x (prm u v 1)) _ = swk u v x
    rw [ior_256 b2.1 (by omega) (by omega)]
    unfold swk
    omega
theorem r249i {B : va_E} {s : l2_m} {r u v k x : Int} {X49 : Int → l2_m → Prop} {Q : Int → l2_m → Prop} (r0 : 0 ≤ r) (r1 : r < 8) (u0 : 0 ≤ u) (u1 : u < 3) (v0 : 0 ≤ v) (v1 : v < 3) (x0 : 0 ≤ x) (x1 : x < 4096) (h : ∀ s' : l2_m, s' = l2_u s 192 (swk u v x) (s 187 (4096 * r + x)) → X49 (x + 1) s') : w249_63 B s r u v k x 0 0 X49 Q := by
  unfold w249_63
  refine lz2_inv (fun y n => 0 ≤ n ∧ n ≤ 3 ∧ y = psw u v x n) (fun _ n => 3 - n) ?_ ⟨by decide, by decide, rfl⟩
  intro X y n hX ⟨n0, n1, ey⟩
  refine ⟨⟨by omega, by omega⟩, ?_⟩
  have yb := psw_b u v x n
  by_cases hn : n < 3
  · rw [if_pos hn]
    obtain ⟨q1, q2, q3⟩ := psw_step (u := u) (v := v) (x := x) n0 hn
    refine ⟨⟨by omega, by omega⟩, ?_⟩
    by_cases c1' : n = u
    · have ep : prm u v n = v := by unfold prm; rw [if_pos c1']
      rw [ep] at q1 q2 q3
      rw [if_pos c1']
      refine ⟨⟨⟨by omega, by omega⟩, v0, v1, by omega, by omega, by omega, q2, by omega, q3⟩, ?_⟩
      intro y' ey'
      exact hX y' (n + 1) ⟨by omega, by omega, by rw [ey', ey]; exact q1⟩ (by omega)
    · rw [if_neg c1']
      refine ⟨⟨by omega, by omega⟩, ?_⟩
      by_cases c2' : n = v
      · have ep : prm u v n = u := by unfold prm; rw [if_neg c1', if_pos c2']
        rw [ep] at q1 q2 q3
        rw [if_pos c2']
        refine ⟨⟨⟨by omega, by omega⟩, u0, u1, by omega, by omega, by omega, q2, by omega, q3⟩, ?_⟩
        intro y' ey'
        exact hX y' (n + 1) ⟨by omega, by omega, by rw [ey', ey]; exact q1⟩ (by omega)
      · have ep : prm u v n = n := by unfold prm; rw [if_neg c1', if_neg c2']
        rw [ep] at q1 q2 q3
        rw [if_neg c2']
        refine ⟨⟨⟨by omega, by omega⟩, n0, hn, by omega, by omega, by omega, q2, by omega, q3⟩, ?_⟩
        intro y' ey'
        exact hX y' (n + 1) ⟨by omega, by omega, by rw [ey', ey]; exact q1⟩ (by omega)
  · rw [if_neg hn]
    have n3 : n = 3 := by omega
    have ey3 : y = swk u v x := by rw [ey, n3]; rfl
    have sb := swk_e u v x
    rw [ey3]
    exact ⟨⟨r0, r1, x0, x1, sb.1, sb.2.1⟩, h⟩
theorem r249l {B : va_E} {υ2 : l2_m} {Q : Int → l2_m → Prop} {r u v k : Int} {f : Int → Int} (r0 : 0 ≤ r) (r1 : r < 8) (u0 : 0 ≤ u) (u1 : u < 3) (v0 : 0 ≤ v) (v1 : v < 3) (hf : ∀ j : Int, υ2 187 (4096 * r + j) = f j) (hz : ∀ j : Int, 0 ≤ j → j < 4096 → υ2 192 j = 0) (h : ∀ s : l2_m, (∀ b j, b ≠ 192 → s b j = υ2 b j) → (∀ j : Int, 0 ≤ j → j < 4096 → s 192 j = f (swk u v j)) → wC B 240 [vr 186, vi k] s Q) : w249_49 B υ2 r u v k 0 Q := by
  unfold w249_49
  refine lz2_inv (fun (i : Int) s => 0 ≤ i ∧ i ≤ 4096 ∧ (∀ b j, b ≠ 192 → s b j = υ2 b j) ∧ (∀ j : Int, 0 ≤ j → j < 4096 → s 192 j = if swk u v j < i then f (swk u v j) else 0)) (fun i _ => 4096 - i) ?_ ⟨by decide, by decide, fun _ _ _ => rfl, fun j j0 j1 => by rw [hz j j0 j1, if_neg (by have := (swk_e u v j).1; omega)]⟩
  intro X i s hX ⟨i0, i1, s1, s2⟩
  refine ⟨⟨by omega, by omega⟩, ?_⟩
  by_cases hi : i < 4096
  · rw [if_pos hi]
    refine r249i r0 r1 u0 u1 v0 v1 i0 hi ?_
    intro s' es
    rw [s1 187 _ (by decide), hf] at es
    refine hX (i + 1) s' ⟨by omega, by omega, fun b j z => by rw [es, l2_u_ne z]; exact s1 b j z, fun j j0 j1 => ?_⟩ (by omega)
    by_cases hj : j = swk u v i
    · subst hj
      rw [es, swk_inv u0 u1 v0 v1 i0 hi, if_pos (by omega)]
      unfold l2_u
      rw [if_pos ⟨rfl, rfl⟩]
    · rw [es, l2_u_nj hj, s2 j j0 j1]
      have hne : swk u v j ≠ i := fun w => hj (by rw [← w, swk_inv u0 u1 v0 v1 j0 j1])
      by_cases hc : swk u v j < i
      · rw [if_pos hc, if_pos (by omega)]
      · rw [if_neg hc, if_neg (by omega)]
  · rw [if_neg hi]
    refine h s s1 (fun j j0 j1 => ?_)
    rw [s2 j j0 j1, if_pos (by have := (swk_e u v j).2.1; omega)]
theorem pair_swap {F : l2_m → Prop} {B : va_E} {r u v k : Int} (hr : rg r) (hu : rg u) (hv : rg v) (hk : rg k) : PAIR F B 132 249 [vi r, vi u, vi v, vi k] := by
  intro σ hC hR
  have B5 := hC.1.2.2.2.2.1
  have h01 := hR.1
  have bad : ¬ ((σ 186 14 = 1 ∧ 0 ≤ r ∧ r < 8) ∧ (0 ≤ u ∧ u < 3) ∧ (0 ≤ v ∧ v < 3) ∧ (σ 186 14 = 1 ∧ 0 ≤ k ∧ k < 8)) → ∀ τ, τ = trb σ 1 → wC B 249 [vr 186, vi r, vi u, vi v, vi k] τ (fun y υ => -1 = y ∧ CI F υ υ ∧ RWF υ) := by
    intro hb τ et
    refine o249 ?_
    unfold w249
    intro υ eu
    rw [via et eu (b := 186) (j := 14) (by decide) (by decide)]
    have fin : ∀ ω, ω = trr υ 1 → -1 = (-1 : Int) ∧ CI F ω ω ∧ RWF ω := fun ω ew => ⟨rfl, pair_e hC hR (by decide) et eu ew⟩
    refine ⟨⟨hr, h01⟩, ?_⟩
    by_cases h1 : σ 186 14 = 1 ∧ 0 ≤ r ∧ r < 8
    · rw [if_pos h1]
      refine ⟨hu, ?_⟩
      by_cases h2 : 0 ≤ u ∧ u < 3
      · rw [if_pos h2]
        refine ⟨hv, ?_⟩
        by_cases h3 : 0 ≤ v ∧ v < 3
        · rw [if_pos h3]
          refine ⟨hk, ?_⟩
          rw [if_neg (fun h4 => hb ⟨h1, h2, h3, h4⟩)]
          exact fin
        · rw [if_neg h3]; exact fin
      · rw [if_neg h2]; exact fin
    · rw [if_neg h1]; exact fin
  refine o132 ?_
  unfold w132
  rw [B5]
  refine ⟨⟨hr, h01⟩, ?_⟩
  by_cases h1 : σ 186 14 = 1 ∧ 0 ≤ r ∧ r < 8
  · rw [if_pos h1]
    refine ⟨hu, ?_⟩
    by_cases h2 : 0 ≤ u ∧ u < 3
    · rw [if_pos h2]
      refine ⟨hv, ?_⟩
      by_cases h3 : 0 ≤ v ∧ v < 3
      · rw [if_pos h3]
        refine ⟨hk, ?_⟩
        by_cases h4 : σ 186 14 = 1 ∧ 0 ≤ k ∧ k < 8
        · rw [if_pos h4]
          refine ⟨h1.2, ?_⟩
          obtain ⟨b1, b2, b3, b4, b5, b6⟩ := hR.2.2.2.2.2.2.2.2.2 h1.1
          obtain ⟨D1, D2, D3, D4, D5, D6, D7, D8⟩ := hC.2.1 h1.1
          have hA : RefAct B σ 249 [vr 186, vi r, vi u, vi v, vi k] k (fun s => s 186 29 = 1 ∧ ∀ j : Int, 0 ≤ j → j < 4096 → s 192 j = regR σ r (swk u v j)) := by
            intro τ Q kt hQ
            refine o249 ?_
            unfold w249
            intro υ eu
            have a : ∀ j : Int, j ≠ 0 → υ 186 j = σ 186 j := fun j hj => by rw [eu, l2_u_nj hj]; exact kt 186 j (by decide)
            rw [a 14 (by decide)]
            refine ⟨⟨hr, h01⟩, ?_⟩
            rw [if_pos h1]
            refine ⟨hu, ?_⟩
            rw [if_pos h2]
            refine ⟨hv, ?_⟩
            rw [if_pos h3]
            refine ⟨hk, ?_⟩
            rw [if_pos h4]
            intro υ2 eu2
            obtain ⟨u1, u2, u3⟩ := clr_at eu eu2
            refine r249l (f := regR σ r) h1.2.1 h1.2.2 h2.1 h2.2 h3.1 h3.2 (fun j => by rw [u1 187 _ (by decide) (by omega)]; exact kt 187 _ (by decide)) u2 ?_
            intro s s1 s2
            exact hQ s (fun b j z w => by rw [s1 b j z]; exact u1 b j z w) ⟨by rw [s1 186 29 (by decide)]; exact u3, s2⟩
          refine c7 (isP_reg h1.2.1 h1.2.2) (show isPb 159 = true from rfl) (by omega) (wt_ok _ _ _) D7 h2.1 h2.2 h3.1 h3.2 (D8 r h1.2.1 h1.2.2) ?_
          intro σ1 t1 t2
          exact act_yes hC hR h1.1 h4.2 (fun b j _ q1 q2 q3 => t1 b j q1 q2 q3) t2 (fun j _ _ => b3 r _ h1.2.1 h1.2.2 (swk_e u v j).1 (swk_e u v j).2.1) hA (fun s g => g)
        · rw [if_neg h4]
          exact bad (fun w => h4 w.2.2.2)
      · rw [if_neg h3]
        exact bad (fun w => h3 w.2.2.1)
    · rw [if_neg h2]
      exact bad (fun w => h2 w.2.1)
  · rw [if_neg h1]
    exact bad (fun w => h1 w.1)
