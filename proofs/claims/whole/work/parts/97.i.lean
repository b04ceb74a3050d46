/-! ===== roots ===== -/
theorem sumN_bd {f : Int → Int} {m : Int} (h : ∀ j : Int, 0 ≤ f j ∧ f j ≤ m) (n : Nat) : 0 ≤ sumN f n ∧ sumN f n ≤ n * m := by
  induction n with
  | zero => exact ⟨Int.le_refl _, by show (0 : Int) ≤ _; rw [show ((0 : Nat) : Int) = 0 from rfl, Int.zero_mul]; exact Int.le_refl _⟩
  | succ n ih =>
    have hn := h n
    have e : ((n + 1 : Nat) : Int) * m = n * m + m := by rw [Int.natCast_add, Int.add_mul]; show _ + 1 * m = _; rw [Int.one_mul]
    show 0 ≤ sumN f n + f n ∧ sumN f n + f n ≤ _
    rw [e]
    omega
theorem rtI_b (p : Int) (f : Int → Int) (a b c : Int) : 0 ≤ rtI p f a b c ∧ rtI p f a b c ≤ 1 := by
  unfold rtI; split <;> omega
theorem rootsF_b {p : Int} {f : Int → Int} {x y z : Int} (x0 : 0 ≤ x) (y0 : 0 ≤ y) (z0 : 0 ≤ z) : 0 ≤ rootsF p f x y z ∧ rootsF p f x y z ≤ x * (y * z) := by
  have h1 : ∀ a b : Int, 0 ≤ sumN (fun c => rtI p f a b c) z.toNat ∧ sumN (fun c => rtI p f a b c) z.toNat ≤ z := fun a b => by
    have := sumN_bd (f := fun c => rtI p f a b c) (fun c => rtI_b p f a b c) z.toNat
    rw [Int.mul_one, Int.toNat_of_nonneg z0] at this
    exact this
  have h2 : ∀ a : Int, 0 ≤ sumN (fun b => sumN (fun c => rtI p f a b c) z.toNat) y.toNat ∧ sumN (fun b => sumN (fun c => rtI p f a b c) z.toNat) y.toNat ≤ y * z := fun a => by
    have := sumN_bd (fun b => h1 a b) y.toNat
    rw [Int.toNat_of_nonneg y0] at this
    exact this
  have := sumN_bd h2 x.toNat
  rw [Int.toNat_of_nonneg x0] at this
  exact this
theorem r217l {B : va_E} {s : l2_m} {Q : Int → l2_m → Prop} {p r x y z : Int} {f : Int → Int} (hp : s 186 5 = p) (p2 : 2 ≤ p) (p97 : p ≤ 97) (r0 : 0 ≤ r) (r1 : r < 8) (hr : rngR s p) (hk : keysOK s r) (ef : regR s r = f) (x0 : 1 ≤ x) (x1 : x ≤ p) (y0 : 1 ≤ y) (y1 : y ≤ p) (z0 : 1 ≤ z) (z1 : z ≤ p) (h : ∀ ω, ω = trr s 0 → Q (rootsF p f x y z) ω) : w217_103 B s r x y z 0 0 Q := by
  unfold w217_103
  refine lz3_inv (fun (t : Int) (a : Int) s' => s' = s ∧ 0 ≤ a ∧ a ≤ x ∧ t = sumN (fun a => sumN (fun b => sumN (fun c => rtI p f a b c) z.toNat) y.toNat) a.toNat) (fun _ a _ => x - a) ?_ ⟨rfl, by decide, by omega, rfl⟩
  intro X t a s' hX ⟨es, a0, a1, et⟩
  subst es
  refine ⟨⟨⟨by omega, by omega⟩, ⟨by omega, by omega⟩⟩, ?_⟩
  by_cases ha : a < x
  · rw [if_pos ha]
    unfold w217_112
    refine lz3_inv (fun (t' : Int) (b : Int) s'' => s'' = s' ∧ 0 ≤ b ∧ b ≤ y ∧ t' = t + sumN (fun b => sumN (fun c => rtI p f a b c) z.toNat) b.toNat) (fun _ b _ => y - b) ?_ ⟨rfl, by decide, by omega, by show t = t + 0; omega⟩
    intro Y t' b s'' hY ⟨es', b0, b1, et'⟩
    subst es'
    refine ⟨⟨⟨by omega, by omega⟩, ⟨by omega, by omega⟩⟩, ?_⟩
    by_cases hb : b < y
    · rw [if_pos hb]
      unfold w217_121
      refine lz3_inv (fun (v : Int) (c : Int) s3 => s3 = s'' ∧ 0 ≤ c ∧ c ≤ z ∧ v = t' + sumN (fun c => rtI p f a b c) c.toNat) (fun _ c _ => z - c) ?_ ⟨rfl, by decide, by omega, by show t' = t' + 0; omega⟩
      intro Z v c s3 hZ ⟨es3, c0, c1', ev⟩
      subst es3
      refine ⟨⟨⟨by omega, by omega⟩, ⟨by omega, by omega⟩⟩, ?_⟩
      by_cases hc : c < z
      · rw [if_pos hc]
        refine r215 hp p2 p97 r0 r1 hr hk a0 (by omega) b0 (by omega) c0 (by omega) ?_
        rw [ef]
        have vb : 0 ≤ valF p f a b c ∧ valF p f a b c < p := ⟨Int.emod_nonneg _ (by omega), Int.emod_lt_of_pos _ (by omega)⟩
        generalize hw : valF p f a b c = w at vb
        refine ⟨⟨by omega, by omega⟩, ?_⟩
        have st : sumN (fun c => rtI p f a b c) (c + 1).toNat = sumN (fun c => rtI p f a b c) c.toNat + (if w = 0 then 1 else 0) := by
          rw [sumN_step c0]
          show _ + rtI p f a b c = _
          unfold rtI
          rw [hw]
        by_cases h0 : w = 0
        · rw [if_pos h0]
          rw [if_pos h0] at st
          intro v' ev'
          refine hZ v' (c + 1) s3 ⟨rfl, by omega, by omega, ?_⟩ (by omega)
          rw [st, ev', ev, Int.add_assoc]
        · rw [if_neg h0]
          rw [if_neg h0] at st
          intro v' ev'
          refine hZ v' (c + 1) s3 ⟨rfl, by omega, by omega, ?_⟩ (by omega)
          rw [st, ev', ev, Int.add_assoc]
      · rw [if_neg hc]
        have ec : c = z := by omega
        refine hY v (b + 1) s3 ⟨rfl, by omega, by omega, ?_⟩ (by omega)
        rw [sumN_step b0, ev, et', ec, Int.add_assoc]
    · rw [if_neg hb]
      have eb : b = y := by omega
      refine hX t' (a + 1) s'' ⟨rfl, by omega, by omega, ?_⟩ (by omega)
      rw [sumN_step a0, et', et, eb]
  · rw [if_neg ha]
    have ea : a = x := by omega
    have hq := h
    unfold rootsF at hq
    rw [et, ea]
    exact hq
