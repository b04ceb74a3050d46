section S0
variable {B : va_E} {σ : l2_m} {K : Int → l2_m → Prop}
def app (σ : l2_m) (o : Nat) (m c : Int) : l2_m := if σ o 2 < 60 then l2_u (l2_u (l2_u σ (o + 1) (σ o 2) m) (o + 2) (σ o 2) c) o 2 (σ o 2 + 1) else σ
theorem s82 {o : Nat} {m c : Int} (ho : isP o) (h1 : 0 ≤ σ o 2) (h2 : rg (σ o 2)) (h : K (b2i (σ o 2 < 60)) (app σ o m c)) : wC B 82 [vr o, vi m, vi c] σ K := by
  refine o82 ho ?_
  unfold w82
  unfold app at h
  refine ⟨h2, ?_⟩
  by_cases hc : σ o 2 < 60
  · rw [if_neg (by omega)]
    rw [b2i, if_pos hc, if_pos hc] at h
    refine ⟨⟨h1, hc⟩, ?_⟩
    intro σ1 e1
    have f1 : σ1 o 2 = σ o 2 := by rw [e1]; exact l2_u_ne (by omega)
    rw [f1]
    refine ⟨⟨h1, hc⟩, ?_⟩
    intro σ2 e2
    have f2 : σ2 o 2 = σ o 2 := by rw [e2, l2_u_ne (by omega)]; exact f1
    intro σ3 e3
    rw [e3, f2, e2, e1]
    exact h
  · rw [if_pos (by omega)]
    rw [b2i, if_neg hc, if_neg hc] at h
    exact h
/-- a polynomial laid over another -/
def cpP (σ : l2_m) (o q : Nat) : l2_m := fun b j => if b = o ∧ j = 2 then σ q 2 else if b = o + 1 ∧ 0 ≤ j ∧ j < σ q 2 then σ (q + 1) j else if b = o + 2 ∧ 0 ≤ j ∧ j < σ q 2 then σ (q + 2) j else σ b j
theorem isP_ne {o q : Nat} (ho : isP o) (hq : isP q) : o ≠ q + 1 ∧ o ≠ q + 2 ∧ q ≠ o + 1 ∧ q ≠ o + 2 := by
  have key : ∀ a c n, l2_cl a = some c → l2_al a = some n → False := by
    intro a c n h1 h2
    unfold l2_cl at h1
    unfold l2_al at h2
    split at h1
    · rename_i t m fs he
      rw [he] at h2
      dsimp only at h2
      split at h1
      · rename_i hc; rw [if_neg (by omega)] at h2; cases h2
      · cases h1
    · cases h1
  refine ⟨?_, ?_, ?_, ?_⟩
  · rintro rfl; exact key _ _ _ (isP_c ho) (isP_m hq)
  · rintro rfl; exact key _ _ _ (isP_c ho) (isP_k hq)
  · rintro rfl; exact key _ _ _ (isP_c hq) (isP_m ho)
  · rintro rfl; exact key _ _ _ (isP_c hq) (isP_k ho)
theorem s83 {o q : Nat} (ho : isP o) (hq : isP q) (hne : o ≠ q) (h1 : 0 ≤ σ q 2) (h2 : σ q 2 ≤ 60) (h : K 0 (cpP σ o q)) : wC B 83 [vr o, vr q] σ K := by
  obtain ⟨d1, d2, d3, d4⟩ := isP_ne ho hq
  refine o83 ho hq ?_
  unfold w83
  intro σ1 e1
  unfold w83_10
  refine lz2_inv (fun x τ => 0 ≤ x ∧ x ≤ σ q 2 ∧ τ = (fun b j => if b = o ∧ j = 2 then σ q 2 else if b = o + 1 ∧ 0 ≤ j ∧ j < x then σ (q + 1) j else if b = o + 2 ∧ 0 ≤ j ∧ j < x then σ (q + 2) j else σ b j)) (fun x _ => σ q 2 - x) ?_ ?_
  · rintro X x τ hX ⟨i1, i2, ht⟩
    have f0 : τ o 2 = σ q 2 := by rw [ht]; exact if_pos ⟨rfl, rfl⟩
    refine ⟨⟨⟨by omega, by omega⟩, by rw [f0]; exact ⟨by omega, by omega⟩⟩, ?_⟩
    split
    · rename_i hc
      rw [f0] at hc
      refine ⟨⟨i1, by omega⟩, ?_⟩
      intro τ1 t1 τ2 t2
      refine hX _ _ ⟨by omega, by omega, ?_⟩ (by omega)
      rw [t2, t1, ht]
      funext b j
      unfold l2_u
      simp only [show ¬ (q + 1 = o) from by omega, show ¬ (q + 1 = o + 2) from by omega, show ¬ (q + 1 = o + 1) from by omega, show ¬ (q + 2 = o) from by omega, show ¬ (q + 2 = o + 1) from by omega, show ¬ (q + 2 = o + 2) from by omega, false_and, if_false]
      by_cases b1 : b = o
      · subst b1; simp
      · by_cases b2 : b = o + 1
        · subst b2
          by_cases j1 : j = x
          · subst j1; simp [i1, hc]; intro hh; omega
          · simp [j1]; split <;> split <;> first | rfl | omega
        · by_cases b3 : b = o + 2
          · subst b3
            by_cases j1 : j = x
            · subst j1; simp [i1]; intro hh; omega
            · simp [j1]; split <;> split <;> first | rfl | omega
          · simp [b1, b2, b3]
    · rename_i hc
      rw [f0] at hc
      have : x = σ q 2 := by omega
      rw [ht, this]
      exact h
  · refine ⟨by omega, by omega, ?_⟩
    rw [e1]
    funext b j
    unfold l2_u
    by_cases b1 : b = o ∧ j = 2
    · rw [if_pos b1, if_pos b1]
    · rw [if_neg b1, if_neg b1, if_neg (by omega), if_neg (by omega)]
theorem s281 {a b : Int} (h1 : rg a) (h2 : rg b) (h : K (if a < b then -1 else if a = b then 0 else 1) σ) : wC B 281 [vi a, vi b] σ K := by
  refine o281 ?_
  unfold w281
  refine ⟨⟨h1, h2⟩, ?_⟩
  split at h
  · rename_i hc; rw [if_pos hc]; exact h
  · rename_i hc
    rw [if_neg hc]
    split at h
    · rename_i hd; rw [if_pos hd]; exact h
    · rename_i hd; rw [if_neg hd]; exact h
/-- an array is filled -/
def fil (σ : l2_m) (a : Nat) (v : Int) (n : Int) : l2_m := fun b j => if b = a ∧ 0 ≤ j ∧ j < n then v else σ b j
theorem s280 {a n : Nat} {v : Int} (ha : l2_al a = some n) (h : K 0 (fil σ a v n)) : wC B 280 [vr a, vi v] σ K := by
  have hs := l2_small ha
  refine o280 ha ?_
  unfold w280
  rintro x3 rfl
  unfold w280_5
  refine lz2_inv (fun (x : Int) τ => 0 ≤ x ∧ x ≤ (n : Int) ∧ τ = fil σ a v x) (fun x _ => (n : Int) - x) ?_ ?_
  · rintro X x τ hX ⟨i1, i2, rfl⟩
    refine ⟨⟨⟨by omega, by omega⟩, ⟨by omega, by omega⟩⟩, ?_⟩
    split
    · rename_i hc
      refine ⟨⟨i1, hc⟩, ?_⟩
      rintro _ rfl
      refine hX _ _ ⟨by omega, by omega, ?_⟩ (by omega)
      funext b j
      unfold l2_u fil
      by_cases b1 : b = a
      · subst b1
        by_cases j1 : j = x
        · subst j1; simp [i1]; intro hh; omega
        · simp [j1]; split <;> split <;> first | rfl | omega
      · simp [b1]
    · have : x = (n : Int) := by omega
      rw [this]; exact h
  · refine ⟨by omega, by omega, ?_⟩
    funext b j
    unfold fil
    rw [if_neg (by omega)]
theorem s25 {a n : Nat} {fr p : Int} (ha : l2_al a = some n) (h0 : 0 ≤ fr) (h1 : 0 ≤ p) (h2 : fr + p ≤ n) (h3 : ∀ j : Int, 0 ≤ j → j < p → rg (σ a (fr + j))) (h : K (top (fun j => σ a (fr + j)) p) σ) : wC B 25 [vr a, vi fr, vi p] σ K := by
  have hs := l2_small ha
  refine o25 ha ?_
  unfold w25
  rintro x3 rfl
  unfold w25_4
  refine lz1_inv (fun x => -1 ≤ x ∧ x < p ∧ ∀ j : Int, x < j → j < p → σ a (fr + j) = 0) (fun x => x + 1) ?_ ⟨by omega, by omega, fun j h1 h2 => by omega⟩
  rintro X x hX ⟨i1, i2, i3⟩
  refine ⟨⟨by omega, by omega⟩, fun hc => ⟨by omega, by omega, h3 x (by omega) i2⟩, ?_⟩
  split
  · rename_i hc
    rw [top_uniq h1 i1 i2 i3 (fun h0 => hc.elim (fun h => by omega) id)] at h
    exact h
  · rename_i hc
    refine hX _ ⟨by omega, by omega, fun j g1 g2 => ?_⟩ (by omega)
    by_cases hj : j = x
    · subst hj; exact Classical.not_not.mp (fun z => hc (Or.inr z))
    · exact i3 j (by omega) g2
theorem s253 {a n : Nat} {fr : Int} (ha : l2_al a = some n) (h0 : 0 ≤ fr) (h2 : fr + 2304 ≤ n) (h3 : ∀ j : Int, 0 ≤ j → j < 2304 → rg (σ a (fr + j))) (h : K (top (fun j => σ a (fr + j)) 2304) σ) : wC B 253 [vr a, vi fr] σ K := by
  have hs := l2_small ha
  refine o253 ha ?_
  unfold w253 w253_4
  refine lz1_inv (fun x => -1 ≤ x ∧ x < 2304 ∧ ∀ j : Int, x < j → j < 2304 → σ a (fr + j) = 0) (fun x => x + 1) ?_ ⟨by omega, by omega, fun j h1 h2 => by omega⟩
  rintro X x hX ⟨i1, i2, i3⟩
  refine ⟨⟨by omega, by omega⟩, ?_⟩
  split
  · rename_i hc
    have : x = -1 := by omega
    subst this
    rw [top_uniq (by omega) i1 i2 i3 (fun h0 => by omega)] at h
    exact h
  · rename_i hc
    refine ⟨⟨by omega, by omega, h3 x (by omega) i2⟩, ?_⟩
    split
    · rename_i hd
      refine hX _ ⟨by omega, by omega, fun j g1 g2 => ?_⟩ (by omega)
      by_cases hj : j = x
      · subst hj; exact hd
      · exact i3 j (by omega) g2
    · rename_i hd
      rw [top_uniq (by omega) i1 i2 i3 (fun _ => hd)] at h
      exact h
end S0
