/-! ===== summaries of the leaves: a call of one goes on with its answer ===== -/
section S0
variable {B : va_E} {σ : l2_m} {K : Int → l2_m → Prop}
theorem s72 {o : Nat} {x : Int} (ho : isM o) (h1 : 2 ≤ σ o 0) (h2 : σ o 0 ≤ 97) (h3 : rg x) (h : K (x % σ o 0) σ) : wC B 72 [vr o, vi x] σ K := by
  refine o72 ho ?_
  unfold w72
  rw [if_neg (by omega)]
  refine ⟨⟨by omega, by omega⟩, ⟨h3, by omega⟩, ?_⟩
  rintro x2 rfl
  have e : Int.tmod x (σ o 0) = if 0 ≤ x ∨ x % σ o 0 = 0 then x % σ o 0 else x % σ o 0 - σ o 0 := by
    rw [Int.tmod_eq_emod]
    have hd : (σ o 0 ∣ x) ↔ x % σ o 0 = 0 := ⟨Int.emod_eq_zero_of_dvd, Int.dvd_of_emod_eq_zero⟩
    have hn : ((σ o 0).natAbs : Int) = σ o 0 := by omega
    by_cases hx : 0 ≤ x ∨ x % σ o 0 = 0
    · rw [if_pos hx, if_pos (hx.imp id hd.mpr)]; omega
    · rw [if_neg hx, if_neg (fun hh => hx (hh.imp id hd.mp)), hn]
  have b0 : 0 ≤ x % σ o 0 := Int.emod_nonneg _ (by omega)
  have b1 : x % σ o 0 < σ o 0 := Int.emod_lt_of_pos _ (by omega)
  rw [e]
  generalize x % σ o 0 = r at *
  by_cases hx : 0 ≤ x ∨ r = 0
  · rw [if_pos hx, if_neg (by omega)]
    exact ⟨⟨by omega, by omega⟩, h⟩
  · rw [if_neg hx, if_pos (by omega)]
    refine ⟨⟨by omega, by omega⟩, ?_⟩
    have : r - σ o 0 + σ o 0 = r := by omega
    rw [this]; exact h
def invO (σ : l2_m) (o : Nat) (x : Int) : Int := if 0 < x ∧ x < σ o 0 then σ (o + 1) x else 0
theorem s73 {o : Nat} {x : Int} (ho : isM o) (h1 : 0 ≤ σ o 0) (h2 : σ o 0 ≤ 97) (h3 : rg x) (h : K (invO σ o x) σ) : wC B 73 [vr o, vi x] σ K := by
  refine o73 ho ?_
  unfold w73
  refine ⟨h3, fun _ => ⟨by omega, by omega⟩, ?_⟩
  unfold invO at h
  split
  · rename_i hc
    rw [if_pos hc] at h
    exact ⟨⟨by omega, by omega⟩, h⟩
  · rename_i hc
    rw [if_neg hc] at h
    exact h
theorem s71 {o : Nat} {x : Int} (ho : isM o) (h1 : rg (σ o 0)) (h3 : rg x) (h : K (b2i (0 ≤ x ∧ x < σ o 0)) σ) : wC B 71 [vr o, vi x] σ K := by
  refine o71 ho ?_
  unfold w71
  exact ⟨h3, fun _ => h1, b2i_n (by omega) h⟩
theorem s154 {m u : Int} (h1 : rg m) (h2 : 0 ≤ u) (h3 : u < 3) (h : K (e5 m u) σ) : wC B 154 [vi m, vi u] σ K := by
  refine o154 ?_
  unfold w154
  exact ⟨⟨h1, by omega, by omega⟩, h⟩
theorem s152 {s r : Int} (h1 : rg s) (h2 : 0 ≤ r) (h3 : r < 32) (h : K (b2i (bit s r = 1)) σ) : wC B 152 [vi s, vi r] σ K := by
  refine o152 ?_
  unfold w152
  refine ⟨⟨h1, by omega, by omega⟩, b2i_n ?_ h⟩
  have := bit_b s r
  unfold bit at this ⊢
  omega
theorem s148 {u : Int} (h1 : rg u) (h : K (b2i (0 ≤ u ∧ u < 3)) σ) : wC B 148 [vi u] σ K := by
  refine o148 ?_
  unfold w148
  exact ⟨h1, b2i_n (by omega) h⟩
theorem s150 {u : Int} (h1 : rg u) (h : K (b2i (0 ≤ u ∧ u < 16)) σ) : wC B 150 [vi u] σ K := by
  refine o150 ?_
  unfold w150
  exact ⟨h1, b2i_n (by omega) h⟩
theorem s147 {r : Int} (h1 : rg r) (h2 : σ 32 5 = 0 ∨ σ 32 5 = 1) (h : K (b2i (σ 32 5 = 1 ∧ 0 ≤ r ∧ r < 8)) σ) : wC B 147 [vr 32, vi r] σ K := by
  refine o147 ?_
  unfold w147
  exact ⟨⟨by omega, by omega⟩, fun _ => h1, b2i_n (by omega) h⟩
/-- trouble is told -/
def trb (σ : l2_m) (n : Int) : l2_m := l2_u (l2_u σ 32 2 n) 32 4 (-1)
theorem s145 {n : Int} (h : K (-1) (trb σ n)) : wC B 145 [vr 32, vi n] σ K := by
  refine o145 ?_
  rintro _ rfl _ rfl
  exact h
theorem s146 {n : Int} (h : K n (trb σ 0)) : wC B 146 [vr 32, vi n] σ K := by
  refine o146 ?_
  rintro _ rfl _ rfl
  exact h
theorem s84 {o : Nat} (ho : isP o) (h1 : rg (σ o 2)) (h : K (if 0 < σ o 2 then σ (o + 1) 0 else 0) σ) : wC B 84 [vr o] σ K := by
  refine o84 ho ?_
  unfold w84
  refine ⟨h1, ?_⟩
  split
  · rename_i hc; rw [if_pos hc] at h; exact h
  · rename_i hc; rw [if_neg hc] at h; exact h
theorem s85 {o : Nat} (ho : isP o) (h1 : rg (σ o 2)) (h : K (if 0 < σ o 2 then σ (o + 2) 0 else 0) σ) : wC B 85 [vr o] σ K := by
  refine o85 ho ?_
  unfold w85
  refine ⟨h1, ?_⟩
  split
  · rename_i hc; rw [if_pos hc] at h; exact h
  · rename_i hc; rw [if_neg hc] at h; exact h
theorem s88 {o : Nat} (ho : isP o) (h1 : rg (σ o 2)) (h2 : rg (σ (o + 1) 0)) (h : K (b2i (σ o 2 = 1 ∧ σ (o + 1) 0 = 0)) σ) : wC B 88 [vr o] σ K := by
  refine o88 ho ?_
  unfold w88
  exact ⟨h1, fun _ => h2, b2i_p Iff.rfl h⟩
theorem s78 {o : Nat} {x y z : Int} (ho : isO o) (h : K (x * σ (o + 1) 0 + y * σ (o + 1) 1 + z * σ (o + 1) 2) σ) : wC B 78 [vr o, vi x, vi y, vi z] σ K := o78 ho h
theorem s77 {o : Nat} {x y z : Int} (ho : isO o) (h1 : rg (σ o 0)) (h2 : rg (σ o 1)) (h3 : rg (σ o 2)) (g1 : rg x) (g2 : rg y) (g3 : rg z) (h : K (b2i (σ o 0 = x ∧ σ o 1 = y ∧ σ o 2 = z)) σ) : wC B 77 [vr o, vi x, vi y, vi z] σ K := by
  refine o77 ho ?_
  unfold w77
  refine ⟨⟨h1, g1⟩, ?_⟩
  by_cases hc : σ o 0 = x
  · rw [if_pos hc]
    exact ⟨⟨h2, g2⟩, fun _ => ⟨h3, g3⟩, b2i_p ⟨fun z => ⟨hc, z⟩, fun z => z.2⟩ h⟩
  · rw [if_neg hc]
    rw [b2i, if_neg (fun z => hc z.1)] at h
    exact h
end S0
