section S2
variable {B : va_E} {σ : l2_m} {K : Int → l2_m → Prop}
theorem s203 {r : Int} (h1 : 0 ≤ r) (h2 : r < 8) (hc : ∀ j : Int, 0 ≤ j → j < 4096 → rg (σ 187 (4096 * r + j))) (h : K (b2i (cnt (fun k => σ 187 (4096 * r + k)) 4096 = 0)) σ) : wC B 203 [vr 186, vi r] σ K := by
  refine o203 ?_
  unfold w203
  have := cnt_bi (fun k => σ 187 (4096 * r + k)) (n := 4096) (by omega)
  exact ⟨⟨h1, h2, hc, ⟨by omega, by omega⟩⟩, b2i_p Iff.rfl h⟩
theorem s241 {r q k : Int} (g1 : rg r) (g2 : rg q) (g3 : rg k) (h2 : σ 186 14 = 0 ∨ σ 186 14 = 1) (h : K (b2i (σ 186 14 = 1 ∧ (0 ≤ r ∧ r < 8) ∧ (0 ≤ q ∧ q < 8) ∧ (0 ≤ k ∧ k < 8))) σ) : wC B 241 [vr 186, vi r, vi q, vi k] σ K := by
  refine o241 ?_
  unfold w241
  grind
theorem s220 {a f s : Int} (h1 : rg a) (h2 : rg f) (h3 : rg s) (h : K (b2i (isOr a f s)) σ) : wC B 220 [vi a, vi f, vi s] σ K := by
  refine o220 ?_
  unfold w220
  grind
/-- a register is kept -/
def kpR (σ : l2_m) (r : Int) (q : Nat) : l2_m := gon (cpP (l2_u σ 129 (σ 128 5) r) (134 + 3 * Int.toNat (σ 128 5)) q)
theorem s64 {r : Int} {q : Nat} (hq : isP q) (hb : 158 < q) (h1 : 0 ≤ σ 128 5) (h2 : σ 128 5 < 8) (h3 : 0 ≤ σ 128 6) (h4 : σ 128 6 ≤ 8) (h5 : 0 ≤ σ q 2) (h6 : σ q 2 ≤ 60) (h : K 0 (kpR σ r q)) : wC B 64 [vr 128, vi r, vr q] σ K := by
  refine o64 hq ?_
  refine ⟨⟨h1, h2⟩, ?_⟩
  intro σ1 e1
  have f1 : σ1 128 5 = σ 128 5 := by rw [e1]; exact l2_u_ne (by decide)
  have f2 : σ1 q 2 = σ q 2 := by rw [e1]; exact l2_u_ne (by omega)
  have f3 : σ1 128 6 = σ 128 6 := by rw [e1]; exact l2_u_ne (by decide)
  rw [f1, f2]
  have hlt : Int.toNat (σ 128 5) < 8 := by omega
  refine ⟨⟨h1, h2, by omega, h5, h6⟩, ?_⟩
  intro σ2 e2
  have c : ∀ j, σ2 128 j = σ1 128 j := by
    intro j
    rw [e2]
    unfold cpP
    rw [if_neg (by omega), if_neg (by omega), if_neg (by omega)]
  rw [c, c, f1, f3]
  refine ⟨⟨h1, h2, h3, h4⟩, ?_⟩
  intro σ3 e3
  rw [e3, e2, e1]
  exact h
/-- an order is kept -/
def kpO (σ : l2_m) (o : Nat) : l2_m := gon (l2_u (l2_u (l2_u (l2_u σ 129 (σ 128 5) (-1)) 130 (σ 128 5) (σ o 0)) 131 (σ 128 5) (σ o 1)) 132 (σ 128 5) (σ o 2))
theorem s65 {o : Nat} (ho : isO o) (hb : o < 128) (h1 : 0 ≤ σ 128 5) (h2 : σ 128 5 < 8) (h3 : 0 ≤ σ 128 6) (h4 : σ 128 6 ≤ 8) (h : K 0 (kpO σ o)) : wC B 65 [vr 128, vr o] σ K := by
  refine o65 ho ?_
  refine ⟨⟨h1, h2⟩, ?_⟩
  intro σ1 e1
  have f1 : ∀ b j, b ≠ 129 → σ1 b j = σ b j := fun b j hb => by rw [e1]; exact l2_u_ne hb
  rw [f1 128 5 (by decide), f1 o 0 (by omega)]
  refine ⟨⟨h1, h2⟩, ?_⟩
  intro σ2 e2
  have f2 : ∀ b j, b ≠ 129 → b ≠ 130 → σ2 b j = σ b j := fun b j hb hc => by rw [e2, l2_u_ne hc]; exact f1 b j hb
  rw [f2 128 5 (by decide) (by decide), f2 o 1 (by omega) (by omega)]
  refine ⟨⟨h1, h2⟩, ?_⟩
  intro σ3 e3
  have f3 : ∀ b j, b ≠ 129 → b ≠ 130 → b ≠ 131 → σ3 b j = σ b j := fun b j hb hc hd => by rw [e3, l2_u_ne hd]; exact f2 b j hb hc
  rw [f3 128 5 (by decide) (by decide) (by decide), f3 o 2 (by omega) (by omega) (by omega)]
  refine ⟨⟨h1, h2⟩, ?_⟩
  intro σ4 e4
  have f4 : ∀ j, σ4 128 j = σ 128 j := fun j => by rw [e4, l2_u_ne (by decide)]; exact f3 128 j (by decide) (by decide) (by decide)
  rw [f4, f4]
  refine ⟨⟨h1, h2, h3, h4⟩, ?_⟩
  intro σ5 e5
  rw [e5, e4, e3, e2, e1]
  exact h
/-- a text lies there -/
def txm : (Int → Int) → List Int → Bool
  | _, [] => true
  | f, c :: l => decide (f 0 = c) && txm (fun i => f (i + 1)) l
theorem txm_iff (f : Int → Int) (l : List Int) : txm f l = true ↔ ∀ i : Nat, i < l.length → f i = l.getD i 0 := by
  induction l generalizing f with
  | nil => exact ⟨fun _ i h => absurd h (Nat.not_lt_zero i), fun _ => rfl⟩
  | cons c l ih =>
    unfold txm
    rw [Bool.and_eq_true, decide_eq_true_eq, ih]
    constructor
    · rintro ⟨h1, h2⟩ i hi
      cases i with
      | zero => exact h1
      | succ i => exact h2 i (Nat.lt_of_succ_lt_succ hi)
    · intro h
      exact ⟨h 0 (Nat.succ_pos _), fun i hi => h (i + 1) (Nat.succ_lt_succ hi)⟩
theorem s101 {a : Nat} (ha : 3 ≤ a ∧ a < 20) (h1 : rg (σ 49 10)) (h2 : 0 ≤ σ 49 11) (h3 : σ 49 11 ≤ σ 49 8) (h4 : σ 49 8 ≤ 700) (h5 : ∀ j : Int, 0 ≤ j → j < 700 → rg (σ 55 j)) (h : K (b2i (σ 49 10 = 1 ∧ σ 49 8 - σ 49 11 = ((l2_tx a).length : Int) ∧ txm (fun i => σ 55 (σ 49 11 + i)) (l2_tx a) = true)) σ) : wC B 101 [vr 49, vr a] σ K := by
  refine o101 ha ?_
  unfold w101
  refine ⟨h1, fun _ => ⟨by omega, by omega⟩, ?_⟩
  split
  · rename_i hc
    unfold w101_28
    refine lz1_inv (fun i => 0 ≤ i ∧ i ≤ ((l2_tx a).length : Int) ∧ ∀ j : Nat, (j : Int) < i → σ 55 (σ 49 11 + j) = (l2_tx a).getD j 0) (fun i => ((l2_tx a).length : Int) - i) ?_ ⟨by omega, by omega, fun j h => by omega⟩
    rintro X i hX ⟨i1, i2, i3⟩
    obtain ⟨n, rfl⟩ := Int.eq_ofNat_of_zero_le i1
    refine ⟨⟨by omega, by omega⟩, ?_⟩
    split
    · rename_i hl
      refine ⟨⟨by omega, by omega, by omega, hl, h5 _ (by omega) (by omega)⟩, ?_⟩
      rw [Int.toNat_natCast]
      split
      · rename_i he
        refine hX _ ⟨by omega, by omega, fun j hj => ?_⟩ (by omega)
        by_cases hjn : j = n
        · subst hjn; exact he
        · exact i3 j (by omega)
      · rename_i he
        rw [b2i, if_neg (fun z => he ((txm_iff _ _).mp z.2.2 n (by omega)))] at h
        exact h
    · rename_i hl
      rw [b2i, if_pos ⟨hc.1, hc.2, (txm_iff _ _).mpr (fun j hj => i3 j (by omega))⟩] at h
      exact h
  · rename_i hc
    rw [b2i, if_neg (fun z => hc ⟨z.1, z.2.1⟩)] at h
    exact h
/-- a word's number -/
def wcd (l : List Int) : Int := l.foldl (fun v c => v * 256 + c) 0
def txok (a : Nat) : Bool := (l2_tx a).length ≤ 5 && (l2_tx a).all (fun c => decide (97 ≤ c ∧ c ≤ 122))
theorem tx_all : ∀ a, a < 20 → 3 ≤ a → txok a = true := by decide
theorem wcd_g (l : List Int) : ∀ v : Int, 0 ≤ v → (∀ c ∈ l, 97 ≤ c ∧ c ≤ 122) → 0 ≤ l.foldl (fun v c => v * 256 + c) v ∧ l.foldl (fun v c => v * 256 + c) v < (v + 1) * 256 ^ l.length := by
  induction l with
  | nil => intro v hv _; exact ⟨hv, by show v < (v + 1) * 1; omega⟩
  | cons c l ih =>
    intro v hv hc
    have h1 := hc c (List.mem_cons_self)
    have h2 := ih (v * 256 + c) (by omega) (fun d hd => hc d (List.mem_cons_of_mem _ hd))
    refine ⟨h2.1, Int.lt_of_lt_of_le h2.2 ?_⟩
    rw [List.length_cons, Int.pow_succ]
    have h3 : (0 : Int) ≤ 256 ^ l.length := Int.pow_nonneg (by decide)
    generalize (256 : Int) ^ l.length = z at *
    have e : (v + 1) * (z * 256) = ((v + 1) * 256) * z := by rw [Int.mul_assoc, Int.mul_comm z 256]
    rw [e]
    exact Int.mul_le_mul_of_nonneg_right (by omega) h3
theorem wcd_b (l : List Int) (n : Nat) (h1 : l.length = n) (h3 : ∀ c ∈ l, 97 ≤ c ∧ c ≤ 122) : 0 ≤ wcd l ∧ wcd l < 256 ^ n := by
  have := wcd_g l 0 (by omega) h3
  rw [h1] at this
  exact ⟨this.1, by have h := this.2; rw [Int.zero_add, Int.one_mul] at h; exact h⟩
theorem s179 {a : Nat} (ha : 3 ≤ a ∧ a < 20) (h1 : rg (σ 186 19)) (h2 : 0 ≤ σ 186 23) (h3 : σ 186 23 < 9223372036854775808) (h : K (b2i (σ 186 19 = 2 ∧ σ 186 23 = wcd (l2_tx a))) σ) : wC B 179 [vr 186, vr a] σ K := by
  have hok := tx_all a ha.2 ha.1
  unfold txok at hok
  rw [Bool.and_eq_true, decide_eq_true_eq, List.all_eq_true] at hok
  have hl := hok.1
  have hc : ∀ c ∈ l2_tx a, 97 ≤ c ∧ c ≤ 122 := fun c hc => by simpa using hok.2 c hc
  have key : ∀ n : Nat, n ≤ (l2_tx a).length → 0 ≤ wcd ((l2_tx a).take n) ∧ wcd ((l2_tx a).take n) < 256 ^ n := fun n hn => wcd_b _ n (by rw [List.length_take]; omega) (fun c h => hc c (List.mem_of_mem_take h))
  have p5 : ∀ n : Nat, n ≤ 5 → (256 : Int) ^ n ≤ 1099511627776 := by decide
  refine o179 ha ?_
  unfold w179
  rintro _ rfl
  unfold w179_5
  refine lz2_inv (fun x i => 0 ≤ i ∧ i ≤ ((l2_tx a).length : Int) ∧ x = wcd ((l2_tx a).take i.toNat)) (fun _ i => ((l2_tx a).length : Int) - i) ?_ ⟨by omega, by omega, by rw [Int.toNat_zero, List.take_zero]; rfl⟩
  rintro X x i hX ⟨i1, i2, rfl⟩
  obtain ⟨n, rfl⟩ := Int.eq_ofNat_of_zero_le i1
  rw [Int.toNat_natCast] at *
  have hk := key n (by omega)
  have h5 := p5 n (by omega)
  refine ⟨⟨by omega, by omega⟩, ?_⟩
  split
  · rename_i hlt
    have hn : n < (l2_tx a).length := by omega
    have hm : (l2_tx a).getD n 0 = (l2_tx a)[n] := by rw [List.getD_eq_getElem?_getD, List.getElem?_eq_getElem hn]; rfl
    have hcn := hc _ (List.getElem_mem hn)
    rw [hm]
    refine ⟨⟨by omega, by omega, by omega, by omega, by omega, by omega⟩, ?_⟩
    rintro _ rfl
    have e1 : ior (wcd ((l2_tx a).take n) * 256) ((l2_tx a)[n]) = wcd ((l2_tx a).take n) * 256 + (l2_tx a)[n] := ior_dis (j := 8) hk.1 (by omega) (by omega)
    rw [e1]
    refine hX _ _ ⟨by omega, by omega, ?_⟩ (by omega)
    have e2 : ((n : Int) + 1).toNat = n + 1 := by omega
    rw [e2, List.take_succ, List.getElem?_eq_getElem hn]
    unfold wcd
    rw [List.foldl_append]
    rfl
  · have e : n = (l2_tx a).length := by omega
    subst e
    rw [List.take_length] at *
    refine ⟨h1, fun _ => ⟨h2, hk.1, h3, by omega⟩, b2i_p ?_ h⟩
    unfold lcm
    constructor
    · rintro ⟨z1, z2⟩
      refine ⟨z1, ?_⟩
      split at z2
      · omega
      · split at z2
        · assumption
        · omega
    · rintro ⟨z1, z2⟩
      refine ⟨z1, ?_⟩
      rw [if_neg (by omega), if_pos z2]
end S2
