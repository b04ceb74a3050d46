/-! ===== the things as a memory of ints: after the constructors every thing has its number and its shape for good ===== -/
abbrev l2_m : Type := Nat → Int → Int
abbrev vi (x : Int) : Value := .int (Int32.ofInt x)
abbrev vl (x : Int) : Value := .long (Int64.ofInt x)
abbrev vr (a : Nat) : Value := .ref a
abbrev rg (x : Int) : Prop := -2147483648 ≤ x ∧ x < 2147483648
/-- one int is written -/
def l2_u (σ : l2_m) (a : Nat) (i x : Int) : l2_m := fun b j => if b = a ∧ j = i then x else σ b j
theorem l2_u_self (σ : l2_m) (a : Nat) (i x : Int) : l2_u σ a i x a i = x := by simp [l2_u]
theorem l2_u_ne {σ : l2_m} {a b : Nat} {i j x : Int} (h : b ≠ a) : l2_u σ a i x b j = σ b j := by simp [l2_u, h]
theorem l2_u_nj {σ : l2_m} {a b : Nat} {i j x : Int} (h : j ≠ i) : l2_u σ a i x b j = σ b j := by simp [l2_u, h]
/-- shapes, from 32 on: 0 int[], 1 byte[], 2 long[] (length), 3 Poly[] (what lies there), 10 + c an object of class c (fields: 0 an int, 1 a long, 2 a reference that changes, else the reference) -/
def l2_tab : List (Nat × Nat × List Nat) := [
(19, 0, [33, 0, 0, 0, 0, 0, 34, 36, 38, 49, 74, 109, 128, 158, 159]),
  (0, 700, []),
  (15, 0, [0, 35]),
  (0, 98, []),
  (16, 0, [0, 0, 0, 0, 37]),
  (0, 3, []),
  (10, 0, [34, 36, 39, 41, 44, 45, 46, 47, 48]),
  (16, 0, [0, 0, 0, 0, 40]),
  (0, 3, []),
  (17, 0, [42, 43, 0]),
  (0, 60, []),
  (0, 60, []),
  (0, 4096, []),
  (0, 3, []),
  (0, 16, []),
  (0, 16, []),
  (0, 16, []),
  (18, 0, [50, 52, 54, 0, 0, 0, 55, 0, 0, 0, 0, 0, 0]),
  (15, 0, [0, 51]),
  (0, 98, []),
  (16, 0, [0, 0, 0, 0, 53]),
  (0, 3, []),
  (3, 6, [56, 59, 62, 65, 68, 71]),
  (0, 700, []),
  (17, 0, [57, 58, 0]),
  (0, 60, []),
  (0, 60, []),
  (17, 0, [60, 61, 0]),
  (0, 60, []),
  (0, 60, []),
  (17, 0, [63, 64, 0]),
  (0, 60, []),
  (0, 60, []),
  (17, 0, [66, 67, 0]),
  (0, 60, []),
  (0, 60, []),
  (17, 0, [69, 70, 0]),
  (0, 60, []),
  (0, 60, []),
  (17, 0, [72, 73, 0]),
  (0, 60, []),
  (0, 60, []),
  (12, 0, [38, 75, 76, 2, 2, 0, 0]),
  (3, 8, [85, 88, 91, 94, 97, 100, 103, 106]),
  (17, 0, [77, 78, 0]),
  (0, 60, []),
  (0, 60, []),
  (17, 0, [80, 81, 0]),
  (0, 60, []),
  (0, 60, []),
  (17, 0, [83, 84, 0]),
  (0, 60, []),
  (0, 60, []),
  (17, 0, [86, 87, 0]),
  (0, 60, []),
  (0, 60, []),
  (17, 0, [89, 90, 0]),
  (0, 60, []),
  (0, 60, []),
  (17, 0, [92, 93, 0]),
  (0, 60, []),
  (0, 60, []),
  (17, 0, [95, 96, 0]),
  (0, 60, []),
  (0, 60, []),
  (17, 0, [98, 99, 0]),
  (0, 60, []),
  (0, 60, []),
  (17, 0, [101, 102, 0]),
  (0, 60, []),
  (0, 60, []),
  (17, 0, [104, 105, 0]),
  (0, 60, []),
  (0, 60, []),
  (17, 0, [107, 108, 0]),
  (0, 60, []),
  (0, 60, []),
  (11, 0, [38, 34, 110, 114, 115, 116, 117, 118, 119, 120, 121, 122, 123, 124, 125, 2, 2, 0]),
  (13, 0, [111, 112, 113, 0, 0, 0, 0, 0]),
  (0, 9409, []),
  (0, 9409, []),
  (0, 98, []),
  (0, 512, []),
  (0, 512, []),
  (0, 512, []),
  (0, 512, []),
  (0, 512, []),
  (0, 512, []),
  (0, 512, []),
  (0, 32, []),
  (0, 32, []),
  (0, 32, []),
  (0, 32, []),
  (0, 32, []),
  (0, 16, []),
  (0, 16, []),
  (14, 0, [129, 130, 131, 132, 133, 0, 0]),
  (0, 8, []),
  (0, 8, []),
  (0, 8, []),
  (0, 8, []),
  (3, 8, [134, 137, 140, 143, 146, 149, 152, 155]),
  (17, 0, [135, 136, 0]),
  (0, 60, []),
  (0, 60, []),
  (17, 0, [138, 139, 0]),
  (0, 60, []),
  (0, 60, []),
  (17, 0, [141, 142, 0]),
  (0, 60, []),
  (0, 60, []),
  (17, 0, [144, 145, 0]),
  (0, 60, []),
  (0, 60, []),
  (17, 0, [147, 148, 0]),
  (0, 60, []),
  (0, 60, []),
  (17, 0, [150, 151, 0]),
  (0, 60, []),
  (0, 60, []),
  (17, 0, [153, 154, 0]),
  (0, 60, []),
  (0, 60, []),
  (17, 0, [156, 157, 0]),
  (0, 60, []),
  (0, 60, []),
  (3, 8, [162, 165, 168, 171, 174, 177, 180, 183]),
  (17, 0, [160, 161, 0]),
  (0, 60, []),
  (0, 60, []),
  (17, 0, [163, 164, 0]),
  (0, 60, []),
  (0, 60, []),
  (17, 0, [166, 167, 0]),
  (0, 60, []),
  (0, 60, []),
  (17, 0, [169, 170, 0]),
  (0, 60, []),
  (0, 60, []),
  (17, 0, [172, 173, 0]),
  (0, 60, []),
  (0, 60, []),
  (17, 0, [175, 176, 0]),
  (0, 60, []),
  (0, 60, []),
  (17, 0, [178, 179, 0]),
  (0, 60, []),
  (0, 60, []),
  (17, 0, [181, 182, 0]),
  (0, 60, []),
  (0, 60, []),
  (17, 0, [184, 185, 0]),
  (0, 60, []),
  (0, 60, []),
  (20, 0, [0, 0, 0, 187, 188, 0, 0, 0, 0, 0, 0, 0, 0, 0, 0, 189, 0, 0, 0, 0, 0, 0, 0, 1, 190, 0, 191, 0, 192, 0, 193, 194, 195, 196, 197, 198, 0, 0, 0, 0, 199, 200, 201, 202, 203, 0, 204, 205, 206, 207, 208, 209, 210]),
  (0, 32768, []),
  (0, 24576, []),
  (1, 700, []),
  (0, 4096, []),
  (0, 61, []),
  (0, 4096, []),
  (0, 4096, []),
  (0, 4096, []),
  (0, 32768, []),
  (0, 8, []),
  (0, 8, []),
  (0, 8, []),
  (0, 32768, []),
  (0, 8, []),
  (0, 8, []),
  (0, 8, []),
  (0, 8, []),
  (0, 36864, []),
  (0, 36864, []),
  (0, 2304, []),
  (0, 2304, []),
  (0, 2304, []),
  (0, 2304, []),
  (0, 2304, []),
  (2, 1, [])]
def l2_fv (σ : l2_m) (a j c : Nat) : Value := if c = 0 then vi (σ a j) else if c = 1 then vl (σ a j) else if c = 2 then .ref (σ a j).toNat else .ref c
def l2_cell (σ : l2_m) (a : Nat) (q : Nat × Nat × List Nat) : va_E :=
  if q.1 = 3 then .inl (3, q.2.1, .inr (.inr (.inr (.inr (fun j => q.2.2[j]?)))))
  else if q.1 = 2 then .inl (2, q.2.1, .inr (.inl (fun j => Int64.ofInt (σ a j))))
  else if q.1 < 2 then .inl (q.1, q.2.1, .inl (fun j => Int32.ofInt (σ a j)))
  else .inr (q.1 - 10, q.2.2.mapIdx (fun j c => l2_fv σ a j c))
def hp (B : va_E) (σ : l2_m) : pm_S := fun a => if a = 0 then B else if a < 32 then pm_S0 0 (fun _ => 0) a else match l2_tab[a - 32]? with
  | some q => l2_cell σ a q
  | none => .inl (9, 0, .inl (fun _ => 0))
/-- what a field is -/
def l2_fk (a q : Nat) : Option Nat := match l2_tab[a - 32]? with
  | some (t, _, fs) => if 32 ≤ a ∧ t = 10 + q / 64 then fs[q % 64]? else none
  | none => none
def l2_al (a : Nat) : Option Nat := match l2_tab[a - 32]? with
  | some (t, n, _) => if 32 ≤ a ∧ t = 0 then some n else none
  | none => none
def l2_cl (a : Nat) : Option Nat := match l2_tab[a - 32]? with
  | some (t, _, _) => if 32 ≤ a ∧ 10 ≤ t then some (t - 10) else none
  | none => none
/-- rows of polynomials: the first one's number, how many -/
def l2_pb (a : Nat) : Option (Nat × Nat) := if a = 54 then some (56, 6) else if a = 75 then some (85, 8) else if a = 133 then some (134, 8) else if a = 158 then some (162, 8) else none
theorem l2_len : l2_tab.length = 180 := by decide +kernel
theorem l2_lt {a : Nat} {q : Nat × Nat × List Nat} (h : l2_tab[a - 32]? = some q) (h1 : 32 ≤ a) : a < 212 := by
  have := (List.getElem?_eq_some_iff.mp h).1
  rw [l2_len] at this
  omega
theorem hp_at {B : va_E} {σ : l2_m} {a : Nat} {q : Nat × Nat × List Nat} (h : l2_tab[a - 32]? = some q) (h1 : 32 ≤ a) : hp B σ a = l2_cell σ a q := by
  unfold hp
  rw [if_neg (by omega), if_neg (by omega), h]
/-- all rows of the table are sound -/
def l2_okr (q : Nat × Nat × List Nat) : Bool := if q.1 < 10 then decide (q.1 < 4) else q.1 < 21 && q.2.2.length == pm_nf (q.1 - 10) && q.2.2.zipIdx.all (fun z => match z.1 with
  | 0 => pm_ty (q.1 - 10) z.2 == .int || pm_ty (q.1 - 10) z.2 == .boolean
  | 1 => pm_ty (q.1 - 10) z.2 == .long
  | _ => match pm_ty (q.1 - 10) z.2 with
    | .object _ => true
    | .array _ => true
    | _ => false)
theorem l2_oks : l2_tab.all l2_okr = true := by decide +kernel
theorem l2_fld {a q c : Nat} (h : l2_fk a q = some c) : ∃ n fs, l2_tab[a - 32]? = some (10 + q / 64, n, fs) ∧ fs[q % 64]? = some c ∧ 32 ≤ a ∧ a < 212 ∧ q % 64 < pm_nf (q / 64) ∧ fs.length = pm_nf (q / 64) := by
  unfold l2_fk at h
  split at h
  · rename_i t n fs he
    split at h
    · rename_i hc
      obtain ⟨h1, rfl⟩ := hc
      have hm := List.mem_of_getElem? he
      have ho := List.all_eq_true.mp l2_oks _ hm
      unfold l2_okr at ho
      rw [if_neg (by simp)] at ho
      simp only [Bool.and_eq_true, decide_eq_true_eq, beq_iff_eq, Nat.add_sub_cancel_left] at ho
      have hlt := (List.getElem?_eq_some_iff.mp h).1
      exact ⟨n, fs, he, h, h1, l2_lt he h1, by omega, ho.1.2⟩
    · cases h
  · cases h
theorem l2_fty {a q c : Nat} (h : l2_fk a q = some c) : (c = 0 → pm_ty (q / 64) (q % 64) = .int ∨ pm_ty (q / 64) (q % 64) = .boolean) ∧ (c = 1 → pm_ty (q / 64) (q % 64) = .long) ∧ (2 ≤ c → ∀ b, fits (pm_ty (q / 64) (q % 64)) (.ref b) = true) := by
  obtain ⟨n, fs, he, hf, h1, -, -, -⟩ := l2_fld h
  have hm := List.mem_of_getElem? he
  have ho := List.all_eq_true.mp l2_oks _ hm
  unfold l2_okr at ho
  rw [if_neg (by simp)] at ho
  simp only [Bool.and_eq_true, Nat.add_sub_cancel_left] at ho
  have h2 := List.all_eq_true.mp ho.2 (c, q % 64) (List.mem_of_getElem? (i := q % 64) (by rw [List.getElem?_zipIdx, hf]; simp))
  dsimp only at h2
  refine ⟨fun h3 => ?_, fun h3 => ?_, fun h3 b => ?_⟩
  · subst h3
    simpa using h2
  · subst h3
    simpa using h2
  · split at h2
    · exact absurd h3 (by decide)
    · exact absurd h3 (by decide)
    · split at h2
      · rename_i e; rw [e]; rfl
      · rename_i e; rw [e]; rfl
      · cases h2
theorem hp_fld {B : va_E} {σ : l2_m} {a q c : Nat} (h : l2_fk a q = some c) : ∃ fs, hp B σ a = .inr (q / 64, fs) ∧ fs[q % 64]? = some (l2_fv σ a (q % 64) c) ∧ 32 ≤ a ∧ a < 212 ∧ q % 64 < pm_nf (q / 64) ∧ q % 64 < fs.length := by
  obtain ⟨n, fs, he, hf, h1, h2, h3, h4⟩ := l2_fld h
  refine ⟨fs.mapIdx (fun j c => l2_fv σ a j c), ?_, ?_, h1, h2, h3, ?_⟩
  · rw [hp_at he h1]
    unfold l2_cell
    rw [if_neg (by simp; omega), if_neg (by simp; omega), if_neg (by simp; omega)]
    simp
  · rw [List.getElem?_mapIdx, hf]; rfl
  · rw [List.length_mapIdx, h4]; exact h3
theorem hp_put {B : va_E} {σ : l2_m} {a q c : Nat} {fs : List Value} {i x : Int} {v : Value} (h : l2_fk a q = some c) (hc : c < 3) (hi : i = (q % 64 : Nat)) (hfs : hp B σ a = .inr (q / 64, fs)) (hv : v = l2_fv (fun _ _ => x) a (q % 64) c) : va_up (hp B σ) a (.inr (q / 64, fs.set (q % 64) v)) = hp B (l2_u σ a i x) := by
  obtain ⟨n, gs, he, hf, h1, h2, h3, h4⟩ := l2_fld h
  funext b
  unfold va_up
  by_cases hb : b = a
  · subst hb
    rw [if_pos rfl, hp_at he h1]
    rw [hp_at he h1] at hfs
    unfold l2_cell at hfs ⊢
    rw [if_neg (by simp; omega), if_neg (by simp; omega), if_neg (by simp; omega)] at hfs ⊢
    simp only [Nat.add_sub_cancel_left] at hfs ⊢
    have hfs := (Prod.mk.inj (Sum.inr.inj hfs)).2
    rw [← hfs]
    congr 2
    apply List.ext_getElem?
    intro j
    rw [List.getElem?_set, List.getElem?_mapIdx, List.getElem?_mapIdx, List.length_mapIdx]
    by_cases hj : q % 64 = j
    · subst hj
      rw [if_pos rfl, if_pos (by rw [h4]; exact h3), hf, hv]
      simp only [Option.map_some]
      unfold l2_fv l2_u
      rw [hi]
      simp
    · rw [if_neg hj]
      cases gs[j]? with
      | none => rfl
      | some d =>
        simp only [Option.map_some]
        unfold l2_fv l2_u
        have : ¬ ((j : Int) = i) := by omega
        simp [this]
  · rw [if_neg hb]
    unfold hp l2_cell l2_fv
    simp only [l2_u_ne hb]
theorem l2_arr {a n : Nat} (h : l2_al a = some n) : ∃ fs, l2_tab[a - 32]? = some (0, n, fs) ∧ 32 ≤ a ∧ a < 212 := by
  unfold l2_al at h
  split at h
  · rename_i t n' fs he
    split at h
    · rename_i hc
      obtain ⟨h1, rfl⟩ := hc
      cases h
      exact ⟨fs, he, h1, l2_lt he h1⟩
    · cases h
  · cases h
theorem hp_arr {B : va_E} {σ : l2_m} {a n : Nat} (h : l2_al a = some n) : hp B σ a = .inl (0, n, .inl (fun j => Int32.ofInt (σ a j))) ∧ 32 ≤ a ∧ a < 212 := by
  obtain ⟨fs, he, h1, h2⟩ := l2_arr h
  refine ⟨?_, h1, h2⟩
  rw [hp_at he h1]
  rfl
theorem hp_frame {B : va_E} {σ τ : l2_m} {b : Nat} (h : ∀ j, τ b j = σ b j) : hp B τ b = hp B σ b := by
  unfold hp l2_cell l2_fv
  simp only [h]
theorem hp_ast {B : va_E} {σ τ : l2_m} {a n : Nat} {f : Nat → Int32} (h : l2_al a = some n) (hf : ∀ b j, b ≠ a → τ b j = σ b j) (hg : ∀ j : Nat, f j = Int32.ofInt (τ a j)) : va_up (hp B σ) a (.inl (0, n, .inl f)) = hp B τ := by
  funext b
  unfold va_up
  by_cases hb : b = a
  · subst hb
    rw [if_pos rfl, (hp_arr h).1]
    congr 4
    funext j
    exact hg j
  · rw [if_neg hb]
    exact (hp_frame (fun j => hf b j hb)).symm
theorem l2_clf {a c : Nat} (h : l2_cl a = some c) : ∃ n fs, l2_tab[a - 32]? = some (10 + c, n, fs) ∧ 32 ≤ a ∧ a < 212 := by
  unfold l2_cl at h
  split at h
  · rename_i t n fs he
    split at h
    · rename_i hc
      obtain ⟨h1, h2⟩ := hc
      cases h
      exact ⟨n, fs, by rw [he]; simp only [Option.some.injEq, Prod.mk.injEq, and_true]; omega, h1, l2_lt he h1⟩
    · cases h
  · cases h
theorem hp_cl {B : va_E} {σ : l2_m} {a c : Nat} (h : l2_cl a = some c) : (∃ fs, hp B σ a = .inr (c, fs)) ∧ 32 ≤ a ∧ a < 212 := by
  obtain ⟨n, fs, he, h1, h2⟩ := l2_clf h
  refine ⟨⟨fs.mapIdx (fun j c => l2_fv σ a j c), ?_⟩, h1, h2⟩
  rw [hp_at he h1]
  unfold l2_cell
  rw [if_neg (by simp; omega), if_neg (by simp; omega), if_neg (by simp; omega)]
  simp
/-! ints -/
theorem rg_to {x : Int} (h : rg x) : (Int32.ofInt x).toInt = x := Int32.toInt_ofInt_of_le h.1 h.2
theorem rg_lt {x y : Int} (hx : rg x) (hy : rg y) : Int32.ofInt x < Int32.ofInt y ↔ x < y := by rw [Int32.lt_iff_toInt_lt, rg_to hx, rg_to hy]
theorem rg_le {x y : Int} (hx : rg x) (hy : rg y) : Int32.ofInt x ≤ Int32.ofInt y ↔ x ≤ y := by rw [Int32.le_iff_toInt_le, rg_to hx, rg_to hy]
theorem rg_eq {x y : Int} (hx : rg x) (hy : rg y) : Int32.ofInt x = Int32.ofInt y ↔ x = y := by rw [← Int32.toInt_inj, rg_to hx, rg_to hy]
theorem rg_nat {x : Int} (h : rg x) : (Int32.ofInt x).toNatClampNeg = x.toNat := Int32.toNatClampNeg_ofInt_of_le h.1 h.2
theorem rg_in {i : Int} {n : Nat} (h0 : 0 ≤ i) (h1 : i < n) (hn : n < 2147483648) : ¬ (Int32.ofInt i < 0 ∨ n ≤ (Int32.ofInt i).toNatClampNeg) ∧ (Int32.ofInt i).toNatClampNeg = i.toNat := by
  have hr : rg i := ⟨by omega, by omega⟩
  rw [rg_nat hr]
  refine ⟨?_, rfl⟩
  rintro (h | h)
  · have := (rg_lt hr (y := 0) (by decide)).mp h
    omega
  · omega
theorem l2_small {a n : Nat} (h : l2_al a = some n) : n < 2147483648 := by
  obtain ⟨fs, he, -, -⟩ := l2_arr h
  have hm := List.mem_of_getElem? he
  have : l2_tab.all (fun q => decide (q.2.1 < 2147483648)) = true := by decide +kernel
  simpa using List.all_eq_true.mp this _ hm
theorem i_div {a b : Int} (ha : 0 ≤ a) (hb : 0 < b) (ra : rg a) (rb : rg b) : Int32.ofInt a / Int32.ofInt b = Int32.ofInt (a / b) := by
  have h := @Int32.ofInt_tdiv a b (by show (-2147483648 : Int) ≤ a; omega) (by show a ≤ (2147483647 : Int); omega) (by show (-2147483648 : Int) ≤ b; omega) (by show b ≤ (2147483647 : Int); omega)
  rw [← h, Int.tdiv_eq_ediv_of_nonneg ha]
theorem i_rem {a b : Int} (ra : rg a) (rb : rg b) : Int32.ofInt a - Int32.ofInt a / Int32.ofInt b * Int32.ofInt b = Int32.ofInt (a.tmod b) := by
  have h := @Int32.ofInt_tdiv a b (by show (-2147483648 : Int) ≤ a; omega) (by show a ≤ (2147483647 : Int); omega) (by show (-2147483648 : Int) ≤ b; omega) (by show b ≤ (2147483647 : Int); omega)
  rw [← h, ← Int32.ofInt_mul, ← Int32.ofInt_sub, Int.tmod_def, Int.mul_comm]
theorem i_amt : ∀ s : Nat, s < 32 → ((Int32.ofInt (s : Int)) &&& 31).toBitVec.smod 32 = BitVec.ofNat 32 s := by decide +kernel
theorem i_two : ∀ s : Nat, s < 32 → BitVec.twoPow 32 s = BitVec.ofInt 32 (2 ^ (s : Int).toNat) := by decide +kernel
theorem i_shl {a s : Int} (h0 : 0 ≤ s) (h1 : s < 32) : Int32.ofInt a <<< (Int32.ofInt s &&& 31) = Int32.ofInt (a * 2 ^ s.toNat) := by
  obtain ⟨n, rfl⟩ := Int.eq_ofNat_of_zero_le h0
  have hn : n < 32 := by omega
  apply Int32.toBitVec.inj
  show (Int32.ofInt a).toBitVec <<< ((Int32.ofInt (n : Int) &&& 31).toBitVec.smod 32) = _
  rw [i_amt n hn, BitVec.shiftLeft_eq']
  show BitVec.ofInt 32 a <<< _ = BitVec.ofInt 32 _
  rw [BitVec.ofInt_mul, BitVec.shiftLeft_eq_mul_twoPow, BitVec.toNat_ofNat, Nat.mod_eq_of_lt (by omega)]
  congr 1
  exact i_two n hn
theorem i_shr {a s : Int} (ha : rg a) (h0 : 0 ≤ s) (h1 : s < 32) : Int32.ofInt a >>> (Int32.ofInt s &&& 31) = Int32.ofInt (a / 2 ^ s.toNat) := by
  obtain ⟨n, rfl⟩ := Int.eq_ofNat_of_zero_le h0
  have hn : n < 32 := by omega
  apply Int32.toInt.inj
  show (BitVec.sshiftRight' (Int32.ofInt a).toBitVec ((Int32.ofInt (n : Int) &&& 31).toBitVec.smod 32)).toInt = _
  rw [i_amt n hn, BitVec.sshiftRight_eq', BitVec.toInt_sshiftRight, BitVec.toNat_ofNat, Nat.mod_eq_of_lt (by omega), Int.shiftRight_eq_div_pow]
  have e : (Int32.ofInt a).toBitVec.toInt = a := rg_to ha
  rw [e, rg_to]
  · simp
  · have h2 : (0 : Int) < 2 ^ n := Int.pow_pos (by decide)
    show rg (a / 2 ^ ((n : Int).toNat))
    rw [Int.toNat_natCast]
    generalize (2 : Int) ^ n = m at h2
    exact ⟨Int.le_ediv_of_mul_le h2 (by omega), Int.ediv_lt_of_lt_mul h2 (by omega)⟩
theorem i_and {a : Int} {j w : Nat} (hw : 2 ^ j = w) (hj : j < 32) : Int32.ofInt a &&& Int32.ofInt ((w : Int) - 1) = Int32.ofInt (a % (w : Int)) := by
  apply Int32.toBitVec.inj
  apply BitVec.eq_of_toNat_eq
  rw [Int32.toBitVec_and, BitVec.toNat_and]
  show (BitVec.ofInt 32 a).toNat &&& (BitVec.ofInt 32 ((w : Int) - 1)).toNat = (BitVec.ofInt 32 (a % (w : Int))).toNat
  rw [BitVec.toNat_ofInt, BitVec.toNat_ofInt, BitVec.toNat_ofInt]
  have hw1 : 1 ≤ w := by rw [← hw]; exact Nat.one_le_two_pow
  have hd : (w : Nat) ∣ 2 ^ 32 := by rw [← hw]; exact Nat.pow_dvd_pow 2 (by omega)
  have hw2 : w ≤ 2 ^ 32 := Nat.le_of_dvd (by decide) hd
  have e1 : (((w : Int) - 1) % ((2 ^ 32 : Nat) : Int)).toNat = w - 1 := by
    rw [Int.emod_eq_of_lt (by omega) (by omega)]; omega
  rw [e1]
  have e2 : (a % ((2 ^ 32 : Nat) : Int)).toNat &&& (w - 1) = (a % ((2 ^ 32 : Nat) : Int)).toNat % w := by
    rw [← hw]; exact Nat.and_two_pow_sub_one_eq_mod _ _
  rw [e2]
  have h0 : (0 : Int) ≤ a % (w : Int) := Int.emod_nonneg _ (by omega)
  have h1 : a % (w : Int) < (w : Int) := Int.emod_lt_of_pos _ (by omega)
  rw [Int.emod_eq_of_lt h0 (by omega)]
  have h3 : (0 : Int) ≤ a % ((2 ^ 32 : Nat) : Int) := Int.emod_nonneg _ (by decide)
  have h4 : a % ((2 ^ 32 : Nat) : Int) % (w : Int) = a % (w : Int) := Int.emod_emod_of_dvd _ (Int.natCast_dvd_natCast.mpr hd)
  apply Int.ofNat.inj
  show ((((a % ((2 ^ 32 : Nat) : Int)).toNat % w : Nat)) : Int) = (((a % (w : Int)).toNat : Nat) : Int)
  rw [Int.natCast_emod, Int.toNat_of_nonneg h3, Int.toNat_of_nonneg h0, h4]
theorem i_nat {x : Int} (h0 : 0 ≤ x) : (Int32.ofInt x).toBitVec = BitVec.ofNat 32 x.toNat := by
  obtain ⟨n, rfl⟩ := Int.eq_ofNat_of_zero_le h0
  show BitVec.ofInt 32 (n : Int) = _
  rw [BitVec.ofInt_natCast]; rfl
theorem i_andn {a b : Int} (ha : 0 ≤ a) (hb : 0 ≤ b) (h1 : a < 2147483648) (h2 : b < 2147483648) : Int32.ofInt a &&& Int32.ofInt b = Int32.ofInt ((a.toNat &&& b.toNat : Nat) : Int) := by
  apply Int32.toBitVec.inj
  rw [Int32.toBitVec_and, i_nat ha, i_nat hb, i_nat (Int.natCast_nonneg _), Int.toNat_natCast, BitVec.ofNat_and]
theorem i_orn {a b : Int} (ha : 0 ≤ a) (hb : 0 ≤ b) (h1 : a < 2147483648) (h2 : b < 2147483648) : Int32.ofInt a ||| Int32.ofInt b = Int32.ofInt ((a.toNat ||| b.toNat : Nat) : Int) := by
  apply Int32.toBitVec.inj
  rw [Int32.toBitVec_or, i_nat ha, i_nat hb, i_nat (Int.natCast_nonneg _), Int.toNat_natCast, BitVec.ofNat_or]
