/-! ===== what generated texts are made of ===== -/
def l2_okb (L : List Value) (j : Nat) : Bool := match j with
  | 0 => true
  | i + 1 => match L[i]? with
    | some v => v.category == 1
    | none => true
theorem l2_okb1 {L : List Value} {j : Nat} (h : l2_okb L j = true) : l2_ok1 L j := by
  cases j with
  | zero => trivial
  | succ i =>
    intro v hv
    unfold l2_okb at h
    dsimp only at h
    rw [hv] at h
    simpa using h
abbrev b2i (c : Prop) [Decidable c] : Int := if c then 1 else 0
theorem rg_b2i {c : Prop} [Decidable c] : rg (b2i c) := by unfold b2i; split <;> decide
theorem b2i_01 {c : Prop} [Decidable c] : b2i c = 0 ∨ b2i c = 1 := by unfold b2i; split <;> simp
theorem b2i_t {c : Prop} [Decidable c] (h : ¬ b2i c = 0) : c := by
  by_cases hc : c
  · exact hc
  · exact absurd (if_neg hc) h
theorem b2i_f {c : Prop} [Decidable c] (h : b2i c = 0) : ¬ c := fun hc => by rw [b2i, if_pos hc] at h; cases h
theorem rg_mod (a : Int) {m : Int} (h0 : 0 < m) (h1 : m < 2147483648) : rg (a % m) := by
  have := Int.emod_nonneg a (b := m) (by omega)
  have := Int.emod_lt_of_pos a h0
  exact ⟨by omega, by omega⟩
theorem rg_max {a b : Int} (ha : rg a) (hb : rg b) : rg (max a b) := by have := ha; have := hb; constructor <;> omega
theorem rg_min {a b : Int} (ha : rg a) (hb : rg b) : rg (min a b) := by have := ha; have := hb; constructor <;> omega
theorem rg_ite {c : Prop} [Decidable c] {a b : Int} (ha : rg a) (hb : rg b) : rg (if c then a else b) := by split <;> assumption
theorem ite_t {c : Prop} [Decidable c] {X Y : Prop} (hc : c) (h : if c then X else Y) : X := by rwa [if_pos hc] at h
theorem ite_f {c : Prop} [Decidable c] {X Y : Prop} (hc : ¬ c) (h : if c then X else Y) : Y := by rwa [if_neg hc] at h
theorem ite_mp {c : Prop} [Decidable c] {X Y X' Y' : Prop} (f : X' → X) (g : Y' → Y) (h : if c then X' else Y') : if c then X else Y := by
  by_cases hc : c
  · rw [if_pos hc] at h ⊢; exact f h
  · rw [if_neg hc] at h ⊢; exact g h
/-- a value that two ways give -/
theorem mg_v {c : Prop} [Decidable c] {J : Int → Prop} {a b : Int} {s t : Prop} (h : (c → s) ∧ (¬ c → t) ∧ J (if c then a else b)) : if c then s ∧ J a else t ∧ J b := by
  by_cases hc : c
  · rw [if_pos hc] at h ⊢; exact ⟨h.1 hc, h.2.2⟩
  · rw [if_neg hc] at h ⊢; exact ⟨h.2.1 hc, h.2.2⟩

theorem mg_1 {c d T E : Prop} [Decidable c] [Decidable d] (h : if c ∨ d then T else E) : if c then T else (if d then T else E) := by
  by_cases hc : c <;> by_cases hd : d <;> simp_all
theorem mg_1s {c d s T E : Prop} [Decidable c] [Decidable d] (h : (¬ c → s) ∧ if c ∨ d then T else E) : if c then T else (s ∧ if d then T else E) := by
  by_cases hc : c <;> by_cases hd : d <;> simp_all
theorem mg_2 {c d T E : Prop} [Decidable c] [Decidable d] (h : if c ∨ ¬ d then T else E) : if c then T else (if d then E else T) := by
  by_cases hc : c <;> by_cases hd : d <;> simp_all
theorem mg_2s {c d s T E : Prop} [Decidable c] [Decidable d] (h : (¬ c → s) ∧ if c ∨ ¬ d then T else E) : if c then T else (s ∧ if d then E else T) := by
  by_cases hc : c <;> by_cases hd : d <;> simp_all
theorem mg_3 {c d T E : Prop} [Decidable c] [Decidable d] (h : if c ∧ d then E else T) : if c then (if d then E else T) else T := by
  by_cases hc : c <;> by_cases hd : d <;> simp_all
theorem mg_3s {c d s T E : Prop} [Decidable c] [Decidable d] (h : (c → s) ∧ if c ∧ d then E else T) : if c then (s ∧ if d then E else T) else T := by
  by_cases hc : c <;> by_cases hd : d <;> simp_all
theorem mg_4 {c d T E : Prop} [Decidable c] [Decidable d] (h : if c ∧ ¬ d then E else T) : if c then (if d then T else E) else T := by
  by_cases hc : c <;> by_cases hd : d <;> simp_all
theorem mg_4s {c d s T E : Prop} [Decidable c] [Decidable d] (h : (c → s) ∧ if c ∧ ¬ d then E else T) : if c then (s ∧ if d then T else E) else T := by
  by_cases hc : c <;> by_cases hd : d <;> simp_all
def lz1 {A0 : Type} (F : (A0 → Prop) → A0 → Prop) (a0 : A0) : Prop := ∀ X : A0 → Prop, (∀ a0, F X a0 → X a0) → X a0
theorem lz1_inv {A0 : Type} {F : (A0 → Prop) → A0 → Prop} (I : A0 → Prop) (μ : A0 → Int) (h : ∀ (X : A0 → Prop) a0, (∀ a0', I a0' → (μ a0').toNat < (μ a0).toNat → X a0') → I a0 → F X a0) {a0 : A0} (h0 : I a0) : lz1 F a0 := by
  intro X hX
  have : ∀ (n : Nat) a0, I a0 → (μ a0).toNat = n → X a0 := by
    intro n
    induction n using Nat.strongRecOn with
    | ind n ih =>
      intro a0 hI hn
      exact hX a0 (h X a0 (fun a0' hI' hl => ih _ (by rw [← hn]; exact hl) a0' hI' rfl) hI)
  exact this _ a0 h0 rfl
def lz2 {A0 A1 : Type} (F : (A0 → A1 → Prop) → A0 → A1 → Prop) (a0 : A0) (a1 : A1) : Prop := ∀ X : A0 → A1 → Prop, (∀ a0 a1, F X a0 a1 → X a0 a1) → X a0 a1
theorem lz2_inv {A0 A1 : Type} {F : (A0 → A1 → Prop) → A0 → A1 → Prop} (I : A0 → A1 → Prop) (μ : A0 → A1 → Int) (h : ∀ (X : A0 → A1 → Prop) a0 a1, (∀ a0' a1', I a0' a1' → (μ a0' a1').toNat < (μ a0 a1).toNat → X a0' a1') → I a0 a1 → F X a0 a1) {a0 : A0} {a1 : A1} (h0 : I a0 a1) : lz2 F a0 a1 := by
  intro X hX
  have : ∀ (n : Nat) a0 a1, I a0 a1 → (μ a0 a1).toNat = n → X a0 a1 := by
    intro n
    induction n using Nat.strongRecOn with
    | ind n ih =>
      intro a0 a1 hI hn
      exact hX a0 a1 (h X a0 a1 (fun a0' a1' hI' hl => ih _ (by rw [← hn]; exact hl) a0' a1' hI' rfl) hI)
  exact this _ a0 a1 h0 rfl
def lz3 {A0 A1 A2 : Type} (F : (A0 → A1 → A2 → Prop) → A0 → A1 → A2 → Prop) (a0 : A0) (a1 : A1) (a2 : A2) : Prop := ∀ X : A0 → A1 → A2 → Prop, (∀ a0 a1 a2, F X a0 a1 a2 → X a0 a1 a2) → X a0 a1 a2
theorem lz3_inv {A0 A1 A2 : Type} {F : (A0 → A1 → A2 → Prop) → A0 → A1 → A2 → Prop} (I : A0 → A1 → A2 → Prop) (μ : A0 → A1 → A2 → Int) (h : ∀ (X : A0 → A1 → A2 → Prop) a0 a1 a2, (∀ a0' a1' a2', I a0' a1' a2' → (μ a0' a1' a2').toNat < (μ a0 a1 a2).toNat → X a0' a1' a2') → I a0 a1 a2 → F X a0 a1 a2) {a0 : A0} {a1 : A1} {a2 : A2} (h0 : I a0 a1 a2) : lz3 F a0 a1 a2 := by
  intro X hX
  have : ∀ (n : Nat) a0 a1 a2, I a0 a1 a2 → (μ a0 a1 a2).toNat = n → X a0 a1 a2 := by
    intro n
    induction n using Nat.strongRecOn with
    | ind n ih =>
      intro a0 a1 a2 hI hn
      exact hX a0 a1 a2 (h X a0 a1 a2 (fun a0' a1' a2' hI' hl => ih _ (by rw [← hn]; exact hl) a0' a1' a2' hI' rfl) hI)
  exact this _ a0 a1 a2 h0 rfl
def lz4 {A0 A1 A2 A3 : Type} (F : (A0 → A1 → A2 → A3 → Prop) → A0 → A1 → A2 → A3 → Prop) (a0 : A0) (a1 : A1) (a2 : A2) (a3 : A3) : Prop := ∀ X : A0 → A1 → A2 → A3 → Prop, (∀ a0 a1 a2 a3, F X a0 a1 a2 a3 → X a0 a1 a2 a3) → X a0 a1 a2 a3
theorem lz4_inv {A0 A1 A2 A3 : Type} {F : (A0 → A1 → A2 → A3 → Prop) → A0 → A1 → A2 → A3 → Prop} (I : A0 → A1 → A2 → A3 → Prop) (μ : A0 → A1 → A2 → A3 → Int) (h : ∀ (X : A0 → A1 → A2 → A3 → Prop) a0 a1 a2 a3, (∀ a0' a1' a2' a3', I a0' a1' a2' a3' → (μ a0' a1' a2' a3').toNat < (μ a0 a1 a2 a3).toNat → X a0' a1' a2' a3') → I a0 a1 a2 a3 → F X a0 a1 a2 a3) {a0 : A0} {a1 : A1} {a2 : A2} {a3 : A3} (h0 : I a0 a1 a2 a3) : lz4 F a0 a1 a2 a3 := by
  intro X hX
  have : ∀ (n : Nat) a0 a1 a2 a3, I a0 a1 a2 a3 → (μ a0 a1 a2 a3).toNat = n → X a0 a1 a2 a3 := by
    intro n
    induction n using Nat.strongRecOn with
    | ind n ih =>
      intro a0 a1 a2 a3 hI hn
      exact hX a0 a1 a2 a3 (h X a0 a1 a2 a3 (fun a0' a1' a2' a3' hI' hl => ih _ (by rw [← hn]; exact hl) a0' a1' a2' a3' hI' rfl) hI)
  exact this _ a0 a1 a2 a3 h0 rfl
def lz5 {A0 A1 A2 A3 A4 : Type} (F : (A0 → A1 → A2 → A3 → A4 → Prop) → A0 → A1 → A2 → A3 → A4 → Prop) (a0 : A0) (a1 : A1) (a2 : A2) (a3 : A3) (a4 : A4) : Prop := ∀ X : A0 → A1 → A2 → A3 → A4 → Prop, (∀ a0 a1 a2 a3 a4, F X a0 a1 a2 a3 a4 → X a0 a1 a2 a3 a4) → X a0 a1 a2 a3 a4
theorem lz5_inv {A0 A1 A2 A3 A4 : Type} {F : (A0 → A1 → A2 → A3 → A4 → Prop) → A0 → A1 → A2 → A3 → A4 → Prop} (I : A0 → A1 → A2 → A3 → A4 → Prop) (μ : A0 → A1 → A2 → A3 → A4 → Int) (h : ∀ (X : A0 → A1 → A2 → A3 → A4 → Prop) a0 a1 a2 a3 a4, (∀ a0' a1' a2' a3' a4', I a0' a1' a2' a3' a4' → (μ a0' a1' a2' a3' a4').toNat < (μ a0 a1 a2 a3 a4).toNat → X a0' a1' a2' a3' a4') → I a0 a1 a2 a3 a4 → F X a0 a1 a2 a3 a4) {a0 : A0} {a1 : A1} {a2 : A2} {a3 : A3} {a4 : A4} (h0 : I a0 a1 a2 a3 a4) : lz5 F a0 a1 a2 a3 a4 := by
  intro X hX
  have : ∀ (n : Nat) a0 a1 a2 a3 a4, I a0 a1 a2 a3 a4 → (μ a0 a1 a2 a3 a4).toNat = n → X a0 a1 a2 a3 a4 := by
    intro n
    induction n using Nat.strongRecOn with
    | ind n ih =>
      intro a0 a1 a2 a3 a4 hI hn
      exact hX a0 a1 a2 a3 a4 (h X a0 a1 a2 a3 a4 (fun a0' a1' a2' a3' a4' hI' hl => ih _ (by rw [← hn]; exact hl) a0' a1' a2' a3' a4' hI' rfl) hI)
  exact this _ a0 a1 a2 a3 a4 h0 rfl
def lz6 {A0 A1 A2 A3 A4 A5 : Type} (F : (A0 → A1 → A2 → A3 → A4 → A5 → Prop) → A0 → A1 → A2 → A3 → A4 → A5 → Prop) (a0 : A0) (a1 : A1) (a2 : A2) (a3 : A3) (a4 : A4) (a5 : A5) : Prop := ∀ X : A0 → A1 → A2 → A3 → A4 → A5 → Prop, (∀ a0 a1 a2 a3 a4 a5, F X a0 a1 a2 a3 a4 a5 → X a0 a1 a2 a3 a4 a5) → X a0 a1 a2 a3 a4 a5
theorem lz6_inv {A0 A1 A2 A3 A4 A5 : Type} {F : (A0 → A1 → A2 → A3 → A4 → A5 → Prop) → A0 → A1 → A2 → A3 → A4 → A5 → Prop} (I : A0 → A1 → A2 → A3 → A4 → A5 → Prop) (μ : A0 → A1 → A2 → A3 → A4 → A5 → Int) (h : ∀ (X : A0 → A1 → A2 → A3 → A4 → A5 → Prop) a0 a1 a2 a3 a4 a5, (∀ a0' a1' a2' a3' a4' a5', I a0' a1' a2' a3' a4' a5' → (μ a0' a1' a2' a3' a4' a5').toNat < (μ a0 a1 a2 a3 a4 a5).toNat → X a0' a1' a2' a3' a4' a5') → I a0 a1 a2 a3 a4 a5 → F X a0 a1 a2 a3 a4 a5) {a0 : A0} {a1 : A1} {a2 : A2} {a3 : A3} {a4 : A4} {a5 : A5} (h0 : I a0 a1 a2 a3 a4 a5) : lz6 F a0 a1 a2 a3 a4 a5 := by
  intro X hX
  have : ∀ (n : Nat) a0 a1 a2 a3 a4 a5, I a0 a1 a2 a3 a4 a5 → (μ a0 a1 a2 a3 a4 a5).toNat = n → X a0 a1 a2 a3 a4 a5 := by
    intro n
    induction n using Nat.strongRecOn with
    | ind n ih =>
      intro a0 a1 a2 a3 a4 a5 hI hn
      exact hX a0 a1 a2 a3 a4 a5 (h X a0 a1 a2 a3 a4 a5 (fun a0' a1' a2' a3' a4' a5' hI' hl => ih _ (by rw [← hn]; exact hl) a0' a1' a2' a3' a4' a5' hI' rfl) hI)
  exact this _ a0 a1 a2 a3 a4 a5 h0 rfl
def lz7 {A0 A1 A2 A3 A4 A5 A6 : Type} (F : (A0 → A1 → A2 → A3 → A4 → A5 → A6 → Prop) → A0 → A1 → A2 → A3 → A4 → A5 → A6 → Prop) (a0 : A0) (a1 : A1) (a2 : A2) (a3 : A3) (a4 : A4) (a5 : A5) (a6 : A6) : Prop := ∀ X : A0 → A1 → A2 → A3 → A4 → A5 → A6 → Prop, (∀ a0 a1 a2 a3 a4 a5 a6, F X a0 a1 a2 a3 a4 a5 a6 → X a0 a1 a2 a3 a4 a5 a6) → X a0 a1 a2 a3 a4 a5 a6
theorem lz7_inv {A0 A1 A2 A3 A4 A5 A6 : Type} {F : (A0 → A1 → A2 → A3 → A4 → A5 → A6 → Prop) → A0 → A1 → A2 → A3 → A4 → A5 → A6 → Prop} (I : A0 → A1 → A2 → A3 → A4 → A5 → A6 → Prop) (μ : A0 → A1 → A2 → A3 → A4 → A5 → A6 → Int) (h : ∀ (X : A0 → A1 → A2 → A3 → A4 → A5 → A6 → Prop) a0 a1 a2 a3 a4 a5 a6, (∀ a0' a1' a2' a3' a4' a5' a6', I a0' a1' a2' a3' a4' a5' a6' → (μ a0' a1' a2' a3' a4' a5' a6').toNat < (μ a0 a1 a2 a3 a4 a5 a6).toNat → X a0' a1' a2' a3' a4' a5' a6') → I a0 a1 a2 a3 a4 a5 a6 → F X a0 a1 a2 a3 a4 a5 a6) {a0 : A0} {a1 : A1} {a2 : A2} {a3 : A3} {a4 : A4} {a5 : A5} {a6 : A6} (h0 : I a0 a1 a2 a3 a4 a5 a6) : lz7 F a0 a1 a2 a3 a4 a5 a6 := by
  intro X hX
  have : ∀ (n : Nat) a0 a1 a2 a3 a4 a5 a6, I a0 a1 a2 a3 a4 a5 a6 → (μ a0 a1 a2 a3 a4 a5 a6).toNat = n → X a0 a1 a2 a3 a4 a5 a6 := by
    intro n
    induction n using Nat.strongRecOn with
    | ind n ih =>
      intro a0 a1 a2 a3 a4 a5 a6 hI hn
      exact hX a0 a1 a2 a3 a4 a5 a6 (h X a0 a1 a2 a3 a4 a5 a6 (fun a0' a1' a2' a3' a4' a5' a6' hI' hl => ih _ (by rw [← hn]; exact hl) a0' a1' a2' a3' a4' a5' a6' hI' rfl) hI)
  exact this _ a0 a1 a2 a3 a4 a5 a6 h0 rfl
def lz8 {A0 A1 A2 A3 A4 A5 A6 A7 : Type} (F : (A0 → A1 → A2 → A3 → A4 → A5 → A6 → A7 → Prop) → A0 → A1 → A2 → A3 → A4 → A5 → A6 → A7 → Prop) (a0 : A0) (a1 : A1) (a2 : A2) (a3 : A3) (a4 : A4) (a5 : A5) (a6 : A6) (a7 : A7) : Prop := ∀ X : A0 → A1 → A2 → A3 → A4 → A5 → A6 → A7 → Prop, (∀ a0 a1 a2 a3 a4 a5 a6 a7, F X a0 a1 a2 a3 a4 a5 a6 a7 → X a0 a1 a2 a3 a4 a5 a6 a7) → X a0 a1 a2 a3 a4 a5 a6 a7
theorem lz8_inv {A0 A1 A2 A3 A4 A5 A6 A7 : Type} {F : (A0 → A1 → A2 → A3 → A4 → A5 → A6 → A7 → Prop) → A0 → A1 → A2 → A3 → A4 → A5 → A6 → A7 → Prop} (I : A0 → A1 → A2 → A3 → A4 → A5 → A6 → A7 → Prop) (μ : A0 → A1 → A2 → A3 → A4 → A5 → A6 → A7 → Int) (h : ∀ (X : A0 → A1 → A2 → A3 → A4 → A5 → A6 → A7 → Prop) a0 a1 a2 a3 a4 a5 a6 a7, (∀ a0' a1' a2' a3' a4' a5' a6' a7', I a0' a1' a2' a3' a4' a5' a6' a7' → (μ a0' a1' a2' a3' a4' a5' a6' a7').toNat < (μ a0 a1 a2 a3 a4 a5 a6 a7).toNat → X a0' a1' a2' a3' a4' a5' a6' a7') → I a0 a1 a2 a3 a4 a5 a6 a7 → F X a0 a1 a2 a3 a4 a5 a6 a7) {a0 : A0} {a1 : A1} {a2 : A2} {a3 : A3} {a4 : A4} {a5 : A5} {a6 : A6} {a7 : A7} (h0 : I a0 a1 a2 a3 a4 a5 a6 a7) : lz8 F a0 a1 a2 a3 a4 a5 a6 a7 := by
  intro X hX
  have : ∀ (n : Nat) a0 a1 a2 a3 a4 a5 a6 a7, I a0 a1 a2 a3 a4 a5 a6 a7 → (μ a0 a1 a2 a3 a4 a5 a6 a7).toNat = n → X a0 a1 a2 a3 a4 a5 a6 a7 := by
    intro n
    induction n using Nat.strongRecOn with
    | ind n ih =>
      intro a0 a1 a2 a3 a4 a5 a6 a7 hI hn
      exact hX a0 a1 a2 a3 a4 a5 a6 a7 (h X a0 a1 a2 a3 a4 a5 a6 a7 (fun a0' a1' a2' a3' a4' a5' a6' a7' hI' hl => ih _ (by rw [← hn]; exact hl) a0' a1' a2' a3' a4' a5' a6' a7' hI' rfl) hI)
  exact this _ a0 a1 a2 a3 a4 a5 a6 a7 h0 rfl
def lz9 {A0 A1 A2 A3 A4 A5 A6 A7 A8 : Type} (F : (A0 → A1 → A2 → A3 → A4 → A5 → A6 → A7 → A8 → Prop) → A0 → A1 → A2 → A3 → A4 → A5 → A6 → A7 → A8 → Prop) (a0 : A0) (a1 : A1) (a2 : A2) (a3 : A3) (a4 : A4) (a5 : A5) (a6 : A6) (a7 : A7) (a8 : A8) : Prop := ∀ X : A0 → A1 → A2 → A3 → A4 → A5 → A6 → A7 → A8 → Prop, (∀ a0 a1 a2 a3 a4 a5 a6 a7 a8, F X a0 a1 a2 a3 a4 a5 a6 a7 a8 → X a0 a1 a2 a3 a4 a5 a6 a7 a8) → X a0 a1 a2 a3 a4 a5 a6 a7 a8
theorem lz9_inv {A0 A1 A2 A3 A4 A5 A6 A7 A8 : Type} {F : (A0 → A1 → A2 → A3 → A4 → A5 → A6 → A7 → A8 → Prop) → A0 → A1 → A2 → A3 → A4 → A5 → A6 → A7 → A8 → Prop} (I : A0 → A1 → A2 → A3 → A4 → A5 → A6 → A7 → A8 → Prop) (μ : A0 → A1 → A2 → A3 → A4 → A5 → A6 → A7 → A8 → Int) (h : ∀ (X : A0 → A1 → A2 → A3 → A4 → A5 → A6 → A7 → A8 → Prop) a0 a1 a2 a3 a4 a5 a6 a7 a8, (∀ a0' a1' a2' a3' a4' a5' a6' a7' a8', I a0' a1' a2' a3' a4' a5' a6' a7' a8' → (μ a0' a1' a2' a3' a4' a5' a6' a7' a8').toNat < (μ a0 a1 a2 a3 a4 a5 a6 a7 a8).toNat → X a0' a1' a2' a3' a4' a5' a6' a7' a8') → I a0 a1 a2 a3 a4 a5 a6 a7 a8 → F X a0 a1 a2 a3 a4 a5 a6 a7 a8) {a0 : A0} {a1 : A1} {a2 : A2} {a3 : A3} {a4 : A4} {a5 : A5} {a6 : A6} {a7 : A7} {a8 : A8} (h0 : I a0 a1 a2 a3 a4 a5 a6 a7 a8) : lz9 F a0 a1 a2 a3 a4 a5 a6 a7 a8 := by
  intro X hX
  have : ∀ (n : Nat) a0 a1 a2 a3 a4 a5 a6 a7 a8, I a0 a1 a2 a3 a4 a5 a6 a7 a8 → (μ a0 a1 a2 a3 a4 a5 a6 a7 a8).toNat = n → X a0 a1 a2 a3 a4 a5 a6 a7 a8 := by
    intro n
    induction n using Nat.strongRecOn with
    | ind n ih =>
      intro a0 a1 a2 a3 a4 a5 a6 a7 a8 hI hn
      exact hX a0 a1 a2 a3 a4 a5 a6 a7 a8 (h X a0 a1 a2 a3 a4 a5 a6 a7 a8 (fun a0' a1' a2' a3' a4' a5' a6' a7' a8' hI' hl => ih _ (by rw [← hn]; exact hl) a0' a1' a2' a3' a4' a5' a6' a7' a8' hI' rfl) hI)
  exact this _ a0 a1 a2 a3 a4 a5 a6 a7 a8 h0 rfl
/-! polynomials, moduli, orders -/
def isPb (o : Nat) : Bool := l2_cl o == some 7 && l2_fk o 448 == some (o + 1) && l2_fk o 449 == some (o + 2) && l2_fk o 450 == some 0 && l2_al (o + 1) == some 60 && l2_al (o + 2) == some 60
def isP (o : Nat) : Prop := isPb o = true
def isMb (o : Nat) : Bool := l2_cl o == some 5 && l2_fk o 320 == some 0 && l2_fk o 321 == some (o + 1) && l2_al (o + 1) == some 98
def isM (o : Nat) : Prop := isMb o = true
def isOb (o : Nat) : Bool := l2_cl o == some 6 && l2_fk o 384 == some 0 && l2_fk o 385 == some 0 && l2_fk o 386 == some 0 && l2_fk o 387 == some 0 && l2_fk o 388 == some (o + 1) && l2_al (o + 1) == some 3
def isO (o : Nat) : Prop := isOb o = true

theorem isP_c {o : Nat} (h : isP o) : l2_cl o = some 7 := by
  unfold isP isPb at h; simp only [Bool.and_eq_true, beq_iff_eq] at h; exact h.1.1.1.1.1
theorem isP_0 {o : Nat} (h : isP o) : l2_fk o 448 = some (o + 1) := by
  unfold isP isPb at h; simp only [Bool.and_eq_true, beq_iff_eq] at h; exact h.1.1.1.1.2
theorem isP_1 {o : Nat} (h : isP o) : l2_fk o 449 = some (o + 2) := by
  unfold isP isPb at h; simp only [Bool.and_eq_true, beq_iff_eq] at h; exact h.1.1.1.2
theorem isP_2 {o : Nat} (h : isP o) : l2_fk o 450 = some 0 := by
  unfold isP isPb at h; simp only [Bool.and_eq_true, beq_iff_eq] at h; exact h.1.1.2
theorem isP_m {o : Nat} (h : isP o) : l2_al (o + 1) = some 60 := by
  unfold isP isPb at h; simp only [Bool.and_eq_true, beq_iff_eq] at h; exact h.1.2
theorem isP_k {o : Nat} (h : isP o) : l2_al (o + 2) = some 60 := by
  unfold isP isPb at h; simp only [Bool.and_eq_true, beq_iff_eq] at h; exact h.2
theorem isM_c {o : Nat} (h : isM o) : l2_cl o = some 5 := by
  unfold isM isMb at h; simp only [Bool.and_eq_true, beq_iff_eq] at h; exact h.1.1.1
theorem isM_0 {o : Nat} (h : isM o) : l2_fk o 320 = some 0 := by
  unfold isM isMb at h; simp only [Bool.and_eq_true, beq_iff_eq] at h; exact h.1.1.2
theorem isM_1 {o : Nat} (h : isM o) : l2_fk o 321 = some (o + 1) := by
  unfold isM isMb at h; simp only [Bool.and_eq_true, beq_iff_eq] at h; exact h.1.2
theorem isM_m {o : Nat} (h : isM o) : l2_al (o + 1) = some 98 := by
  unfold isM isMb at h; simp only [Bool.and_eq_true, beq_iff_eq] at h; exact h.2
theorem isO_c {o : Nat} (h : isO o) : l2_cl o = some 6 := by
  unfold isO isOb at h; simp only [Bool.and_eq_true, beq_iff_eq] at h; exact h.1.1.1.1.1.1
theorem isO_0 {o : Nat} (h : isO o) : l2_fk o 384 = some 0 := by
  unfold isO isOb at h; simp only [Bool.and_eq_true, beq_iff_eq] at h; exact h.1.1.1.1.1.2
theorem isO_1 {o : Nat} (h : isO o) : l2_fk o 385 = some 0 := by
  unfold isO isOb at h; simp only [Bool.and_eq_true, beq_iff_eq] at h; exact h.1.1.1.1.2
theorem isO_2 {o : Nat} (h : isO o) : l2_fk o 386 = some 0 := by
  unfold isO isOb at h; simp only [Bool.and_eq_true, beq_iff_eq] at h; exact h.1.1.1.2
theorem isO_3 {o : Nat} (h : isO o) : l2_fk o 387 = some 0 := by
  unfold isO isOb at h; simp only [Bool.and_eq_true, beq_iff_eq] at h; exact h.1.1.2
theorem isO_4 {o : Nat} (h : isO o) : l2_fk o 388 = some (o + 1) := by
  unfold isO isOb at h; simp only [Bool.and_eq_true, beq_iff_eq] at h; exact h.1.2
theorem isO_m {o : Nat} (h : isO o) : l2_al (o + 1) = some 3 := by
  unfold isO isOb at h; simp only [Bool.and_eq_true, beq_iff_eq] at h; exact h.2
theorem l2_cl_lt {o c : Nat} (h : l2_cl o = some c) : 32 ≤ o ∧ o < 212 := by
  obtain ⟨n, fs, -, h1, h2⟩ := l2_clf h
  exact ⟨h1, h2⟩
theorem isP_row {a b m : Nat} {i : Int} (h : l2_pb a = some (b, m)) (h0 : 0 ≤ i) (h1 : i < (m : Int)) : isP (b + 3 * i.toNat) := by
  have key : ∀ a, a < 212 → ∀ q, l2_pb a = some q → ∀ j, j < q.2 → isPb (q.1 + 3 * j) = true := by
    intro a ha q hq
    unfold l2_pb at hq
    split at hq
    · cases hq; decide +kernel
    · split at hq
      · cases hq; decide +kernel
      · split at hq
        · cases hq; decide +kernel
        · split at hq
          · cases hq; decide +kernel
          · cases hq
  exact key a (l2_pbl h) (b, m) h i.toNat (by dsimp only; omega)
section RULES2
variable {B : va_E} {k pc n : Nat} {C : List (Instr × Nat)} {L st : List Value} {σ : l2_m} {Q : Int → l2_m → Prop}
theorem r_is {j : Nat} {x : Int32} (p : Nat) (hk : pm_code k = C) (hc : C[pc]? = some (.istore j, n)) (hp0 : pc + n = p) (hj : l2_okb L j = true) (hl : Nat.ble (j + 1) L.length = true) (h : wW B k p (L.set j (.int x)) st σ Q) : wW B k pc L (.int x :: st) σ Q := g_is p hk hc hp0 (l2_okb1 hj) (Nat.le_of_ble_eq_true hl) rfl h
theorem r_as {j : Nat} {x : Nat} (p : Nat) (hk : pm_code k = C) (hc : C[pc]? = some (.astore j, n)) (hp0 : pc + n = p) (hj : l2_okb L j = true) (hl : Nat.ble (j + 1) L.length = true) (h : wW B k p (L.set j (.ref x)) st σ Q) : wW B k pc L (.ref x :: st) σ Q := g_as p hk hc hp0 (l2_okb1 hj) (Nat.le_of_ble_eq_true hl) rfl h
theorem r_ii {j : Nat} {d x : Int} (p : Nat) (hk : pm_code k = C) (hc : C[pc]? = some (.iinc j d, n)) (hp0 : pc + n = p) (hj : l2_okb L j = true) (hx : L[j]? = some (vi x)) (h : wW B k p (L.set j (vi (x + d))) st σ Q) : wW B k pc L st σ Q := g_ii p hk hc hp0 (l2_okb1 hj) hx rfl h
theorem r_gfi {a q : Nat} (p : Nat) (j : Int) (hk : pm_code k = C) (hc : C[pc]? = some (.getfield q, n)) (hp0 : pc + n = p) (hf : l2_fk a q = some 0) (hj : ((q % 64 : Nat) : Int) = j) (h : wW B k p L (vi (σ a j) :: st) σ Q) : wW B k pc L (.ref a :: st) σ Q := g_gf p hk hc hp0 0 hf _ (by rw [← hj]; rfl) h
theorem r_gfl {a q : Nat} (p : Nat) (j : Int) (hk : pm_code k = C) (hc : C[pc]? = some (.getfield q, n)) (hp0 : pc + n = p) (hf : l2_fk a q = some 1) (hj : ((q % 64 : Nat) : Int) = j) (h : wW B k p L (vl (σ a j) :: st) σ Q) : wW B k pc L (.ref a :: st) σ Q := g_gf p hk hc hp0 1 hf _ (by rw [← hj]; rfl) h
theorem r_gf2 {a q : Nat} (p : Nat) (j : Int) (hk : pm_code k = C) (hc : C[pc]? = some (.getfield q, n)) (hp0 : pc + n = p) (hf : l2_fk a q = some 2) (hj : ((q % 64 : Nat) : Int) = j) (h : wW B k p L (.ref (σ a j).toNat :: st) σ Q) : wW B k pc L (.ref a :: st) σ Q := g_gf p hk hc hp0 2 hf _ (by rw [← hj]; rfl) h
theorem r_gfr {a q : Nat} (p c : Nat) (hk : pm_code k = C) (hc : C[pc]? = some (.getfield q, n)) (hp0 : pc + n = p) (hf : l2_fk a q = some c) (h3 : 3 ≤ c) (h : wW B k p L (.ref c :: st) σ Q) : wW B k pc L (.ref a :: st) σ Q := g_gf p hk hc hp0 c hf _ (by unfold l2_fv; rw [if_neg (by omega), if_neg (by omega), if_neg (by omega)]) h
end RULES2
