theorem isX_g {o c : Nat} (h : l2_cl o = some c) {d : Nat} : 3 ≤ o + (d + 1) := by have := (l2_cl_lt h).1; omega
theorem isX_g1 {o c : Nat} (h : l2_cl o = some c) : 3 ≤ o + 1 := by have := (l2_cl_lt h).1; omega
theorem rg_PR (a : Nat) (i : Int) : rg (l2_PR a i) := by
  unfold l2_PR
  generalize i.toNat = n
  have h1 : ∀ x ∈ ([2, 3, 5, 7, 11, 13, 17, 19, 23, 29, 31, 37, 41, 43, 47, 53, 59, 61, 67, 71, 73, 79, 83, 89, 97] : List Int), rg x := by decide
  have h2 : ∀ x ∈ ([17, 4, 32, 60, 18, 32, 20, 34, 27, 44, 38, 52, 48, 52, 55, 58, 62, 68, 77, 74, 78, 83, 104, 104, 104] : List Int), rg x := by decide
  have key : ∀ l : List Int, (∀ x ∈ l, rg x) → rg (l.getD n 0) := by
    intro l hl
    rw [List.getD_eq_getElem?_getD]
    cases h : l[n]? with
    | none => exact ⟨by decide, by decide⟩
    | some v => exact hl v (List.mem_of_getElem? h)
  split
  · exact key _ h1
  · exact key _ h2
def iand (a b : Int) : Int := ((a.toNat &&& b.toNat : Nat) : Int)
def ior (a b : Int) : Int := ((a.toNat ||| b.toNat : Nat) : Int)
/-- a byte out of an int -/
def byt (x : Int) : Int := (x + 128) % 256 - 128
theorem byt_rg (x : Int) : -128 ≤ byt x ∧ byt x < 128 := by unfold byt; omega
section RULES3
variable {B : va_E} {k pc n : Nat} {C : List (Instr × Nat)} {L st : List Value} {σ : l2_m} {Q : Int → l2_m → Prop}
theorem r_shlk {a s : Int} (w : Int) (p : Nat) (hk : pm_code k = C) (hc : C[pc]? = some (.ishl, n)) (hp0 : pc + n = p) (h0 : 0 ≤ s) (h1 : s < 32) (hw : (2 : Int) ^ s.toNat = w) (h : wW B k p L (vi (a * w) :: st) σ Q) : wW B k pc L (vi s :: vi a :: st) σ Q := g_shl p hk hc hp0 h0 h1 (by rw [hw]; exact h)
theorem r_shrk {a s : Int} (w : Int) (p : Nat) (hk : pm_code k = C) (hc : C[pc]? = some (.ishr, n)) (hp0 : pc + n = p) (ra : rg a) (h0 : 0 ≤ s) (h1 : s < 32) (hw : (2 : Int) ^ s.toNat = w) (h : wW B k p L (vi (a / w) :: st) σ Q) : wW B k pc L (vi s :: vi a :: st) σ Q := g_shr p hk hc hp0 ra h0 h1 (by rw [hw]; exact h)
theorem r_andk {a b : Int} (w : Int) (j p : Nat) (hk : pm_code k = C) (hc : C[pc]? = some (.iand, n)) (hp0 : pc + n = p) (hb : b = w - 1) (hw : ((2 ^ j : Nat) : Int) = w) (hj : j < 32) (h : wW B k p L (vi (a % w) :: st) σ Q) : wW B k pc L (vi b :: vi a :: st) σ Q := by
  subst hw
  exact g_andk (2 ^ j) j p hk hc hp0 hb rfl hj h
theorem l2_byt (x : Int) : (Int32.ofInt x).toInt8.toInt32 = Int32.ofInt (byt x) := by
  apply Int32.toInt.inj
  rw [Int8.toInt_toInt32, rg_to ⟨by have := byt_rg x; omega, by have := byt_rg x; omega⟩]
  rw [Int32.toInt_toInt8, Int32.toInt_ofInt]
  unfold byt
  have e : Int32.size = 4294967296 := rfl
  rw [e]
  simp only [Int.bmod_def]
  split <;> split <;> omega
theorem g_i2b {a : Int} (p : Nat) (hk : pm_code k = C) (hc : C[pc]? = some (.i2b, n)) (hp0 : pc + n = p) (h : wW B k p L (vi (byt a) :: st) σ Q) : wW B k pc L (vi a :: st) σ Q := by
  subst hp0
  exact g_go hk hc rfl rfl (by intro h; cases h) (fun M hM => by simp only [pm_step, l2_byt]) h
end RULES3
