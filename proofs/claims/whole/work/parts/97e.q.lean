/-! ===== codes of a field's elements ===== -/
def isCo {L : Type} [Lean.Grind.Field L] (z : Int) (S : Int → Int) (m1 : Int) (cd : L → Int) : Prop := (∀ a b : L, fmul z (cd a) (cd b) = cd (a * b)) ∧ (∀ a b : L, fadd z S (cd a) (cd b) = cd (a + b)) ∧ (∀ a : L, finv z (cd a) = cd a⁻¹) ∧ (∀ a : L, fmul z (cd a) m1 = cd (-a)) ∧ (∀ a : L, cd a = z ↔ a = 0) ∧ (∀ a : L, 0 ≤ cd a ∧ cd a ≤ z) ∧ ∀ a b : L, cd a = cd b → a = b
theorem isCo_gE {p : Int} (hp : isPr p) {σ : l2_m} (hF : FOK hp σ) : @isCo (gE p) (gFd hp) (σ 110 7) (σ 112) (σ 110 5) (cod hp) := by
  have h12 := hF.2.2.2.2.2.2.1
  rw [hF.2.2.2.2.1, hF.2.2.1]
  exact ⟨fun a b => cod_mul hp a b, fun a b => cod_add hp h12 a b, fun a => cod_inv hp a, fun a => cod_neg hp a, fun a => cod_z hp, fun a => cod_b hp a, fun a b w => cod_inj hp w⟩
