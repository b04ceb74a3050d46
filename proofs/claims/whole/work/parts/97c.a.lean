/-! ===== rings out of their laws ===== -/
def crL {P : Type} (ad mu : P → P → P) (ng : P → P) (o e : P) : Prop := (∀ a, ad a o = a) ∧ (∀ a b, ad a b = ad b a) ∧ (∀ a b c, ad (ad a b) c = ad a (ad b c)) ∧ (∀ a, ad (ng a) a = o) ∧ (∀ a b c, mu (mu a b) c = mu a (mu b c)) ∧ (∀ a b, mu a b = mu b a) ∧ (∀ a, mu a e = a) ∧ (∀ a b c, mu a (ad b c) = ad (mu a b) (mu a c))
section CL
variable {P : Type} {ad mu : P → P → P} {ng : P → P} {o e : P}
theorem crL_can (h : crL ad mu ng o e) {a b c : P} (w : ad a b = ad a c) : b = c := by
  obtain ⟨h1, h2, h3, h4, h5, h6, h7, h8⟩ := h
  have : ad (ng a) (ad a b) = ad (ng a) (ad a c) := by rw [w]
  rw [← h3, ← h3, h4, h2 o b, h2 o c, h1, h1] at this
  exact this
theorem crL_m0 (h : crL ad mu ng o e) (a : P) : mu a o = o := by
  have h' := h
  obtain ⟨h1, h2, h3, h4, h5, h6, h7, h8⟩ := h
  have : ad (mu a o) (mu a o) = ad (mu a o) o := by rw [← h8, h1, h1]
  exact crL_can h' this
theorem crL_n0 (h : crL ad mu ng o e) : ng o = o := by
  obtain ⟨h1, h2, h3, h4, h5, h6, h7, h8⟩ := h
  have := h4 o
  rw [h1] at this
  exact this
theorem crL_nn (h : crL ad mu ng o e) (a : P) : ng (ng a) = a := by
  have h' := h
  obtain ⟨h1, h2, h3, h4, h5, h6, h7, h8⟩ := h
  refine crL_can h' (a := ng a) ?_
  rw [h4, h2, h4]
theorem crL_nm (h : crL ad mu ng o e) (a b : P) : mu (ng a) b = ng (mu a b) := by
  have h' := h
  have m0 := crL_m0 h b
  obtain ⟨h1, h2, h3, h4, h5, h6, h7, h8⟩ := h
  refine crL_can h' (a := mu a b) ?_
  rw [h2 (mu a b) (ng (mu a b)), h4, h6 a b, h6 (ng a) b, ← h8, h2 a (ng a), h4, m0]
end CL
def natR {P : Type} (ad : P → P → P) (o e : P) : Nat → P
  | 0 => o
  | 1 => e
  | n + 2 => ad (natR ad o e (n + 1)) e
def powR {P : Type} (mu : P → P → P) (e a : P) : Nat → P
  | 0 => e
  | n + 1 => mu (powR mu e a n) a
def intR {P : Type} (ad : P → P → P) (ng : P → P) (o e : P) : Int → P
  | .ofNat n => natR ad o e n
  | .negSucc n => ng (natR ad o e (n + 1))
theorem natR_s {P : Type} {ad mu : P → P → P} {ng : P → P} {o e : P} (h : crL ad mu ng o e) : ∀ n, natR ad o e (n + 1) = ad (natR ad o e n) e
  | 0 => by
    show e = ad o e
    rw [h.2.1 o e, h.1]
  | n + 1 => rfl
theorem intR_n {P : Type} {ad mu : P → P → P} {ng : P → P} {o e : P} (h : crL ad mu ng o e) : ∀ i : Int, intR ad ng o e (-i) = ng (intR ad ng o e i)
  | .ofNat 0 => (crL_n0 h).symm
  | .ofNat (n + 1) => rfl
  | .negSucc n => (crL_nn h _).symm
def mkCR {P : Type} (ad mu : P → P → P) (ng : P → P) (o e : P) (h : crL ad mu ng o e) : Lean.Grind.CommRing P :=
  { add := ad, mul := mu, neg := ng, sub := fun a b => ad a (ng b)
    natCast := ⟨natR ad o e⟩
    ofNat := fun n => ⟨natR ad o e n⟩
    nsmul := ⟨fun n a => mu (natR ad o e n) a⟩
    npow := ⟨fun a n => powR mu e a n⟩
    intCast := ⟨intR ad ng o e⟩
    zsmul := ⟨fun i a => mu (intR ad ng o e i) a⟩
    add_zero := h.1
    add_comm := h.2.1
    add_assoc := h.2.2.1
    mul_assoc := h.2.2.2.2.1
    mul_comm := h.2.2.2.2.2.1
    mul_one := h.2.2.2.2.2.2.1
    one_mul := fun a => (h.2.2.2.2.2.1 e a).trans (h.2.2.2.2.2.2.1 a)
    left_distrib := h.2.2.2.2.2.2.2
    right_distrib := fun a b c => by
      show mu (ad a b) c = ad (mu a c) (mu b c)
      rw [h.2.2.2.2.2.1 (ad a b) c, h.2.2.2.2.2.2.2, h.2.2.2.2.2.1 c a, h.2.2.2.2.2.1 c b]
    zero_mul := fun a => (h.2.2.2.2.2.1 o a).trans (crL_m0 h a)
    mul_zero := crL_m0 h
    pow_zero := fun _ => rfl
    pow_succ := fun _ _ => rfl
    ofNat_succ := natR_s h
    ofNat_eq_natCast := fun _ => rfl
    nsmul_eq_natCast_mul := fun _ _ => rfl
    neg_add_cancel := h.2.2.2.1
    sub_eq_add_neg := fun _ _ => rfl
    neg_zsmul := fun i a => by
      show mu (intR ad ng o e (-i)) a = ng (mu (intR ad ng o e i) a)
      rw [intR_n h, crL_nm h]
    zsmul_natCast_eq_nsmul := fun _ _ => rfl
    intCast_ofNat := fun _ => rfl
    intCast_neg := intR_n h }
/-! polynomials over a ring -/
abbrev plE (S : Type) (z : S) : Type := { f : Nat → S // ∃ n, ∀ i, n ≤ i → f i = z }
def cvl {S : Type} (ad mu : S → S → S) (f g : Nat → S) : Nat → S
  | 0 => mu (f 0) (g 0)
  | n + 1 => ad (mu (f 0) (g (n + 1))) (cvl ad mu (fun i => f (i + 1)) g n)
theorem cvl_0 {S : Type} [Lean.Grind.CommRing S] (f g : Nat → S) : cvl (· + ·) (· * ·) f g 0 = f 0 * g 0 := rfl
theorem cvl_s {S : Type} [Lean.Grind.CommRing S] (f g : Nat → S) (n : Nat) : cvl (· + ·) (· * ·) f g (n + 1) = f 0 * g (n + 1) + cvl (· + ·) (· * ·) (fun i => f (i + 1)) g n := rfl
theorem cvl_r {S : Type} [Lean.Grind.CommRing S] : ∀ (n : Nat) (f g : Nat → S), cvl (· + ·) (· * ·) f g (n + 1) = cvl (· + ·) (· * ·) f (fun i => g (i + 1)) n + f (n + 1) * g 0
  | 0, f, g => by
    rw [cvl_s, cvl_0, cvl_0]
  | n + 1, f, g => by
    rw [cvl_s, cvl_r n, cvl_s]
    grind
theorem cvl_c {S : Type} [Lean.Grind.CommRing S] : ∀ (n : Nat) (f g : Nat → S), cvl (· + ·) (· * ·) f g n = cvl (· + ·) (· * ·) g f n
  | 0, f, g => by rw [cvl_0, cvl_0]; grind
  | n + 1, f, g => by
    rw [cvl_s, cvl_r n g f, cvl_c n]
    grind
theorem cvl_d {S : Type} [Lean.Grind.CommRing S] : ∀ (n : Nat) (f f' g : Nat → S), cvl (· + ·) (· * ·) (fun i => f i + f' i) g n = cvl (· + ·) (· * ·) f g n + cvl (· + ·) (· * ·) f' g n
  | 0, f, f', g => by rw [cvl_0, cvl_0, cvl_0]; grind
  | n + 1, f, f', g => by
    rw [cvl_s, cvl_s, cvl_s, cvl_d n]
    grind
theorem cvl_k {S : Type} [Lean.Grind.CommRing S] : ∀ (n : Nat) (s : S) (f g : Nat → S), cvl (· + ·) (· * ·) (fun i => s * f i) g n = s * cvl (· + ·) (· * ·) f g n
  | 0, s, f, g => by rw [cvl_0, cvl_0]; grind
  | n + 1, s, f, g => by
    rw [cvl_s, cvl_s, cvl_k n]
    grind
theorem cvl_a {S : Type} [Lean.Grind.CommRing S] : ∀ (n : Nat) (f g h : Nat → S), cvl (· + ·) (· * ·) (cvl (· + ·) (· * ·) f g) h n = cvl (· + ·) (· * ·) f (cvl (· + ·) (· * ·) g h) n
  | 0, f, g, h => by rw [cvl_0, cvl_0, cvl_0, cvl_0]; grind
  | n + 1, f, g, h => by
    rw [cvl_s, cvl_s, cvl_s]
    have e : (fun i => cvl (· + ·) (· * ·) f g (i + 1)) = (fun i => (fun i => f 0 * g (i + 1)) i + cvl (· + ·) (· * ·) (fun i => f (i + 1)) g i) := funext (fun i => cvl_s f g i)
    rw [e, cvl_d, cvl_k n (f 0) (fun i => g (i + 1)) h, cvl_a n, cvl_0]
    grind
theorem cvl_z {S : Type} [Lean.Grind.CommRing S] : ∀ (n : Nat) (f g : Nat → S), (∀ i, f i = 0) → cvl (· + ·) (· * ·) f g n = 0
  | 0, f, g, h => by rw [cvl_0, h 0]; grind
  | n + 1, f, g, h => by
    rw [cvl_s, cvl_z n _ g (fun i => h (i + 1)), h 0]
    grind
theorem cvl_1 {S : Type} [Lean.Grind.CommRing S] (n : Nat) (f g : Nat → S) (s : S) (h0 : f 0 = s) (h : ∀ i, f (i + 1) = 0) : cvl (· + ·) (· * ·) f g n = s * g n := by
  cases n with
  | zero => rw [cvl_0, h0]
  | succ n =>
    rw [cvl_s, cvl_z n _ g h, h0]
    grind
theorem cvl_x {S : Type} [Lean.Grind.CommRing S] (n : Nat) (f g : Nat → S) (h0 : f 0 = 0) (h1 : f 1 = 1) (h : ∀ i, f (i + 2) = 0) : cvl (· + ·) (· * ·) f g (n + 1) = g n := by
  rw [cvl_s, cvl_1 n (fun i => f (i + 1)) g 1 h1 h, h0]
  grind
theorem cvl_b {S : Type} [Lean.Grind.CommRing S] : ∀ (m n : Nat) (f g : Nat → S), (∀ i, m ≤ i → f i = 0) → (∀ i, n ≤ i → g i = 0) → ∀ i, m + n ≤ i → cvl (· + ·) (· * ·) f g i = 0
  | 0, n, f, g, hf, hg, i, hi => cvl_z i f g (fun j => hf j (Nat.zero_le j))
  | m + 1, n, f, g, hf, hg, 0, hi => absurd hi (by omega)
  | m + 1, n, f, g, hf, hg, i + 1, hi => by
    rw [cvl_s, cvl_b m n _ g (fun j hj => hf (j + 1) (by omega)) hg i (by omega), hg (i + 1) (by omega)]
    grind
abbrev PolT (S : Type) (i : Lean.Grind.CommRing S) : Type := plE S 0
section PR0
variable {S : Type} (i : Lean.Grind.CommRing S)
def pAdd (a b : PolT S i) : PolT S i := ⟨fun n => a.1 n + b.1 n, by
  obtain ⟨m, hm⟩ := a.2
  obtain ⟨k, hk⟩ := b.2
  exact ⟨m + k, fun j hj => by show a.1 j + b.1 j = 0; rw [hm j (by omega), hk j (by omega)]; grind⟩⟩
def pMul (a b : PolT S i) : PolT S i := ⟨cvl (· + ·) (· * ·) a.1 b.1, by
  obtain ⟨m, hm⟩ := a.2
  obtain ⟨k, hk⟩ := b.2
  exact ⟨m + k, cvl_b m k a.1 b.1 hm hk⟩⟩
def pNeg (a : PolT S i) : PolT S i := ⟨fun n => - a.1 n, by
  obtain ⟨m, hm⟩ := a.2
  exact ⟨m, fun j hj => by show - a.1 j = 0; rw [hm j hj]; grind⟩⟩
def pCst (s : S) : PolT S i := ⟨fun n => if n = 0 then s else 0, ⟨1, fun j hj => if_neg (by omega)⟩⟩
def pX : PolT S i := ⟨fun n => if n = 1 then 1 else 0, ⟨2, fun j hj => if_neg (by omega)⟩⟩
theorem pExt {a b : PolT S i} (h : ∀ n, a.1 n = b.1 n) : a = b := Subtype.ext (funext h)
theorem pLaw : crL (pAdd i) (pMul i) (pNeg i) (pCst i 0) (pCst i 1) := by
  refine ⟨fun a => ?_, fun a b => ?_, fun a b c => ?_, fun a => ?_, fun a b c => ?_, fun a b => ?_, fun a => ?_, fun a b c => ?_⟩
  · refine pExt i (fun n => ?_)
    show a.1 n + (if n = 0 then 0 else 0) = a.1 n
    split <;> grind
  · refine pExt i (fun n => ?_)
    show a.1 n + b.1 n = b.1 n + a.1 n
    grind
  · refine pExt i (fun n => ?_)
    show a.1 n + b.1 n + c.1 n = a.1 n + (b.1 n + c.1 n)
    grind
  · refine pExt i (fun n => ?_)
    show - a.1 n + a.1 n = (if n = 0 then 0 else 0)
    split <;> grind
  · exact pExt i (fun n => cvl_a n a.1 b.1 c.1)
  · exact pExt i (fun n => cvl_c n a.1 b.1)
  · refine pExt i (fun n => ?_)
    show cvl (· + ·) (· * ·) a.1 (pCst i 1).1 n = a.1 n
    rw [cvl_c, cvl_1 n _ _ 1 rfl (fun j => rfl)]
    grind
  · refine pExt i (fun n => ?_)
    show cvl (· + ·) (· * ·) a.1 (fun n => b.1 n + c.1 n) n = cvl (· + ·) (· * ·) a.1 b.1 n + cvl (· + ·) (· * ·) a.1 c.1 n
    rw [cvl_c, cvl_d, cvl_c n b.1, cvl_c n c.1]
def polR : Lean.Grind.CommRing (PolT S i) := mkCR (pAdd i) (pMul i) (pNeg i) (pCst i 0) (pCst i 1) (pLaw i)
end PR0
/-- a ring is the polynomials over another one -/
def IsPol {S P : Type} [Lean.Grind.CommRing S] [Lean.Grind.CommRing P] (c : P → Nat → S) (k : S → P) (X : P) : Prop := (∀ a b : P, (∀ i, c a i = c b i) → a = b) ∧ (∀ (a b : P) (i : Nat), c (a + b) i = c a i + c b i) ∧ (∀ (s : S) (a : P) (i : Nat), c (k s * a) i = s * c a i) ∧ (∀ a : P, c (X * a) 0 = 0) ∧ (∀ (a : P) (i : Nat), c (X * a) (i + 1) = c a i) ∧ (∀ i : Nat, c 1 (i + 1) = 0) ∧ c 1 0 = 1 ∧ (∀ a : P, ∃ n, ∀ i, n ≤ i → c a i = 0)
theorem pol_ok {S : Type} (i : Lean.Grind.CommRing S) : @IsPol S (PolT S i) i (polR i) (fun a n => a.1 n) (pCst i) (pX i) := by
  refine ⟨fun a b h => pExt i h, fun a b n => rfl, fun s a n => ?_, fun a => ?_, fun a n => ?_, fun n => rfl, rfl, fun a => a.2⟩
  · exact cvl_1 n (pCst i s).1 a.1 s rfl (fun j => rfl)
  · show (pX i).1 0 * a.1 0 = 0
    show (0 : S) * a.1 0 = 0
    grind
  · exact cvl_x n (pX i).1 a.1 rfl rfl (fun j => rfl)
