/-! ===== Commons: what two rows have in common at an element ===== -/
def ulr (σ : l2_m) (U V : Nat) : Prop := σ 109 15 = (U : Int) ∧ σ 109 16 = (V : Int) ∧ ((U = 126 ∧ V = 127) ∨ (U = 127 ∧ V = 126))
theorem ulr_f {σ : l2_m} {U V : Nat} (h : ulr σ U V) : l2_al U = some 16 ∧ l2_al V = some 16 ∧ 113 < U ∧ 113 < V ∧ U ≠ V ∧ (U = 126 ∨ U = 127) ∧ (V = 126 ∨ V = 127) ∧ Int.toNat (σ 109 15) = U ∧ Int.toNat (σ 109 16) = V := by
  obtain ⟨h1, h2, h3⟩ := h
  rw [h1, h2, Int.toNat_natCast, Int.toNat_natCast]
  rcases h3 with ⟨rfl, rfl⟩ | ⟨rfl, rfl⟩
  · exact ⟨rfl, rfl, by decide, by decide, by decide, Or.inl rfl, Or.inr rfl, rfl, rfl⟩
  · exact ⟨rfl, rfl, by decide, by decide, by decide, Or.inr rfl, Or.inl rfl, rfl, rfl⟩
def frc (σ τ : l2_m) : Prop := ∀ b j, b ≠ 126 → b ≠ 127 → ¬ (b = 109 ∧ (j = 15 ∨ j = 16)) → τ b j = σ b j
theorem c36l {L Q : Type} [Lean.Grind.Field L] [Lean.Grind.CommRing Q] {cq : Q → Nat → L} {kq : L → Q} {Z : Q} (HQ : IsPol cq kq Z) {B : va_E} {σ : l2_m} {K : Int → l2_m → Prop} {cd : L → Int} (C : isCk σ cd) {U V : Nat} (hUV : ulr σ U V) {r o : Q} {n m : Nat} (hn : n < 16) (hm : m < 16) (hr : cpw cq cd (σ U) 16 r) (ho : cpw cq cd (σ V) 16 o) (dr : isDg cq r n) (dO : isDg cq o m) (hK : ∀ (τ : l2_m) (U V : Nat) (D : Q) (t : Nat), frc σ τ → ulr τ U V → cpw cq cd (τ U) 16 D → isDg cq D t → t < 16 → (∀ e, dv e D ↔ (dv e r ∧ dv e o)) → K (t : Int) τ) : w36_69 B σ (n : Int) (m : Int) 0 K := by
  unfold w36_69
  refine lz4_inv (fun (x4 x5 x6 : Int) s => 0 ≤ x6 ∧ (x4 < x5 → x6 + 2 * x5 + 1 ≤ 64) ∧ (¬ x4 < x5 → x6 + 2 * x5 + 2 ≤ 64) ∧ frc σ s ∧ ∃ (U V : Nat) (r' o' : Q), ulr s U V ∧ cpw cq cd (s U) 16 r' ∧ cpw cq cd (s V) 16 o' ∧ (-1 ≤ x4 ∧ x4 < 16 ∧ (x4 < 0 → r' = 0) ∧ (0 ≤ x4 → isDg cq r' x4.toNat)) ∧ (-1 ≤ x5 ∧ x5 < 16 ∧ (x5 < 0 → o' = 0) ∧ (0 ≤ x5 → isDg cq o' x5.toNat)) ∧ ∀ d, (dv d r' ∧ dv d o') ↔ (dv d r ∧ dv d o)) (fun _ _ x6 _ => 65 - x6) ?_ ⟨by decide, fun w => by omega, fun w => by omega, fun _ _ _ _ _ => rfl, U, V, r, o, hUV, hr, ho, ⟨by omega, by omega, fun w => by omega, fun _ => by rw [Int.toNat_natCast]; exact dr⟩, ⟨by omega, by omega, fun w => by omega, fun _ => by rw [Int.toNat_natCast]; exact dO⟩, fun d => Iff.rfl⟩
  intro X x4 x5 x6 s hX ⟨a0, a1, a2, fs, U, V, r', o', hu, h1, h2, T4, T5, hd⟩
  obtain ⟨aU, aV, gU, gV, nUV, iU, iV, tU, tV⟩ := ulr_f hu
  refine ⟨⟨by omega, by omega⟩, fun _ => ⟨by omega, by omega⟩, ?_⟩
  by_cases hx : x5 < 0
  · rw [if_pos (Or.inr hx)]
    have o0 := T5.2.2.1 hx
    have hd' : ∀ d, dv d r' ↔ (dv d r ∧ dv d o) := fun d => by
      rw [← hd d, o0]
      exact ⟨fun w => ⟨w, dv_0 d⟩, fun w => w.1⟩
    have x40 : 0 ≤ x4 := by
      rcases Int.lt_or_le x4 0 with w | w
      · have h3 := (hd' r').mp (dv_refl r')
        rw [T4.2.2.1 w] at h3
        exact absurd (dv_z h3.1) (isDg_nz HQ dr)
      · exact w
    obtain ⟨t, rfl⟩ : ∃ t : Nat, x4 = (t : Int) := ⟨x4.toNat, by omega⟩
    have h4 := T4.2.2.2 x40
    rw [Int.toNat_natCast] at h4
    exact hK s U V r' t fs hu h1 h4 (by omega) hd'
  · rw [if_neg (by omega)]
    refine ⟨⟨by omega, by omega⟩, ?_⟩
    by_cases hs : x4 < x5
    · rw [if_pos hs, tU, tV]
      refine ⟨⟨aU, aV⟩, ?_⟩
      intro s1 es1 s2 es2
      have e1 : ∀ b j, ¬ (b = 109 ∧ (j = 15 ∨ j = 16)) → s2 b j = s b j := fun b j w => by
        rw [es2, es1]
        unfold l2_u
        rw [if_neg (fun h => w ⟨h.1, Or.inr h.2⟩), if_neg (fun h => w ⟨h.1, Or.inl h.2⟩)]
      have u2 : ulr s2 V U := by
        refine ⟨?_, ?_, ?_⟩
        · rw [es2, l2_u_nj (by decide), es1, l2_u_self]
        · rw [es2, l2_u_self]
        · rcases hu.2.2 with w | w
          · exact Or.inr ⟨w.2, w.1⟩
          · exact Or.inl ⟨w.2, w.1⟩
      refine hX _ _ _ s2 ⟨by omega, fun w => by omega, fun w => by omega, fun b j w w' w'' => by rw [e1 b j w'']; exact fs b j w w' w'', V, U, o', r', u2, cpw_cg h2 (fun i _ => e1 V i (fun w => by omega)), cpw_cg h1 (fun i _ => e1 U i (fun w => by omega)), T5, T4, fun d => ?_⟩ (by omega)
      rw [← hd d]; exact ⟨fun w => ⟨w.2, w.1⟩, fun w => ⟨w.2, w.1⟩⟩
    · rw [if_neg hs]
      obtain ⟨m, rfl⟩ : ∃ m : Nat, x4 = (m : Int) := ⟨x4.toNat, by omega⟩
      obtain ⟨t, rfl⟩ : ∃ t : Nat, x5 = (t : Int) := ⟨x5.toNat, by omega⟩
      have D4 := T4.2.2.2 (by omega)
      have D5 := T5.2.2.2 (by omega)
      rw [Int.toNat_natCast] at D4 D5
      have Cs : isCk s cd := isCk_cg C (fun b j b0 b1 => fs b j (by omega) (by omega) (fun w => by omega))
      refine c38 HQ Cs aU aV gU nUV hu.1 hu.2.1 h1 h2 (by omega) (by omega) D4.2 D5 (fun y τ q f g y0 y1 y2 y3 => ?_)
      refine hX _ _ _ τ ⟨by omega, fun w => by omega, fun w => by omega, fun b j w w' w'' => by rw [f b j (by omega)]; exact fs b j w w' w'', U, V, r' + q * o', o', ⟨by rw [f 109 15 (by omega)]; exact hu.1, by rw [f 109 16 (by omega)]; exact hu.2.1, hu.2.2⟩, g, cpw_cg h2 (fun i _ => f V i (fun w => nUV w.symm)), ⟨y0, by omega, y2, y3⟩, T5, fun d => ?_⟩ (by omega)
      rw [← hd d]
      refine ⟨fun w => ⟨?_, w.2⟩, fun w => ⟨dv_add w.1 (dv_mul q w.2), w.2⟩⟩
      have h3 := dv_sub w.1 (dv_mul q w.2)
      have e : r' + q * o' - q * o' = r' := by grind
      rw [e] at h3; exact h3
theorem c36 {K1 L R RL A Q : Type} [Lean.Grind.Field K1] [Lean.Grind.Field L] [Lean.Grind.CommRing R] [Lean.Grind.CommRing RL] [Lean.Grind.CommRing A] [Lean.Grind.CommRing Q] {c1 : R → Nat → K1} {k1 : K1 → R} {Y : R} (H1 : IsPol c1 k1 Y) {c2 : A → Nat → R} {k2 : R → A} {X : A} (H2 : IsPol c2 k2 X) {d1 : RL → Nat → L} {j1 : L → RL} {W : RL} (HL : IsPol d1 j1 W) {cq : Q → Nat → L} {kq : L → Q} {Z : Q} (HQ : IsPol cq kq Z) {B : va_E} {σ : l2_m} {K : Int → l2_m → Prop} {p : Int} {em : Int → K1} {φ : K1 → L} {cd : L → Int} (F : isFi p em φ cd σ) {U V : Nat} (hUV : ulr σ U V) {f g : A} {n m : Nat} (hf : gpw c1 c2 em p (σ 114) f) (hg : gpw c1 c2 em p (σ 115) g) (yf : hlt c1 c2 f 16) (yg : hlt c1 c2 g 16) (hn : isDg c2 f n) (hm : isDg c2 g m) (α : L) (hK0 : ∀ (τ : l2_m) (U V : Nat), frc σ τ → ulr τ U V → (evx c1 d1 j1 W φ α (c2 f n) = 0 ∨ evx c1 d1 j1 W φ α (c2 g m) = 0) → K (-1) τ) (hK : ∀ (τ : l2_m) (U V : Nat) (D : Q) (t : Nat), frc σ τ → ulr τ U V → cpw cq cd (τ U) 16 D → isDg cq D t → t < 16 → evx c1 d1 j1 W φ α (c2 f n) ≠ 0 → evx c1 d1 j1 W φ α (c2 g m) ≠ 0 → (∀ e, dv e D ↔ (dv e (cmf c2 cq (evx c1 d1 j1 W φ α) f) ∧ dv e (cmf c2 cq (evx c1 d1 j1 W φ α) g))) → K (t : Int) τ) : wC B 36 [vr 109, vi (cd α), vi (n : Int), vi (m : Int)] σ K := by
  obtain ⟨aU, aV, gU, gV, nUV, iU, iV, tU, tV⟩ := ulr_f hUV
  have hη := evx_hom H1 HL F.2.1 α
  have n16 := isDg_lt hn (gpw_d H1 hf)
  have m16 := isDg_lt hm (gpw_d H1 hg)
  refine o36 ?_
  unfold w36
  rw [tU]
  refine ⟨aU, ?_⟩
  refine c37g H1 H2 HL HQ F rfl aU (by omega) gU hf yf α (fun s1 f1 r1 => ?_)
  have F1 := isFi_cg F (τ := s1) (fun b j _ _ => f1 b j (by omega))
  have u1 : ulr s1 U V := ⟨by rw [f1 109 15 (by omega)]; exact hUV.1, by rw [f1 109 16 (by omega)]; exact hUV.2.1, hUV.2.2⟩
  obtain ⟨-, -, -, -, -, -, -, tU1, tV1⟩ := ulr_f u1
  rw [tV1]
  refine ⟨aV, ?_⟩
  refine c37g H1 H2 HL HQ F1 rfl aV (by omega) gV (gpw_cg hg (fun n _ _ => f1 115 n (by omega))) yg α (fun s2 f2 r2 => ?_)
  have F2 := isFi_cg F1 (τ := s2) (fun b j _ _ => f2 b j (by omega))
  have u2 : ulr s2 U V := ⟨by rw [f2 109 15 (by omega)]; exact u1.1, by rw [f2 109 16 (by omega)]; exact u1.2.1, u1.2.2⟩
  obtain ⟨-, -, -, -, -, -, -, tU2, tV2⟩ := ulr_f u2
  have r1' : cpw cq cd (s2 U) 16 (cmf c2 cq (evx c1 d1 j1 W φ α) f) := cpw_cg r1 (fun i _ => f2 U i nUV)
  have fr : frc σ s2 := fun b j w w' _ => by rw [f2 b j (by omega), f1 b j (by omega)]
  obtain ⟨C0, C1, C2, C3, C4⟩ := id F2.2.2.1
  obtain ⟨k1', k2', k3, k4, k5, k6, k7⟩ := id C0
  rw [tU2, tV2, r1'.1 n n16, r2.1 m m16, cmp_c H2 HQ hη, cmp_c H2 HQ hη]
  have b1 := k6 (evx c1 d1 j1 W φ α (c2 f n))
  have b2 := k6 (evx c1 d1 j1 W φ α (c2 g m))
  refine ⟨⟨aU, by omega, by omega, ⟨by omega, by omega⟩, ⟨by omega, by omega⟩⟩, fun _ => ⟨aV, by omega, by omega, ⟨by omega, by omega⟩⟩, ?_⟩
  by_cases hz : evx c1 d1 j1 W φ α (c2 f n) = 0 ∨ evx c1 d1 j1 W φ α (c2 g m) = 0
  · rw [if_pos (by rw [k5, k5]; exact hz)]
    exact hK0 s2 U V fr u2 hz
  · rw [if_neg (by rw [k5, k5]; exact hz)]
    have z1 : evx c1 d1 j1 W φ α (c2 f n) ≠ 0 := fun w => hz (Or.inl w)
    have z2 : evx c1 d1 j1 W φ α (c2 g m) ≠ 0 := fun w => hz (Or.inr w)
    exact c36l HQ F2.2.2.1 u2 n16 m16 r1' r2 (cmp_dg H2 HQ hη hn z1) (cmp_dg H2 HQ hη hm z2) (fun τ U V D t g1 g2 g3 g4 g5 g6 => hK τ U V D t (fun b j w w' w'' => by rw [g1 b j w w' w'']; exact fr b j w w' w'') g2 g3 g4 g5 z1 z2 g6)
