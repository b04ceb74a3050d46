/-! ===== Commons in the invariant; acts with scratch on both sides ===== -/
def comF (τ : l2_m) : Prop := (∃ U V : Nat, ulr τ U V) ∧ rg (τ 110 3) ∧ ∀ (p : Int) (hp : isPr p), τ 110 3 = p → FOK hp τ
theorem cgm_at {σ : l2_m} {b : Nat} {j : Int} (h : 109 ≤ b ∧ b ≤ 113) : cgm σ b j = σ b j := if_pos h
theorem comF_in {σ : l2_m} (h : comF (cgm σ)) : (∃ U V : Nat, ulr σ U V) ∧ rg (σ 110 3) ∧ ∀ (p : Int) (hp : isPr p), σ 110 3 = p → FOK hp σ := by
  obtain ⟨⟨U, V, h1, h2, h3⟩, h4, h5⟩ := h
  have e3 : cgm σ 110 3 = σ 110 3 := cgm_at (by decide)
  refine ⟨⟨U, V, (cgm_at (by decide)).symm.trans h1, (cgm_at (by decide)).symm.trans h2, h3⟩, by rw [← e3]; exact h4, fun p hp w => FOK_cg (h5 p hp (e3.trans w)) (fun b j b0 b1 => (cgm_at (by omega)).symm)⟩
theorem comF_out {σ : l2_m} (h1 : ∃ U V : Nat, ulr σ U V) (h2 : rg (σ 110 3)) (h3 : ∀ (p : Int) (hp : isPr p), σ 110 3 = p → FOK hp σ) : comF (cgm σ) := by
  obtain ⟨U, V, u1, u2, u3⟩ := h1
  have e3 : cgm σ 110 3 = σ 110 3 := cgm_at (by decide)
  exact ⟨⟨U, V, (cgm_at (by decide)).trans u1, (cgm_at (by decide)).trans u2, u3⟩, by rw [e3]; exact h2, fun p hp w => FOK_cg (h3 p hp (e3.symm.trans w)) (fun b j b0 b1 => cgm_at (by omega))⟩
theorem CI_com {F : l2_m → Prop} {σ τ A : l2_m} (h : CI F σ A) (t : ∀ b j, (b < 109 ∨ 127 < b) → τ b j = σ b j) (hF : F (cgm τ)) : CI F τ A := by
  obtain ⟨⟨B1, B2, B3, B4, B5, B6⟩, hD, hN, ⟨H1, H2, H3, H4⟩, hdo, hz, -⟩ := h
  refine ⟨⟨by rw [t 32 1 (by omega)]; exact B1, by rw [t 32 2 (by omega)]; exact B2, by rw [t 32 3 (by omega)]; exact B3, by rw [t 32 4 (by omega)]; exact B4, by rw [t 32 5 (by omega)]; exact B5, fun i x0 x1 => by rw [t 33 i (by omega)]; exact B6 i x0 x1⟩, fun z => ?_, fun z => ?_, ⟨by rw [t 128 5 (by omega)]; exact H1, by rw [t 128 5 (by omega)]; exact H2, by rw [t 128 6 (by omega)]; exact H3, fun i x0 x1 => ?_⟩, ?_, by rw [t 41 2 (by omega)]; exact hz, hF⟩
  · obtain ⟨D1, D2, D3, D4, D5, D6, D7, D8⟩ := hD z
    rw [t 34 0 (by omega), t 36 0 (by omega), t 36 1 (by omega), t 36 2 (by omega), t 36 3 (by omega)]
    exact ⟨D1, fun x x0 x1 => by rw [t (34 + 1) x (by omega)]; exact D2 x x0 x1, D3, D4, D5, D6, fun u u0 u1 => by rw [t 37 u (by omega)]; exact D7 u u0 u1, fun r r0 r1 => PR_congr (D8 r r0 r1) (t _ _ (by omega)) (fun j _ _ => t _ _ (by omega)) (fun j _ _ => t _ _ (by omega))⟩
  · obtain ⟨N1, N2⟩ := hN z
    exact ⟨by rw [t 34 0 (by omega)]; exact N1, fun r r0 r1 => by rw [t _ _ (by omega)]; exact N2 r r0 r1⟩
  · have es : hsl τ A i = hsl σ A i := by unfold hsl; rw [t 128 5 (by omega)]
    obtain ⟨c1', c2', c3'⟩ := H4 i x0 x1
    rw [es, t 129 _ (by omega), t 130 _ (by omega), t 131 _ (by omega), t 132 _ (by omega)]
    exact ⟨c1', c2', fun z => PR_congr (c3' z) (t _ _ (by omega)) (fun j _ _ => t _ _ (by omega)) (fun j _ _ => t _ _ (by omega))⟩
  · unfold dvO
    rw [t 74 3 (by omega), t 74 4 (by omega)]; exact hdo
def RefG (B : va_E) (σ : l2_m) (kr : Nat) (as : List Value) (k : Int) (G : l2_m → Prop) : Prop := ∀ (τ : l2_m) (Q : Int → l2_m → Prop), (∀ b j, 186 ≤ b → τ b j = σ b j) → (∀ s : l2_m, (∀ b j, (b < 204 ∨ 210 < b) → b ≠ 192 → ¬ (b = 186 ∧ (j = 29 ∨ j = 0)) → s b j = τ b j) → G s → wC B 240 [vr 186, vi k] s Q) → wC B kr as τ Q
/-- the class's things of Commons put into a memory -/
def cput (σ1 σ : l2_m) : l2_m := fun b j => if 109 ≤ b ∧ b ≤ 127 then σ1 b j else σ b j
theorem cput_o {σ1 σ : l2_m} {b : Nat} {j : Int} (h : b < 109 ∨ 127 < b) : cput σ1 σ b j = σ b j := if_neg (by omega)
theorem cput_i {σ1 σ : l2_m} {b : Nat} {j : Int} (h : 109 ≤ b ∧ b ≤ 127) : cput σ1 σ b j = σ1 b j := if_pos h
theorem cput_C {σ σ1 : l2_m} (hC : CI comF σ σ) (hR : RWF σ) (hF : comF (cgm σ1)) : CI comF (cput σ1 σ) (cput σ1 σ) ∧ RWF (cput σ1 σ) ∧ ordA (cput σ1 σ) = ordA σ := by
  have hR' : RWF (cput σ1 σ) := RWF_cg hR (fun b j z _ => cput_o (by unfold prs at z; omega)) (by rw [cput_o (by omega)]; exact hR.2.2.2.1) (by rw [cput_o (by omega)]; exact hR.2.2.2.2.1)
  have eF : cgm (cput σ1 σ) = cgm σ1 := cgm_eq (fun b j z1 z2 => cput_i (by omega))
  have h1 : CI comF (cput σ1 σ) σ := CI_com hC (fun b j z => cput_o z) (by rw [eF]; exact hF)
  refine ⟨?_, hR', by unfold ordA; rw [cput_o (by omega), cput_o (by omega), cput_o (by omega)]⟩
  refine CI_cg h1 (fun _ _ _ => rfl) h1.2.2.2.2.1 (fun b j z _ => cput_o (by unfold prs at z; omega)) ?_ ?_
  · rw [h1.1.2.1, cput_o (by omega)]
  · rw [h1.1.2.2.2.1, cput_o (by omega)]
theorem com_fr {σ σ1 : l2_m} (hC : CI comF σ σ) (t : ∀ b j, (b < 109 ∨ 127 < b) → b ≠ 44 → b ≠ 159 → b ≠ 160 → b ≠ 161 → σ1 b j = σ b j) : ∀ b j, b ≠ 44 → b ≠ 159 → b ≠ 160 → b ≠ 161 → σ1 b j = cput σ1 σ b j := fun b j z1 z2 z3 z4 => by
  by_cases hb : 109 ≤ b ∧ b ≤ 127
  · rw [cput_i hb]
  · rw [cput_o (by omega)]; exact t b j (by omega) z1 z2 z3 z4
theorem com_yes {B : va_E} {σ σ1 : l2_m} {k : Int} {h : Int → Int} {kr : Nat} {as : List Value} {G : l2_m → Prop} (hC : CI comF σ σ) (hR : RWF σ) (ht : σ 186 14 = 1) (hk : 0 ≤ k ∧ k < 8) (t : ∀ b j, (b < 109 ∨ 127 < b) → b ≠ 44 → b ≠ 159 → b ≠ 160 → b ≠ 161 → σ1 b j = σ b j) (hF : comF (cgm σ1)) (hh : PR σ1 159 (ordA σ) h) (hm : ∀ j : Int, 0 ≤ j → j < 4096 → 0 ≤ h j ∧ h j < σ 186 5) (hA : RefG B σ kr as k G) (hG : ∀ s, G s → s 186 29 = 1 ∧ ∀ j : Int, 0 ≤ j → j < 4096 → s 192 j = h j) : wC B 164 [vr 32, vr 159, vi k] σ1 (fun y τ => wC B kr as τ (fun z υ => y = z ∧ CI comF υ υ ∧ RWF υ)) := by
  obtain ⟨hC', hR', eo⟩ := cput_C hC hR hF
  obtain ⟨f1, f2, f3⟩ := fr159 hC' (com_fr hC t)
  refine lay_c hC' hR' (by rw [cput_o (by omega)]; exact ht) hk.1 hk.2 f1 f2 f3 (by rw [eo]; exact hh) ?_
  intro τ kt hL h60
  refine hA τ _ (fun b j z => (kt b j z).trans (cput_o (by omega))) ?_
  intro s v1 v2
  obtain ⟨g1, g2⟩ := hG s v2
  refine lay_r hR' (by rw [cput_o (by omega)]; exact ht) hk.1 hk.2 hL (fun b j z1 z2 z3 z4 => ?_) (fun b j z => ?_) g1 g2 (by rw [cput_o (by omega)]; exact hm) h60
  · rw [v1 b j (by omega) (by omega) (by omega)]; exact kt b j z1
  · exact v1 b j (by omega) (by omega) (by omega)
theorem com_no {B : va_E} {σ σ1 : l2_m} {k : Int} {kr : Nat} {as : List Value} {G : l2_m → Prop} (hC : CI comF σ σ) (hR : RWF σ) (ht : σ 186 14 = 1) (hk : 0 ≤ k ∧ k < 8) (t : ∀ b j, (b < 109 ∨ 127 < b) → b ≠ 44 → b ≠ 159 → b ≠ 160 → b ≠ 161 → σ1 b j = σ b j) (hF : comF (cgm σ1)) (hA : RefG B σ kr as k G) (hG : ∀ s, G s → (s 186 29 = 0 ∨ s 186 29 = 1) ∧ (∀ j : Int, 0 ≤ j → j < 4096 → 0 ≤ s 192 j ∧ s 192 j < 97) ∧ (s 186 29 = 0 ∨ 60 < cnt (s 192) 4096)) (τ : l2_m) (et : τ = trb σ1 3) : wC B kr as τ (fun z υ => -1 = z ∧ CI comF υ υ ∧ RWF υ) := by
  obtain ⟨hC', hR', eo⟩ := cput_C hC hR hF
  obtain ⟨f1, f2, f3⟩ := fr159 hC' (com_fr hC t)
  have kt : ∀ b j, 186 ≤ b → τ b j = σ b j := fun b j z => by rw [et, trb_at, if_neg (by omega), if_neg (by omega)]; exact (f2 b j z).trans (cput_o (by omega))
  refine hA τ _ kt ?_
  intro s v1 v2
  obtain ⟨g1, g2, g3⟩ := hG s v2
  refine lay_n (σ1 := σ1) (τ := τ) (υ := l2_u τ 186 0 0) hC' hR' (by rw [cput_o (by omega)]; exact ht) hk.1 hk.2 (fun b j z => ?_) f3 et rfl (fun b j z => ?_) g1 g2 g3
  · rcases z with z | z
    · exact f1 b j (Or.inl z)
    · exact f2 b j (by unfold prs at z; omega)
  · rw [v1 b j (by unfold prs at z; omega) (by unfold prs at z; omega) (by unfold prs at z; omega)]
    unfold l2_u
    rw [if_neg (by unfold prs at z; omega)]
theorem ct_uniq {K1 R A : Type} [Lean.Grind.Field K1] [Lean.Grind.CommRing R] [Lean.Grind.CommRing A] {c1 : R → Nat → K1} {k1 : K1 → R} {Y : R} (H1 : IsPol c1 k1 Y) {c2 : A → Nat → R} {a : A} {d e : R} (hd : isCt c2 a d) (he : isCt c2 a e) (md : isMo c1 d) (me : isMo c1 e) : d = e := by
  obtain ⟨y, ey⟩ := he.2 d hd.1
  obtain ⟨z, ez⟩ := hd.2 e he.1
  rcases md with w | ⟨t, t1, t2⟩
  · rw [w]; rw [w] at ey; rw [ey]; grind
  · have y0 : y ≠ 0 := fun w => isDg_nz H1 t1 (by rw [ez, ey, w]; grind)
    have e0 : e ≠ 0 := fun w => isDg_nz H1 t1 (by rw [ez, w]; grind)
    have z0 : z ≠ 0 := fun w => isDg_nz H1 t1 (by rw [ez, w]; grind)
    rcases me with w | ⟨s, s1, s2⟩
    · exact absurd w e0
    · obtain ⟨m, hm⟩ := po_dg H1 y0
      obtain ⟨l, hl⟩ := po_dg H1 z0
      have h1 := isDg_mul H1 fld_dom t1 hm
      rw [← ey] at h1
      have h2 := isDg_u h1 s1
      have h3 := isDg_mul H1 fld_dom s1 hl
      rw [← ez] at h3
      have h4 := isDg_u h3 t1
      have m0 : m = 0 := by omega
      rw [m0] at hm
      have ts : s = t + 0 := by omega
      have h5 := po_lead H1 t1.2 hm.2
      rw [← ey, ← ts, s2, t2] at h5
      have ey1 : y = 1 := by
        have : y = k1 (c1 y 0) := po_ext H1 (fun i => by
          rw [po_ki H1]
          by_cases hi : i = 0
          · rw [if_pos hi, hi]
          · rw [if_neg hi]; exact hm.2 i (by omega))
        rw [this, show c1 y 0 = 1 by rw [h5]; grind]; exact po_kone H1
      rw [ey, ey1]; grind
