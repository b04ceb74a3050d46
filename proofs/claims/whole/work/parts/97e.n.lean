/-! ===== Horner is evaluation ===== -/
theorem hnr_ev {L R : Type} [Lean.Grind.Field L] [Lean.Grind.CommRing R] {c : R → Nat → L} {k : L → R} {Y : R} (H : IsPol c k Y) (α : L) (v : Nat → L) (N : Nat) : ∀ (m : Nat) (r : R), m ≤ N → (∀ i, i < m → c r i = v (N - m + i)) → dlt c r m → hnr (fun a b => a + b) (fun a b => a * b) 0 v α N m = ev k Y α r
  | 0, r, _, _, hd => by
    rw [dlt_z H hd, ev_0 H]; rfl
  | m + 1, r, hm, hv, hd => by
    obtain ⟨r', h1, h2⟩ := po_mk H (fun i => c r (i + 1)) m
    have e : r = Y ^ 1 * r' + k (c r 0) := po_ext H (fun i => by
      rw [po_a H, po_ki H]
      cases i with
      | zero => rw [po_xl H _ _ _ (by omega), if_pos rfl]; grind
      | succ i =>
        rw [po_x H, if_neg (by omega)]
        by_cases hi : i < m
        · rw [h1 i hi]; grind
        · rw [h2 i (by omega), hd (i + 1) (by omega)]; grind)
    have e1 : Y ^ 1 = Y := by grind
    rw [e1] at e
    have ih := hnr_ev H α v N m r' (by omega) (fun i hi => by
      rw [h1 i hi, hv (i + 1) (by omega)]
      congr 1; omega) h2
    have h0 := hv 0 (by omega)
    rw [hnr_s, ih, e, ev_add H, ev_mul H, ev_Y H, ev_k H, h0, show N - (m + 1) + 0 = N - 1 - m by omega]
    grind
