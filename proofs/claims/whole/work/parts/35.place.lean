/-! ===== an edge's place in a rotation ===== -/
theorem X1_edgeAt {G : Gr} (hW : WF G) {tu : Nat → Int32} (h : ∀ v k, v < 9 → k < (gR G v).length → tu (8 * v + k) = nI ((gR G v).getD k 0)) (N v k : Nat) (hv : v < 9) (hk : k < (gR G v).length) : f_X1_edgeAt N tu (nI v) (nI k) = some (nI ((gR G v).getD k 0)) := by
  have h8 := WF_deg hW v
  unfold f_X1_edgeAt
  have e1 : (nI v * 8) + nI k = nI (8 * v + k) := by
    rw [show (8 : Int32) = nI 8 from rfl, pk_mul, nI_add, Nat.mul_comm]
  rw [e1, nI_clamp (by omega), h v k hv hk]
  exact Ok_of (Ok_chk.mpr ⟨inb_nI (by omega) (by decide), Ok_some.mpr rfl⟩)
theorem X8_turn {G : Gr} (hW : WF G) {s : Nat → Int32} (h : ∀ v k, v < 9 → k < (gR G v).length → s (52 + 8 * v + k) = nI ((gR G v).getD k 0)) (N v k : Nat) (hv : v < 9) (hk : k < (gR G v).length) : f_X8_turn N s (nI v) (nI k) = some (nI ((gR G v).getD k 0)) := by
  have h8 := WF_deg hW v
  unfold f_X8_turn
  have e1 : (52 + (8 * nI v)) + nI k = nI (52 + 8 * v + k) := by
    rw [show (8 : Int32) = nI 8 from rfl, show (52 : Int32) = nI 52 from rfl, pk_mul, nI_add, nI_add]
  rw [e1, nI_clamp (by omega), h v k hv hk]
  exact Ok_of (Ok_chk.mpr ⟨inb_nI (by omega) (by decide), Ok_some.mpr rfl⟩)
