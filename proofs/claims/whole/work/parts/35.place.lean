/-! ===== an edge's place in a rotation ===== -/
theorem X1_edgeAt {G : Gr} (hW : WF G) {tu : Nat → Int32} (h : ∀ v k, v < 9 → k < (gR G v).length → tu (8 * v + k) = nI ((gR G v).getD k 0)) (N v k : Nat) (hv : v < 9) (hk : k < (gR G v).length) : f_X1_edgeAt N tu (nI v) (nI k) = some (nI ((gR G v).getD k 0)) := by
  have h8 := WF_deg hW v
  unfold f_X1_edgeAt
  have e1 : (nI v * 8) + nI k = nI (8 * v + k) := by
    rw [show (8 : Int32) = nI 8 from rfl, pk_mul, nI_add, Nat.mul_comm]
  rw [e1, nI_clamp (by omega), h v k hv hk]
  exact Ok_of (Ok_chk.mpr ⟨inb_nI (by omega) (by decide), Ok_some.mpr rfl⟩)
theorem X8_turn {G : Gr} (hW : WF G) {s : Nat → Int32} (h : ∀ v k, v < 9 → k < (gR G v).length → s (52 + 8 * v + k) = nI ((gR G v).getD k 0)) (N v k : Nat) (hv : v < 9) (hk : k < (gR G v).length) : f_X8_turn N s (nI v) (nI k) = some (nI ((gR G v).getD k 0)) := by
  have h8 := WF_deg hW v
  unfold f_X8_turn
  have e1 : (52 + (8 * nI v)) + nI k = nI (52 + 8 * v + k) := by
    rw [show (8 : Int32) = nI 8 from rfl, show (52 : Int32) = nI 52 from rfl, pk_mul, nI_add, nI_add]
  rw [e1, nI_clamp (by omega), h v k hv hk]
  exact Ok_of (Ok_chk.mpr ⟨inb_nI (by omega) (by decide), Ok_some.mpr rfl⟩)
/-- Graph.slotOf: the first place of e in the rotation of v, or -1 -/
theorem X1_slotL {G : Gr} (hW : WF G) {de tu : Nat → Int32} (hd : ∀ v, v < 9 → de v = nI (gR G v).length) (h : ∀ v k, v < 9 → k < (gR G v).length → tu (8 * v + k) = nI ((gR G v).getD k 0)) (N v : Nat) (p : Int32) (hv : v < 9) :
    ∀ (n i : Nat), i ≤ (gR G v).length → (gR G v).length - i < n → Ok (f_X1_slotOf_b2 N de tu n (nI v) p (nI i)) (fun r => (∃ k, i ≤ k ∧ k < (gR G v).length ∧ nI ((gR G v).getD k 0) = p ∧ r = nI k) ∨ (r = -1 ∧ ∀ k, i ≤ k → k < (gR G v).length → ¬ nI ((gR G v).getD k 0) = p)) := by
  have h8 := WF_deg hW v
  intro n
  induction n with
  | zero => intro i h1 h2; omega
  | succ n ih =>
    intro i h1 h2
    show Ok (chk (inb (nI v) 9) (if de (nI v).toNatClampNeg ≤ nI i then some (-1) else _)) _
    refine Ok_chk.mpr ⟨inb_nI hv (by decide), ?_⟩
    rw [nI_clamp (by omega), hd v hv]
    refine Ok_ite.mpr ⟨fun c => ?_, fun c => ?_⟩
    · refine Ok_some.mpr (Or.inr ⟨rfl, fun k h3 h4 => ?_⟩)
      have := (nI_leI (by omega) (by omega)).mp c
      omega
    · have hi : i < (gR G v).length := by
        rcases Nat.lt_or_ge i (gR G v).length with q | q
        · exact q
        · exact absurd (nI_le q (by omega)) c
      rw [X1_edgeAt hW h N v i hv hi]
      refine Ok_bd1.mpr (Ok_some.mpr (Ok_ite.mpr ⟨fun c1 => ?_, fun c1 => ?_⟩))
      · rw [nI_1]
        refine Ok_mono (ih (i + 1) (by omega) (by omega)) (fun r hr => ?_)
        rcases hr with ⟨k, q1, q2, q3, q4⟩ | ⟨r0, q⟩
        · exact Or.inl ⟨k, by omega, q2, q3, q4⟩
        · refine Or.inr ⟨r0, fun k q1 q2 => ?_⟩
          rcases Nat.eq_or_lt_of_le q1 with rfl | q3
          · exact c1
          · exact q k q3 q2
      · exact Ok_some.mpr (Or.inl ⟨i, Nat.le_refl i, hi, Decidable.not_not.mp c1, rfl⟩)
/-- the reference's place: the first place of an edge that stands in the rotation -/
theorem X8_placeL {G : Gr} (hW : WF G) {s : Nat → Int32} (h : ∀ v k, v < 9 → k < (gR G v).length → s (52 + 8 * v + k) = nI ((gR G v).getD k 0)) (N v : Nat) (p : Int32) (hv : v < 9) :
    ∀ (n i : Nat), (∃ k, i ≤ k ∧ k < (gR G v).length ∧ nI ((gR G v).getD k 0) = p) → (gR G v).length - i < n → Ok (f_X8_place_b2 N s n (nI v) p (nI i)) (fun r => ∃ k, i ≤ k ∧ k < (gR G v).length ∧ nI ((gR G v).getD k 0) = p ∧ r = nI k) := by
  have h8 := WF_deg hW v
  intro n
  induction n with
  | zero => intro i h1 h2; omega
  | succ n ih =>
    intro i h1 h2
    obtain ⟨k, q1, q2, q3⟩ := h1
    show Ok (bd1 (f_X8_turn N s (nI v) (nI i)) _) _
    rw [X8_turn hW h N v i hv (by omega)]
    refine Ok_bd1.mpr (Ok_some.mpr (Ok_ite.mpr ⟨fun c1 => ?_, fun c1 => ?_⟩))
    · exact Ok_some.mpr ⟨i, Nat.le_refl i, by omega, c1, rfl⟩
    · rw [nI_1]
      have hk : i + 1 ≤ k := by
        rcases Nat.eq_or_lt_of_le q1 with rfl | q
        · exact absurd q3 c1
        · exact q
      refine Ok_mono (ih (i + 1) ⟨k, hk, q2, q3⟩ (by omega)) (fun r hr => ?_)
      obtain ⟨k2, a1, a2, a3, a4⟩ := hr
      exact ⟨k2, by omega, a2, a3, a4⟩
