/-! ===== the abstract graph, and how class and reference hold it ===== -/
/-- nodes, ends of the edges (smaller first), rotations, outer face -/
abbrev Gr : Type := Nat × List (Nat × Nat) × (Nat → List Nat) × Nat
abbrev gN (G : Gr) : Nat := G.1
abbrev gE (G : Gr) : List (Nat × Nat) := G.2.1
abbrev gR (G : Gr) : Nat → List Nat := G.2.2.1
abbrev gO (G : Gr) : Nat := G.2.2.2
/-- the ends of edge e -/
def gEnd (G : Gr) (e : Nat) : Nat × Nat := (gE G).getD e (0, 0)
def gAt (G : Gr) (e v : Nat) : Prop := e < (gE G).length ∧ ((gEnd G e).1 = v ∨ (gEnd G e).2 = v)
def WF (G : Gr) : Prop :=
  2 ≤ gN G ∧ gN G ≤ 9 ∧ (gE G).length ≤ 20 ∧ (∀ q ∈ gE G, q.1 < q.2 ∧ q.2 < gN G) ∧ (gE G).Nodup ∧
  (∀ v, (gR G v).Nodup) ∧ (∀ v e, e ∈ gR G v ↔ gAt G e v) ∧ gO G < 100
/-- the class's graph (only what counts of its rows) -/
def RX (G : Gr) (g : TG) : Prop :=
  g.1 = nI (gN G) ∧ g.2.1 = nI (gE G).length ∧ g.2.2.1 = nI (gO G) ∧
  (∀ e, e < (gE G).length → g.2.2.2.1 e = nI (gEnd G e).1 ∧ g.2.2.2.2.1 e = nI (gEnd G e).2) ∧
  (∀ v, v < 9 → g.2.2.2.2.2.1 v = nI (gR G v).length) ∧
  (∀ v k, v < 9 → k < (gR G v).length → g.2.2.2.2.2.2 (8 * v + k) = nI ((gR G v).getD k 0))
/-- the reference's row s -/
def RM (G : Gr) (s : Nat → Int32) : Prop :=
  s 0 = nI (gN G) ∧ s 1 = nI (gE G).length ∧ s 2 = nI (gO G) ∧
  (∀ e, e < (gE G).length → s (3 + e) = nI (gEnd G e).1 ∧ s (23 + e) = nI (gEnd G e).2) ∧
  (∀ v, v < 9 → s (43 + v) = nI (gR G v).length) ∧
  (∀ v k, v < 9 → k < (gR G v).length → s (52 + 8 * v + k) = nI ((gR G v).getD k 0))
theorem WF_end {G : Gr} (h : WF G) {e : Nat} (he : e < (gE G).length) : (gEnd G e).1 < (gEnd G e).2 ∧ (gEnd G e).2 < gN G := by
  have : gEnd G e ∈ gE G := by
    unfold gEnd
    rw [List.getD_eq_getElem?_getD, List.getElem?_eq_getElem he]
    exact List.getElem_mem he
  exact h.2.2.2.1 _ this
def bI (b : Bool) : Int32 := if b = true then 1 else 0
theorem bI_t {b : Bool} (h : b = true) : bI b = 1 := if_pos h
theorem bI_f {b : Bool} (h : b = false) : bI b = 0 := if_neg (by rw [h]; decide)
theorem bI_0 {b : Bool} : bI b = 0 ↔ b = false := by cases b <;> decide
theorem isB_bI (b : Bool) : isB (bI b) = true := by cases b <;> decide
theorem inb_f {p : Int32} {n : Nat} (hn : n < 2 ^ 31) : inb p n = false ↔ p < 0 ∨ nI n ≤ p := by
  constructor
  · intro h
    rcases nI_cases p n hn with ⟨k, hk, rfl⟩ | h2
    · rw [inb_nI hk hn] at h; cases h
    · exact h2
  · intro h
    cases hb : inb p n with
    | false => rfl
    | true =>
      obtain ⟨k, hk, rfl⟩ := inb_of hb hn
      rcases h with h | h
      · exact absurd h (nI_pos (by omega))
      · exact absurd h (nI_ge hk hn)
/-- the tests 'is there such a node, edge, directed edge' of the class -/
theorem tst_in {p : Int32} {n : Nat} (hn : n < 2 ^ 31) : (if p < 0 then some (0 : Int32) else if nI n ≤ p then some 0 else some 1) = some (bI (inb p n)) := by
  by_cases h1 : p < 0
  · rw [if_pos h1, bI_f ((inb_f hn).mpr (Or.inl h1))]
  · rw [if_neg h1]
    by_cases h2 : nI n ≤ p
    · rw [if_pos h2, bI_f ((inb_f hn).mpr (Or.inr h2))]
    · rw [if_neg h2]
      cases hb : inb p n with
      | true => rfl
      | false => exact absurd ((inb_f hn).mp hb) (fun h => h.elim h1 h2)
theorem X1_hasNode (N n : Nat) (hn : n < 2 ^ 31) (p : Int32) : f_X1_hasNode N (nI n) p = some (bI (inb p n)) := tst_in hn
theorem X1_hasEdge (N n : Nat) (hn : n < 2 ^ 31) (p : Int32) : f_X1_hasEdge N (nI n) p = some (bI (inb p n)) := tst_in hn
theorem two_nI (n : Nat) : (2 : Int32) * nI n = nI (2 * n) := pk_mul 2 n
theorem X1_hasDirected (N n : Nat) (hn : n < 2 ^ 30) (p : Int32) : f_X1_hasDirected N (nI n) p = some (bI (inb p (2 * n))) := by
  unfold f_X1_hasDirected
  rw [two_nI]
  exact tst_in (by omega)
/-- the reference's 'in' between 0 and n - 1 -/
theorem X8_in0 (N n : Nat) (hn : n < 2 ^ 30) (p : Int32) : f_X8_in N p 0 (nI n - 1) = some (bI (inb p n)) := by
  unfold f_X8_in
  by_cases h1 : p < 0
  · rw [if_pos h1, bI_f ((inb_f (by omega)).mpr (Or.inl h1))]
  · rw [if_neg h1]
    obtain ⟨j, hj, rfl⟩ := nI_of h1
    have e : (nI n - nI 1).toInt = (n : Int) - 1 := pk_sub_toInt hn (by decide)
    by_cases h2 : j < n
    · have h3 : ¬ nI n - 1 < nI j := by
        rw [show (1 : Int32) = nI 1 from rfl, Int32.lt_iff_toInt_lt, e, nI_toInt hj]
        omega
      rw [if_neg h3, bI_t (inb_nI h2 (by omega))]
    · have h3 : nI n - 1 < nI j := by
        rw [show (1 : Int32) = nI 1 from rfl, Int32.lt_iff_toInt_lt, e, nI_toInt hj]
        omega
      rw [if_pos h3, bI_f ((inb_f (by omega)).mpr (Or.inr (nI_le (by omega) hj)))]
theorem X8_isNode (N n : Nat) (hn : n < 2 ^ 30) (s : Nat → Int32) (h0 : s 0 = nI n) (p : Int32) : f_X8_isNode N s p = some (bI (inb p n)) := by
  unfold f_X8_isNode
  refine Ok_of (Ok_chk.mpr ⟨by decide, Ok_bd1.mpr ?_⟩)
  rw [show (0 : Int32).toNatClampNeg = 0 from rfl, h0, X8_in0 N n hn p]
  exact Ok_some.mpr (Ok_chk.mpr ⟨isB_bI _, Ok_some.mpr rfl⟩)
theorem X8_isEdge (N n : Nat) (hn : n < 2 ^ 30) (s : Nat → Int32) (h0 : s 1 = nI n) (p : Int32) : f_X8_isEdge N s p = some (bI (inb p n)) := by
  unfold f_X8_isEdge
  refine Ok_of (Ok_chk.mpr ⟨by decide, Ok_bd1.mpr ?_⟩)
  rw [show (1 : Int32).toNatClampNeg = 1 from rfl, h0, X8_in0 N n hn p]
  exact Ok_some.mpr (Ok_chk.mpr ⟨isB_bI _, Ok_some.mpr rfl⟩)
