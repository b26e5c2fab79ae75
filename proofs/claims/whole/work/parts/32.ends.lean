/-! ===== ends, two nodes, joined nodes ===== -/
/-- whether p is the number of an edge that has v as an end -/
def atI (G : Gr) (p v : Int32) : Bool := inb p (gE G).length && decide (nI (gEnd G p.toNatClampNeg).1 = v ∨ nI (gEnd G p.toNatClampNeg).2 = v)
theorem X1_isEnd {G : Gr} (hm : (gE G).length ≤ 20) {lo hi : Nat → Int32} (h : ∀ e, e < (gE G).length → lo e = nI (gEnd G e).1 ∧ hi e = nI (gEnd G e).2) (N : Nat) (p v : Int32) : f_X1_isEnd N (nI (gE G).length) lo hi p v = some (bI (atI G p v)) := by
  unfold f_X1_isEnd f_X1_isEnd_b28 atI
  rw [X1_hasEdge N _ (by omega) p]
  refine Ok_of (Ok_bd1.mpr (Ok_some.mpr ?_))
  cases hb : inb p (gE G).length with
  | false => simp [bI, Ok_some]
  | true =>
    obtain ⟨k, hk, rfl⟩ := inb_of hb (by omega)
    have ec : (nI k).toNatClampNeg = k := nI_clamp (by omega)
    rw [ec, (h k hk).1, (h k hk).2]
    have hi2 : inb (nI k) 20 = true := inb_nI (by omega) (by decide)
    by_cases c1 : nI (gEnd G k).1 = v
    · simp [bI, Ok_some, Ok_chk, hi2, c1]
    · by_cases c2 : nI (gEnd G k).2 = v
      · simp [bI, Ok_some, Ok_chk, hi2, c1, c2]
      · simp [bI, Ok_some, Ok_chk, hi2, c1, c2]
theorem X8_isAt {G : Gr} (hm : (gE G).length ≤ 20) {s : Nat → Int32} (h1 : s 1 = nI (gE G).length) (h : ∀ e, e < (gE G).length → s (3 + e) = nI (gEnd G e).1 ∧ s (23 + e) = nI (gEnd G e).2) (N : Nat) (p v : Int32) : f_X8_isAt N s p v = some (bI (atI G p v)) := by
  unfold f_X8_isAt f_X8_isAt_b33 atI
  rw [X8_isEdge N _ (by omega) s h1 p]
  refine Ok_of (Ok_bd1.mpr (Ok_some.mpr ?_))
  cases hb : inb p (gE G).length with
  | false => simp [bI, Ok_some]
  | true =>
    obtain ⟨k, hk, rfl⟩ := inb_of hb (by omega)
    have ec : (nI k).toNatClampNeg = k := nI_clamp (by omega)
    have e3 : (3 : Int32) + nI k = nI (3 + k) := nI_add 3 k
    have e4 : (23 : Int32) + nI k = nI (23 + k) := nI_add 23 k
    rw [ec, e3, e4, nI_clamp (by omega), nI_clamp (by omega), (h k hk).1, (h k hk).2]
    have hi2 : inb (nI (3 + k)) 124 = true := inb_nI (by omega) (by decide)
    have hi3 : inb (nI (23 + k)) 124 = true := inb_nI (by omega) (by decide)
    by_cases c1 : nI (gEnd G k).1 = v
    · simp [bI, Ok_some, Ok_chk, hi2, c1]
    · by_cases c2 : nI (gEnd G k).2 = v
      · simp [bI, Ok_some, Ok_chk, hi2, hi3, c1, c2]
      · simp [bI, Ok_some, Ok_chk, hi2, hi3, c1, c2]
/-- two different nodes -/
def twoI (n : Nat) (p q : Int32) : Bool := inb p n && (inb q n && decide (¬ p = q))
theorem X7_areTwoNodes (N n : Nat) (hn : n < 2 ^ 31) (p q : Int32) : f_X7_areTwoNodes N (nI n) p q = some (bI (twoI n p q)) := by
  unfold f_X7_areTwoNodes twoI
  rw [X1_hasNode N n hn p, X1_hasNode N n hn q]
  cases inb p n <;> cases inb q n <;> by_cases h : p = q <;> simp [bI, bd1, h]
theorem X8_areNodes (N n : Nat) (hn : n < 2 ^ 30) (s : Nat → Int32) (h0 : s 0 = nI n) (p q : Int32) : f_X8_areNodes N s p q = some (bI (twoI n p q)) := by
  unfold f_X8_areNodes twoI
  rw [X8_isNode N n hn s h0 p, X8_isNode N n hn s h0 q]
  cases inb p n <;> cases inb q n <;> by_cases h : p = q <;> simp [bI, bd1, h]
