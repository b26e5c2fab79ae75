/-! ===== the pure side: how computations end, and numbers ===== -/
def Ok {α : Type} (c : Option α) (P : α → Prop) : Prop := ∃ a, c = some a ∧ P a
section OKS
variable {α β : Type} {P Q : α → Prop}
theorem Ok_some {a : α} : Ok (some a) P ↔ P a := ⟨fun ⟨b, e, h⟩ => by cases e; exact h, fun h => ⟨a, rfl, h⟩⟩
theorem Ok_none : Ok (none : Option α) P ↔ False := ⟨fun ⟨b, e, _⟩ => (by cases e), False.elim⟩
theorem Ok_chk {b : Bool} {x : Option α} : Ok (chk b x) P ↔ b = true ∧ Ok x P := by
  unfold chk
  by_cases h : b = true
  · simp [h]
  · simp [h, Ok_none]
theorem Ok_bd1 {x : Option β} {f : β → Option α} : Ok (bd1 x f) P ↔ Ok x (fun a => Ok (f a) P) := by
  cases x with
  | none => simp [bd1, Ok_none]
  | some a => simp [bd1, Ok_some]
theorem Ok_nm {e : β} {f : β → Option α} : Ok (nm e f) P ↔ Ok (f e) P := Iff.rfl
theorem Ok_ite {c : Prop} [Decidable c] {x y : Option α} : Ok (if c then x else y) P ↔ (c → Ok x P) ∧ (¬ c → Ok y P) := by
  by_cases h : c <;> simp [h]
theorem Ok_mono {x : Option α} (h : Ok x P) (hq : ∀ a, P a → Q a) : Ok x Q := by
  obtain ⟨a, e, hp⟩ := h
  exact ⟨a, e, hq a hp⟩
theorem Ok_eq {x : Option α} {a : α} (h : x = some a) : Ok x P ↔ P a := by rw [h]; exact Ok_some
theorem Ok_of {x : Option α} {a : α} (h : Ok x (fun b => b = a)) : x = some a := by
  obtain ⟨b, e, rfl⟩ := h
  exact e
end OKS
theorem inb_nI {k n : Nat} (h : k < n) (hn : n < 2 ^ 31) : inb (nI k) n = true := decide_eq_true (vp_in_iff.mp (vp_in_nI h hn))
theorem inb_of {i : Int32} {n : Nat} (h : inb i n = true) (hn : n < 2 ^ 31) : ∃ k, k < n ∧ i = nI k := vp_in_of (inb_in h) hn
theorem nI_sm {k : Nat} (h : k < 2 ^ 31) : (nI k).toNatClampNeg = k := nI_clamp h
/-- a number that a script gives: one of the first n, or none of them -/
theorem nI_cases (p : Int32) (n : Nat) (hn : n < 2 ^ 31) : (∃ k, k < n ∧ p = nI k) ∨ (p < 0 ∨ nI n ≤ p) := by
  rcases pk_ix p hn with h | h | h
  · exact Or.inr (Or.inl h)
  · exact Or.inr (Or.inr h)
  · exact Or.inl h
