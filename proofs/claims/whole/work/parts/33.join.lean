/-! ===== joined nodes ===== -/
def jn (G : Gr) (a b e : Nat) : Bool := decide (gEnd G e = (if b < a then b else a, if a < b then b else a))
/-- whether an edge joins a and b -/
def joined (G : Gr) (a b : Nat) : Prop := ∃ e, e < (gE G).length ∧ jn G a b e = true
theorem nI_inj {a b : Nat} (ha : a < 2 ^ 31) (hb : b < 2 ^ 31) : (nI a = nI b) = (a = b) := propext (nI_eq ha hb)
theorem nI_min {a b : Nat} (ha : a < 2 ^ 31) (hb : b < 2 ^ 31) : (if nI b < nI a then nI b else nI a) = nI (if b < a then b else a) := by
  by_cases h : b < a
  · rw [if_pos (nI_lt h ha), if_pos h]
  · rw [if_neg (nI_nlt (by omega) hb), if_neg h]
theorem nI_max {a b : Nat} (ha : a < 2 ^ 31) (hb : b < 2 ^ 31) : (if nI a < nI b then nI b else nI a) = nI (if a < b then b else a) := by
  by_cases h : a < b
  · rw [if_pos (nI_lt h hb), if_pos h]
  · rw [if_neg (nI_nlt (by omega) ha), if_neg h]
theorem X1_joinL {G : Gr} (hW : WF G) {lo hi : Nat → Int32} (h : ∀ e, e < (gE G).length → lo e = nI (gEnd G e).1 ∧ hi e = nI (gEnd G e).2) (N a b : Nat) (ha : a < 9) (hb : b < 9) :
    ∀ (n i : Nat), i ≤ (gE G).length → (gE G).length - i < n → Ok (f_X1_areJoined_b2 N (nI (gE G).length) lo hi n (nI a) (nI b) (nI i)) (fun r => (r = 1 ∧ ∃ e, i ≤ e ∧ e < (gE G).length ∧ jn G a b e = true) ∨ (r = 0 ∧ ∀ e, i ≤ e → e < (gE G).length → jn G a b e = false)) := by
  have hm := hW.2.2.1
  intro n
  induction n with
  | zero => intro i h1 h2; omega
  | succ n ih =>
    intro i h1 h2
    show Ok (if nI (gE G).length ≤ nI i then some 0 else _) _
    refine Ok_ite.mpr ⟨fun c => ?_, fun c => ?_⟩
    · refine Ok_some.mpr (Or.inr ⟨rfl, fun e h3 h4 => ?_⟩)
      have := (nI_leI (by omega) (by omega)).mp c
      omega
    · have hi2 : i < (gE G).length := by
        rcases Nat.lt_or_ge i (gE G).length with q | q
        · exact q
        · exact absurd (nI_le q (by omega)) c
      have e1 := WF_end hW hi2
      have hN := hW.2.1
      have hrec : Ok (f_X1_areJoined_b2 N (nI (gE G).length) lo hi n (nI a) (nI b) (nI i + 1)) (fun r => jn G a b i = false → (r = 1 ∧ ∃ e, i ≤ e ∧ e < (gE G).length ∧ jn G a b e = true) ∨ (r = 0 ∧ ∀ e, i ≤ e → e < (gE G).length → jn G a b e = false)) := by
        rw [nI_1]
        refine Ok_mono (ih (i + 1) (by omega) (by omega)) (fun r hr hj => ?_)
        rcases hr with ⟨r1, e, q1, q2, q3⟩ | ⟨r0, q⟩
        · exact Or.inl ⟨r1, e, by omega, q2, q3⟩
        · refine Or.inr ⟨r0, fun e q1 q2 => ?_⟩
          rcases Nat.eq_or_lt_of_le q1 with rfl | q3
          · exact hj
          · exact q e q3 q2
      refine Ok_chk.mpr ⟨inb_nI (by omega) (by decide), ?_⟩
      rw [nI_clamp (by omega), (h i hi2).1, (h i hi2).2, nI_min (by omega) (by omega), nI_max (by omega) (by omega)]
      refine Ok_ite.mpr ⟨fun c1 => Ok_mono hrec (fun r hr => hr ?_), fun c1 => Ok_chk.mpr ⟨inb_nI (by omega) (by decide), Ok_ite.mpr ⟨fun c2 => Ok_mono hrec (fun r hr => hr ?_), fun c2 => ?_⟩⟩⟩
      · exact decide_eq_false (fun q => c1 (by rw [q]))
      · exact decide_eq_false (fun q => c2 (by rw [q]))
      · refine Ok_some.mpr (Or.inl ⟨rfl, i, Nat.le_refl i, hi2, decide_eq_true ?_⟩)
        have hmn : (if b < a then b else a) < 2 ^ 31 := by split <;> omega
        have hmx : (if a < b then b else a) < 2 ^ 31 := by split <;> omega
        exact Prod.ext ((nI_eq (by omega) hmn).mp (Decidable.not_not.mp c1)) ((nI_eq (by omega) hmx).mp (Decidable.not_not.mp c2))
theorem X1_areJoined {G : Gr} (hW : WF G) {lo hi : Nat → Int32} (h : ∀ e, e < (gE G).length → lo e = nI (gEnd G e).1 ∧ hi e = nI (gEnd G e).2) (N a b : Nat) (hN : 30 < N) (ha : a < 9) (hb : b < 9) :
    Ok (f_X1_areJoined N (nI (gE G).length) lo hi (nI a) (nI b)) (fun r => (r = 1 ∧ joined G a b) ∨ (r = 0 ∧ ¬ joined G a b)) := by
  have hm := hW.2.2.1
  refine Ok_mono (X1_joinL hW h N a b ha hb N 0 (by omega) (by omega)) (fun r hr => ?_)
  rcases hr with ⟨r1, e, -, q2, q3⟩ | ⟨r0, q⟩
  · exact Or.inl ⟨r1, e, q2, q3⟩
  · exact Or.inr ⟨r0, fun ⟨e, q2, q3⟩ => by rw [q e (Nat.zero_le e) q2] at q3; cases q3⟩
