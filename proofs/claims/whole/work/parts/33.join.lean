/-! ===== joined nodes ===== -/
def jn (G : Gr) (a b e : Nat) : Bool := decide (gEnd G e = (if b < a then b else a, if a < b then b else a))
/-- whether an edge joins a and b -/
def joined (G : Gr) (a b : Nat) : Prop := ∃ e, e < (gE G).length ∧ jn G a b e = true
theorem nI_inj {a b : Nat} (ha : a < 2 ^ 31) (hb : b < 2 ^ 31) : (nI a = nI b) = (a = b) := propext (nI_eq ha hb)
theorem nI_min {a b : Nat} (ha : a < 2 ^ 31) (hb : b < 2 ^ 31) : (if nI b < nI a then nI b else nI a) = nI (if b < a then b else a) := by
  by_cases h : b < a
  · rw [if_pos (nI_lt h ha), if_pos h]
  · rw [if_neg (nI_nlt (by omega) hb), if_neg h]
theorem nI_max {a b : Nat} (ha : a < 2 ^ 31) (hb : b < 2 ^ 31) : (if nI a < nI b then nI b else nI a) = nI (if a < b then b else a) := by
  by_cases h : a < b
  · rw [if_pos (nI_lt h hb), if_pos h]
  · rw [if_neg (nI_nlt (by omega) ha), if_neg h]
theorem X1_joinL {G : Gr} (hW : WF G) {lo hi : Nat → Int32} (h : ∀ e, e < (gE G).length → lo e = nI (gEnd G e).1 ∧ hi e = nI (gEnd G e).2) (N a b : Nat) (ha : a < 9) (hb : b < 9) :
    ∀ (n i : Nat), i ≤ (gE G).length → (gE G).length - i < n → Ok (f_X1_areJoined_b2 N (nI (gE G).length) lo hi n (nI a) (nI b) (nI i)) (fun r => (r = 1 ∧ ∃ e, i ≤ e ∧ e < (gE G).length ∧ jn G a b e = true) ∨ (r = 0 ∧ ∀ e, i ≤ e → e < (gE G).length → jn G a b e = false)) := by
  have hm := hW.2.2.1
  intro n
  induction n with
  | zero => intro i h1 h2; omega
  | succ n ih =>
    intro i h1 h2
    show Ok (if nI (gE G).length ≤ nI i then some 0 else _) _
    refine Ok_ite.mpr ⟨fun c => ?_, fun c => ?_⟩
    · refine Ok_some.mpr (Or.inr ⟨rfl, fun e h3 h4 => ?_⟩)
      have := (nI_leI (by omega) (by omega)).mp c
      omega
    · have hi2 : i < (gE G).length := by
        rcases Nat.lt_or_ge i (gE G).length with q | q
        · exact q
        · exact absurd (nI_le q (by omega)) c
      have e1 := WF_end hW hi2
      have hN := hW.2.1
      have hrec : Ok (f_X1_areJoined_b2 N (nI (gE G).length) lo hi n (nI a) (nI b) (nI i + 1)) (fun r => jn G a b i = false → (r = 1 ∧ ∃ e, i ≤ e ∧ e < (gE G).length ∧ jn G a b e = true) ∨ (r = 0 ∧ ∀ e, i ≤ e → e < (gE G).length → jn G a b e = false)) := by
        rw [nI_1]
        refine Ok_mono (ih (i + 1) (by omega) (by omega)) (fun r hr hj => ?_)
        rcases hr with ⟨r1, e, q1, q2, q3⟩ | ⟨r0, q⟩
        · exact Or.inl ⟨r1, e, by omega, q2, q3⟩
        · refine Or.inr ⟨r0, fun e q1 q2 => ?_⟩
          rcases Nat.eq_or_lt_of_le q1 with rfl | q3
          · exact hj
          · exact q e q3 q2
      refine Ok_chk.mpr ⟨inb_nI (by omega) (by decide), ?_⟩
      rw [nI_clamp (by omega), (h i hi2).1, (h i hi2).2, nI_min (by omega) (by omega), nI_max (by omega) (by omega)]
      refine Ok_ite.mpr ⟨fun c1 => Ok_mono hrec (fun r hr => hr ?_), fun c1 => Ok_chk.mpr ⟨inb_nI (by omega) (by decide), Ok_ite.mpr ⟨fun c2 => Ok_mono hrec (fun r hr => hr ?_), fun c2 => ?_⟩⟩⟩
      · exact decide_eq_false (fun q => c1 (by rw [q]))
      · exact decide_eq_false (fun q => c2 (by rw [q]))
      · refine Ok_some.mpr (Or.inl ⟨rfl, i, Nat.le_refl i, hi2, decide_eq_true ?_⟩)
        have hmn : (if b < a then b else a) < 2 ^ 31 := by split <;> omega
        have hmx : (if a < b then b else a) < 2 ^ 31 := by split <;> omega
        exact Prod.ext ((nI_eq (by omega) hmn).mp (Decidable.not_not.mp c1)) ((nI_eq (by omega) hmx).mp (Decidable.not_not.mp c2))
theorem X1_areJoined {G : Gr} (hW : WF G) {lo hi : Nat → Int32} (h : ∀ e, e < (gE G).length → lo e = nI (gEnd G e).1 ∧ hi e = nI (gEnd G e).2) (N a b : Nat) (hN : 30 < N) (ha : a < 9) (hb : b < 9) :
    Ok (f_X1_areJoined N (nI (gE G).length) lo hi (nI a) (nI b)) (fun r => (r = 1 ∧ joined G a b) ∨ (r = 0 ∧ ¬ joined G a b)) := by
  have hm := hW.2.2.1
  refine Ok_mono (X1_joinL hW h N a b ha hb N 0 (by omega) (by omega)) (fun r hr => ?_)
  rcases hr with ⟨r1, e, -, q2, q3⟩ | ⟨r0, q⟩
  · exact Or.inl ⟨r1, e, q2, q3⟩
  · exact Or.inr ⟨r0, fun ⟨e, q2, q3⟩ => by rw [q e (Nat.zero_le e) q2] at q3; cases q3⟩
theorem atI_nI {G : Gr} {e v : Nat} (hW : WF G) (he : e < (gE G).length) (hv : v < 9) : atI G (nI e) (nI v) = decide ((gEnd G e).1 = v ∨ (gEnd G e).2 = v) := by
  have hm := hW.2.2.1
  have hN := hW.2.1
  have e1 := WF_end hW he
  unfold atI
  rw [inb_nI he (by omega), nI_clamp (by omega)]
  simp only [Bool.true_and]
  refine decide_eq_decide.mpr ?_
  rw [nI_inj (by omega) (by omega), nI_inj (by omega) (by omega)]
theorem jn_at {G : Gr} {a b e : Nat} (hW : WF G) (he : e < (gE G).length) (hab : a ≠ b) : jn G a b e = true ↔ ((gEnd G e).1 = a ∨ (gEnd G e).2 = a) ∧ ((gEnd G e).1 = b ∨ (gEnd G e).2 = b) := by
  have e1 := WF_end hW he
  unfold jn
  rw [decide_eq_true_eq, Prod.ext_iff]
  constructor
  · rintro ⟨h1, h2⟩
    dsimp only at h1 h2
    rcases Nat.lt_or_gt_of_ne hab with h | h
    · rw [if_neg (by omega)] at h1
      rw [if_pos h] at h2
      exact ⟨Or.inl h1, Or.inr h2⟩
    · rw [if_pos (by omega)] at h1
      rw [if_neg (by omega)] at h2
      exact ⟨Or.inr h2, Or.inl h1⟩
  · rintro ⟨h1, h2⟩
    rcases Nat.lt_or_gt_of_ne hab with h | h
    · dsimp only
      rw [if_neg (by omega), if_pos h]
      rcases h1 with h1 | h1 <;> rcases h2 with h2 | h2 <;> constructor <;> omega
    · dsimp only
      rw [if_pos (by omega), if_neg (by omega)]
      rcases h1 with h1 | h1 <;> rcases h2 with h2 | h2 <;> constructor <;> omega
theorem X8_betwL {G : Gr} (hW : WF G) {s : Nat → Int32} (h1 : s 1 = nI (gE G).length) (h : ∀ e, e < (gE G).length → s (3 + e) = nI (gEnd G e).1 ∧ s (23 + e) = nI (gEnd G e).2) (N a b : Nat) (ha : a < 9) (hb : b < 9) (hab : a ≠ b) :
    ∀ (n i : Nat) (y : Int32), i ≤ (gE G).length → (gE G).length - i < n → Ok (f_X8_between_b6 N s n (nI a) (nI b) y (nI i)) (fun r => (∃ e, i ≤ e ∧ e < (gE G).length ∧ jn G a b e = true ∧ r = nI e) ∨ (r = y ∧ ∀ e, i ≤ e → e < (gE G).length → jn G a b e = false)) := by
  have hm := hW.2.2.1
  intro n
  induction n with
  | zero => intro i y h1 h2; omega
  | succ n ih =>
    intro i y hi1 hi2
    show Ok (chk (inb 1 124) (if s (1 : Int32).toNatClampNeg ≤ nI i then some y else _)) _
    refine Ok_chk.mpr ⟨by decide, ?_⟩
    rw [show (1 : Int32).toNatClampNeg = 1 from rfl, h1]
    refine Ok_ite.mpr ⟨fun c => ?_, fun c => ?_⟩
    · refine Ok_some.mpr (Or.inr ⟨rfl, fun e h3 h4 => ?_⟩)
      have := (nI_leI (by omega) (by omega)).mp c
      omega
    · have hi3 : i < (gE G).length := by
        rcases Nat.lt_or_ge i (gE G).length with q | q
        · exact q
        · exact absurd (nI_le q (by omega)) c
      have hno : ∀ (hj : jn G a b i = false), Ok (f_X8_between_b6 N s n (nI a) (nI b) y (nI i + 1)) (fun r => (∃ e, i ≤ e ∧ e < (gE G).length ∧ jn G a b e = true ∧ r = nI e) ∨ (r = y ∧ ∀ e, i ≤ e → e < (gE G).length → jn G a b e = false)) := by
        intro hj
        rw [nI_1]
        refine Ok_mono (ih (i + 1) y (by omega) (by omega)) (fun r hr => ?_)
        rcases hr with ⟨e, q1, q2, q3, q4⟩ | ⟨r0, q⟩
        · exact Or.inl ⟨e, by omega, q2, q3, q4⟩
        · refine Or.inr ⟨r0, fun e q1 q2 => ?_⟩
          rcases Nat.eq_or_lt_of_le q1 with rfl | q3
          · exact hj
          · exact q e q3 q2
      have hyes : ∀ (hj : jn G a b i = true), Ok (f_X8_between_b6 N s n (nI a) (nI b) (nI i) (nI i + 1)) (fun r => (∃ e, i ≤ e ∧ e < (gE G).length ∧ jn G a b e = true ∧ r = nI e) ∨ (r = y ∧ ∀ e, i ≤ e → e < (gE G).length → jn G a b e = false)) := by
        intro hj
        rw [nI_1]
        refine Ok_mono (ih (i + 1) (nI i) (by omega) (by omega)) (fun r hr => ?_)
        rcases hr with ⟨e, q1, q2, q3, q4⟩ | ⟨r0, q⟩
        · exact Or.inl ⟨e, by omega, q2, q3, q4⟩
        · exact Or.inl ⟨i, Nat.le_refl i, hi3, hj, r0⟩
      have hj := jn_at hW hi3 hab
      rw [X8_isAt hm h1 h N (nI i) (nI a), X8_isAt hm h1 h N (nI i) (nI b), atI_nI hW hi3 ha, atI_nI hW hi3 hb]
      refine Ok_bd1.mpr (Ok_some.mpr (Ok_ite.mpr ⟨fun c1 => ?_, fun c1 => Ok_bd1.mpr (Ok_some.mpr (Ok_ite.mpr ⟨fun c2 => ?_, fun c2 => ?_⟩))⟩))
      · rw [bI_0, decide_eq_false_iff_not] at c1
        refine hno ?_
        cases hq : jn G a b i with
        | false => rfl
        | true => exact absurd (hj.mp hq).1 c1
      · rw [bI_0, decide_eq_false_iff_not] at c2
        refine hno ?_
        cases hq : jn G a b i with
        | false => rfl
        | true => exact absurd (hj.mp hq).2 c2
      · refine hyes (hj.mpr ⟨?_, ?_⟩)
        · rw [bI_0, decide_eq_false_iff_not] at c1
          exact Decidable.not_not.mp c1
        · rw [bI_0, decide_eq_false_iff_not] at c2
          exact Decidable.not_not.mp c2
theorem X8_between {G : Gr} (hW : WF G) {s : Nat → Int32} (h1 : s 1 = nI (gE G).length) (h : ∀ e, e < (gE G).length → s (3 + e) = nI (gEnd G e).1 ∧ s (23 + e) = nI (gEnd G e).2) (N a b : Nat) (hN : 30 < N) (ha : a < 9) (hb : b < 9) (hab : a ≠ b) :
    Ok (f_X8_between N s (nI a) (nI b)) (fun r => (¬ r = -9 ∧ joined G a b) ∨ (r = -9 ∧ ¬ joined G a b)) := by
  have hm := hW.2.2.1
  refine Ok_mono (X8_betwL hW h1 h N a b ha hb hab N 0 (-9) (by omega) (by omega)) (fun r hr => ?_)
  rcases hr with ⟨e, -, q2, q3, rfl⟩ | ⟨r0, q⟩
  · refine Or.inl ⟨fun q => ?_, e, q2, q3⟩
    have := congrArg Int32.toInt q
    rw [nI_toInt (by omega)] at this
    have h9 : (-9 : Int32).toInt = -9 := by decide
    omega
  · exact Or.inr ⟨r0, fun ⟨e, q2, q3⟩ => by rw [q e (Nat.zero_le e) q2] at q3; cases q3⟩
