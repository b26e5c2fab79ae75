/-! ===== floats: no NaN, bounds ===== -/
theorem nn_iff (r : UInt32) : nn32 r = true ↔ r.toNat % 2 ^ 31 ≤ 2139095040 := by
  unfold nn32
  rw [decide_eq_true_eq, UInt32.le_iff_toNat_le, FP.Core.mask_toNat32]
  exact Iff.rfl
theorem nn_fin {r : UInt32} (h : FP.Core.FFin r) : nn32 r = true := by
  rw [nn_iff]
  have := (FP.Core.fin_bits32 r).mp h
  omega
/-- a float that is not negative and at most n -/
def NB (a : UInt32) (n : Nat) : Prop := (∃ c q, FP.Core.val32 a = .fin false c q) ∧ FP.Core.zmag FP.Core.b32 (FP.Core.val32 a) ≤ n * 2 ^ 149
theorem NB_fin {a : UInt32} {n : Nat} (h : NB a n) : FP.Core.FFin a := by
  obtain ⟨⟨c, q, h⟩, -⟩ := h
  exact ⟨false, c, q, h⟩
theorem NB_nn {a : UInt32} {n : Nat} (h : NB a n) : nn32 a = true := nn_fin (NB_fin h)
theorem NB_nan {a : UInt32} {n : Nat} (h : NB a n) : FP.Core.val32 a ≠ .nan := by
  obtain ⟨⟨c, q, h⟩, -⟩ := h
  rw [h]
  exact FP.Core.Datum.noConfusion
theorem NB_mono {a : UInt32} {n m : Nat} (h : NB a n) (hnm : n ≤ m) : NB a m := ⟨h.1, Nat.le_trans h.2 (Nat.mul_le_mul_right _ hnm)⟩
theorem NB_0 (n : Nat) : NB FP.fconst0 n := by
  have e : FP.Core.val32 FP.fconst0 = .fin false 0 FP.Core.b32.qmin := FP.Core.val32_zero
  refine ⟨⟨0, _, e⟩, ?_⟩
  rw [e]
  show 0 * _ ≤ _
  rw [Nat.zero_mul]
  exact Nat.zero_le _
theorem vN_ex {m : Nat} (h : m < 2 ^ 24) : ∃ V, FP.Core.fits FP.Core.b32 V ∧ V ≠ .nan ∧ FP.Core.zmag FP.Core.b32 V = m * 2 ^ 149 ∧ FP.Core.sgn V = false := by
  obtain ⟨c, q, h1, h2⟩ := FP.Core.round_exact FP.Core.good_b32 false (c := m) (q := 0) h (by decide) (by decide)
  refine ⟨_, FP.Core.round_fits FP.Core.good_b32 (.fin false m 0), ?_, ?_, ?_⟩
  · rw [h1]; exact FP.Core.Datum.noConfusion
  · rw [h1]
    show FP.Core.inUnits c q FP.Core.b32.qmin = _
    rw [h2]
    rfl
  · rw [h1]; rfl
theorem top_big : 2 ^ 24 * 2 ^ 149 < FP.Core.b32.tails * 2 ^ (FP.Core.b32.exps - 2) := by decide +kernel
/-- a rounded magnitude of sign + that is at most m -/
theorem rr_NB {a : UInt32} {A B m : Nat} {e : Int} (ha : FP.Core.val32 a = FP.Core.roundRatio FP.Core.b32 false A B e) (hm : m < 2 ^ 24) (h : FP.Core.zmag FP.Core.b32 (FP.Core.val32 a) ≤ m * 2 ^ 149) : NB a m := by
  refine ⟨?_, h⟩
  rcases FP.Core.roundRatio_cases FP.Core.b32 false A B e with ⟨c, q, h1⟩ | h1
  · exact ⟨c, q, by rw [ha, h1]⟩
  · exfalso
    rw [ha, h1] at h
    have h2 : FP.Core.b32.tails * 2 ^ (FP.Core.b32.exps - 2) ≤ m * 2 ^ 149 := h
    have h3 := top_big
    have h4 : m * 2 ^ 149 ≤ 2 ^ 24 * 2 ^ 149 := Nat.mul_le_mul_right _ (by omega)
    omega
theorem fadd_NB {a b : UInt32} {n k : Nat} (ha : NB a n) (hb : NB b k) (hnk : n + k < 2 ^ 24) : NB (FP.fadd a b) (n + k) := by
  obtain ⟨⟨c, q, e1⟩, h1⟩ := ha
  obtain ⟨⟨d, r, e2⟩, h2⟩ := hb
  have hf1 := FP.Core.val32_fits a
  have hf2 := FP.Core.val32_fits b
  have hv : FP.Core.val32 (FP.fadd a b) = _ := FP.Core.val32_fadd a b
  rw [e1] at hf1 h1
  rw [e2] at hf2 h2
  rw [e1, e2] at hv
  obtain ⟨sg, m, e, x1, x2, x3⟩ := FP.Core.sum_units hf1 hf2
  have hsg : sg = false := by
    have : FP.Core.exactSum (.fin false c q) (.fin false d r) = .fin (FP.Core.sumSign false false (FP.Core.sumUnits false c q false d r (min q r))) (FP.Core.sumUnits false c q false d r (min q r)).natAbs (min q r) := rfl
    rw [x1] at this
    injection this with t1 t2 t3
    rw [t1]
    unfold FP.Core.sumSign
    split
    · rfl
    · refine decide_eq_false ?_
      show ¬ ((FP.Core.inUnits c q (min q r) : Int) + (FP.Core.inUnits d r (min q r) : Int) < 0)
      omega
  subst hsg
  rw [x1] at hv
  obtain ⟨V, v1, v2, v3, v4⟩ := vN_ex hnk
  refine rr_NB (A := m) (B := 1) (e := e) hv hnk ?_
  rw [hv, ← v3]
  refine FP.Core.zmag_roundRatio_le FP.Core.good_b32 (by decide) v1 v2 (Int.le_refl _) x2 ?_
  rw [Int.sub_self, Int.toNat_zero, Nat.pow_zero, Nat.mul_one, Nat.mul_one, v3]
  have x4 : ((FP.Core.inUnits m e FP.Core.b32.qmin : Nat) : Int) = (FP.Core.zmag FP.Core.b32 (.fin false c q) : Int) + (FP.Core.zmag FP.Core.b32 (.fin false d r) : Int) := x3
  have : FP.Core.inUnits m e FP.Core.b32.qmin = FP.Core.zmag FP.Core.b32 (.fin false c q) + FP.Core.zmag FP.Core.b32 (.fin false d r) := by omega
  rw [this, Nat.add_mul]
  omega
theorem pow_split {a b c : Nat} (h : a + b = c) : (2 : Nat) ^ c = 2 ^ a * 2 ^ b := by rw [← h, Nat.pow_add]
theorem fdiv_NB {a b : UInt32} {n k : Nat} (ha : NB a (n * k)) (hb : ∃ d r, FP.Core.val32 b = .fin false d r) (hz : FP.Core.zmag FP.Core.b32 (FP.Core.val32 b) = k * 2 ^ 149) (hk : 0 < k) (hn : n < 2 ^ 24) : NB (FP.fdiv a b) n := by
  obtain ⟨⟨c, q, e1⟩, h1⟩ := ha
  obtain ⟨d, r, e2⟩ := hb
  have hf1 := FP.Core.val32_fits a
  have hf2 := FP.Core.val32_fits b
  have hv : FP.Core.val32 (FP.fdiv a b) = _ := FP.Core.val32_fdiv a b
  rw [e1] at hf1 h1
  rw [e2] at hf2 hz
  rw [e1, e2] at hv
  have hz2 : d * 2 ^ (r - FP.Core.b32.qmin).toNat = k * 2 ^ 149 := hz
  have h12 : c * 2 ^ (q - FP.Core.b32.qmin).toNat ≤ n * k * 2 ^ 149 := h1
  have hd : d ≠ 0 := by
    intro q0
    rw [q0, Nat.zero_mul] at hz2
    have : 0 < k * 2 ^ 149 := Nat.mul_pos hk (Nat.two_pow_pos _)
    omega
  have hq : FP.Core.quotient FP.Core.b32 (.fin false c q) (.fin false d r) = FP.Core.roundRatio FP.Core.b32 false c d (q - r) := by
    show (if d = 0 then _ else FP.Core.roundRatio FP.Core.b32 false c d (q - r)) = _
    rw [if_neg hd]
  rw [hq] at hv
  obtain ⟨V, v1, v2, v3, v4⟩ := vN_ex hn
  refine rr_NB (A := c) (B := d) (e := q - r) hv hn ?_
  have q1 := hf1.2.1
  have r1 := hf2.2.1
  have r2 := hf2.2.2.1
  have hmin : FP.Core.b32.qmin = -149 := by decide
  have hmax : FP.Core.b32.qmax = 104 := by decide
  rw [hv, ← v3]
  refine FP.Core.zmag_roundRatio_le (e0 := -253) FP.Core.good_b32 (by omega) v1 v2 (by omega) (by omega) ?_
  rw [v3]
  show c * 2 ^ (q - r - -253).toNat ≤ n * 2 ^ 149 * 2 ^ (FP.Core.b32.qmin - -253).toNat * d
  rw [hmin] at h12 hz2 q1 r1 ⊢
  rw [hmax] at r2
  obtain ⟨Q, hQ⟩ : ∃ Q : Nat, (q - -149).toNat = Q := ⟨_, rfl⟩
  obtain ⟨R, hR⟩ : ∃ R : Nat, (r - -149).toNat = R := ⟨_, rfl⟩
  rw [hQ] at h12
  rw [hR] at hz2
  have hR2 : R ≤ 253 := by omega
  rw [show (q - r - -253).toNat = Q + (253 - R) from by omega, show ((-149 : Int) - -253).toNat = 104 from by decide]
  refine Nat.le_of_mul_le_mul_right (c := 2 ^ R) ?_ (Nat.two_pow_pos R)
  have s1 : (2 : Nat) ^ (Q + (253 - R)) * 2 ^ R = 2 ^ Q * 2 ^ 253 := by
    rw [← Nat.pow_add, ← Nat.pow_add]
    congr 1
    omega
  have s2 : (2 : Nat) ^ 253 = 2 ^ 149 * 2 ^ 104 := by rw [← Nat.pow_add]
  calc c * 2 ^ (Q + (253 - R)) * 2 ^ R = (c * 2 ^ Q) * 2 ^ 253 := by rw [Nat.mul_assoc, s1, Nat.mul_assoc]
    _ ≤ (n * k * 2 ^ 149) * 2 ^ 253 := Nat.mul_le_mul_right _ h12
    _ = n * 2 ^ 149 * 2 ^ 104 * (k * 2 ^ 149) := by
      rw [s2]
      generalize (2 : Nat) ^ 149 = X
      generalize (2 : Nat) ^ 104 = Y
      rw [Nat.mul_comm n k]
      simp only [Nat.mul_assoc, Nat.mul_comm, Nat.mul_left_comm]
    _ = n * 2 ^ 149 * 2 ^ 104 * d * 2 ^ R := by rw [← hz2, Nat.mul_assoc _ d]
def isPos (d : FP.Core.Datum) : Bool := match d with
  | .fin s _ _ => !s
  | _ => false
theorem isPos_ex {d : FP.Core.Datum} (h : isPos d = true) : ∃ c q, d = .fin false c q := by
  cases d with
  | nan => cases h
  | inf s => cases h
  | fin s c q =>
    cases s with
    | false => exact ⟨c, q, rfl⟩
    | true => cases h
theorem i2f_64 : ∀ k, k < 65 → isPos (FP.Core.val32 (FP.i2f (nI k))) = true ∧ FP.Core.zmag FP.Core.b32 (FP.Core.val32 (FP.i2f (nI k))) = k * 2 ^ 149 := by decide +kernel
theorem i2f_NB {k : Nat} (h : k < 65) : NB (FP.i2f (nI k)) k := ⟨isPos_ex (i2f_64 k h).1, by rw [(i2f_64 k h).2]; exact Nat.le_refl _⟩
/-- by the bits -/
theorem NB_bits {a : UInt32} (h : NB a 64) : a.toNat % 2 ^ 31 < 134 * 2 ^ 23 := by
  have h1 := h.2
  rw [FP.Core.zmag_bits32 (NB_nan h)] at h1
  have h2 : FP.Core.unitsOf FP.Core.b32 (133 * 2 ^ 23) = 64 * 2 ^ 149 := by decide +kernel
  rw [← h2, FP.Core.unitsOf_le_iff] at h1
  omega
theorem NB_sign {a : UInt32} {n : Nat} (h : NB a n) : a.toNat < 2 ^ 31 := by
  have h1 := FP.Core.sgn_bits32 (NB_nan h)
  obtain ⟨⟨c, q, h2⟩, -⟩ := h
  rw [h2] at h1
  have h3 : false = decide (2 ^ 31 ≤ a.toNat) := h1
  have := of_decide_eq_false h3.symm
  omega
theorem sub_mag {a b : UInt32} (ha : NB a 64) (hb : NB b 64) : (FP.fsub a b).toNat % 2 ^ 31 < 136 * 2 ^ 23 := FP.Core.fsub_mag (K := 134) (NB_bits ha) (NB_bits hb) (by decide)
theorem mag_nn {r : UInt32} {K : Nat} (h : r.toNat % 2 ^ 31 < K * 2 ^ 23) (hK : K ≤ 255) : nn32 r = true := by
  rw [nn_iff]
  have : K * 2 ^ 23 ≤ 255 * 2 ^ 23 := Nat.mul_le_mul_right _ hK
  omega
theorem mul_mag2 {a b : UInt32} (ha : a.toNat % 2 ^ 31 < 136 * 2 ^ 23) (hb : b.toNat % 2 ^ 31 < 136 * 2 ^ 23) : (FP.fmul a b).toNat % 2 ^ 31 < 146 * 2 ^ 23 := FP.Core.fmul_mag (Ka := 136) (Kb := 136) ha hb (by decide) (by decide)
theorem sub_mag2 {a b : UInt32} (ha : a.toNat % 2 ^ 31 < 146 * 2 ^ 23) (hb : b.toNat % 2 ^ 31 < 146 * 2 ^ 23) : (FP.fsub a b).toNat % 2 ^ 31 < 148 * 2 ^ 23 := FP.Core.fsub_mag (K := 146) ha hb (by decide)
