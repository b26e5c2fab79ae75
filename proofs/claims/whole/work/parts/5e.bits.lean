/-! ===== the bits of a float; absolute differences ===== -/
theorem cmp_l_gt (r : Option Ordering) : 0 < Op.cmpValue r .l ↔ r = some .gt := by
  cases r with
  | none => decide
  | some o => cases o <;> decide
theorem cmp_g_ge (r : Option Ordering) : 0 ≤ Op.cmpValue r .g ↔ r ≠ some .lt := by
  cases r with
  | none => decide
  | some o => cases o <;> decide
theorem cmp_l_lt (r : Option Ordering) (h : r ≠ none) : Op.cmpValue r .l < 0 ↔ r = some .lt := by
  cases r with
  | none => exact absurd rfl h
  | some o => cases o <;> decide
theorem cmp_l_le (r : Option Ordering) (h : r ≠ none) : Op.cmpValue r .l ≤ 0 ↔ r ≠ some .gt := by
  cases r with
  | none => exact absurd rfl h
  | some o => cases o <;> decide
theorem fcmp_pos {a b : UInt32} (ha : FP.Core.val32 a ≠ .nan) (hb : FP.Core.val32 b ≠ .nan) (sa : a.toNat < 2 ^ 31) (sb : b.toNat < 2 ^ 31) : FP.fcmp a b = some (compare (a.toNat : Int) (b.toNat : Int)) := by
  have h : FP.fcmp a b = _ := FP.Core.fcmp_key ha hb
  rw [h]
  unfold FP.Core.fkey
  rw [if_neg (by omega), if_neg (by omega)]
theorem J_bits (N : Nat) {a : UInt32} (h : FP.Core.val32 a ≠ .nan) : f_Jxf58ca_floatToIntBits_5c35a N a = some a.toInt32 := by
  unfold f_Jxf58ca_floatToIntBits_5c35a f_Jxf58ca_isNaN_12338
  have h1 : FP.fcmp a a = some (compare (FP.Core.fkey a) (FP.Core.fkey a)) := FP.Core.fcmp_key h h
  have h2 : compare (FP.Core.fkey a) (FP.Core.fkey a) = .eq := (FP.Core.compare_eq_iff _ _).mpr rfl
  rw [h1, h2]
  rfl
theorem toI32_nI (a : UInt32) : a.toInt32 = nI a.toNat := by
  refine Int32.toBitVec_inj.mp ?_
  show a.toBitVec = BitVec.ofNat 32 a.toBitVec.toNat
  simp
theorem uO_big {n : Nat} (h : 2 ^ 23 ≤ n) : FP.Core.unitsOf FP.Core.b32 n = (2 ^ 23 + n % 2 ^ 23) * 2 ^ (n / 2 ^ 23 - 1) := by
  unfold FP.Core.unitsOf
  rw [if_neg (by show ¬ n < 2 ^ 23; omega)]
  rfl
theorem uO_small {n : Nat} (h : n < 2 ^ 23) : FP.Core.unitsOf FP.Core.b32 n = n := if_pos h
def dbl (n : Nat) : Nat := if n < 2 ^ 23 then 2 * n else n + 2 ^ 23
theorem uO_dbl (n : Nat) : FP.Core.unitsOf FP.Core.b32 (dbl n) = 2 * FP.Core.unitsOf FP.Core.b32 n := by
  unfold dbl
  by_cases h : n < 2 ^ 23
  · rw [if_pos h, uO_small h]
    by_cases h2 : 2 * n < 2 ^ 23
    · rw [uO_small h2]
    · rw [uO_big (by omega), show 2 * n / 2 ^ 23 - 1 = 0 from by omega, Nat.pow_zero]
      omega
  · have hp : (2 : Nat) ^ ((n / 2 ^ 23 - 1) + 1) = 2 ^ (n / 2 ^ 23 - 1) * 2 := Nat.pow_succ _ _
    rw [if_neg h, uO_big (by omega), uO_big (by omega), show (n + 2 ^ 23) / 2 ^ 23 - 1 = (n / 2 ^ 23 - 1) + 1 from by omega, hp, show (n + 2 ^ 23) % 2 ^ 23 = n % 2 ^ 23 from by omega]
    generalize (2 : Nat) ^ (n / 2 ^ 23 - 1) = X
    rw [← Nat.mul_assoc, Nat.mul_comm _ 2]
theorem u32_dec {n : Nat} (h : n < 255 * 2 ^ 23) : ∃ V, FP.Core.val32 (UInt32.ofNat n) = V ∧ (∃ c q, V = .fin false c q) ∧ FP.Core.fits FP.Core.b32 V ∧ FP.Core.zmag FP.Core.b32 V = FP.Core.unitsOf FP.Core.b32 n := by
  have e : (UInt32.ofNat n).toNat = n := UInt32.toNat_ofNat_of_lt' (by show n < 2 ^ 32; omega)
  have hfin : FP.Core.FFin (UInt32.ofNat n) := by
    rw [FP.Core.fin_bits32, e]
    omega
  obtain ⟨s, c, q, hv⟩ := hfin
  have hnn : FP.Core.val32 (UInt32.ofNat n) ≠ .nan := by rw [hv]; exact FP.Core.Datum.noConfusion
  have hs := FP.Core.sgn_bits32 hnn
  rw [hv, e] at hs
  have hs2 : s = decide (2 ^ 31 ≤ n) := hs
  have hs3 : s = false := by rw [hs2]; exact decide_eq_false (by omega)
  refine ⟨_, rfl, ⟨c, q, by rw [hv, hs3]⟩, FP.Core.val32_fits _, ?_⟩
  have := FP.Core.zmag_bits32 hnn
  rw [e, Nat.mod_eq_of_lt (by omega)] at this
  exact this
theorem two_val : ∃ c q, FP.Core.val32 FP.fconst2 = .fin false c q ∧ FP.Core.zmag FP.Core.b32 (FP.Core.val32 FP.fconst2) = 2 ^ 150 := by
  have h : isPos (FP.Core.val32 FP.fconst2) = true ∧ FP.Core.zmag FP.Core.b32 (FP.Core.val32 FP.fconst2) = 2 ^ 150 := by decide +kernel
  obtain ⟨c, q, e⟩ := isPos_ex h.1
  exact ⟨c, q, e, h.2⟩
/-- doubling is exact -/
theorem fmul_dbl {n : Nat} (h : n < 200 * 2 ^ 23) : FP.fmul (UInt32.ofNat n) FP.fconst2 = UInt32.ofNat (dbl n) := by
  have hd : dbl n < 255 * 2 ^ 23 := by
    unfold dbl
    split <;> omega
  obtain ⟨V1, a1, ⟨c, q, a2⟩, a3, a4⟩ := u32_dec (n := n) (by omega)
  obtain ⟨V2, b1, ⟨c2, q2, b2⟩, b3, b4⟩ := u32_dec hd
  obtain ⟨d, r, t1, t2⟩ := two_val
  have ft := FP.Core.val32_fits FP.fconst2
  rw [t1] at ft t2
  subst a2
  subst b2
  have hv : FP.Core.val32 (FP.fmul (UInt32.ofNat n) FP.fconst2) = _ := FP.Core.val32_fmul (UInt32.ofNat n) FP.fconst2
  rw [a1, t1] at hv
  obtain ⟨p1, p2, p3⟩ := FP.Core.product_units a3 ft
  rw [p1] at hv
  rw [uO_dbl] at b4
  rw [a4] at p3
  rw [t2] at p3
  have hmin : FP.Core.b32.qmin = -149 := by decide
  have hz : FP.Core.zval FP.Core.b32 (FP.Core.val32 (FP.fmul (UInt32.ofNat n) FP.fconst2)) = FP.Core.zval FP.Core.b32 (.fin false c2 q2) := by
    have key : FP.Core.signed (false != false) (FP.Core.inUnits (c * d) (q + r) (2 * FP.Core.b32.qmin)) = FP.Core.zval FP.Core.b32 (.fin false c2 q2) * ((2 ^ (FP.Core.b32.qmin - 2 * FP.Core.b32.qmin).toNat : Nat) : Int) := by
      show ((FP.Core.inUnits (c * d) (q + r) (2 * FP.Core.b32.qmin) : Nat) : Int) = ((FP.Core.zmag FP.Core.b32 (.fin false c2 q2) : Nat) : Int) * _
      have e150 : (2 : Nat) ^ 150 = 2 * 2 ^ 149 := by decide +kernel
      have hN : ∀ X Y : Nat, X * (2 * Y) = 2 * X * Y := fun X Y => by rw [← Nat.mul_assoc, Nat.mul_comm X 2]
      rw [p3, b4, hmin, show ((-149 : Int) - 2 * -149).toNat = 149 from by decide, ← Int.natCast_mul, e150, hN]
    refine Int.le_antisymm ?_ ?_
    · rw [hv]
      exact FP.Core.zval_round_le FP.Core.good_b32 b3 FP.Core.Datum.noConfusion (by rw [hmin]; decide) p2 (Int.le_of_eq key)
    · rw [hv]
      exact FP.Core.zval_round_ge FP.Core.good_b32 b3 FP.Core.Datum.noConfusion (by rw [hmin]; decide) p2 (Int.le_of_eq key.symm)
  refine FP.Core.val32_inj ?_ ?_
  · rw [hv]
    exact FP.Core.roundRatio_ne_nan _ _ _ _ _
  · rw [b1]
    have hcase : (∃ c' q', FP.Core.val32 (FP.fmul (UInt32.ofNat n) FP.fconst2) = .fin false c' q') ∨ FP.Core.val32 (FP.fmul (UInt32.ofNat n) FP.fconst2) = .inf false := by
      rw [hv]
      exact FP.Core.roundRatio_cases FP.Core.b32 false (c * d) 1 (q + r)
    have hnn : FP.Core.val32 (FP.fmul (UInt32.ofNat n) FP.fconst2) ≠ .nan := by
      rcases hcase with ⟨c', q', h1⟩ | h1
      · rw [h1]; exact FP.Core.Datum.noConfusion
      · rw [h1]; exact FP.Core.Datum.noConfusion
    have hsg := FP.Core.sgn_bits32 hnn
    have hsf : FP.Core.sgn (FP.Core.val32 (FP.fmul (UInt32.ofNat n) FP.fconst2)) = false := by
      rcases hcase with ⟨c', q', h1⟩ | h1
      · rw [h1]; rfl
      · rw [h1]; rfl
    rw [hsf] at hsg
    have hlt := of_decide_eq_false hsg.symm
    have hmag : FP.Core.zmag FP.Core.b32 (FP.Core.val32 (FP.fmul (UInt32.ofNat n) FP.fconst2)) = FP.Core.zmag FP.Core.b32 (.fin false c2 q2) := by
      have h1 : FP.Core.zval FP.Core.b32 (FP.Core.val32 (FP.fmul (UInt32.ofNat n) FP.fconst2)) = ((FP.Core.zmag FP.Core.b32 (FP.Core.val32 (FP.fmul (UInt32.ofNat n) FP.fconst2)) : Nat) : Int) := by
        unfold FP.Core.zval
        rw [hsf]
        rfl
      have h2 : FP.Core.zval FP.Core.b32 (.fin false c2 q2) = ((FP.Core.zmag FP.Core.b32 (.fin false c2 q2) : Nat) : Int) := rfl
      rw [h1, h2] at hz
      omega
    rw [FP.Core.zmag_bits32 hnn, b4, ← uO_dbl] at hmag
    have heq : (FP.fmul (UInt32.ofNat n) FP.fconst2).toNat % 2 ^ 31 = dbl n := by
      refine Nat.le_antisymm ?_ ?_
      · exact FP.Core.unitsOf_le_iff.mp (Nat.le_of_eq hmag)
      · exact FP.Core.unitsOf_le_iff.mp (Nat.le_of_eq hmag.symm)
    have hbits : FP.fmul (UInt32.ofNat n) FP.fconst2 = UInt32.ofNat (dbl n) := by
      refine UInt32.toNat_inj.mp ?_
      rw [UInt32.toNat_ofNat_of_lt' (by show dbl n < 2 ^ 32; omega)]
      omega
    rw [hbits, b1]
theorem f2i_val {n m : Nat} (h : n < 255 * 2 ^ 23) (hm : FP.Core.unitsOf FP.Core.b32 n / 2 ^ 149 = m) (hm2 : m < 2 ^ 31) : FP.f2i (UInt32.ofNat n) = nI m := by
  obtain ⟨V1, a1, ⟨c, q, a2⟩, a3, a4⟩ := u32_dec h
  have hnn : FP.Core.val32 (UInt32.ofNat n) ≠ .nan := by rw [a1, a2]; exact FP.Core.Datum.noConfusion
  have h1 := FP.Core.toInt_zmag FP.Core.good_b32 (FP.Core.val32_fits (UInt32.ofNat n)) hnn (lo := -2 ^ 31) (hi := 2 ^ 31 - 1) (by decide) (by decide) (by decide)
  show Int32.ofInt (FP.Core.toInt (-2 ^ 31) (2 ^ 31 - 1) (FP.Core.val32 (UInt32.ofNat n))) = nI m
  have hs : FP.Core.sgn (FP.Core.val32 (UInt32.ofNat n)) = false := by rw [a1, a2]; rfl
  rw [h1, hs]
  rw [show FP.Core.zmag FP.Core.b32 (FP.Core.val32 (UInt32.ofNat n)) = FP.Core.unitsOf FP.Core.b32 n from by rw [a1]; exact a4]
  rw [show (-FP.Core.b32.qmin).toNat = 149 from by decide, hm]
  have h2 : max (-2 ^ 31 : Int) (min (2 ^ 31 - 1) (FP.Core.signed false m)) = (m : Int) := by
    show max (-2 ^ 31 : Int) (min (2 ^ 31 - 1) (m : Int)) = (m : Int)
    omega
  rw [h2]
  rfl
theorem u32_cmp23 {n : Nat} (h : n < 255 * 2 ^ 23) : 0 ≤ Op.cmpValue (FP.fcmp (UInt32.ofNat n) 1258291200) .g ↔ 150 * 2 ^ 23 ≤ n := by
  have e : (UInt32.ofNat n).toNat = n := UInt32.toNat_ofNat_of_lt' (by show n < 2 ^ 32; omega)
  obtain ⟨V1, a1, ⟨c, q, a2⟩, a3, a4⟩ := u32_dec h
  have hnn : FP.Core.val32 (UInt32.ofNat n) ≠ .nan := by rw [a1, a2]; exact FP.Core.Datum.noConfusion
  have hb : FP.Core.val32 1258291200 ≠ .nan := by
    rw [FP.Core.ne_nan32]; decide
  rw [fcmp_pos hnn hb (by rw [e]; omega) (by decide), e, cmp_g_ge]
  rw [show ((1258291200 : UInt32).toNat : Int) = 1258291200 from by decide]
  rw [ne_eq, Option.some.injEq, FP.Core.compare_lt_iff]
  omega
/-- the class's bits of a float are its bits -/
theorem X7_bitsOf (N : Nat) (hN : 1000 < N) {n : Nat} (h : n < 150 * 2 ^ 23) : f_X7_bitsOf N (UInt32.ofNat n) = some (nI n) := by
  have e : (UInt32.ofNat n).toNat = n := UInt32.toNat_ofNat_of_lt' (by show n < 2 ^ 32; omega)
  obtain ⟨V1, a1, ⟨c, q, a2⟩, a3, a4⟩ := u32_dec (n := n) (by omega)
  have hnn : FP.Core.val32 (UInt32.ofNat n) ≠ .nan := by rw [a1, a2]; exact FP.Core.Datum.noConfusion
  have h0 : FP.Core.val32 FP.fconst0 ≠ .nan := by
    have : FP.Core.val32 FP.fconst0 = _ := FP.Core.val32_zero
    rw [this]; exact FP.Core.Datum.noConfusion
  have hpos : 0 < Op.cmpValue (FP.fcmp (UInt32.ofNat n) FP.fconst0) .l ↔ 0 < n := by
    rw [fcmp_pos hnn h0 (by rw [e]; omega) (by decide), e, cmp_l_gt, Option.some.injEq, FP.Core.compare_gt_iff, show ((FP.fconst0 : UInt32).toNat : Int) = 0 from by decide]
    omega
  unfold f_X7_bitsOf
  by_cases c0 : n = 0
  · rw [if_neg (fun q => by have := hpos.mp q; omega), c0]
    rfl
  rw [if_pos (hpos.mpr (by omega))]
  refine Ok_of ?_
  have e150 : (150 : Int32) = nI (150 - 0) := rfl
  rw [e150]
  have exit : ∀ k j, k < 255 * 2 ^ 23 → j ≤ 149 → ∀ m, FP.Core.unitsOf FP.Core.b32 k / 2 ^ 149 = m → (m < 2 ^ 23 ∧ m = n ∨ 2 ^ 23 ≤ m ∧ m < 2 ^ 24 ∧ (150 - j) * 2 ^ 23 + (m - 2 ^ 23) = n) → Ok (f_X7_bitsOf_b37 N (UInt32.ofNat k) (nI (150 - j))) (fun b => b = nI n) := by
    intro k j hk hj m hm hcase
    unfold f_X7_bitsOf_b37
    refine Ok_nm.mpr ?_
    have hm31 : m < 2 ^ 31 := by omega
    rw [f2i_val hk hm hm31]
    refine Ok_ife (nI_leI (a := 8388608) (b := m) (by decide) hm31) (fun c => ?_) (fun c => ?_)
    · rcases hcase with q | ⟨q1, q2, q3⟩
      · omega
      · have es : nI (150 - j) <<< ((23 : Int32) &&& 31) = nI ((150 - j) * 2 ^ 23) := pk_shlN _ 23 (by decide) (by
          have : (150 - j) * 2 ^ 23 ≤ 150 * 2 ^ 23 := Nat.mul_le_mul_right _ (by omega)
          omega)
        have e8 : nI m - 8388608 = nI (m - 8388608) := pk_sub (b := 8388608) (by omega)
        rw [es, e8, nI_add]
        exact Ok_some.mpr (by rw [show (150 - j) * 2 ^ 23 + (m - 8388608) = n from by omega])
    · rcases hcase with q | q
      · exact Ok_some.mpr (by rw [q.2])
      · omega
  -- the number of doublings: 150 - exponent, or 149
  by_cases hs : n < 2 ^ 23
  · refine lpU (fun f j k => f_X7_bitsOf_b14 N f (UInt32.ofNat k) (nI (150 - j))) (fun j k => FP.Core.unitsOf FP.Core.b32 k = n * 2 ^ j) 149 ?_ ?_ N 0 n (Nat.zero_le _) (by omega) (by rw [uO_small hs, Nat.pow_zero, Nat.mul_one])
    · intro f k hk
      have hlt : k < 150 * 2 ^ 23 := by
        refine FP.Core.unitsOf_lt_iff (f := FP.Core.b32) |>.mp ?_
        rw [hk, show FP.Core.unitsOf FP.Core.b32 (150 * 2 ^ 23) = 2 ^ 23 * 2 ^ 149 from by decide +kernel]
        exact Nat.mul_lt_mul_of_pos_right hs (Nat.two_pow_pos _)
      simp only [f_X7_bitsOf_b14]
      rw [if_neg (fun q => by have := (u32_cmp23 (n := k) (by omega)).mp q; omega), if_pos (by decide)]
      exact exit k 149 (by omega) (by omega) n (by rw [hk, Nat.mul_div_cancel _ (Nat.two_pow_pos _)]) (Or.inl ⟨hs, rfl⟩)
    · intro f j k hj hk ih
      have hlt : k < 150 * 2 ^ 23 := by
        refine FP.Core.unitsOf_lt_iff (f := FP.Core.b32) |>.mp ?_
        rw [hk, show FP.Core.unitsOf FP.Core.b32 (150 * 2 ^ 23) = 2 ^ 23 * 2 ^ 149 from by decide +kernel]
        exact Nat.lt_of_lt_of_le (Nat.mul_lt_mul_of_pos_right hs (Nat.two_pow_pos _)) (Nat.mul_le_mul_left _ (Nat.pow_le_pow_right (by decide) (by omega)))
      simp only [f_X7_bitsOf_b14]
      rw [if_neg (fun q => by have := (u32_cmp23 (n := k) (by omega)).mp q; omega)]
      refine Ok_ife (nI_leI (a := 150 - j) (b := 1) (by omega) (by decide)) (fun c => absurd c (by omega)) (fun _ => ?_)
      have hd : dbl k < 255 * 2 ^ 23 := by
        unfold dbl
        split <;> omega
      rw [fmul_dbl (by omega), nI_m1 (by omega)]
      obtain ⟨V2, b1, ⟨c2, q2, b2⟩, b3, b4⟩ := u32_dec hd
      refine Ok_chk.mpr ⟨nn_fin ⟨false, c2, q2, by rw [b1, b2]⟩, Ok_nm.mpr ?_⟩
      have := ih (dbl k) (by rw [uO_dbl, hk, Nat.pow_succ, Nat.mul_comm (2 ^ j) 2, Nat.mul_left_comm])
      rw [show 150 - (j + 1) = 150 - j - 1 from by omega] at this
      exact this
  · have hE : n / 2 ^ 23 ≤ 149 := by omega
    refine lpU (fun f j k => f_X7_bitsOf_b14 N f (UInt32.ofNat k) (nI (150 - j))) (fun j k => k = n + j * 2 ^ 23) (150 - n / 2 ^ 23) ?_ ?_ N 0 n (Nat.zero_le _) (by omega) (by omega)
    · rintro f k rfl
      simp only [f_X7_bitsOf_b14]
      have h150 : 150 * 2 ^ 23 ≤ n + (150 - n / 2 ^ 23) * 2 ^ 23 := by
        have := Nat.div_add_mod n (2 ^ 23)
        have e2 : (150 - n / 2 ^ 23) * 2 ^ 23 = 150 * 2 ^ 23 - n / 2 ^ 23 * 2 ^ 23 := Nat.sub_mul _ _ _
        omega
      have h151 : n + (150 - n / 2 ^ 23) * 2 ^ 23 < 151 * 2 ^ 23 := by
        have e2 : (150 - n / 2 ^ 23) * 2 ^ 23 = 150 * 2 ^ 23 - n / 2 ^ 23 * 2 ^ 23 := Nat.sub_mul _ _ _
        omega
      rw [if_pos ((u32_cmp23 (by omega)).mpr h150)]
      have hdiv : (n + (150 - n / 2 ^ 23) * 2 ^ 23) / 2 ^ 23 = 150 := by omega
      have hmod : (n + (150 - n / 2 ^ 23) * 2 ^ 23) % 2 ^ 23 = n % 2 ^ 23 := Nat.add_mul_mod_self_right _ _ _
      refine exit _ (150 - n / 2 ^ 23) (by omega) (by omega) (2 ^ 23 + n % 2 ^ 23) ?_ (Or.inr ⟨by omega, by omega, by omega⟩)
      rw [uO_big (by omega), hdiv, hmod, show (150 : Nat) - 1 = 149 from rfl, Nat.mul_div_cancel _ (Nat.two_pow_pos _)]
    · rintro f j k hj rfl ih
      have hlt : n + j * 2 ^ 23 < 150 * 2 ^ 23 := by
        have : j * 2 ^ 23 ≤ (149 - n / 2 ^ 23) * 2 ^ 23 := Nat.mul_le_mul_right _ (by omega)
        have e2 : (149 - n / 2 ^ 23) * 2 ^ 23 = 149 * 2 ^ 23 - n / 2 ^ 23 * 2 ^ 23 := Nat.sub_mul _ _ _
        omega
      have hd2 : n + (j + 1) * 2 ^ 23 < 255 * 2 ^ 23 := by
        have hj1 : (j + 1) * 2 ^ 23 = j * 2 ^ 23 + 2 ^ 23 := Nat.succ_mul j _
        rw [hj1, ← Nat.add_assoc]
        exact Nat.lt_of_lt_of_le (Nat.add_lt_add_right hlt _) (by decide)
      have hlt2 : n + j * 2 ^ 23 < 200 * 2 ^ 23 := Nat.lt_of_lt_of_le hlt (Nat.mul_le_mul_right _ (by decide))
      simp only [f_X7_bitsOf_b14]
      rw [if_neg (fun q => absurd ((u32_cmp23 (Nat.lt_of_lt_of_le hlt (Nat.mul_le_mul_right _ (by decide)))).mp q) (Nat.not_le.mpr hlt))]
      refine Ok_ife (nI_leI (a := 150 - j) (b := 1) (by omega) (by decide)) (fun c => absurd c (by omega)) (fun _ => ?_)
      have hd : dbl (n + j * 2 ^ 23) = n + (j + 1) * 2 ^ 23 := by
        have hj1 : (j + 1) * 2 ^ 23 = j * 2 ^ 23 + 2 ^ 23 := Nat.succ_mul j _
        unfold dbl
        rw [if_neg (by omega), hj1]
        omega
      rw [fmul_dbl hlt2, nI_m1 (by omega), hd]
      obtain ⟨V2, b1, ⟨c2, q2, b2⟩, b3, b4⟩ := u32_dec hd2
      refine Ok_chk.mpr ⟨nn_fin ⟨false, c2, q2, by rw [b1, b2]⟩, Ok_nm.mpr ?_⟩
      have := ih _ rfl
      rw [show 150 - (j + 1) = 150 - j - 1 from by omega] at this
      exact this
theorem bits_same (N : Nat) (hN : 1000 < N) {a : UInt32} (h : NB a 1300) : f_X7_bitsOf N a = some a.toInt32 ∧ f_Jxf58ca_floatToIntBits_5c35a N a = some a.toInt32 := by
  refine ⟨?_, J_bits N (NB_nan h)⟩
  have hs := NB_sign h
  have h1 := h.2
  rw [FP.Core.zmag_bits32 (NB_nan h), Nat.mod_eq_of_lt hs] at h1
  have hlt : a.toNat < 150 * 2 ^ 23 := by
    refine FP.Core.unitsOf_lt_iff (f := FP.Core.b32) |>.mp (Nat.lt_of_le_of_lt h1 ?_)
    decide +kernel
  have := X7_bitsOf N hN hlt
  rw [UInt32.ofNat_toNat] at this
  rw [this, toI32_nI]
