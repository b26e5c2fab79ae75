/-! ===== absolute differences, lengths ===== -/
noncomputable def ab (d : UInt32) : UInt32 := if 0 ≤ Op.cmpValue (FP.fcmp d FP.fconst0) .g then d else FP.fneg d
theorem v0_nan : FP.Core.val32 FP.fconst0 ≠ .nan := by
  have : FP.Core.val32 FP.fconst0 = _ := FP.Core.val32_zero
  rw [this]; exact FP.Core.Datum.noConfusion
theorem v0_z : FP.Core.zval FP.Core.b32 (FP.Core.val32 FP.fconst0) = 0 := FP.Core.zval32_zero
/-- a difference: its sign and size -/
theorem sub_cases {a b : UInt32} (ha : NB a 64) (hb : NB b 64) : ∃ s c q, FP.Core.val32 (FP.fsub a b) = .fin s c q ∧ FP.Core.zmag FP.Core.b32 (.fin s c q) ≤ 64 * 2 ^ 149 ∧ (s = true → 0 < FP.Core.zmag FP.Core.b32 (.fin s c q)) := by
  obtain ⟨⟨c, q, e1⟩, h1⟩ := ha
  obtain ⟨⟨d, r, e2⟩, h2⟩ := hb
  have hf1 := FP.Core.val32_fits a
  have hf2 := FP.Core.val32_fits b
  have hv : FP.Core.val32 (FP.fsub a b) = _ := FP.Core.val32_fsub a b
  rw [e1] at hf1 h1
  rw [e2] at hf2 h2
  rw [e1, e2] at hv
  have hf3 : FP.Core.fits FP.Core.b32 (.fin true d r) := hf2
  have hv2 : FP.Core.val32 (FP.fsub a b) = FP.Core.round FP.Core.b32 (FP.Core.exactSum (.fin false c q) (.fin true d r)) := hv
  obtain ⟨sg, m, e, x1, x2, x3⟩ := FP.Core.sum_units hf1 hf3
  have hm : sg = true → 0 < m := by
    intro hs
    have : FP.Core.exactSum (.fin false c q) (.fin true d r) = .fin (FP.Core.sumSign false true (FP.Core.sumUnits false c q true d r (min q r))) (FP.Core.sumUnits false c q true d r (min q r)).natAbs (min q r) := rfl
    rw [x1] at this
    injection this with t1 t2 t3
    rw [hs] at t1
    unfold FP.Core.sumSign at t1
    split at t1
    · cases t1
    · rename_i hne
      rw [t2]
      omega
  rw [x1] at hv2
  have hv3 : FP.Core.val32 (FP.fsub a b) = FP.Core.roundRatio FP.Core.b32 sg m 1 e := hv2
  have z1 : FP.Core.zval FP.Core.b32 (.fin false c q) = ((FP.Core.zmag FP.Core.b32 (.fin false c q) : Nat) : Int) := rfl
  have z2 : FP.Core.zval FP.Core.b32 (.fin true d r) = -((FP.Core.zmag FP.Core.b32 (.fin true d r) : Nat) : Int) := rfl
  have h22 : FP.Core.zmag FP.Core.b32 (.fin true d r) ≤ 64 * 2 ^ 149 := h2
  have habs : FP.Core.inUnits m e FP.Core.b32.qmin ≤ 64 * 2 ^ 149 := by
    rw [z1, z2] at x3
    generalize 64 * 2 ^ 149 = B at *
    cases sg with
    | false =>
      have : ((FP.Core.inUnits m e FP.Core.b32.qmin : Nat) : Int) = _ := x3
      omega
    | true =>
      have : -((FP.Core.inUnits m e FP.Core.b32.qmin : Nat) : Int) = _ := x3
      omega
  obtain ⟨V, v1, v2, v3, v4⟩ := vN_ex (m := 64) (by decide)
  have hle : FP.Core.zmag FP.Core.b32 (FP.Core.roundRatio FP.Core.b32 sg m 1 e) ≤ 64 * 2 ^ 149 := by
    rw [← v3]
    refine FP.Core.zmag_roundRatio_le FP.Core.good_b32 (by decide) v1 v2 (Int.le_refl _) x2 ?_
    rw [Int.sub_self, Int.toNat_zero, Nat.pow_zero, Nat.mul_one, Nat.mul_one, v3]
    exact habs
  have hge : 0 < m → 0 < FP.Core.zmag FP.Core.b32 (FP.Core.roundRatio FP.Core.b32 sg m 1 e) := by
    intro hm0
    have hV1 : FP.Core.fits FP.Core.b32 (.fin true 1 FP.Core.b32.qmin) := ⟨by decide, Int.le_refl _, by decide, Or.inl rfl⟩
    have := FP.Core.zmag_roundRatio_ge (s := sg) (A := m) (B := 1) (e := e) (e0 := FP.Core.b32.qmin) (V := .fin true 1 FP.Core.b32.qmin) FP.Core.good_b32 (by decide) hV1 (Int.le_refl _) x2 (by
      rw [Int.sub_self, Int.toNat_zero, Nat.pow_zero, Nat.mul_one, Nat.mul_one]
      have e1 : FP.Core.zmag FP.Core.b32 (.fin true 1 FP.Core.b32.qmin) = 1 := by decide +kernel
      rw [e1]
      show 1 ≤ m * _
      exact Nat.mul_pos hm0 (Nat.two_pow_pos _))
    have e1 : FP.Core.zmag FP.Core.b32 (.fin true 1 FP.Core.b32.qmin) = 1 := by decide +kernel
    rw [e1] at this
    omega
  rcases FP.Core.roundRatio_cases FP.Core.b32 sg m 1 e with ⟨c', q', h3⟩ | h3
  · refine ⟨sg, c', q', by rw [hv3, h3], by rw [← h3]; exact hle, fun hs => by rw [← h3]; exact hge (hm hs)⟩
  · exfalso
    rw [h3] at hle
    have h4 : FP.Core.b32.tails * 2 ^ (FP.Core.b32.exps - 2) ≤ 64 * 2 ^ 149 := hle
    have h5 := top_big
    have h6 : 64 * 2 ^ 149 ≤ 2 ^ 24 * 2 ^ 149 := Nat.mul_le_mul_right _ (by decide)
    omega
theorem ab_cases {a b : UInt32} (ha : NB a 64) (hb : NB b 64) : (0 ≤ Op.cmpValue (FP.fcmp (FP.fsub a b) FP.fconst0) .g ∧ NB (FP.fsub a b) 64) ∨ (¬ 0 ≤ Op.cmpValue (FP.fcmp (FP.fsub a b) FP.fconst0) .g ∧ NB (FP.fneg (FP.fsub a b)) 64 ∧ FP.fsub FP.fconst0 (FP.fsub a b) = FP.fneg (FP.fsub a b)) := by
  obtain ⟨s, c, q, h1, h2, h3⟩ := sub_cases ha hb
  have hnn : FP.Core.val32 (FP.fsub a b) ≠ .nan := by rw [h1]; exact FP.Core.Datum.noConfusion
  have hcmp : FP.fcmp (FP.fsub a b) FP.fconst0 = some (compare (FP.Core.zval FP.Core.b32 (FP.Core.val32 (FP.fsub a b))) (FP.Core.zval FP.Core.b32 (FP.Core.val32 FP.fconst0))) := FP.Core.fcmp_zval hnn v0_nan
  rw [v0_z] at hcmp
  rw [cmp_g_ge, hcmp, ne_eq, Option.some.injEq, FP.Core.compare_lt_iff, h1]
  cases s with
  | false =>
    refine Or.inl ⟨?_, ⟨c, q, h1⟩, by rw [h1]; exact h2⟩
    show ¬ ((FP.Core.zmag FP.Core.b32 (.fin false c q) : Nat) : Int) < 0
    omega
  | true =>
    have h4 := h3 rfl
    have hng : FP.Core.val32 (FP.fneg (FP.fsub a b)) = .fin false c q := by
      have := FP.val32_fneg (FP.fsub a b)
      rw [h1] at this
      exact this
    refine Or.inr ⟨?_, ⟨⟨c, q, hng⟩, by rw [hng]; exact h2⟩, ?_⟩
    · show ¬ ¬ -((FP.Core.zmag FP.Core.b32 (.fin true c q) : Nat) : Int) < 0
      omega
    · have hfit := FP.Core.val32_fits (FP.fneg (FP.fsub a b))
      rw [hng] at hfit
      have hv : FP.Core.val32 (FP.fsub FP.fconst0 (FP.fsub a b)) = _ := FP.Core.val32_fsub FP.fconst0 (FP.fsub a b)
      have e0 : FP.Core.val32 FP.fconst0 = .fin false 0 FP.Core.b32.qmin := FP.Core.val32_zero
      have f0 := FP.Core.val32_fits FP.fconst0
      rw [e0] at f0
      rw [e0, h1] at hv
      have hv2 : FP.Core.val32 (FP.fsub FP.fconst0 (FP.fsub a b)) = FP.Core.round FP.Core.b32 (FP.Core.exactSum (.fin false 0 FP.Core.b32.qmin) (.fin false c q)) := hv
      obtain ⟨sg, m, e, x1, x2, x3⟩ := FP.Core.sum_units f0 hfit
      have hsg : sg = false := by
        have : FP.Core.exactSum (.fin false 0 FP.Core.b32.qmin) (.fin false c q) = .fin (FP.Core.sumSign false false (FP.Core.sumUnits false 0 FP.Core.b32.qmin false c q (min FP.Core.b32.qmin q))) (FP.Core.sumUnits false 0 FP.Core.b32.qmin false c q (min FP.Core.b32.qmin q)).natAbs (min FP.Core.b32.qmin q) := rfl
        rw [x1] at this
        injection this with t1 t2 t3
        rw [t1]
        unfold FP.Core.sumSign
        split
        · rfl
        · refine decide_eq_false ?_
          show ¬ ((FP.Core.inUnits 0 FP.Core.b32.qmin (min FP.Core.b32.qmin q) : Int) + (FP.Core.inUnits c q (min FP.Core.b32.qmin q) : Int) < 0)
          omega
      subst hsg
      rw [x1] at hv2
      have hz0 : FP.Core.zval FP.Core.b32 (.fin false 0 FP.Core.b32.qmin) = 0 := by decide +kernel
      rw [hz0, Int.zero_add] at x3
      have p0 : ((2 ^ (FP.Core.b32.qmin - FP.Core.b32.qmin).toNat : Nat) : Int) = 1 := by rw [Int.sub_self]; rfl
      have hzz : FP.Core.zval FP.Core.b32 (FP.Core.val32 (FP.fsub FP.fconst0 (FP.fsub a b))) = FP.Core.zval FP.Core.b32 (.fin false c q) := by
        rw [hv2]
        refine Int.le_antisymm ?_ ?_
        · exact FP.Core.zval_round_le FP.Core.good_b32 hfit FP.Core.Datum.noConfusion (Int.le_refl _) x2 (by rw [p0, Int.mul_one, x3]; exact Int.le_refl _)
        · exact FP.Core.zval_round_ge FP.Core.good_b32 hfit FP.Core.Datum.noConfusion (Int.le_refl _) x2 (by rw [p0, Int.mul_one, x3]; exact Int.le_refl _)
      have hnn2 : FP.Core.val32 (FP.fsub FP.fconst0 (FP.fsub a b)) ≠ .nan := by
        rw [hv2]
        exact FP.Core.roundRatio_ne_nan _ _ _ _ _
      have hsg2 : FP.Core.sgn (FP.Core.val32 (FP.fsub FP.fconst0 (FP.fsub a b))) = false := by
        rw [hv2]
        exact FP.Core.sgn_roundRatio _ _ _ _ _
      have hsn : FP.Core.sgn (FP.Core.val32 (FP.fneg (FP.fsub a b))) = false := by rw [hng]; rfl
      have hnn3 : FP.Core.val32 (FP.fneg (FP.fsub a b)) ≠ .nan := by rw [hng]; exact FP.Core.Datum.noConfusion
      have b1 := FP.Core.sgn_bits32 hnn2
      have b2 := FP.Core.sgn_bits32 hnn3
      rw [hsg2] at b1
      rw [hsn] at b2
      have l1 := of_decide_eq_false b1.symm
      have l2 := of_decide_eq_false b2.symm
      have hmag : FP.Core.zmag FP.Core.b32 (FP.Core.val32 (FP.fsub FP.fconst0 (FP.fsub a b))) = FP.Core.zmag FP.Core.b32 (FP.Core.val32 (FP.fneg (FP.fsub a b))) := by
        have w1 : FP.Core.zval FP.Core.b32 (FP.Core.val32 (FP.fsub FP.fconst0 (FP.fsub a b))) = ((FP.Core.zmag FP.Core.b32 (FP.Core.val32 (FP.fsub FP.fconst0 (FP.fsub a b))) : Nat) : Int) := by
          unfold FP.Core.zval
          rw [hsg2]; rfl
        have w2 : FP.Core.zval FP.Core.b32 (.fin false c q) = ((FP.Core.zmag FP.Core.b32 (.fin false c q) : Nat) : Int) := rfl
        rw [w1, w2] at hzz
        rw [hng]
        omega
      rw [FP.Core.zmag_bits32 hnn2, FP.Core.zmag_bits32 hnn3] at hmag
      have heq : (FP.fsub FP.fconst0 (FP.fsub a b)).toNat % 2 ^ 31 = (FP.fneg (FP.fsub a b)).toNat % 2 ^ 31 := Nat.le_antisymm (FP.Core.unitsOf_le_iff.mp (Nat.le_of_eq hmag)) (FP.Core.unitsOf_le_iff.mp (Nat.le_of_eq hmag.symm))
      refine UInt32.toNat_inj.mp ?_
      omega
theorem ab_NB {a b : UInt32} (ha : NB a 64) (hb : NB b 64) : NB (ab (FP.fsub a b)) 64 := by
  unfold ab
  rcases ab_cases ha hb with ⟨h1, h2⟩ | ⟨h1, h2, _⟩
  · rw [if_pos h1]; exact h2
  · rw [if_neg h1]; exact h2
theorem sub_nn {a b : UInt32} (ha : NB a 64) (hb : NB b 64) : nn32 (FP.fsub a b) = true := mag_nn (sub_mag ha hb) (by decide)
theorem X3_distance (N : Nat) {a b : UInt32} (ha : NB a 64) (hb : NB b 64) : f_X3_distance N a b = some (ab (FP.fsub a b)) := by
  refine Ok_of ?_
  unfold f_X3_distance ab
  refine Ok_chk.mpr ⟨sub_nn ha hb, Ok_nm.mpr ?_⟩
  refine Ok_ite.mpr ⟨fun c => ?_, fun c => ?_⟩
  · rw [if_pos c]; exact Ok_some.mpr rfl
  · rw [if_neg c]; exact Ok_some.mpr rfl
theorem X8_size (N : Nat) {a b : UInt32} (ha : NB a 64) (hb : NB b 64) : f_X8_size N (FP.fsub a b) = some (ab (FP.fsub a b)) := by
  refine Ok_of ?_
  unfold f_X8_size ab
  rcases ab_cases ha hb with ⟨h1, h2⟩ | ⟨h1, h2, h3⟩
  · rw [if_pos h1, if_pos h1]; exact Ok_some.mpr rfl
  · rw [if_neg h1, if_neg h1, h3]
    exact Ok_chk.mpr ⟨NB_nn h2, Ok_some.mpr rfl⟩
noncomputable def mxl (w t : UInt32) : UInt32 := if Op.cmpValue (FP.fcmp w t) .l < 0 then t else w
theorem mxl_NB {w t : UInt32} {n : Nat} (h1 : NB w n) (h2 : NB t n) : NB (mxl w t) n := by
  unfold mxl
  split
  · exact h2
  · exact h1
theorem mxl_le {w t : UInt32} {n : Nat} (h1 : NB w n) (h2 : NB t n) : (if Op.cmpValue (FP.fcmp w t) .l ≤ 0 then t else w) = mxl w t := by
  have hc := fcmp_pos (NB_nan h1) (NB_nan h2) (NB_sign h1) (NB_sign h2)
  have hne : FP.fcmp w t ≠ none := by rw [hc]; exact fun q => by cases q
  unfold mxl
  by_cases c1 : Op.cmpValue (FP.fcmp w t) .l < 0
  · rw [if_pos c1, if_pos (by
      rw [cmp_l_le _ hne]
      rw [cmp_l_lt _ hne] at c1
      rw [c1]; decide)]
  · rw [if_neg c1]
    by_cases c2 : Op.cmpValue (FP.fcmp w t) .l ≤ 0
    · rw [if_pos c2]
      rw [cmp_l_le _ hne, hc, ne_eq, Option.some.injEq, FP.Core.compare_gt_iff] at c2
      rw [cmp_l_lt _ hne, hc, Option.some.injEq, FP.Core.compare_lt_iff] at c1
      exact UInt32.toNat_inj.mp (by omega)
    · rw [if_neg c2]
/-- the sum of the lengths of the first k edges -/
noncomputable def lsum (G : Gr) (S : FS) : Nat → UInt32
  | 0 => FP.fconst0
  | k + 1 => FP.fadd (lsum G S k) (mxl (ab (FP.fsub (S.1 (gEnd G k).1) (S.1 (gEnd G k).2))) (ab (FP.fsub (S.2 (gEnd G k).1) (S.2 (gEnd G k).2))))
section EXT
variable {G : Gr}
theorem len_NB (hW : WF G) {S : FS} (h : Bd S) {k : Nat} (hk : k < (gE G).length) : NB (ab (FP.fsub (S.1 (gEnd G k).1) (S.1 (gEnd G k).2))) 64 ∧ NB (ab (FP.fsub (S.2 (gEnd G k).1) (S.2 (gEnd G k).2))) 64 := by
  have we := WF_end hW hk
  have h9 := hW.2.1
  have b1 := h (gEnd G k).1 (by omega)
  have b2 := h (gEnd G k).2 (by omega)
  exact ⟨ab_NB b1.1 b2.1, ab_NB b1.2 b2.2⟩
theorem lsum_NB (hW : WF G) {S : FS} (h : Bd S) : ∀ k, k ≤ (gE G).length → NB (lsum G S k) (64 * k)
  | 0, _ => NB_0 _
  | k + 1, hk => by
    have h20 := hW.2.2.1
    have hl := len_NB hW h (k := k) (by omega)
    show NB (FP.fadd _ _) (64 * k + 64)
    exact fadd_NB (lsum_NB hW h k (by omega)) (mxl_NB hl.1 hl.2) (by omega)
theorem lsum_Ag (hW : WF G) {S T : FS} (h : Ag S T) : ∀ k, k ≤ (gE G).length → lsum G S k = lsum G T k
  | 0, _ => rfl
  | k + 1, hk => by
    have we := WF_end hW (e := k) (by omega)
    have h9 := hW.2.1
    have b1 := h (gEnd G k).1 (by omega)
    have b2 := h (gEnd G k).2 (by omega)
    show FP.fadd _ _ = FP.fadd _ _
    rw [lsum_Ag hW h k (by omega), b1.1, b1.2, b2.1, b2.2]
theorem X3_addLengths (hW : WF G) {lo hi : Nat → Int32} (he : Ends G lo hi) (N : Nat) (hN : 1000 < N) {S : FS} (hB : Bd S) : f_X3_addLengths N (nI (gE G).length) lo hi S.1 S.2 = some (lsum G S (gE G).length) := by
  have h20 := hW.2.2.1
  have h9 := hW.2.1
  refine Ok_of ?_
  unfold f_X3_addLengths
  refine Ok_nm.mpr ?_
  refine lpU (σ := Unit) (fun n k _ => f_X3_addLengths_b4 N (nI (gE G).length) lo hi S.1 S.2 n (lsum G S k) (nI k)) (fun _ _ => True) (gE G).length ?_ ?_ N 0 () (Nat.zero_le _) (by omega) trivial
  · intro n _ _
    simp only [f_X3_addLengths_b4]
    exact Ok_ife (nI_leI (by omega) (by omega)) (fun _ => Ok_some.mpr rfl) (fun c => absurd (Nat.le_refl _) c)
  · intro n k _ hk _ ih
    have ih := ih () trivial
    have we := WF_end hW hk
    have b1 := hB (gEnd G k).1 (by omega)
    have b2 := hB (gEnd G k).2 (by omega)
    have hs := lsum_NB hW hB (k + 1) (by omega)
    have e : lsum G S (k + 1) = FP.fadd (lsum G S k) (mxl (ab (FP.fsub (S.1 (gEnd G k).1) (S.1 (gEnd G k).2))) (ab (FP.fsub (S.2 (gEnd G k).1) (S.2 (gEnd G k).2)))) := rfl
    rw [e] at ih hs
    have i1 : inb (nI k) 20 = true := inb_nI (by omega) (by decide)
    have i2 : inb (nI (gEnd G k).1) 9 = true := inb_nI (by omega) (by decide)
    have i3 : inb (nI (gEnd G k).2) 9 = true := inb_nI (by omega) (by decide)
    simp only [f_X3_addLengths_b4, f_X3_addLengths_b82]
    rw [nI_clamp (n := k) (by omega), (he k hk).1, (he k hk).2, nI_clamp (n := (gEnd G k).1) (by omega), nI_clamp (n := (gEnd G k).2) (by omega), X3_distance N b1.1 b2.1, X3_distance N b1.2 b2.2, nI_1]
    refine Ok_ife (nI_leI (by omega) (by omega)) (fun c => absurd c (by omega)) (fun _ => ?_)
    refine Ok_chk.mpr ⟨i1, Ok_chk.mpr ⟨i2, Ok_chk.mpr ⟨i1, Ok_chk.mpr ⟨i3, Ok_bd1.mpr (Ok_some.mpr (Ok_chk.mpr ⟨i1, Ok_chk.mpr ⟨i2, Ok_chk.mpr ⟨i1, Ok_chk.mpr ⟨i3, Ok_bd1.mpr (Ok_some.mpr ?_)⟩⟩⟩⟩))⟩⟩⟩⟩
    unfold mxl at ih hs
    refine Ok_ite.mpr ⟨fun c => ?_, fun c => ?_⟩
    · rw [if_pos c] at ih hs
      exact Ok_chk.mpr ⟨NB_nn hs, Ok_nm.mpr ih⟩
    · rw [if_neg c] at ih hs
      exact Ok_chk.mpr ⟨NB_nn hs, Ok_nm.mpr ih⟩
theorem X8_lengths (hW : WF G) {s : Nat → Int32} (hR : RM G s) (N : Nat) (hN : 1000 < N) {S : FS} (hB : Bd S) (fo fs : Nat → Int32) (nf : Int32) : f_X8_extent_b33 N s N FP.fconst0 0 fo fs nf S.1 S.2 = f_X8_extent_b133 N s (lsum G S (gE G).length) fo fs nf S.1 S.2 := by
  have h20 := hW.2.2.1
  have h9 := hW.2.1
  have hend : ∃ r, f_X8_extent_b133 N s (lsum G S (gE G).length) fo fs nf S.1 S.2 = some r := by
    have := J_bits N (NB_nan (lsum_NB hW hB (gE G).length (Nat.le_refl _)))
    unfold f_X8_extent_b133
    rw [this]
    exact ⟨_, rfl⟩
  obtain ⟨r, hr⟩ := hend
  rw [hr]
  refine Ok_of ?_
  refine lpU (σ := Unit) (fun n k _ => f_X8_extent_b33 N s n (lsum G S k) (nI k) fo fs nf S.1 S.2) (fun _ _ => True) (gE G).length ?_ ?_ N 0 () (Nat.zero_le _) (by omega) trivial
  · intro n _ _
    simp only [f_X8_extent_b33]
    rw [show (1 : Int32).toNatClampNeg = 1 from rfl, hR.2.1, hr]
    exact Ok_chk.mpr ⟨by decide, Ok_ife (nI_leI (by omega) (by omega)) (fun _ => Ok_some.mpr rfl) (fun c => absurd (Nat.le_refl _) c)⟩
  · intro n k _ hk _ ih
    have ih := ih () trivial
    have we := WF_end hW hk
    have x4 := hR.2.2.2.1 k hk
    have b1 := hB (gEnd G k).1 (by omega)
    have b2 := hB (gEnd G k).2 (by omega)
    have hl := len_NB hW hB hk
    have hs := lsum_NB hW hB (k + 1) (by omega)
    have e : lsum G S (k + 1) = FP.fadd (lsum G S k) (mxl (ab (FP.fsub (S.1 (gEnd G k).1) (S.1 (gEnd G k).2))) (ab (FP.fsub (S.2 (gEnd G k).1) (S.2 (gEnd G k).2)))) := rfl
    rw [e, ← mxl_le hl.1 hl.2] at ih hs
    have e3 : (3 : Int32) + nI k = nI (3 + k) := nI_add 3 _
    have e23 : (23 : Int32) + nI k = nI (23 + k) := nI_add 23 _
    have i1 : inb (nI (3 + k)) 124 = true := inb_nI (by omega) (by decide)
    have i4 : inb (nI (23 + k)) 124 = true := inb_nI (by omega) (by decide)
    have i2 : inb (nI (gEnd G k).1) 9 = true := inb_nI (by omega) (by decide)
    have i3 : inb (nI (gEnd G k).2) 9 = true := inb_nI (by omega) (by decide)
    simp only [f_X8_extent_b33, f_X8_extent_b125]
    rw [show (1 : Int32).toNatClampNeg = 1 from rfl, hR.2.1, e3, e23, nI_clamp (n := 3 + k) (by omega), nI_clamp (n := 23 + k) (by omega), x4.1, x4.2, nI_clamp (n := (gEnd G k).1) (by omega), nI_clamp (n := (gEnd G k).2) (by omega), X8_size N b1.1 b2.1, X8_size N b1.2 b2.2, nI_1]
    refine Ok_chk.mpr ⟨by decide, Ok_ife (nI_leI (by omega) (by omega)) (fun c => absurd c (by omega)) (fun _ => ?_)⟩
    refine Ok_chk.mpr ⟨i1, Ok_chk.mpr ⟨i2, Ok_chk.mpr ⟨i4, Ok_chk.mpr ⟨i3, Ok_chk.mpr ⟨sub_nn b1.1 b2.1, Ok_bd1.mpr (Ok_some.mpr (Ok_chk.mpr ⟨i1, Ok_chk.mpr ⟨i2, Ok_chk.mpr ⟨i4, Ok_chk.mpr ⟨i3, Ok_chk.mpr ⟨sub_nn b1.2 b2.2, Ok_bd1.mpr (Ok_some.mpr ?_)⟩⟩⟩⟩⟩))⟩⟩⟩⟩⟩
    refine Ok_ite.mpr ⟨fun c => ?_, fun c => ?_⟩
    · rw [if_pos c] at ih hs
      exact Ok_chk.mpr ⟨NB_nn hs, Ok_nm.mpr ih⟩
    · rw [if_neg c] at ih hs
      exact Ok_chk.mpr ⟨NB_nn hs, Ok_nm.mpr ih⟩
end EXT
