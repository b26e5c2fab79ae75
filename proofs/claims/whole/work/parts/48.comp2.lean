/-! ===== components and bits: the reference (rows fb_andL, pf_shr begin with the kit's texts to paste) ===== -/
theorem fb_andL (a b : Nat) : lN a &&& lN b = lN (a &&& b) := by
  apply Int64.toBitVec_inj.1
  show BitVec.ofNat 64 a &&& BitVec.ofNat 64 b = BitVec.ofNat 64 (a &&& b)
  apply BitVec.eq_of_getLsbD_eq
  intro i hi
  simp [hi]
theorem fb_orL (a b : Nat) : lN a ||| lN b = lN (a ||| b) := by
  apply Int64.toBitVec_inj.1
  show BitVec.ofNat 64 a ||| BitVec.ofNat 64 b = BitVec.ofNat 64 (a ||| b)
  apply BitVec.eq_of_getLsbD_eq
  intro i hi
  simp [hi]
theorem pf_shr {a d : Nat} {D : Int64} (hD : (D.toBitVec.smod 64).toNat = d) (h : a < 2 ^ 62) : lN a >>> D = lN (a / 2 ^ d) := by
  have hd : a / 2 ^ d ≤ a := Nat.div_le_self _ _
  apply Int64.toInt_inj.mp
  have e : (lN a >>> D).toInt = (lN a).toInt >>> d := by
    rw [← hD]
    exact BitVec.toInt_sshiftRight ..
  rw [e, Int.shiftRight_eq_div_pow, pk_lT (by omega), pk_lT (by omega)]
  rfl
theorem cp_sp {G : Gr} (hW : WF G) {v : Nat} (hv : v < gN G) : ∀ b, bt (cp G v) b = true ↔ conn G v b := by
  obtain ⟨a, -, ha⟩ := X1_fillLinks hW (lo := fun e => nI (gEnd G e).1) (hi := fun e => nI (gEnd G e).2) (fun e _ => ⟨rfl, rfl⟩) 101 (by decide) (fun _ => 0)
  exact (X7_comp hW ha 31 (by decide) v hv).2
theorem cp_un {G : Gr} (hW : WF G) {v : Nat} (hv : v < gN G) {r : Int32} (hr : ∀ b, bt r b = true ↔ conn G v b) : r = cp G v := by
  have hs := cp_sp hW hv
  refine b_ext (fun b _ => ?_)
  cases hx : bt r b with
  | true => exact ((hs b).mpr ((hr b).mp hx)).symm
  | false =>
    cases hy : bt (cp G v) b with
    | false => rfl
    | true =>
      rw [(hr b).mpr ((hs b).mp hy)] at hx; cases hx
section COMP8
variable {G : Gr}
theorem X8_compIn (hW : WF G) {s : Nat → Int32} (hR : RM G s) (N : Nat) (hN : 30 < N) {v i : Nat} (x0 : Int32) (hx : ∀ b, bt x0 b = true → b < gN G ∧ conn G v b) (k6 : Int32 → Int32 → Option Int32) (Q : Int32 → Prop)
    (hk : ∀ y, (∀ b, bt x0 b = true → bt y b = true) → (∀ b, bt y b = true → b < gN G ∧ conn G v b) → (y = x0 → ∀ a b, bt x0 a = true → adj G a b → bt x0 b = true) → ((∀ a b, bt x0 a = true → adj G a b → bt x0 b = true) → y = x0) → Ok (k6 y (nI (i + 1))) Q) :
    Ok (f_X8_component_b19 N s k6 N x0 (nI i) 0) Q := by
  have hm := hW.2.2.1
  have hn := hW.2.1
  refine lpU (fun n j y => f_X8_component_b19 N s k6 n y (nI i) (nI j)) (fun j y => (∀ b, bt x0 b = true → bt y b = true) ∧ (∀ b, bt y b = true → b < gN G ∧ conn G v b) ∧ (∀ e, e < j → (bt x0 (gEnd G e).1 = true ∨ bt x0 (gEnd G e).2 = true) → bt y (gEnd G e).1 = true ∧ bt y (gEnd G e).2 = true) ∧ ((∀ a b, bt x0 a = true → adj G a b → bt x0 b = true) → y = x0)) (gE G).length ?_ ?_ N 0 x0 (Nat.zero_le _) (by omega) ⟨fun b h => h, hx, fun e he => absurd he (Nat.not_lt_zero e), fun _ => rfl⟩
  · rintro n y ⟨h1, h2, h3, h4⟩
    simp only [f_X8_component_b19, f_X8_component_b78]
    rw [show (1 : Int32).toNatClampNeg = 1 from rfl, hR.2.1, nI_1]
    refine Ok_chk.mpr ⟨by decide, Ok_ife (nI_leI (by omega) (by omega)) (fun _ => ?_) (fun c => absurd (Nat.le_refl _) c)⟩
    refine hk y h1 h2 (fun hy a b ha hab => ?_) h4
    obtain ⟨e, q1, q2⟩ := hab
    rcases q2 with q2 | q2
    · have := h3 e q1 (by rw [q2]; exact Or.inl ha)
      rw [q2, hy] at this
      exact this.2
    · have := h3 e q1 (by rw [q2]; exact Or.inr ha)
      rw [q2, hy] at this
      exact this.1
  · rintro n j y hj ⟨h1, h2, h3, h4⟩ ih
    have we := WF_end hW hj
    have x4 := hR.2.2.2.1 j hj
    have e3 : (3 : Int32) + nI j = nI (3 + j) := nI_add 3 _
    have e23 : (23 : Int32) + nI j = nI (23 + j) := nI_add 23 _
    simp only [f_X8_component_b19, f_X8_component_b70]
    rw [show (1 : Int32).toNatClampNeg = 1 from rfl, hR.2.1, e3, e23, nI_clamp (by omega), nI_clamp (by omega), x4.1, x4.2, nI_1]
    refine Ok_chk.mpr ⟨by decide, Ok_ife (nI_leI (by omega) (by omega)) (fun c => absurd c (by omega)) (fun _ => ?_)⟩
    refine Ok_chk.mpr ⟨inb_nI (by omega) (by decide), Ok_chk.mpr ⟨inb_nI (by omega) (by decide), Ok_nm.mpr ?_⟩⟩
    have hend : ∀ b, bt (((1 : Int32) <<< (nI (gEnd G j).1 &&& 31)) ||| ((1 : Int32) <<< (nI (gEnd G j).2 &&& 31))) b = true ↔ b = (gEnd G j).1 ∨ b = (gEnd G j).2 := by
      intro b
      rw [b_or, b_bit (by omega), b_bit (by omega), Bool.or_eq_true, decide_eq_true_eq, decide_eq_true_eq]
    generalize (((1 : Int32) <<< (nI (gEnd G j).1 &&& 31)) ||| ((1 : Int32) <<< (nI (gEnd G j).2 &&& 31))) = en at *
    have hand : y &&& en = 0 ↔ ¬ (bt y (gEnd G j).1 = true ∨ bt y (gEnd G j).2 = true) := by
      rw [b_zero]
      constructor
      · intro h q
        rcases q with q | q
        · have := h (gEnd G j).1 (by omega)
          rw [b_and, q, (hend _).mpr (Or.inl rfl)] at this
          cases this
        · have := h (gEnd G j).2 (by omega)
          rw [b_and, q, (hend _).mpr (Or.inr rfl)] at this
          cases this
      · intro h b _
        rw [b_and]
        cases hy : bt y b with
        | false => rfl
        | true =>
          cases he : bt en b with
          | false => rfl
          | true =>
            rcases (hend b).mp he with q | q
            · rw [q] at hy; exact absurd (Or.inl hy) h
            · rw [q] at hy; exact absurd (Or.inr hy) h
    refine Ok_ife hand (fun c => Ok_nm.mpr ?_) (fun c => Ok_nm.mpr ?_)
    · have e0 : y ||| 0 = y := b_ext (fun b _ => by rw [b_or, b_0, Bool.or_false])
      rw [e0]
      refine ih y ⟨h1, h2, fun e he q => ?_, h4⟩
      rcases Nat.lt_or_ge e j with q3 | q3
      · exact h3 e q3 q
      · obtain rfl : e = j := by omega
        exact absurd (q.imp (h1 _) (h1 _)) c
    · have c := Classical.not_not.mp c
      have had : adj G (gEnd G j).1 (gEnd G j).2 := ⟨j, hj, Or.inl rfl⟩
      have hyb : ∀ b, bt (y ||| en) b = true ↔ bt y b = true ∨ (b = (gEnd G j).1 ∨ b = (gEnd G j).2) := fun b => by rw [b_or, Bool.or_eq_true, hend]
      have hc1 : conn G v (gEnd G j).1 ∧ conn G v (gEnd G j).2 := by
        rcases c with q | q
        · exact ⟨(h2 _ q).2, conn_step (h2 _ q).2 had⟩
        · exact ⟨conn_step (h2 _ q).2 (adj_comm had), (h2 _ q).2⟩
      refine ih _ ⟨fun b hb => (hyb b).mpr (Or.inl (h1 b hb)), fun b hb => ?_, fun e he q => ?_, fun hc => ?_⟩
      · rcases (hyb b).mp hb with q | q | q
        · exact h2 b q
        · rw [q]; exact ⟨by omega, hc1.1⟩
        · rw [q]; exact ⟨by omega, hc1.2⟩
      · rcases Nat.lt_or_ge e j with q3 | q3
        · exact ⟨(hyb _).mpr (Or.inl (h3 e q3 q).1), (hyb _).mpr (Or.inl (h3 e q3 q).2)⟩
        · obtain rfl : e = j := by omega
          exact ⟨(hyb _).mpr (Or.inr (Or.inl rfl)), (hyb _).mpr (Or.inr (Or.inr rfl))⟩
      · have e1 := h4 hc
        rw [e1] at c
        have h12 : bt x0 (gEnd G j).1 = true ∧ bt x0 (gEnd G j).2 = true := by
          rcases c with q | q
          · exact ⟨q, hc _ _ q had⟩
          · exact ⟨hc _ _ q (adj_comm had), q⟩
        refine b_ext (fun b _ => ?_)
        cases hb : bt (y ||| en) b with
        | true =>
          rcases (hyb b).mp hb with q | q | q
          · rw [e1] at q; exact q.symm
          · rw [q]; exact h12.1.symm
          · rw [q]; exact h12.2.symm
        | false =>
          cases hb2 : bt x0 b with
          | false => rfl
          | true => rw [(hyb b).mpr (Or.inl (h1 b hb2))] at hb; cases hb
theorem X8_component (hW : WF G) {s : Nat → Int32} (hR : RM G s) (N : Nat) (hN : 30 < N) {v : Nat} (hv : v < gN G) : f_X8_component N s (nI v) = some (cp G v) := by
  have hn := hW.2.1
  refine Ok_of ?_
  unfold f_X8_component
  refine Ok_nm.mpr ?_
  refine lpU (fun n i x => f_X8_component_b6 N s n x (nI i)) (fun i x => bt x v = true ∧ (∀ b, bt x b = true → b < gN G ∧ conn G v b) ∧ ((∀ a b, bt x a = true → adj G a b → bt x b = true) ∨ i + 1 ≤ fb_ct (bt x) (gN G))) (gN G) ?_ ?_ N 0 _ (Nat.zero_le _) (by omega) ⟨by rw [b_bit (by omega)]; exact decide_eq_true rfl, fun b hb => by rw [b_bit (by omega), decide_eq_true_eq] at hb; rw [hb]; exact ⟨hv, conn_self G v⟩, Or.inr ?_⟩
  · rintro n x ⟨h1, h2, h3⟩
    simp only [f_X8_component_b6]
    rw [show (0 : Int32).toNatClampNeg = 0 from rfl, hR.1]
    refine Ok_chk.mpr ⟨by decide, Ok_ife (nI_leI (by omega) (by omega)) (fun _ => Ok_some.mpr ?_) (fun c => absurd (Nat.le_refl _) c)⟩
    have h4 : ∀ a b, bt x a = true → adj G a b → bt x b = true := by
      rcases h3 with q | q
      · exact q
      · have := fb_ct_le (bt x) (gN G)
        omega
    exact cp_un hW hv (fun b => ⟨fun hb => (h2 b hb).2, fun hc => hc (fun w => bt x w = true) h1 h4⟩)
  · rintro n i x hi ⟨h1, h2, h3⟩ ih
    simp only [f_X8_component_b6]
    rw [show (0 : Int32).toNatClampNeg = 0 from rfl, hR.1]
    refine Ok_chk.mpr ⟨by decide, Ok_ife (nI_leI (by omega) (by omega)) (fun c => absurd c (by omega)) (fun _ => ?_)⟩
    refine X8_compIn hW hR N hN (v := v) (i := i) x h2 _ _ ?_
    intro y q1 q2 q3 q4
    refine ih y ⟨q1 v h1, q2, ?_⟩
    by_cases c : y = x
    · rw [c]; exact Or.inl (q3 c)
    · rcases h3 with q | q
      · exact absurd (q4 q) c
      · refine Or.inr ?_
        have : ∃ b, b < gN G ∧ bt x b = false ∧ bt y b = true := by
          refine Classical.byContradiction (fun q => c (b_ext (fun b hb => ?_)))
          cases hx : bt x b with
          | true => rw [q1 b hx]
          | false =>
            cases hy : bt y b with
            | false => rfl
            | true => exact absurd ⟨b, (q2 b hy).1, hx, hy⟩ q
        obtain ⟨b, b1, b2, b3⟩ := this
        have := ct_lt (p := bt x) (q := bt y) (n := gN G) (fun j _ hj => q1 j hj) b1 b2 b3
        omega
  · show 0 + 1 ≤ _
    have : 0 < fb_ct (bt ((1 : Int32) <<< (nI v &&& 31))) (gN G) := fb_ct_pos.mpr ⟨v, hv, by rw [b_bit (by omega)]; exact decide_eq_true rfl⟩
    omega
end COMP8
/-! bit counts -/
theorem bt_nI {n : Nat} (h : n < 2 ^ 32) (i : Nat) : bt (nI n) i = n.testBit i := by
  show (nI n).toBitVec.getLsbD i = _
  rw [← BitVec.testBit_toNat, pk_tn h]
theorem nI_all (x : Int32) : x = nI x.toBitVec.toNat := Int32.toBitVec_inj.mp (by show _ = BitVec.ofNat 32 _; simp)
theorem b_small {x : Int32} {k : Nat} (h : ∀ b, bt x b = true → b < k) : ∃ n, n < 2 ^ k ∧ n < 2 ^ 32 ∧ x = nI n := by
  refine ⟨x.toBitVec.toNat, Nat.lt_pow_two_of_testBit _ (fun i hi => ?_), x.toBitVec.isLt, nI_all x⟩
  cases hb : x.toBitVec.toNat.testBit i with
  | false => rfl
  | true =>
    have := h i (by unfold bt; rw [← BitVec.testBit_toNat]; exact hb)
    omega
theorem bc_512 : ∀ n, n < 512 → f_J6_bitCount_0f7a4 0 (nI n) = some (nI (fb_ct (bt (nI n)) 9)) := by decide +kernel
theorem J6_bitCount (N : Nat) {x : Int32} (h : ∀ b, bt x b = true → b < 9) : f_J6_bitCount_0f7a4 N x = some (nI (fb_ct (bt x) 9)) := by
  obtain ⟨n, h1, -, rfl⟩ := b_small h
  exact bc_512 n h1
theorem wb_c64 : ∀ k, k < 64 → (((nI k).toInt64 &&& 63).toBitVec.smod 64).toNat = k := by decide +kernel
theorem ct_ext (p : Nat → Bool) (a : Nat) : ∀ b, (∀ k, a ≤ k → k < a + b → p k = false) → fb_ct p (a + b) = fb_ct p a
  | 0, _ => rfl
  | b + 1, h => by
    rw [show a + (b + 1) = (a + b) + 1 from rfl, fb_ct_succ, h (a + b) (by omega) (by omega), ct_ext p a b (fun k h1 h2 => h k h1 (by omega))]
    rfl
theorem X8_bits (N : Nat) (hN : 100 < N) {a : Nat} (ha : a < 2 ^ 62) : f_X8_bits N (lN a) = some (nI (fb_ct (fun k => a.testBit k) 40)) := by
  refine Ok_of ?_
  unfold f_X8_bits
  refine lpU (fun n i c => f_X8_bits_b4 N n (lN a) c (nI i)) (fun i c => c = nI (fb_ct (fun k => a.testBit k) i)) 40 ?_ ?_ N 0 0 (Nat.zero_le _) (by omega) rfl
  · rintro n c rfl
    simp only [f_X8_bits_b4]
    rw [show nI 40 = (40 : Int32) from rfl, if_pos (by decide)]
    exact Ok_some.mpr rfl
  · rintro n i c hi rfl ih
    simp only [f_X8_bits_b4]
    refine Ok_ife (nI_leI (a := 40) (b := i) (by omega) (by omega)) (fun c => absurd c (by omega)) (fun _ => Ok_nm.mpr ?_)
    rw [pf_shr (wb_c64 i (by omega)) ha, show (1 : Int64) = lN (2 ^ 1 - 1) from rfl, fb_andL, Nat.and_two_pow_sub_one_eq_mod, lN_i, nI_add, nI_1]
    refine ih _ ?_
    congr 1
    rw [fb_ct_succ]
    congr 1
    rw [Nat.testBit_eq_decide_div_mod_eq]
    rcases Nat.mod_two_eq_zero_or_one (a / 2 ^ i) with q | q
    · rw [show (2 : Nat) ^ 1 = 2 from rfl, q]; rfl
    · rw [show (2 : Nat) ^ 1 = 2 from rfl, q]; rfl
theorem X8_bitsI (N : Nat) (hN : 100 < N) {x : Int32} (h : ∀ b, bt x b = true → b < 9) : f_X8_bits N x.toInt64 = some (nI (fb_ct (bt x) 9)) := by
  obtain ⟨n, h1, h2, rfl⟩ := b_small h
  rw [nI_l (by omega), X8_bits N hN (by omega)]
  congr 2
  rw [show (40 : Nat) = 9 + 31 from rfl, ct_ext]
  · exact fb_ct_cong (fun k _ => (bt_nI h2 k).symm)
  · intro k hk _
    rw [← bt_nI h2 k]
    cases hb : bt (nI n) k with
    | false => rfl
    | true => have := h k hb; omega
