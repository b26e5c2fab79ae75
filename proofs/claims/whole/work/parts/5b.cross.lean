/-! ===== which edges the best way crosses ===== -/
theorem lg_cmp0 (x y : Int64) : lg_cmp x y = 0 ↔ x = y := by
  unfold lg_cmp
  by_cases h : x > y
  · rw [if_pos h]
    refine ⟨fun q => absurd q (by decide), fun q => ?_⟩
    rw [q] at h
    have := Int64.lt_iff_toInt_lt.mp h
    omega
  · rw [if_neg h]
    by_cases h2 : x = y
    · rw [if_pos h2]; exact ⟨fun _ => h2, fun _ => rfl⟩
    · rw [if_neg h2]; exact ⟨fun q => absurd q (by decide), fun q => absurd q h2⟩
theorem l_ext {x y : Int64} (h : ∀ i, i < 64 → bl x i = bl y i) : x = y := Int64.toBitVec_inj.mp (BitVec.eq_of_getLsbD_eq (fun i hi => h i hi))
theorem l_one {x : Int64} (hx : ∀ b, bl x b = true → b < 40) {k : Nat} (hk : k < 40) : ((x >>> ((nI k).toInt64 &&& 63)) &&& (1 : Int64)) = if bl x k = true then 1 else 0 := by
  have h1 : x.toBitVec.toNat < 2 ^ 40 := Nat.lt_pow_two_of_testBit _ (fun i hi => by
    cases hb : x.toBitVec.toNat.testBit i with
    | false => rfl
    | true =>
      have := hx i (by unfold bl; rw [← BitVec.testBit_toNat]; exact hb)
      omega)
  have h2 : bl x k = x.toBitVec.toNat.testBit k := rfl
  rw [h2]
  have e : x = lN x.toBitVec.toNat := lN_all x
  generalize x.toBitVec.toNat = a at *
  rw [e, pf_shr (wb_c64 k (by omega)) (by omega), show (1 : Int64) = lN (2 ^ 1 - 1) from rfl, fb_andL, Nat.and_two_pow_sub_one_eq_mod, Nat.testBit_eq_decide_div_mod_eq]
  rcases Nat.mod_two_eq_zero_or_one (a / 2 ^ k) with q | q
  · rw [show (2 : Nat) ^ 1 = 2 from rfl, q]; rfl
  · rw [show (2 : Nat) ^ 1 = 2 from rfl, q]; rfl
theorem l_test {x : Int64} (hx : ∀ b, bl x b = true → b < 40) {k : Nat} (hk : k < 40) : (lg_cmp ((x >>> ((nI k).toInt64 &&& 63)) &&& (1 : Int64)) (1 : Int64)) = 0 ↔ bl x k = true := by
  rw [l_one hx hk, lg_cmp0]
  by_cases h : bl x k = true
  · rw [if_pos h]; exact ⟨fun _ => h, fun _ => rfl⟩
  · rw [if_neg h]; exact ⟨fun q => absurd q (by decide), fun q => absurd q h⟩
def gd (G : Gr) (b : Nat) (P : Nat → Prop) (lf e : Nat) : Prop := (P (lab G (2 * e)) ∧ rch G b (lab G (2 * e + 1)) ∧ dst G b (lab G (2 * e + 1)) = lf) ∨ (P (lab G (2 * e + 1)) ∧ rch G b (lab G (2 * e)) ∧ dst G b (lab G (2 * e)) = lf)
noncomputable def ce (G : Gr) (b : Nat) (P : Nat → Prop) (lf : Nat) : Nat := Classical.epsilon (fun e => (e < (gE G).length ∧ gd G b P lf e) ∧ ∀ j, j < e → ¬ (j < (gE G).length ∧ gd G b P lf j))
def cn (G : Gr) (b : Nat) (P : Nat → Prop) (lf f : Nat) : Prop := (P (lab G (2 * ce G b P lf)) ∧ lab G (2 * ce G b P lf + 1) = f ∧ rch G b f ∧ dst G b f = lf) ∨ (P (lab G (2 * ce G b P lf + 1)) ∧ lab G (2 * ce G b P lf) = f ∧ rch G b f ∧ dst G b f = lf)
def CS (G : Gr) (a b c : Nat) : Nat → Nat → Prop
  | 0 => fun f => f < nF G ∧ NS G f a ∧ rch G b f ∧ dst G b f = c
  | i + 1 => cn G b (CS G a b c i) (c - i - 1)
section CROSS
variable {G : Gr} {b : Nat}
theorem op_2 (e : Nat) : op (2 * e) = 2 * e + 1 := by unfold op; rw [if_pos (by omega)]
theorem op_21 (e : Nat) : op (2 * e + 1) = 2 * e := by unfold op; rw [if_neg (by omega)]; omega
/-- P: faces that are lf + 1 away -/
def PF (G : Gr) (b : Nat) (P : Nat → Prop) (lf : Nat) : Prop := (∀ f, P f → rch G b f ∧ dst G b f = lf + 1) ∧ ∃ f, P f
theorem PF_ex (hW : WF G) {P : Nat → Prop} {lf : Nat} (h : PF G b P lf) : ∃ d, d < 2 * (gE G).length ∧ P (lab G d) ∧ rch G b (lab G (op d)) ∧ dst G b (lab G (op d)) = lf := by
  obtain ⟨h1, f, hf⟩ := h
  obtain ⟨d, d1, d2, d3, d4⟩ := dst_step hW (h1 f hf).1 (h1 f hf).2
  exact ⟨d, d1, by rw [d2]; exact hf, d3, d4⟩
theorem gd_dir {P : Nat → Prop} {lf e : Nat} : gd G b P lf e ↔ ∃ d, d / 2 = e ∧ P (lab G d) ∧ rch G b (lab G (op d)) ∧ dst G b (lab G (op d)) = lf := by
  constructor
  · rintro (⟨q1, q2, q3⟩ | ⟨q1, q2, q3⟩)
    · exact ⟨2 * e, by omega, q1, by rw [op_2]; exact q2, by rw [op_2]; exact q3⟩
    · exact ⟨2 * e + 1, by omega, q1, by rw [op_21]; exact q2, by rw [op_21]; exact q3⟩
  · rintro ⟨d, rfl, q1, q2, q3⟩
    have : d = 2 * (d / 2) ∨ d = 2 * (d / 2) + 1 := by omega
    rcases this with h | h
    · rw [h] at q1 q2 q3
      rw [op_2] at q2 q3
      exact Or.inl ⟨q1, q2, q3⟩
    · rw [h] at q1 q2 q3
      rw [op_21] at q2 q3
      exact Or.inr ⟨q1, q2, q3⟩
theorem ce_sp (hW : WF G) {P : Nat → Prop} {lf : Nat} (h : PF G b P lf) : (ce G b P lf < (gE G).length ∧ gd G b P lf (ce G b P lf)) ∧ ∀ j, j < ce G b P lf → ¬ (j < (gE G).length ∧ gd G b P lf j) := by
  obtain ⟨d, d1, d2⟩ := PF_ex hW h
  exact Classical.epsilon_spec (pk_least (fun e => e < (gE G).length ∧ gd G b P lf e) ⟨d / 2, by omega, gd_dir.mpr ⟨d, rfl, d2⟩⟩)
theorem ce_un (hW : WF G) {P : Nat → Prop} {lf e : Nat} (h : PF G b P lf) (h1 : e < (gE G).length) (h2 : gd G b P lf e) (h3 : ∀ j, j < e → ¬ gd G b P lf j) : e = ce G b P lf := by
  obtain ⟨⟨c1, c2⟩, c3⟩ := ce_sp hW h
  rcases Nat.lt_trichotomy e (ce G b P lf) with q | q | q
  · exact absurd ⟨h1, h2⟩ (c3 e q)
  · exact q
  · exact absurd c2 (h3 _ q)
/-- d is the directed edge that is crossed -/
theorem cn_dir (hW : WF G) {P : Nat → Prop} {lf d : Nat} (h : PF G b P lf) (hd : d / 2 = ce G b P lf) (h1 : P (lab G d)) (h2 : rch G b (lab G (op d))) (h3 : dst G b (lab G (op d)) = lf) (f : Nat) : cn G b P lf f ↔ f = lab G (op d) := by
  unfold cn
  rw [← hd]
  have hP := h.1
  have : d = 2 * (d / 2) ∨ d = 2 * (d / 2) + 1 := by omega
  generalize d / 2 = e at *
  rcases this with hh | hh
  · subst hh
    rw [op_2] at *
    constructor
    · rintro (⟨_, q, _⟩ | ⟨q1, q2, q3, q4⟩)
      · exact q.symm
      · have := (hP _ q1).2
        omega
    · rintro rfl
      exact Or.inl ⟨h1, rfl, h2, h3⟩
  · subst hh
    rw [op_21] at *
    constructor
    · rintro (⟨q1, q2, q3, q4⟩ | ⟨_, q, _⟩)
      · have := (hP _ q1).2
        omega
      · exact q.symm
    · rintro rfl
      exact Or.inr ⟨h1, rfl, h2, h3⟩
theorem cn_ex (hW : WF G) {P : Nat → Prop} {lf : Nat} (h : PF G b P lf) : ∃ d, d < 2 * (gE G).length ∧ d / 2 = ce G b P lf ∧ P (lab G d) ∧ rch G b (lab G (op d)) ∧ dst G b (lab G (op d)) = lf := by
  obtain ⟨⟨c1, c2⟩, -⟩ := ce_sp hW h
  obtain ⟨d, d1, d2⟩ := gd_dir.mp c2
  exact ⟨d, by omega, d1, d2⟩
theorem CS_PF (hW : WF G) {a c : Nat} (h : Cst G a b c) : ∀ i, i < c → PF G b (CS G a b c i) (c - i - 1)
  | 0, hi => by
    refine ⟨fun f hf => ⟨hf.2.2.1, by rw [hf.2.2.2]; omega⟩, ?_⟩
    obtain ⟨f, f1, f2, f3, f4⟩ := h.2
    exact ⟨f, f1, f2, f3, f4⟩
  | i + 1, hi => by
    have ih := CS_PF hW h i (by omega)
    refine ⟨fun f hf => ?_, ?_⟩
    · rcases hf with ⟨_, _, q1, q2⟩ | ⟨_, _, q1, q2⟩
      · exact ⟨q1, by rw [q2]; omega⟩
      · exact ⟨q1, by rw [q2]; omega⟩
    · obtain ⟨d, d1, d2, d3, d4, d5⟩ := cn_ex hW ih
      exact ⟨lab G (op d), (cn_dir hW ih d2 d3 d4 d5 _).mpr rfl⟩
theorem X6_cross (hW : WF G) {t : TF} (hF : FR G t) (N : Nat) (hN : 100 < N) {di : Nat → Int32} (hD : DX G b (nF G) di) {P : Nat → Prop} {c k : Nat} (hc : c ≤ 40) (hk : k < c) (hP : PF G b P (c - k - 1)) {cur : Int32} (hcur : ∀ f, bt cur f = true ↔ P f) (cr : Nat → Int32) :
    Ok (f_X6_cross N t.2.2.2.2.1 (nI (gE G).length) (nI c) cr di cur (nI k)) (fun r => (∀ f, bt r.1 f = true ↔ cn G b P (c - k - 1) f) ∧ r.2 = upd cr k (nI (ce G b P (c - k - 1)))) := by
  have h20 := hW.2.2.1
  have hnf := nF_20 hW
  have ho := hF.2.2.2.2.1
  unfold f_X6_cross
  refine lpU (σ := Unit) (fun n i _ => f_X6_cross_b3 N t.2.2.2.2.1 (nI (gE G).length) (nI c) di n cur (nI k) (nI i) cr) (fun i _ => ∀ d, d < i → ¬ (P (lab G d) ∧ rch G b (lab G (op d)) ∧ dst G b (lab G (op d)) = c - k - 1)) (2 * (gE G).length) ?_ ?_ N 0 () (Nat.zero_le _) (by omega) (fun d hd => absurd hd (Nat.not_lt_zero d))
  · intro n _ hI
    obtain ⟨d, d1, d2⟩ := PF_ex hW hP
    exact absurd d2 (hI d d1)
  · intro n i _ hi hI ih
    have hl := lab_lt hW hi
    have ho2 := op_lt hi
    have hl2 := lab_lt hW ho2
    have next : ¬ (P (lab G i) ∧ rch G b (lab G (op i)) ∧ dst G b (lab G (op i)) = c - k - 1) → ∀ d, d < i + 1 → ¬ (P (lab G d) ∧ rch G b (lab G (op d)) ∧ dst G b (lab G (op d)) = c - k - 1) := by
      intro hno d hd
      rcases Nat.lt_or_ge d i with q | q
      · exact hI d q
      · obtain rfl : d = i := by omega
        exact hno
    have hnle : ¬ nI (2 * (gE G).length) ≤ nI i := by rw [nI_leI (by omega) (by omega)]; omega
    simp only [f_X6_cross_b3, f_X6_cross_b75]
    rw [two_nI, if_neg hnle, nI_op i (by omega), nI_clamp (n := i) (by omega), nI_clamp (n := op i) (by omega), ho i hi, ho _ ho2, X7_contains N (by omega), pk_sub (by omega), nI_sub1 (by omega), nI_1]
    refine Ok_chk.mpr ⟨inb_nI (by omega) (by decide), Ok_nm.mpr (Ok_chk.mpr ⟨inb_nI (by omega) (by decide), Ok_bd1.mpr (Ok_some.mpr (Ok_ife bI_0 (fun c1 => ih () (next (fun q => ?_))) (fun c1 => Ok_chk.mpr ⟨inb_nI (by omega) (by decide), ?_⟩)))⟩)⟩
    · rw [(hcur _).mpr q.1] at c1; cases c1
    · rw [Bool.not_eq_false] at c1
      have hPi := (hcur _).mp c1
      obtain ⟨u1, u2⟩ := DX_use hW hD hl2
      rw [nI_clamp (by omega)]
      by_cases cr2 : rch G b (lab G (op i)) ∧ dst G b (lab G (op i)) = c - k - 1
      · rw [u1 cr2.1, cr2.2, if_neg (fun q => q rfl)]
        unfold f_X6_cross_b58
        rw [X7_bit, nI_clamp (by omega), nI_div2 (by omega)]
        have hce : i / 2 = ce G b P (c - k - 1) := by
          refine ce_un hW hP (by omega) (gd_dir.mpr ⟨i, rfl, hPi, cr2.1, cr2.2⟩) (fun j hj q => ?_)
          obtain ⟨d, d1, d2⟩ := gd_dir.mp q
          exact hI d (by omega) d2
        refine Ok_chk.mpr ⟨inb_nI (by omega) (by decide), Ok_bd1.mpr (Ok_some.mpr (Ok_some.mpr ⟨fun f => ?_, by rw [hce]⟩))⟩
        rw [b_bit (by omega), decide_eq_true_eq, cn_dir hW hP hce hPi cr2.1 cr2.2 f]
      · rw [if_pos]
        · exact ih () (next (fun q => cr2 q.2))
        · intro q
          by_cases r1 : rch G b (lab G (op i))
          · have := dst_le hW r1
            rw [u1 r1, nI_eq (by omega) (by omega)] at q
            exact cr2 ⟨r1, q⟩
          · rw [u2 r1] at q
            exact nI_m1ne (by omega : c - k - 1 < 2 ^ 31) q.symm
/-- the whole way of the class -/
theorem X6_find (hW : WF G) {t : TF} (hF : FR G t) (N : Nat) (hN : 100 < N) {a : Nat} (ha : a < gN G) (hb : b < gN G) (hab : a ≠ b) (wc : Int32) (we wd : Nat → Int32) :
    Ok (f_X6_find N t.1 t.2.2.2.2.1 t.2.2.2.2.2.2.2.1 t.2.2.2.2.2.2.2.2 (nI (gE G).length) wc we wd (nI a) (nI b)) (fun r => (conn G a b ∧ ∃ c, Cst G a b c ∧ r.1 = nI c ∧ ∀ i, i < c → r.2.1 i = nI (ce G b (CS G a b c i) (c - i - 1))) ∨ (¬ conn G a b ∧ r.1 = 0)) := by
  have h9 := hW.2.1
  have hnf := nF_20 hW
  unfold f_X6_find
  rw [X6_find0 hW hF N hN ha hb]
  refine Ok_bd1.mpr (Ok_some.mpr ?_)
  have hcp := cp_sp hW ha b
  cases hc : bt (cp G a) b with
  | false =>
    rw [if_neg (fun q => q bF0)]
    refine Ok_some.mpr (Or.inr ⟨fun q => ?_, rfl⟩)
    rw [hcp.mpr q] at hc; cases hc
  | true =>
    have hconn := hcp.mp hc
    rw [if_pos bT0]
    refine Ok_bd1.mpr (Ok_mono (X6_measure hW hF N hN (by omega) wd) (fun di hD => Ok_bd1.mpr (Ok_mono (X6_choose hW hF N hN (by omega) hD (cost_ex hW hconn hab) 0) ?_)))
    rintro r4 ⟨c, hC, hc2, hbits⟩
    have hc40 : c ≤ 20 := by
      obtain ⟨f, _, _, f3, f4⟩ := hC.2
      have := dst_le hW f3
      omega
    refine Ok_nm.mpr ?_
    rw [hc2]
    refine lpU2 (fun n i x e => f_X6_find_b35 N t.1 t.2.2.2.2.1 t.2.2.2.2.2.2.2.1 t.2.2.2.2.2.2.2.2 (nI (gE G).length) n x (nI i) (nI c) e di) (fun i x e => (∀ f, bt x f = true ↔ CS G a b c i f) ∧ ∀ j, j < i → e j = nI (ce G b (CS G a b c j) (c - j - 1))) c ?_ ?_ N 0 r4.1 we (Nat.zero_le _) (by omega) ⟨hbits, fun j hj => absurd hj (Nat.not_lt_zero j)⟩
    · rintro n x e ⟨h1, h2⟩
      simp only [f_X6_find_b35]
      rw [if_pos (nI_le (Nat.le_refl c) (by omega))]
      exact Ok_some.mpr (Or.inl ⟨hconn, c, hC, rfl, h2⟩)
    · rintro n i x e hi ⟨h1, h2⟩ ih
      have hnle : ¬ nI c ≤ nI i := by rw [nI_leI (by omega) (by omega)]; omega
      simp only [f_X6_find_b35]
      rw [if_neg hnle, nI_1]
      refine Ok_bd1.mpr (Ok_mono (X6_cross hW hF N hN hD (by omega) hi (CS_PF hW hC i hi) h1 e) ?_)
      rintro r ⟨r1, r2⟩
      refine Ok_nm.mpr (ih _ _ ⟨r1, fun j hj => ?_⟩)
      rw [r2, upd_at]
      by_cases q : j = i
      · rw [if_pos q, q]
      · rw [if_neg q]; exact h2 j (by omega)
theorem ok_insertionCost (N : Nat) (hN : 1000 < N) : OK_insertionCost Inv N := by
  intro x m p1 p2 hi
  have hi2 := hi
  obtain ⟨G, n, hs, l, cs, hS, hX, hF, hH, hT, hM, hHM, hTM⟩ := hi
  have hW := hS.1
  have h9 := hW.2.1
  have x2 := hX.2.1
  refine OK_mk ?_
  unfold f_X7_insertionCost f_X8_insertionCost
  rw [show f_X7_areTwoNodes N x.1.1 p1 p2 = some (bI (twoI (gN G) p1 p2)) from by rw [hX.1]; exact X7_areTwoNodes N _ (by omega) p1 p2, X8_areNodes N _ (by omega) m.1 hM.1]
  refine Ok_bd1.mpr (Ok_some.mpr (Ok_sw.mpr (Ok_bd1.mpr (Ok_some.mpr (Ok_sw.mpr ?_)))))
  rcases twoI_cases (n := gN G) (by omega) p1 p2 with hp | ⟨hp, a, b, ha, hb, hab, rfl, rfl⟩
  · rw [hp, if_neg (fun q => q bF0), if_neg (fun q => q bF0)]
    exact Ok_some.mpr (Ok_some.mpr (OK_end rfl hi2))
  · rw [hp, if_pos bT0, if_pos bT0]
    refine Ok_bd1.mpr (Ok_mono (X7_canInsert hW hX hF N (by omega) (by omega) (by omega)) (fun r3 h3 => Ok_sw.mpr (Ok_bd1.mpr (Ok_mono (X8_isRefused hW hM N (by omega) _ _ _ (by omega) (by omega) hab) ?_))))
    rintro ⟨q3, fo, fs, nf⟩ ⟨g3, g4⟩
    dsimp only at g3 g4 ⊢
    rcases h3 with ⟨rfl, c1⟩ | ⟨rfl, c1⟩
    · rcases g4 with ⟨rfl, _⟩ | ⟨_, c2⟩
      · rw [if_pos rfl, if_pos i10, x2]
        refine Ok_bd1.mpr (Ok_mono (X8_costOf hW hM g3 N (by omega) ha hb hab _) (fun q5 g5 => Ok_some.mpr (Ok_bd1.mpr (Ok_mono (X6_find hW hF N (by omega) ha hb hab _ _ _) (fun r5 h5 => Ok_some.mpr ?_)))))
        refine OK_end ?_ ⟨G, n, hs, l, cs, hS, hX, hF, hH, hT, hM, hHM, hTM⟩
        rcases g5 with ⟨a1, a2, c, a3, a4⟩ | ⟨a1, a4⟩
        · rcases h5 with ⟨b1, e, b3, b4, _⟩ | ⟨b1, b4⟩
          · show q5.1 = r5.1
            rw [a4, b4, Cst_un a3 b3]
          · exact absurd a1 b1
        · rcases h5 with ⟨b1, _⟩ | ⟨b1, b4⟩
          · exact absurd b1 a1
          · show q5.1 = r5.1
            rw [a4, b4]
      · exact absurd c1 c2
    · rcases g4 with ⟨_, c2⟩ | ⟨rfl, c2⟩
      · exact absurd c2 c1
      · rw [if_neg i10, if_neg i00]
        exact Ok_some.mpr (Ok_some.mpr (OK_end rfl ⟨G, n, hs, l, cs, hS, hX, hF, hH, hT, hM, hHM, hTM⟩))
end CROSS
