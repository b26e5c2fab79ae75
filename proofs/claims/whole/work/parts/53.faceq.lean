/-! ===== sets of nodes on faces; walk, faceOf, commonFace ===== -/
theorem b_make (P : Nat → Prop) : ∀ k, k ≤ 32 → ∃ x : Int32, ∀ b, bt x b = true ↔ b < k ∧ P b
  | 0, _ => ⟨0, fun b => by rw [b_0]; exact ⟨fun q => absurd q (by decide), fun q => absurd q.1 (Nat.not_lt_zero b)⟩⟩
  | k + 1, hk => by
    obtain ⟨x, hx⟩ := b_make P k (by omega)
    by_cases c : P k
    · refine ⟨x ||| ((1 : Int32) <<< (nI k &&& 31)), fun b => ?_⟩
      rw [b_or, Bool.or_eq_true, hx b, b_bit (by omega), decide_eq_true_eq]
      constructor
      · rintro (q | q)
        · exact ⟨by omega, q.2⟩
        · rw [q]; exact ⟨by omega, c⟩
      · rintro ⟨q1, q2⟩
        rcases Nat.lt_or_ge b k with q | q
        · exact Or.inl ⟨q, q2⟩
        · exact Or.inr (by omega)
    · refine ⟨x, fun b => ?_⟩
      rw [hx b]
      constructor
      · rintro ⟨q1, q2⟩; exact ⟨by omega, q2⟩
      · rintro ⟨q1, q2⟩
        refine ⟨?_, q2⟩
        rcases Nat.lt_or_ge b k with q | q
        · exact q
        · obtain rfl : b = k := by omega
          exact absurd q2 c
/-- the set of the numbers below 32 with a property -/
noncomputable def stS (P : Nat → Prop) : Int32 := Classical.epsilon (fun x => ∀ b, bt x b = true ↔ b < 32 ∧ P b)
theorem stS_sp (P : Nat → Prop) (b : Nat) : bt (stS P) b = true ↔ b < 32 ∧ P b := Classical.epsilon_spec (b_make P 32 (Nat.le_refl _)) b
theorem b_ext2 {x y : Int32} (h : ∀ b, b < 32 → (bt x b = true ↔ bt y b = true)) : x = y := b_ext (fun b hb => by
  have := h b hb
  cases hx : bt x b with
  | true => exact (this.mp hx).symm
  | false =>
    cases hy : bt y b with
    | false => rfl
    | true => rw [this.mpr hy] at hx; cases hx)
theorem stS_un {P : Nat → Prop} {x : Int32} (h : ∀ b, b < 32 → (bt x b = true ↔ P b)) : x = stS P := b_ext2 (fun b hb => by
  rw [stS_sp, h b hb]
  exact ⟨fun q => ⟨hb, q⟩, fun q => q.2⟩)
theorem b_two {x y : Int32} {a b : Nat} (ha : a < 32) (hb : b < 32) : (((x >>> (nI a &&& 31)) &&& (y >>> (nI b &&& 31))) &&& 1) = bI (bt x a && bt y b) := by
  refine b_ext (fun i hi => ?_)
  rw [b_and, b_and, b_1, b_sshr a ha x hi, b_sshr b hb y hi]
  by_cases c : i = 0
  · subst c
    rw [if_pos (by omega), if_pos (by omega), Nat.add_zero, Nat.add_zero, decide_eq_true rfl, Bool.and_true]
    cases bt x a && bt y b <;> decide
  · rw [decide_eq_false c, Bool.and_false]
    cases bt x a && bt y b with
    | false => rw [show bI false = 0 from rfl, b_0]
    | true => rw [show bI true = 1 from rfl, b_1, decide_eq_false c]
def NS (G : Gr) (f b : Nat) : Prop := ∃ d, d < 2 * (gE G).length ∧ lab G d = f ∧ tl G d = b
noncomputable def nsI (G : Gr) (f : Nat) : Int32 := stS (NS G f)
section FACEQ
variable {G : Gr}
theorem NS_lt (hW : WF G) {f b : Nat} (h : NS G f b) : b < gN G := by
  obtain ⟨d, h1, -, rfl⟩ := h
  exact tl_lt hW h1
theorem ns_sp (hW : WF G) (f b : Nat) : bt (nsI G f) b = true ↔ NS G f b := by
  unfold nsI
  rw [stS_sp]
  refine ⟨fun q => q.2, fun q => ⟨?_, q⟩⟩
  have := NS_lt hW q
  have := hW.2.1
  omega
theorem FR_ns {t : TF} (hF : FR G t) {f : Nat} (hf : f < nF G) : t.2.2.2.2.2.2.2.1 f = nsI G f := stS_un (fun b _ => hF.2.2.2.2.2.2.2.1 f hf b)
theorem nF_le (hW : WF G) : nF G ≤ 40 := by
  have h20 := hW.2.2.1
  have : nF G ≤ 2 * (gE G).length := ct_le G _
  omega
theorem X0_exists (hW : WF G) {t : TF} (hF : FR G t) (N : Nat) (p : Int32) : f_X0_exists N t.1 p = some (bI (inb p (nF G))) := by
  have := nF_le hW
  rw [hF.1]
  exact tst_in (by omega)
theorem X0_holds (hW : WF G) {t : TF} (hF : FR G t) (N : Nat) {f v : Nat} (hf : f < nF G) (hv : v < 9) : f_X0_holds N t.2.2.2.2.2.2.2.1 (nI f) (nI v) = some (bI (bt (nsI G f) v)) := by
  have := nF_le hW
  refine Ok_of ?_
  unfold f_X0_holds
  rw [nI_clamp (by omega), FR_ns hF hf, X7_contains N (by omega)]
  exact Ok_chk.mpr ⟨inb_nI (by omega) (by decide), Ok_bd1.mpr (Ok_some.mpr (Ok_chk.mpr ⟨isB_bI _, Ok_some.mpr rfl⟩))⟩
theorem lab_le (hW : WF G) {d : Nat} (hd : d < 2 * (gE G).length) : lab G d < 40 := by
  have := lab_lt hW hd
  have := nF_le hW
  omega
theorem X8_nodesOn (hW : WF G) {s : Nat → Int32} (hR : RM G s) {fo : Nat → Int32} (ho : ∀ d, d < 2 * (gE G).length → fo d = nI (lab G d)) (N : Nat) (hN : 100 < N) {f : Nat} (hf : f < 2 ^ 31) : f_X8_nodesOn N s fo (nI f) = some (nsI G f) := by
  have h20 := hW.2.2.1
  have h9 := hW.2.1
  refine Ok_of ?_
  unfold f_X8_nodesOn
  refine lpU (fun n i x => f_X8_nodesOn_b4 N s fo n (nI f) x (nI i)) (fun i x => ∀ b, bt x b = true ↔ ∃ d, d < i ∧ lab G d = f ∧ tl G d = b) (2 * (gE G).length) ?_ ?_ N 0 0 (Nat.zero_le _) (by omega) (fun b => by rw [b_0]; exact ⟨fun q => absurd q (by decide), fun ⟨e, q, _⟩ => absurd q (Nat.not_lt_zero e)⟩)
  · intro n x hI
    simp only [f_X8_nodesOn_b4]
    rw [show (1 : Int32).toNatClampNeg = 1 from rfl, hR.2.1, two_nI]
    exact Ok_chk.mpr ⟨by decide, Ok_ife (nI_leI (by omega) (by omega)) (fun _ => Ok_some.mpr (stS_un (fun b _ => hI b))) (fun c => absurd (Nat.le_refl _) c)⟩
  · intro n i x hi hI ih
    have hl := lab_le hW hi
    have ht := tl_lt hW hi
    simp only [f_X8_nodesOn_b4, f_X8_nodesOn_b38]
    rw [show (1 : Int32).toNatClampNeg = 1 from rfl, hR.2.1, two_nI, nI_clamp (by omega), ho i hi, X8_tail hW hR N hi, nI_1]
    refine Ok_chk.mpr ⟨by decide, Ok_ife (nI_leI (by omega) (by omega)) (fun c => absurd c (by omega)) (fun _ => Ok_chk.mpr ⟨inb_nI (by omega) (by decide), ?_⟩)⟩
    by_cases c : lab G i = f
    · rw [if_neg (by rw [c]; exact fun q => q rfl)]
      refine Ok_bd1.mpr (Ok_some.mpr (Ok_nm.mpr (ih _ (fun b => ?_))))
      rw [b_or, Bool.or_eq_true, hI b, b_bit (by omega), decide_eq_true_eq]
      constructor
      · rintro (⟨d, q1, q2⟩ | q)
        · exact ⟨d, by omega, q2⟩
        · exact ⟨i, by omega, c, q.symm⟩
      · rintro ⟨d, q1, q2, q3⟩
        rcases Nat.lt_or_ge d i with q | q
        · exact Or.inl ⟨d, q, q2, q3⟩
        · obtain rfl : d = i := by omega
          exact Or.inr q3.symm
    · rw [if_pos (fun q => c ((nI_eq (by omega) hf).mp q))]
      refine Ok_nm.mpr (ih _ (fun b => ?_))
      rw [b_or, b_0, Bool.or_false, hI b]
      constructor
      · rintro ⟨d, q1, q2⟩; exact ⟨d, by omega, q2⟩
      · rintro ⟨d, q1, q2, q3⟩
        rcases Nat.lt_or_ge d i with q | q
        · exact ⟨d, q, q2, q3⟩
        · obtain rfl : d = i := by omega
          exact absurd q2 c
theorem X8_lengthOf (hW : WF G) {s : Nat → Int32} (hR : RM G s) {fo : Nat → Int32} (ho : ∀ d, d < 2 * (gE G).length → fo d = nI (lab G d)) (N : Nat) (hN : 100 < N) {f : Nat} (hf : f < nF G) : f_X8_lengthOf N s fo (nI f) = some (nI (per G (fst0 G f))) := by
  have h20 := hW.2.2.1
  have hnf := nF_le hW
  refine Ok_of ?_
  unfold f_X8_lengthOf
  refine lpU (fun n i x => f_X8_lengthOf_b4 N s fo n (nI f) x (nI i)) (fun i x => x = nI (fb_ct (fun d => decide (lab G d = f)) i)) (2 * (gE G).length) ?_ ?_ N 0 0 (Nat.zero_le _) (by omega) rfl
  · rintro n x rfl
    simp only [f_X8_lengthOf_b4]
    rw [show (1 : Int32).toNatClampNeg = 1 from rfl, hR.2.1, two_nI]
    exact Ok_chk.mpr ⟨by decide, Ok_ife (nI_leI (by omega) (by omega)) (fun _ => Ok_some.mpr (by rw [per_lab hW hf])) (fun c => absurd (Nat.le_refl _) c)⟩
  · rintro n i x hi rfl ih
    have hl := lab_le hW hi
    simp only [f_X8_lengthOf_b4, f_X8_lengthOf_b32]
    rw [show (1 : Int32).toNatClampNeg = 1 from rfl, hR.2.1, two_nI, nI_clamp (by omega), ho i hi, nI_1, nI_1]
    refine Ok_chk.mpr ⟨by decide, Ok_ife (nI_leI (by omega) (by omega)) (fun c => absurd c (by omega)) (fun _ => Ok_chk.mpr ⟨inb_nI (by omega) (by decide), ?_⟩)⟩
    by_cases c : lab G i = f
    · rw [if_neg (by rw [c]; exact fun q => q rfl)]
      refine Ok_nm.mpr (ih _ ?_)
      rw [fb_ct_succ, if_pos (decide_eq_true c)]
    · rw [if_pos (fun q => c ((nI_eq (by omega) (by omega)).mp q))]
      refine Ok_nm.mpr (ih _ ?_)
      rw [fb_ct_succ, if_neg (by rw [decide_eq_true_eq]; exact c), Int32.add_zero, Nat.add_zero]
/-- how far the first directed edge that leaves v is in a face -/
noncomputable def fl (G : Gr) (f v : Nat) : Nat := Classical.epsilon (fun k => tl G (it G k (fst0 G f)) = v ∧ ∀ j, j < k → ¬ tl G (it G j (fst0 G f)) = v)
theorem fl_sp (hW : WF G) {f v : Nat} (hf : f < nF G) (h : NS G f v) : (tl G (it G (fl G f v) (fst0 G f)) = v ∧ ∀ j, j < fl G f v → ¬ tl G (it G j (fst0 G f)) = v) ∧ fl G f v < per G (fst0 G f) := by
  obtain ⟨d, h1, h2, h3⟩ := h
  have h0 := (fst_sp hf).1
  obtain ⟨j, j1, j2⟩ := mn_orb hW h0 h1 (by rw [(lab_fst hW hf h1).mp h2, fst_mn hf])
  have hs := Classical.epsilon_spec (pk_least (fun k => tl G (it G k (fst0 G f)) = v) ⟨j, by rw [j2]; exact h3⟩)
  refine ⟨hs, ?_⟩
  rcases Nat.lt_or_ge (fl G f v) (per G (fst0 G f)) with q | q
  · exact q
  · exact absurd (by rw [j2]; exact h3) (hs.2 j (Nat.lt_of_lt_of_le j1 q))
theorem X0_leave (hW : WF G) {t : TF} (hF : FR G t) {lo hi : Nat → Int32} (h : Ends G lo hi) (N : Nat) (hN : 100 < N) {f v : Nat} (hf : f < nF G) (hv : v < 9) (hn : NS G f v) : f_X0_firstEdgeLeaving N t.2.2.2.1 t.2.2.2.2.2.1 t.2.2.2.2.2.2.1 lo hi (nI f) (nI v) = some (nI (it G (fl G f v) (fst0 G f) / 2)) := by
  have h20 := hW.2.2.1
  have h9 := hW.2.1
  have hnf := nF_le hW
  obtain ⟨⟨e1, e2⟩, e3⟩ := fl_sp hW hf hn
  have h0 := (fst_sp hf).1
  have hpl := per_le hW h0
  refine Ok_of ?_
  unfold f_X0_firstEdgeLeaving
  rw [nI_clamp (by omega), hF.2.2.2.2.2.1 f hf]
  refine Ok_chk.mpr ⟨inb_nI (by omega) (by decide), Ok_nm.mpr ?_⟩
  refine lpU (σ := Unit) (fun n k _ => f_X0_firstEdgeLeaving_b11 N t.2.2.2.1 t.2.2.2.2.2.1 t.2.2.2.2.2.2.1 lo hi n (nI f) (nI v) (nI (it G k (fst0 G f))) (nI k)) (fun _ _ => True) (fl G f v) ?_ ?_ N 0 () (Nat.zero_le _) (by omega) trivial
  · intro n _ _
    have hl := it_lt hW h0 (fl G f v)
    simp only [f_X0_firstEdgeLeaving_b11]
    rw [nI_clamp (n := f) (by omega), hF.2.2.2.2.2.2.1 f hf, X1_tailOf hW h N hl, nI_div2 (by omega)]
    refine Ok_chk.mpr ⟨inb_nI (by omega) (by decide), Ok_ife (nI_leI (by omega) (by omega)) (fun c => absurd c (by omega)) (fun _ => Ok_bd1.mpr (Ok_some.mpr ?_))⟩
    rw [e1, if_pos rfl]
    exact Ok_some.mpr rfl
  · intro n k _ hk _ ih
    have hl := it_lt hW h0 k
    have htl := tl_lt hW hl
    simp only [f_X0_firstEdgeLeaving_b11]
    rw [nI_clamp (n := f) (by omega), hF.2.2.2.2.2.2.1 f hf, X1_tailOf hW h N hl, nI_clamp (by omega), hF.2.2.2.1 _ hl, nI_1]
    refine Ok_chk.mpr ⟨inb_nI (by omega) (by decide), Ok_ife (nI_leI (by omega) (by omega)) (fun c => absurd c (by omega)) (fun _ => Ok_bd1.mpr (Ok_some.mpr ?_))⟩
    rw [if_neg (fun q => e2 k hk ((nI_eq (by omega) (by omega)).mp q))]
    exact Ok_chk.mpr ⟨inb_nI (by omega) (by decide), Ok_nm.mpr (ih () trivial)⟩
theorem X8_corner (hW : WF G) {s : Nat → Int32} (hR : RM G s) {fs : Nat → Int32} (ho : ∀ f, f < nF G → fs f = nI (fst0 G f)) (N : Nat) (hN : 100 < N) {f v : Nat} (hf : f < nF G) (hv : v < 9) (hn : NS G f v) : f_X8_corner N s fs (nI f) (nI v) = some (nI (plc (gR G v) (it G (fl G f v) (fst0 G f) / 2))) := by
  have h20 := hW.2.2.1
  have h9 := hW.2.1
  have hnf := nF_le hW
  obtain ⟨⟨e1, e2⟩, e3⟩ := fl_sp hW hf hn
  have h0 := (fst_sp hf).1
  have hpl := per_le hW h0
  refine Ok_of ?_
  unfold f_X8_corner
  rw [nI_clamp (by omega), ho f hf]
  refine Ok_chk.mpr ⟨inb_nI (by omega) (by decide), Ok_nm.mpr ?_⟩
  refine lpU (σ := Unit) (fun n k _ => f_X8_corner_b7 N s fs n (nI v) (nI (it G k (fst0 G f)))) (fun _ _ => True) (fl G f v) ?_ ?_ N 0 () (Nat.zero_le _) (by omega) trivial
  · intro n _ _
    have hl := it_lt hW h0 (fl G f v)
    simp only [f_X8_corner_b7, f_X8_corner_b25]
    rw [X8_tail hW hR N hl, nI_div2 (by omega)]
    refine Ok_bd1.mpr (Ok_some.mpr ?_)
    have hat := tl_at hW hl
    rw [e1] at hat
    rw [e1, if_pos rfl, X8_place hW hR.2.2.2.2.2 N v _ (by omega) hv hat]
    exact Ok_bd1.mpr (Ok_some.mpr (Ok_some.mpr rfl))
  · intro n k _ hk _ ih
    have hl := it_lt hW h0 k
    have htl := tl_lt hW hl
    simp only [f_X8_corner_b7]
    rw [X8_tail hW hR N hl]
    refine Ok_bd1.mpr (Ok_some.mpr ?_)
    rw [if_neg (fun q => e2 k hk ((nI_eq (by omega) (by omega)).mp q)), X8_follows hW hR N (by omega) hl]
    exact Ok_bd1.mpr (Ok_some.mpr (ih () trivial))
theorem X0_directedAt (hW : WF G) {t : TF} (hF : FR G t) (N : Nat) (hN : 100 < N) {f k : Nat} (hf : f < nF G) (hk : k ≤ 40) : f_X0_directedAt N t.2.2.2.1 t.2.2.2.2.2.1 (nI f) (nI k) = some (nI (it G k (fst0 G f))) := by
  have h20 := hW.2.2.1
  have hnf := nF_le hW
  have h0 := (fst_sp hf).1
  refine Ok_of ?_
  unfold f_X0_directedAt
  rw [nI_clamp (by omega), hF.2.2.2.2.2.1 f hf]
  refine Ok_chk.mpr ⟨inb_nI (by omega) (by decide), Ok_nm.mpr ?_⟩
  refine lpU (σ := Unit) (fun n j _ => f_X0_directedAt_b10 N t.2.2.2.1 t.2.2.2.2.2.1 n (nI k) (nI (it G j (fst0 G f))) (nI j)) (fun _ _ => True) k ?_ ?_ N 0 () (Nat.zero_le _) (by omega) trivial
  · intro n _ _
    simp only [f_X0_directedAt_b10]
    exact Ok_ife (nI_leI (by omega) (by omega)) (fun _ => Ok_some.mpr rfl) (fun c => absurd (Nat.le_refl _) c)
  · intro n j _ hj _ ih
    have hl := it_lt hW h0 j
    simp only [f_X0_directedAt_b10]
    rw [nI_clamp (by omega), hF.2.2.2.1 _ hl, nI_1]
    exact Ok_ife (nI_leI (by omega) (by omega)) (fun c => absurd c (by omega)) (fun _ => Ok_chk.mpr ⟨inb_nI (by omega) (by decide), Ok_nm.mpr (ih () trivial)⟩)
end FACEQ
