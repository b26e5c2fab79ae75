/-! ===== rings in rows; the class splits a ring ===== -/
def RR (W : Nat) (ns ls st : Nat → Int32) (k : Nat) (l : List Nat) : Prop := ls k = nI l.length ∧ (∀ j, j < l.length → ns (W * k + j) = nI (l.getD j 0)) ∧ ∀ x, bt (st k) x = decide (x ∈ l)
def FrR (W : Nat) (ns ls st ns' ls' st' : Nat → Int32) (k : Nat) : Prop := ∀ k' l, k' ≠ k → l.length ≤ W → RR W ns ls st k' l → RR W ns' ls' st' k' l
theorem FrR_refl {W : Nat} {ns ls st : Nat → Int32} {k : Nat} : FrR W ns ls st ns ls st k := fun _ _ _ _ h => h
theorem FrR_trans {W : Nat} {ns ls st ns' ls' st' ns'' ls'' st'' : Nat → Int32} {k : Nat} (h : FrR W ns ls st ns' ls' st' k) (g : FrR W ns' ls' st' ns'' ls'' st'' k) : FrR W ns ls st ns'' ls'' st'' k := fun k' l h1 h2 h3 => g k' l h1 h2 (h k' l h1 h2 h3)
theorem RR_app {W : Nat} (hW : W = 9 ∨ W = 10) {ns ls st : Nat → Int32} {k : Nat} {l : List Nat} (h : RR W ns ls st k l) (hl : l.length < W) {v : Nat} (hv : v < 9) : RR W (upd ns (W * k + l.length) (nI v)) (upd ls k (nI (l.length + 1))) (upd st k (st k ||| ((1 : Int32) <<< (nI v &&& 31)))) k (l ++ [v]) ∧ FrR W ns ls st (upd ns (W * k + l.length) (nI v)) (upd ls k (nI (l.length + 1))) (upd st k (st k ||| ((1 : Int32) <<< (nI v &&& 31)))) k := by
  obtain ⟨h1, h2, h3⟩ := h
  refine ⟨⟨by rw [pk_us, List.length_append]; rfl, fun j hj => ?_, fun x => ?_⟩, fun k' l' hk hl' ⟨g1, g2, g3⟩ => ⟨by rw [pk_un hk]; exact g1, fun j hj => ?_, fun x => by rw [pk_un hk]; exact g3 x⟩⟩
  · rw [List.length_append, List.length_singleton] at hj
    rw [upd_at]
    by_cases c : j = l.length
    · rw [if_pos (by rw [c]), gD_r (by omega), c, Nat.sub_self]; rfl
    · rw [if_neg (by omega), gD_l (by omega)]; exact h2 j (by omega)
  · rw [pk_us, b_or, b_bit (by omega), h3, ← Bool.decide_or]
    exact decide_eq_decide.mpr (by rw [List.mem_append, List.mem_singleton])
  · rw [pk_un]
    · exact g2 j hj
    · rcases hW with rfl | rfl <;> omega
theorem RR_new {W : Nat} {ns ls st : Nat → Int32} (k : Nat) : RR W ns (upd ls k 0) (upd st k 0) k [] ∧ FrR W ns ls st ns (upd ls k 0) (upd st k 0) k := by
  refine ⟨⟨pk_us, fun j hj => absurd hj (Nat.not_lt_zero j), fun x => by rw [pk_us, b_0]; rfl⟩, fun k' l' hk hl' ⟨g1, g2, g3⟩ => ⟨by rw [pk_un hk]; exact g1, g2, fun x => by rw [pk_un hk]; exact g3 x⟩⟩
theorem X4_extend (N : Nat) {ns ls st : Nat → Int32} {k : Nat} {l : List Nat} (hk : k < 15) (h : RR 9 ns ls st k l) (hl : l.length < 9) {v : Nat} (hv : v < 9) : Ok (f_X4_extendRing N ns ls st (nI k) (nI v)) (fun r => RR 9 r.1 r.2.1 r.2.2 k (l ++ [v]) ∧ FrR 9 ns ls st r.1 r.2.1 r.2.2 k) := by
  unfold f_X4_extendRing
  have ik : inb (nI k) 15 = true := inb_nI hk (by decide)
  have e : nI k * 9 + nI l.length = nI (9 * k + l.length) := by
    rw [show (9 : Int32) = nI 9 from rfl, pk_mul, nI_add, Nat.mul_comm]
  rw [nI_clamp (n := k) (by omega), h.1, e, X7_bit, nI_1, nI_clamp (n := 9 * k + l.length) (by omega)]
  exact Ok_chk.mpr ⟨ik, Ok_ife (nI_leI (a := 9) (by omega) (by omega)) (fun c => absurd c (by omega)) (fun _ => Ok_chk.mpr ⟨ik, Ok_chk.mpr ⟨inb_nI (by omega) (by decide), Ok_chk.mpr ⟨ik, Ok_chk.mpr ⟨ik, Ok_chk.mpr ⟨ik, Ok_bd1.mpr (Ok_some.mpr (Ok_chk.mpr ⟨ik, Ok_some.mpr (RR_app (Or.inl rfl) h hl hv)⟩))⟩⟩⟩⟩⟩)⟩
theorem tk_succ {l : List Nat} {i : Nat} (h : i < l.length) : l.take (i + 1) = l.take i ++ [l.getD i 0] := by
  rw [List.take_succ, List.getD_eq_getElem?_getD, List.getElem?_eq_getElem h]
  rfl
theorem dr_cons {l : List Nat} {i : Nat} (h : i < l.length) : l.drop i = l.getD i 0 :: l.drop (i + 1) := by
  rw [List.drop_eq_getElem_cons h, List.getD_eq_getElem?_getD, List.getElem?_eq_getElem h]
  rfl
/-- a ring read on from one of its nodes -/
theorem rot_get {u v : List Nat} {c i : Nat} (hi : i < (c :: (v ++ u)).length) : (c :: (v ++ u)).getD i 0 = (u ++ c :: v).getD (if u.length + i < (u ++ c :: v).length then u.length + i else u.length + i - (u ++ c :: v).length) 0 := by
  have e : (u ++ c :: v).length = u.length + (v.length + 1) := by simp
  rw [e]
  rw [List.length_cons, List.length_append] at hi
  show ((c :: v) ++ u).getD i 0 = _
  by_cases q : u.length + i < u.length + (v.length + 1)
  · rw [if_pos q, gD_l (by rw [List.length_cons]; omega), gD_r (by omega), show u.length + i - u.length = i by omega]
  · rw [if_neg q, gD_r (by rw [List.length_cons]; omega), gD_l (by omega), List.length_cons]
    congr 1
    omega
theorem X4_copyArc (N : Nat) (hN : 30 < N) {old : Nat → Int32} {u v : List Nat} {c d : Nat} (hn : (u ++ c :: v).Nodup) (h9 : ∀ x, x ∈ u ++ c :: v → x < 9) (hP : PA old (u ++ c :: v)) {P1 P2 : List Nat} (hq : c :: (v ++ u) = P1 ++ d :: P2) (hd : d ∉ P1) {k : Nat} (hk : k < 15) (ns ls st : Nat → Int32) : Ok (f_X4_copyArc N ns ls st old (nI k) (nI c) (nI d) (nI (u ++ c :: v).length)) (fun r => RR 9 r.1 r.2.1 r.2.2 k (P1 ++ [d]) ∧ FrR 9 ns ls st r.1 r.2.1 r.2.2 k) := by
  unfold f_X4_copyArc
  have hlen := nd_le 9 _ hn h9
  have eL : (u ++ c :: v).length = u.length + (v.length + 1) := by simp
  have eQ : (c :: (v ++ u)).length = (u ++ c :: v).length := by rw [eL, List.length_cons, List.length_append]; omega
  have q9 : ∀ x, x ∈ c :: (v ++ u) → x < 9 := fun x hx => h9 x (by
    rcases List.mem_cons.mp hx with q | q
    · rw [q]; simp
    · rcases List.mem_append.mp q with q | q
      · exact List.mem_append_right _ (List.mem_cons_of_mem _ q)
      · exact List.mem_append_left _ q)
  have d9 : d < 9 := q9 d (by rw [hq]; simp)
  have eP : P1.length < (c :: (v ++ u)).length := by rw [hq, List.length_append, List.length_cons]; omega
  have posc : (u ++ c :: v).getD u.length 0 = c := by rw [gD_r (Nat.le_refl _), Nat.sub_self]; rfl
  have nec : ∀ j, j < (u ++ c :: v).length → (u ++ c :: v).getD j 0 = c → j = u.length := fun j hj e => by
    exact (List.getD_inj hj (by omega) hn).mp (e.trans posc.symm)
  have lt9 : ∀ j, j < (u ++ c :: v).length → (u ++ c :: v).getD j 0 < 9 := fun j hj => h9 _ (gD_mem hj)
  have rg := fun i hi => rot_get (u := u) (v := v) (c := c) (i := i) hi
  generalize hR : u ++ c :: v = R at *
  generalize hQ : c :: (v ++ u) = Q at *
  have c9 : c < 9 := by rw [← posc]; exact lt9 _ (by omega)
  -- the arc itself
  have arc : Ok (f_X4_copyArc_b39 N old (nI k) (nI d) (nI R.length) (nI u.length) ns ls st) (fun r => RR 9 r.1 r.2.1 r.2.2 k (P1 ++ [d]) ∧ FrR 9 ns ls st r.1 r.2.1 r.2.2 k) := by
    unfold f_X4_copyArc_b39
    rw [nI_clamp (n := k) (by omega)]
    have ik : inb (nI k) 15 = true := inb_nI hk (by decide)
    refine Ok_chk.mpr ⟨ik, Ok_chk.mpr ⟨ik, ?_⟩⟩
    have lp : ∀ (n i : Nat) (ns' ls' st' : Nat → Int32), i ≤ P1.length → P1.length - i < n → RR 9 ns' ls' st' k (Q.take i) → FrR 9 ns ls st ns' ls' st' k → Ok (f_X4_copyArc_b56 N old n (nI k) (nI d) (nI R.length) (nI (if u.length + i < R.length then u.length + i else u.length + i - R.length)) (nI i) ns' ls' st') (fun r => RR 9 r.1 r.2.1 r.2.2 k (P1 ++ [d]) ∧ FrR 9 ns ls st r.1 r.2.1 r.2.2 k) := by
      intro n
      induction n with
      | zero => intro i _ _ _ _ h; omega
      | succ n ih =>
        intro i ns' ls' st' hi hm hr hf
        simp only [f_X4_copyArc_b56, f_X4_copyArc_b103]
        refine Ok_ife (nI_leI (by omega) (by omega)) (fun q => absurd q (by omega)) (fun _ => ?_)
        have hpos : (if u.length + i < R.length then u.length + i else u.length + i - R.length) < R.length := by split <;> omega
        have hx := rg i (by omega)
        generalize hp : (if u.length + i < R.length then u.length + i else u.length + i - R.length) = p at *
        rw [nI_clamp (n := p) (by omega), hP p hpos, ← hx]
        have x9 : Q.getD i 0 < 9 := q9 _ (gD_mem (by omega))
        have lt : (Q.take i).length < 9 := by rw [List.length_take]; omega
        refine Ok_chk.mpr ⟨inb_nI (by omega) (by decide), Ok_nm.mpr (Ok_bd1.mpr (Ok_mono (X4_extend N hk hr lt x9) (fun r hr' => ?_)))⟩
        rw [← tk_succ (by omega)] at hr'
        rcases Nat.lt_or_ge i P1.length with q | q
        · have nd : Q.getD i 0 ≠ d := fun e => hd (by
            rw [hq, gD_l q] at e
            rw [← e]; exact gD_mem q)
          rw [if_pos (fun e => nd ((nI_eq (by omega) (by omega)).mp e)), nI_1, nI_1]
          refine Ok_ife (nI_leI (by omega) (by omega)) (fun z => ?_) (fun z => ?_)
          · have := ih (i + 1) r.1 r.2.1 r.2.2 (by omega) (by omega) hr'.1 (FrR_trans hf hr'.2)
            rw [show (if u.length + (i + 1) < R.length then u.length + (i + 1) else u.length + (i + 1) - R.length) = 0 by
              rw [← hp] at z
              split at z <;> split <;> omega] at this
            exact this
          · have := ih (i + 1) r.1 r.2.1 r.2.2 (by omega) (by omega) hr'.1 (FrR_trans hf hr'.2)
            rw [show (if u.length + (i + 1) < R.length then u.length + (i + 1) else u.length + (i + 1) - R.length) = p + 1 by
              rw [← hp] at z ⊢
              split at z <;> split <;> omega] at this
            exact this
        · have e : i = P1.length := by omega
          have xd : Q.getD i 0 = d := by rw [hq, gD_r (by omega), e, Nat.sub_self]; rfl
          rw [if_neg (fun z => z (by rw [xd]))]
          have tk : Q.take (i + 1) = P1 ++ [d] := by
            rw [tk_succ (by omega), xd, hq, e, List.take_left]
          rw [tk] at hr'
          exact Ok_some.mpr ⟨hr'.1, FrR_trans hf hr'.2⟩
    have b := RR_new (W := 9) (ns := ns) (ls := ls) (st := st) k
    have := lp N 0 ns _ _ (Nat.zero_le _) (by omega) b.1 b.2
    rw [Nat.add_zero, if_pos (by omega)] at this
    exact this
  refine lpU (fun n i x => f_X4_copyArc_b6 N old n (nI k) (nI c) (nI d) (nI R.length) x (nI i) ns ls st) (fun i x => (i ≤ u.length ∧ x = 0) ∨ (u.length < i ∧ x = nI u.length)) R.length ?_ ?_ N 0 0 (Nat.zero_le _) (by omega) (Or.inl ⟨Nat.zero_le _, rfl⟩)
  · rintro n x (⟨h1, h2⟩ | ⟨h1, rfl⟩)
    · omega
    · simp only [f_X4_copyArc_b6]
      refine Ok_ife (nI_leI (by omega) (by omega)) (fun _ => arc) (fun q => absurd (Nat.le_refl _) q)
  · intro n i x hi hI ih
    simp only [f_X4_copyArc_b6, f_X4_copyArc_b31]
    refine Ok_ife (nI_leI (by omega) (by omega)) (fun q => absurd q (by omega)) (fun _ => ?_)
    rw [nI_1, nI_clamp (n := i) (by omega), hP i hi]
    refine Ok_chk.mpr ⟨inb_nI (by omega) (by decide), Ok_ite.mpr ⟨fun q => ih _ ?_, fun q => ih _ ?_⟩⟩
    · rcases hI with ⟨h1, h2⟩ | ⟨h1, h2⟩
      · refine Or.inl ⟨?_, h2⟩
        have : i ≠ u.length := fun e => q (by rw [e, posc])
        omega
      · exact Or.inr ⟨by omega, h2⟩
    · have e := nec i hi ((nI_eq (by have := lt9 i hi; omega) (by omega)).mp (Decidable.not_not.mp q))
      exact Or.inr ⟨by omega, by rw [e]⟩
