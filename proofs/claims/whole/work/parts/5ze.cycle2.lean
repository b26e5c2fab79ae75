/-! ===== rows as lists; linked lists of nodes; the class finds a cycle ===== -/
def PA (p : Nat → Int32) (l : List Nat) : Prop := ∀ j, j < l.length → p j = nI (l.getD j 0)
def Lk (G : Nat → Bool) (l : List Nat) : Prop := ∀ s x y t, l = s ++ x :: y :: t → G (cd x y) = true
theorem nl_sn (l : List Nat) : l = [] ∨ ∃ t z, l = t ++ [z] := by
  rcases List.eq_nil_or_concat l with h | ⟨t, z, h⟩
  · exact Or.inl h
  · exact Or.inr ⟨t, z, by rw [h, List.concat_eq_append]⟩
theorem gD_l {a b : List Nat} {j : Nat} (h : j < a.length) : (a ++ b).getD j 0 = a.getD j 0 := by
  rw [List.getD_eq_getElem?_getD, List.getD_eq_getElem?_getD, List.getElem?_append_left h]
theorem gD_r {a b : List Nat} {j : Nat} (h : a.length ≤ j) : (a ++ b).getD j 0 = b.getD (j - a.length) 0 := by
  rw [List.getD_eq_getElem?_getD, List.getD_eq_getElem?_getD, List.getElem?_append_right h]
theorem gD_mem {l : List Nat} {j : Nat} (h : j < l.length) : l.getD j 0 ∈ l := by
  rw [List.getD_eq_getElem?_getD, List.getElem?_eq_getElem h]
  exact List.getElem_mem h
theorem PA_snoc {p : Nat → Int32} {l : List Nat} (h : PA p l) (v : Nat) : PA (upd p l.length (nI v)) (l ++ [v]) := by
  intro j hj
  rw [List.length_append, List.length_singleton] at hj
  rw [upd_at]
  by_cases c : j = l.length
  · rw [if_pos c, gD_r (by omega), c, Nat.sub_self]; rfl
  · rw [if_neg c, gD_l (by omega)]; exact h j (by omega)
theorem Lk_nil (G : Nat → Bool) : Lk G [] := fun s x y t h => by
  have := congrArg List.length h
  simp at this
theorem Lk_one (G : Nat → Bool) (a : Nat) : Lk G [a] := fun s x y t h => by
  have := congrArg List.length h
  simp only [List.length_append, List.length_cons, List.length_nil] at this
  omega
theorem Lk_suf {G : Nat → Bool} {a b : List Nat} (h : Lk G (a ++ b)) : Lk G b := fun s x y t e => h (a ++ s) x y t (by rw [e, List.append_assoc])
theorem Lk_pre {G : Nat → Bool} {a b : List Nat} (h : Lk G (a ++ b)) : Lk G a := fun s x y t e => h s x y (t ++ b) (by rw [e, List.append_assoc]; rfl)
theorem Lk_snoc {G : Nat → Bool} {a : List Nat} {w u : Nat} (h : Lk G (a ++ [w])) (hg : G (cd w u) = true) : Lk G (a ++ [w] ++ [u]) := by
  intro s x y t e
  rcases nl_sn t with rfl | ⟨t', z, rfl⟩
  · have e2 : (a ++ [w]) ++ [u] = (s ++ [x]) ++ [y] := by rw [e]; simp
    obtain ⟨q1, q2⟩ := List.append_inj' e2 rfl
    obtain ⟨q3, q4⟩ := List.append_inj' q1 rfl
    rw [← (List.cons.inj q2).1, ← (List.cons.inj q4).1]; exact hg
  · have e2 : (a ++ [w]) ++ [u] = (s ++ x :: y :: t') ++ [z] := by rw [e]; simp
    exact h s x y t' (List.append_inj' e2 rfl).1
theorem Lk_cons {G : Nat → Bool} {a b : Nat} {l : List Nat} (h : Lk G (b :: l)) (hg : G (cd a b) = true) : Lk G (a :: b :: l) := by
  intro s x y t e
  cases s with
  | nil =>
    injection e with e1 e2
    injection e2 with e3 e4
    rw [← e1, ← e3]; exact hg
  | cons c s =>
    injection e with e1 e2
    exact h s x y t e2
theorem Lk_wk {G : Nat → Bool} {a : Nat} {l : List Nat} (h : Lk G (a :: l)) {e : Nat} (he : wk a l e = true) : G e = true := by
  obtain ⟨s, u, v, t, h1, h2⟩ := wk_in l a he
  rw [h2]; exact h s u v t h1
theorem X4_cut (N : Nat) (hN : 30 < N) {p : Nat → Int32} {pre post : List Nat} {u : Nat} (hn : (pre ++ u :: post).Nodup) (h9 : ∀ x, x ∈ pre ++ u :: post → x < 9) (hP : PA p (pre ++ u :: post)) : Ok (f_X4_cutPathBefore N p (nI (pre ++ u :: post).length) (nI u)) (fun r => PA r.1 (u :: post) ∧ r.2 = nI (u :: post).length) := by
  unfold f_X4_cutPathBefore
  have hlen := nd_le 9 _ hn h9
  have hu9 := h9 u (by simp)
  have hL : (pre ++ u :: post).length = pre.length + (post.length + 1) := by simp
  have at0 : ∀ j, (pre ++ u :: post).getD (pre.length + j) 0 = (u :: post).getD j 0 := fun j => by
    rw [gD_r (by omega), show pre.length + j - pre.length = j by omega]
  have atl : ∀ j, j < pre.length → (pre ++ u :: post).getD j 0 ≠ u := fun j hj q => by
    have := gD_mem hj
    rw [gD_l hj] at q
    rw [q] at this
    exact (List.nodup_append.mp hn).2.2 u this u List.mem_cons_self rfl
  have lt9 : ∀ j, j < (pre ++ u :: post).length → (pre ++ u :: post).getD j 0 < 9 := fun j hj => h9 _ (gD_mem hj)
  generalize hLL : pre ++ u :: post = L at *
  refine lpU3 (fun n i x2 x3 p => f_X4_cutPathBefore_b7 N n (nI u) x2 x3 (nI i) p (nI L.length)) (fun i x2 x3 p => (x3 = 0 ∧ i ≤ pre.length ∧ x2 = 0 ∧ PA p L) ∨ (x3 = 1 ∧ pre.length < i ∧ x2 = nI (i - pre.length) ∧ (∀ j, j < i - pre.length → p j = nI (L.getD (pre.length + j) 0)) ∧ ∀ j, i ≤ j → j < L.length → p j = nI (L.getD j 0))) L.length ?_ ?_ N 0 _ _ _ (Nat.zero_le _) (by omega) (Or.inl ⟨rfl, Nat.zero_le _, rfl, hP⟩)
  · rintro n x2 x3 p (⟨_, g2, _⟩ | ⟨g1, g2, g3, g4, g5⟩)
    · omega
    · simp only [f_X4_cutPathBefore_b7, f_X4_cutPathBefore_b63]
      refine Ok_ife (nI_leI (by omega) (by omega)) (fun _ => Ok_some.mpr ⟨fun j hj => ?_, ?_⟩) (fun c => absurd (Nat.le_refl _) c)
      · rw [List.length_cons] at hj
        rw [← at0]; exact g4 j (by omega)
      · show x2 = _
        rw [g3, List.length_cons]
        congr 1
        omega
  · intro n i x2 x3 p hi hI ih
    simp only [f_X4_cutPathBefore_b7, f_X4_cutPathBefore_b31, f_X4_cutPathBefore_b36, f_X4_cutPathBefore_b57]
    refine Ok_ife (nI_leI (by omega) (by omega)) (fun c => absurd c (by omega)) (fun _ => ?_)
    rw [nI_1, nI_clamp (n := i) (by omega)]
    have ii : inb (nI i) 9 = true := inb_nI (by omega) (by decide)
    rcases hI with ⟨rfl, g2, rfl, g4⟩ | ⟨rfl, g2, rfl, g4, g5⟩
    · rw [if_neg (fun q => q rfl), g4 i hi]
      refine Ok_chk.mpr ⟨ii, Ok_ite.mpr ⟨fun c => ?_, fun c => ?_⟩⟩
      · rw [if_pos trivial]
        refine ih _ _ _ (Or.inl ⟨rfl, ?_, rfl, g4⟩)
        rcases Nat.lt_or_ge i pre.length with q | q
        · exact q
        · have e : i = pre.length + 0 := by omega
          rw [e, at0] at c
          exact absurd rfl c
      · have c' : L.getD i 0 = u := (nI_eq (by have := lt9 i hi; omega) (by omega)).mp (Decidable.not_not.mp c)
        have e : i = pre.length := by
          rcases Nat.lt_or_ge i pre.length with q | q
          · exact absurd c' (atl i q)
          · omega
        rw [if_neg (by decide)]
        refine Ok_chk.mpr ⟨ii, Ok_chk.mpr ⟨by decide, ih _ _ _ (Or.inr ⟨rfl, by omega, by rw [show i + 1 - pre.length = 1 by omega]; rfl, fun j hj => ?_, fun j hj1 hj2 => ?_⟩)⟩⟩
        · have : j = 0 := by omega
          rw [this, show (0 : Int32).toNatClampNeg = 0 from rfl, pk_us, e, Nat.add_zero]
        · rw [show (0 : Int32).toNatClampNeg = 0 from rfl, pk_un (by omega)]; exact g4 j hj2
    · rw [if_pos (by decide), if_neg (by decide), nI_clamp (n := i - pre.length) (by omega), nI_1, g5 i (Nat.le_refl _) hi]
      refine Ok_chk.mpr ⟨ii, Ok_chk.mpr ⟨inb_nI (by omega) (by decide), ih _ _ _ (Or.inr ⟨rfl, by omega, by rw [show i + 1 - pre.length = i - pre.length + 1 by omega], fun j hj => ?_, fun j hj1 hj2 => ?_⟩)⟩⟩
      · rw [upd_at]
        by_cases c : j = i - pre.length
        · rw [if_pos c, c, show pre.length + (i - pre.length) = i by omega]
        · rw [if_neg c]; exact g4 j (by omega)
      · rw [pk_un (by omega)]; exact g5 j (by omega) hj2
theorem ct_one (w : Nat) : ∀ n, fb_ct (fun k => decide (k = w)) n ≤ 1
  | 0 => Nat.zero_le _
  | n + 1 => by
    rw [fb_ct_succ]
    by_cases c : n = w
    · have : fb_ct (fun k => decide (k = w)) n = 0 := fb_ct_zero.mpr (fun k hk => decide_eq_false (by omega))
      rw [this]; split <;> omega
    · have := ct_one w n
      rw [if_neg (fun q => c (of_decide_eq_true q))]
      exact this
def CyI (rest : Nat → Int32) (L : List Nat) (u : Nat) (x2 x3 : Int32) (p : Nat → Int32) : Prop :=
  L.Nodup ∧ (∀ x, x ∈ L → x < 9) ∧ PA p L ∧ Lk (gx rest) L ∧ (∀ b, bt x2 b = decide (b ∈ L)) ∧ u < 9 ∧ ¬ rest u = 0 ∧ ((L = [] ∧ ∀ b, bt x3 b = false) ∨ ∃ L0 w, L = L0 ++ [w] ∧ gx rest (cd w u) = true ∧ w ≠ u ∧ (∀ b, bt x3 b = decide (b = w)) ∧ ∀ L1 z, L0 = L1 ++ [z] → z ≠ u)
theorem X4_cycL (N : Nat) (hN : 30 < N) {rest : Nat → Int32} (hS : Sy rest) (h3 : ∀ u, u < 9 → rest u = 0 ∨ 3 ≤ dgr rest u) : ∀ n (L : List Nat) (u : Nat) (x2 x3 : Int32) (p : Nat → Int32), CyI rest L u x2 x3 p → 10 - L.length < n → Ok (f_X4_findCycle_b24 N rest n (nI u) x2 x3 (nI L.length) p (nI L.length)) (fun r => ¬ r.1 = 0 ∧ ∃ l, Cy l ∧ Sb (cs l) (gx rest) ∧ PA r.2.1 l ∧ r.2.2 = nI l.length) := by
  intro n
  induction n with
  | zero => intro L u x2 x3 p _ h; omega
  | succ n ih =>
    intro L u x2 x3 p ⟨i1, i2, i3, i4, i5, i6, i7, i8⟩ hm
    have hlen := nd_le 9 L i1 i2
    by_cases hu : u ∈ L
    case neg =>
      have n2 : (L ++ [u]).Nodup := List.nodup_append.mpr ⟨i1, by simp, fun a ha b hb q => hu (by rw [List.mem_singleton] at hb; rw [← hb, ← q]; exact ha)⟩
      have m2 : ∀ x, x ∈ L ++ [u] → x < 9 := fun x hx => by
        rcases List.mem_append.mp hx with q | q
        · exact i2 x q
        · rw [List.mem_singleton] at q; rw [q]; exact i6
      have l2 := nd_le 9 _ n2 m2
      rw [List.length_append, List.length_singleton] at l2
      simp only [f_X4_findCycle_b24]
      rw [if_neg (nI_pos (by omega) : ¬ nI u < 0), X7_contains N (by omega), i5, decide_eq_false hu]
      refine Ok_ife (nI_leI (a := 9) (by omega) (by omega)) (fun c => absurd c (by omega)) (fun _ => Ok_bd1.mpr (Ok_some.mpr ?_))
      rw [if_neg (fun q => q bF0), nI_1, nI_clamp (n := u) (by omega), nI_clamp (n := L.length) (by omega), X7_bit]
      refine Ok_chk.mpr ⟨inb_nI (by omega) (by decide), Ok_bd1.mpr (Ok_some.mpr (Ok_nm.mpr (Ok_chk.mpr ⟨inb_nI i6 (by decide), Ok_bd1.mpr (Ok_mono (X7_small N hN _) (fun r hr => Ok_bd1.mpr (Ok_some.mpr ?_)))⟩)))⟩
      have sel : ∀ v, bt (rest u) v = true → v < 9 := fun v hv => (hS u i6 v hv).1
      have b3 : ∀ v, v < 9 → bt (rest u &&& (x3 ^^^ (-1))) v = (bt (rest u) v && !bt x3 v) := fun v hv => by rw [b_and, b_not _ (by omega)]
      have ex : ∃ v, v < 9 ∧ bt (rest u &&& (x3 ^^^ (-1))) v = true := by
        refine Classical.byContradiction (fun hn => ?_)
        have all : ∀ v, bt (rest u) v = true → bt x3 v = true := fun v hv => by
          cases q : bt x3 v with
          | true => rfl
          | false => exact absurd ⟨v, sel v hv, by rw [b3 v (sel v hv), hv, q]; rfl⟩ hn
        have d3 := (h3 u i6).resolve_left i7
        rcases i8 with ⟨_, z⟩ | ⟨L0, w, _, _, _, z, _⟩
        · have : fb_ct (bt (rest u)) 20 = 0 := fb_ct_zero.mpr (fun k _ => by
            cases q : bt (rest u) k with
            | false => rfl
            | true => have := all k q; rw [z] at this; cases this)
          unfold dgr at d3
          omega
        · have h1 : fb_ct (bt (rest u)) 20 ≤ fb_ct (fun k => decide (k = w)) 20 := fb_ct_sub (fun k _ q => by have := all k q; rw [z] at this; exact this)
          have h2 := ct_one w 20
          unfold dgr at d3
          omega
      rcases hr with ⟨v, v1, v2, rfl⟩ | ⟨_, q⟩
      · rw [b3 v v1, Bool.and_eq_true, Bool.not_eq_true'] at v2
        have sv := hS u i6 v v2.1
        have e1 : L.length + 1 = (L ++ [u]).length := by simp
        rw [e1]
        refine ih (L ++ [u]) v _ _ _ ⟨n2, m2, PA_snoc i3 u, ?_, fun b => ?_, v1, fun q => ?_, Or.inr ⟨L, u, rfl, ?_, Ne.symm sv.2.1, fun b => b_bit (by omega), fun L1 z hz => ?_⟩⟩ (by rw [List.length_append, List.length_singleton]; omega)
        · rcases i8 with ⟨q, _⟩ | ⟨L0, w, q1, q2, _⟩
          · rw [q]; exact Lk_one _ _
          · rw [q1] at i4 ⊢; exact Lk_snoc i4 q2
        · rw [b_or, i5, b_bit (by omega), ← Bool.decide_or]
          exact decide_eq_decide.mpr (by rw [List.mem_append, List.mem_singleton])
        · have := sv.2.2
          rw [q, b_0] at this; cases this
        · rw [gx_cd hS i6 v1 (Ne.symm sv.2.1)]; exact v2.1
        · rcases i8 with ⟨q, _⟩ | ⟨L0, w, q1, q2, q3, q4, q5⟩
          · rw [q] at hz
            have := congrArg List.length hz
            simp at this
          · rw [q1] at hz
            have := (List.cons.inj (List.append_inj' hz rfl).2).1
            rw [← this]
            intro q
            have := v2.2
            rw [q4, q, decide_eq_true rfl] at this
            cases this
      · obtain ⟨v, v1, v2⟩ := ex
        rw [q v v1] at v2; cases v2
    case pos =>
      suffices fin : Ok (f_X4_findCycle_b95 N rest (nI u) x2 p (nI L.length)) (fun r => ¬ r.1 = 0 ∧ ∃ l, Cy l ∧ Sb (cs l) (gx rest) ∧ PA r.2.1 l ∧ r.2.2 = nI l.length) by
        simp only [f_X4_findCycle_b24]
        rw [if_neg (nI_pos (by omega) : ¬ nI u < 0), X7_contains N (by omega), i5, decide_eq_true hu]
        refine Ok_ife (nI_leI (a := 9) (by omega) (by omega)) (fun _ => fin) (fun _ => Ok_bd1.mpr (Ok_some.mpr ?_))
        rw [if_pos bT0]
        exact fin
      unfold f_X4_findCycle_b95
      rw [if_neg (nI_pos (by omega) : ¬ nI u < 0), X7_contains N (by omega), i5, decide_eq_true hu]
      refine Ok_bd1.mpr (Ok_some.mpr ?_)
      rw [if_pos bT0]
      obtain ⟨pre, post, e⟩ := List.append_of_mem hu
      rw [e]
      rw [e] at i1 i2 i3 i4
      refine Ok_bd1.mpr (Ok_mono (X4_cut N hN i1 i2 i3) (fun r hr => Ok_some.mpr ⟨i10, u :: post, ?_, ?_, hr.1, hr.2⟩))
      · refine ⟨(List.nodup_append.mp i1).2.1, ?_, fun x hx => i2 x (List.mem_append_right _ hx)⟩
        rcases i8 with ⟨q, _⟩ | ⟨L0, w, q1, q2, q3, q4, q5⟩
        · rw [q] at hu; cases hu
        · match post, e with
          | [], e =>
            rw [q1] at e
            exact absurd (List.cons.inj (List.append_inj' e rfl).2).1 q3
          | [y], e =>
            rw [q1] at e
            have e2 : L0 ++ [w] = (pre ++ [u]) ++ [y] := by rw [e]; simp
            exact absurd rfl (q5 pre u (List.append_inj' e2 rfl).1)
          | y :: z :: t, _ => simp only [List.length_cons]; omega
      · intro g hg
        have lk : Lk (gx rest) (u :: (post ++ [u])) := by
          rcases i8 with ⟨q, _⟩ | ⟨L0, w, q1, q2, q3, q4, q5⟩
          · rw [q] at hu; cases hu
          · have i4' := Lk_suf i4
            have : ∃ k, u :: post = k ++ [w] := by
              rcases nl_sn post with rfl | ⟨t', z, rfl⟩
              · rw [q1] at e
                exact absurd (List.cons.inj (List.append_inj' e rfl).2).1 q3
              · rw [q1] at e
                have e2 : L0 ++ [w] = (pre ++ u :: t') ++ [z] := by rw [e]; simp
                exact ⟨u :: t', by rw [(List.cons.inj (List.append_inj' e2 rfl).2).1]; simp⟩
            obtain ⟨k, hk⟩ := this
            rw [hk] at i4'
            have := Lk_snoc i4' q2
            rw [← hk] at this
            exact this
        exact Lk_wk lk hg
theorem X4_findCycle (N : Nat) (hN : 30 < N) {rest : Nat → Int32} (hS : Sy rest) (h3 : ∀ u, u < 9 → rest u = 0 ∨ 3 ≤ dgr rest u) (hne : ∃ u, u < 9 ∧ ¬ rest u = 0) (p : Nat → Int32) (pl : Int32) : Ok (f_X4_findCycle N rest p pl) (fun r => ¬ r.1 = 0 ∧ ∃ l, Cy l ∧ Sb (cs l) (gx rest) ∧ PA r.2.1 l ∧ r.2.2 = nI l.length) := by
  unfold f_X4_findCycle
  refine Ok_bd1.mpr (Ok_mono (X7_neigh N hN rest (-1)) (fun x hx => Ok_bd1.mpr (Ok_mono (X7_small N hN x) (fun r hr => ?_))))
  rcases hr with ⟨v, v1, v2, rfl⟩ | ⟨_, q⟩
  · obtain ⟨w, w1, _, w3⟩ := (hx v).mp v2
    have sw := hS w w1 v w3
    refine X4_cycL N hN hS h3 N [] v 0 0 p ⟨List.nodup_nil, fun x hx => (by cases hx), fun j hj => absurd hj (Nat.not_lt_zero j), Lk_nil _, fun b => by rw [b_0]; rfl, v1, fun q => ?_, Or.inl ⟨rfl, fun b => b_0 b⟩⟩ (by show 10 - 0 < N; omega)
    have := sw.2.2
    rw [q, b_0] at this; cases this
  · obtain ⟨u, u1, u2⟩ := hne
    exfalso
    refine u2 (b_zero.mpr (fun i _ => ?_))
    cases c : bt (rest u) i with
    | false => rfl
    | true =>
      have s := hS u u1 i c
      have := (hx i).mpr ⟨u, u1, b_m1 u (by omega), c⟩
      rw [q i s.1] at this; cases this
