/-! ===== the class splits a ring, draws a path, starts a sketch ===== -/
theorem rot2 {R u v s t : List Nat} {a b : Nat} (hR : R = u ++ a :: v) (hq : v ++ u = s ++ b :: t) : ∃ u2 v2, R = u2 ++ b :: v2 ∧ v2 ++ u2 = t ++ a :: s := by
  rcases List.append_eq_append_iff.mp hq with ⟨w, e1, e2⟩ | ⟨w, e1, e2⟩
  · refine ⟨w, t ++ a :: v, ?_, ?_⟩
    · rw [hR, e2]; simp
    · rw [e1]; simp
  · cases w with
    | nil =>
      refine ⟨[], t ++ a :: s, ?_, ?_⟩
      · rw [hR, e1, ← List.nil_append u, ← e2]; simp
      · simp
    | cons x w =>
      injection e2 with e3 e4
      refine ⟨u ++ a :: s, w, ?_, ?_⟩
      · rw [hR, e1, ← e3]; simp
      · rw [e4]; simp
theorem cpok_t {s d n n0 n1 : Nat} (h0 : s + n ≤ n0) (h1 : d + n ≤ n1) (k0 : n0 < 2 ^ 31) (k1 : n1 < 2 ^ 31) : cpok (nI s) (nI d) (nI n) n0 n1 = true := by
  unfold cpok
  rw [nI_clamp (n := s) (by omega), nI_clamp (n := d) (by omega), nI_clamp (n := n) (by omega)]
  exact decide_eq_true ⟨nI_pos (by omega), nI_pos (by omega), nI_pos (by omega), h0, h1⟩
section SPX
variable {nr f a b : Nat} {s t m : List Nat} {rg : Nat → List Nat}
theorem X4_back (N : Nat) {path : Nat → Int32} (hp : PA path (a :: (m ++ [b]))) (hC : Cy (a :: (s ++ b :: m.reverse))) (hf : f < 15) (len rings : Int32) (old : Nat → Int32) (x1 x2 x3 : Int32) (ns0 ls0 st0 : Nat → Int32) (Q : Int32 × (Nat → Int32) × (Nat → Int32) × (Nat → Int32) × (Nat → Int32) → Prop)
    (hQ : ∀ ns ls st, RR 9 ns ls st f (a :: (s ++ b :: m.reverse)) → FrR 9 ns0 ls0 st0 ns ls st f → Ok (f_X4_splitRing_b94 N path len (nI f) x1 x2 x3 rings ns ls st old) Q) :
    ∀ (j n : Nat) (ns ls st : Nat → Int32), j ≤ m.length → j < n → RR 9 ns ls st f (a :: (s ++ b :: (m.drop j).reverse)) → FrR 9 ns0 ls0 st0 ns ls st f → Ok (f_X4_splitRing_b68 N path len (nI f) n x1 x2 x3 (nI j) rings ns ls st old) Q := by
  have hl := nd_le 9 _ hC.1 hC.2.2
  have hl' : s.length + m.length + 2 ≤ 9 := by
    simp only [List.length_cons, List.length_append, List.length_reverse] at hl
    omega
  intro j
  induction j with
  | zero =>
    intro n ns ls st _ hn hr hF
    obtain ⟨n, rfl⟩ : ∃ k, n = k + 1 := ⟨n - 1, by omega⟩
    simp only [f_X4_splitRing_b68]
    rw [show nI 0 = (0 : Int32) from rfl, if_pos (by decide)]
    rw [List.drop_zero] at hr
    exact hQ ns ls st hr hF
  | succ j ih =>
    intro n ns ls st hj hn hr hF
    obtain ⟨n, rfl⟩ : ∃ k, n = k + 1 := ⟨n - 1, by omega⟩
    simp only [f_X4_splitRing_b68]
    refine Ok_ife (nI_leI (b := 0) (by omega) (by omega)) (fun c => absurd c (by omega)) (fun _ => ?_)
    have e1 : path (j + 1) = nI (m.getD j 0) := by
      rw [hp (j + 1) (by simp; omega), List.getD_cons_succ, gD_l (by omega)]
    rw [nI_clamp (n := j + 1) (by omega), e1, nI_m1 (by omega), Nat.add_sub_cancel]
    have lt : (a :: (s ++ b :: (m.drop (j + 1)).reverse)).length < 9 := by
      simp only [List.length_cons, List.length_append, List.length_reverse, List.length_drop]
      omega
    have x9 : m.getD j 0 < 9 := hC.2.2 _ (by
      have := gD_mem (l := m) (j := j) (by omega)
      simp only [List.mem_cons, List.mem_append, List.mem_reverse]
      exact Or.inr (Or.inr (Or.inr this)))
    refine Ok_chk.mpr ⟨inb_nI (by omega) (by decide), Ok_bd1.mpr (Ok_mono (X4_extend N hf hr lt x9) (fun r hr' => ih n r.1 r.2.1 r.2.2 (by omega) (by omega) ?_ (FrR_trans hF hr'.2)))⟩
    have e2 : a :: (s ++ b :: (m.drop j).reverse) = (a :: (s ++ b :: (m.drop (j + 1)).reverse)) ++ [m.getD j 0] := by
      rw [dr_cons (by omega : j < m.length), List.reverse_cons]; simp
    rw [e2]; exact hr'.1
theorem X4_fwd (N : Nat) {path : Nat → Int32} (hp : PA path (a :: (m ++ [b]))) (hC : Cy (b :: (t ++ a :: m))) {nr : Nat} (hf : nr < 15) (x : Int32) (old : Nat → Int32) (ns0 ls0 st0 : Nat → Int32) :
    ∀ (n i : Nat) (ns ls st : Nat → Int32), i ≤ m.length → m.length - i < n → RR 9 ns ls st nr (b :: (t ++ a :: m.take i)) → FrR 9 ns0 ls0 st0 ns ls st nr → Ok (f_X4_splitRing_b108 N path (nI (m.length + 2)) x n (nI (i + 1)) (nI nr) ns ls st old) (fun r => r.1 = nI (nr + 1) ∧ RR 9 r.2.1 r.2.2.1 r.2.2.2.1 nr (b :: (t ++ a :: m)) ∧ FrR 9 ns0 ls0 st0 r.2.1 r.2.2.1 r.2.2.2.1 nr) := by
  have hl := nd_le 9 _ hC.1 hC.2.2
  have hl' : t.length + m.length + 2 ≤ 9 := by
    simp only [List.length_cons, List.length_append] at hl
    omega
  intro n
  induction n with
  | zero => intro i _ _ _ _ h; omega
  | succ n ih =>
    intro i ns ls st hi hn hr hF
    simp only [f_X4_splitRing_b108, f_X4_splitRing_b140]
    rw [nI_sub1 (by omega), show m.length + 2 - 1 = m.length + 1 by omega]
    refine Ok_ife (nI_leI (by omega) (by omega)) (fun c => ?_) (fun c => ?_)
    · rw [List.take_of_length_le (by omega)] at hr
      exact Ok_some.mpr ⟨nI_1 nr, hr, hF⟩
    · have e1 : path (i + 1) = nI (m.getD i 0) := by
        rw [hp (i + 1) (by simp; omega), List.getD_cons_succ, gD_l (by omega)]
      rw [nI_clamp (n := i + 1) (by omega), e1, nI_1]
      have lt : (b :: (t ++ a :: m.take i)).length < 9 := by
        simp only [List.length_cons, List.length_append, List.length_take]
        omega
      have x9 : m.getD i 0 < 9 := hC.2.2 _ (by
        have := gD_mem (l := m) (j := i) (by omega)
        simp only [List.mem_cons, List.mem_append]
        exact Or.inr (Or.inr (Or.inr this)))
      refine Ok_chk.mpr ⟨inb_nI (by omega) (by decide), Ok_bd1.mpr (Ok_mono (X4_extend N hf hr lt x9) (fun r hr' => ih (i + 1) r.1 r.2.1 r.2.2 (by omega) (by omega) ?_ (FrR_trans hF hr'.2)))⟩
      have e2 : b :: (t ++ a :: m.take (i + 1)) = (b :: (t ++ a :: m.take i)) ++ [m.getD i 0] := by
        rw [tk_succ (by omega)]; simp
      rw [e2]; exact hr'.1
theorem X4_split (N : Nat) (hN : 30 < N) {path : Nat → Int32} (hp : PA path (a :: (m ++ [b]))) (ns ls st old : Nat → Int32) (hcy : ∀ k, k < nr → Cy (rg k)) (hR : ∀ k, k < nr → RR 9 ns ls st k (rg k)) (hf : f < nr) (hnr : nr ≤ 14) {u v : List Nat} (he : rg f = u ++ a :: v) (hq : v ++ u = s ++ b :: t) (hC1 : Cy (a :: (s ++ b :: m.reverse))) (hC2 : Cy (b :: (t ++ a :: m))) :
    Ok (f_X4_splitRing N (nI nr) ns ls st old path (nI (m.length + 2)) (nI f)) (fun r => r.1 = nI (nr + 1) ∧ ∀ k, k < nr + 1 → RR 9 r.2.1 r.2.2.1 r.2.2.2.1 k (rgN nr rg f a b s t m k)) := by
  obtain ⟨u2, v2, he2, hq2⟩ := rot2 he hq
  have cf := hcy f hf
  have rf := hR f hf
  have hl := nd_le 9 _ cf.1 cf.2.2
  have hl1 := nd_le 9 _ hC1.1 hC1.2.2
  simp only [List.length_cons, List.length_append, List.length_reverse] at hl1
  unfold f_X4_splitRing nm
  dsimp only
  have e9 : nI f * 9 = nI (9 * f) := by rw [show (9 : Int32) = nI 9 from rfl, pk_mul, Nat.mul_comm]
  rw [nI_clamp (n := f) (by omega), rf.1, e9, nI_clamp (n := 9 * f) (by omega), nI_clamp (n := (rg f).length) (by omega), nI_sub1 (by omega), show m.length + 2 - 1 = m.length + 1 by omega, nI_clamp (n := m.length + 1) (by omega), show (0 : Int32).toNatClampNeg = 0 from rfl, hp 0 (by simp), hp (m.length + 1) (by simp), List.getD_cons_zero, List.getD_cons_succ, gD_r (Nat.le_refl _), Nat.sub_self, List.getD_cons_zero, show (2 : Int32) = nI 2 from rfl, pk_sub (by omega : 2 ≤ m.length + 2), Nat.add_sub_cancel]
  generalize hold : va_cpy ns old (9 * f) 0 (rg f).length = old'
  have po : PA old' (rg f) := fun j hj => by
    rw [← hold, pk_cpy_in (Nat.zero_le _) (by omega), Nat.sub_zero]
    exact rf.2.1 j hj
  have nb : b ∉ a :: s := by
    have := hC1.1
    intro q
    have h2 := List.nodup_cons.mp this
    rcases List.mem_cons.mp q with q | q
    · exact h2.1 (by rw [← q]; simp)
    · exact (List.nodup_append.mp h2.2).2.2 b q b List.mem_cons_self rfl
  have na : a ∉ b :: t := by
    have := hC2.1
    intro q
    have h2 := List.nodup_cons.mp this
    rcases List.mem_cons.mp q with q | q
    · exact h2.1 (by rw [← q]; simp)
    · exact (List.nodup_append.mp h2.2).2.2 a q a List.mem_cons_self rfl
  refine Ok_chk.mpr ⟨inb_nI (by omega) (by decide), Ok_chk.mpr ⟨cpok_t (d := 0) (by omega) (by omega) (by decide) (by decide), Ok_chk.mpr ⟨by decide, Ok_chk.mpr ⟨inb_nI (by omega) (by decide), Ok_bd1.mpr ?_⟩⟩⟩⟩
  have c1 := X4_copyArc N hN (old := old') (u := u) (v := v) (c := a) (d := b) (by rw [← he]; exact cf.1) (by rw [← he]; exact cf.2.2) (by rw [← he]; exact po) (P1 := a :: s) (P2 := t) (by rw [hq]; rfl) nb (k := f) (by omega) ns ls st
  rw [← he] at c1
  refine Ok_mono c1 (fun r hr => ?_)
  refine X4_back (s := s) N hp hC1 (by omega) _ (nI nr) old' _ _ _ ns ls st _ (fun ns1 ls1 st1 g1 g2 => ?_) m.length N r.1 r.2.1 r.2.2 (Nat.le_refl _) (by omega) (by rw [List.drop_length]; exact hr.1) hr.2
  unfold f_X4_splitRing_b94
  have c2 := X4_copyArc N hN (old := old') (u := u2) (v := v2) (c := b) (d := a) (by rw [← he2]; exact cf.1) (by rw [← he2]; exact cf.2.2) (by rw [← he2]; exact po) (P1 := b :: t) (P2 := s) (by rw [hq2]; rfl) na (k := nr) (by omega) ns1 ls1 st1
  rw [← he2] at c2
  refine Ok_bd1.mpr (Ok_mono c2 (fun r2 hr2 => ?_))
  have c3 := X4_fwd (t := t) N hp hC2 (nr := nr) (by omega) (nI f) old' ns1 ls1 st1 N 0 r2.1 r2.2.1 r2.2.2 (Nat.zero_le _) (by omega) (by rw [List.take_zero]; exact hr2.1) hr2.2
  refine Ok_mono c3 (fun r3 hr3 => ⟨hr3.1, fun k hk => ?_⟩)
  by_cases q1 : k = f
  · rw [rgN_f k q1, q1]
    exact hr3.2.2 f _ (by omega) (by simp only [List.length_cons, List.length_append, List.length_reverse]; omega) g1
  · by_cases q2 : k = nr
    · rw [q2, rgN_n (by omega)]; exact hr3.2.1
    · rw [rgN_o q1 q2]
      have ck := hcy k (by omega)
      have lk := nd_le 9 _ ck.1 ck.2.2
      exact hr3.2.2 k _ q2 lk (g2 k _ q1 lk (hR k (by omega)))
end SPX
/-! the sketch -/
def Sk (sk : Nat → Int32) (H : Nat → Bool) : Prop := ∀ u, u < 9 → ∀ v, bt (sk u) v = ((decide (v < 9) && !decide (u = v)) && H (cd u v))
theorem Sk_tog {sk sk' : Nat → Int32} {H : Nat → Bool} {x y : Nat} (hx : x < 9) (hy : y < 9) (hne : x ≠ y) (h : Sk sk H) (hs : ∀ u v, bt (sk' u) v = (bt (sk u) v ^^ (decide (u = x ∧ v = y) || decide (u = y ∧ v = x)))) : Sk sk' (xs H (sg (cd x y))) := by
  intro u hu v
  rw [hs, h u hu v]
  show _ = ((decide (v < 9) && !decide (u = v)) && (H (cd u v) ^^ decide (cd u v = cd x y)))
  by_cases c : v < 9 ∧ ¬ u = v
  · have e : decide (cd u v = cd x y) = (decide (u = x ∧ v = y) || decide (u = y ∧ v = x)) := by
      rw [← Bool.decide_or]
      refine decide_eq_decide.mpr ⟨cd_inj hu c.1 hx hy, ?_⟩
      rintro (⟨q1, q2⟩ | ⟨q1, q2⟩)
      · rw [q1, q2]
      · rw [q1, q2, cd_comm]
    rw [decide_eq_true c.1, decide_eq_false c.2, e]; rfl
  · have e : (decide (v < 9) && !decide (u = v)) = false := by
      by_cases c1 : v < 9
      · rw [decide_eq_true (Classical.byContradiction (fun q => c ⟨c1, q⟩))]; simp
      · rw [decide_eq_false c1]; rfl
    rw [e, Bool.false_and, Bool.false_and, Bool.false_xor, decide_eq_false (by omega), decide_eq_false (by omega)]; rfl
theorem Sk_cong {sk : Nat → Int32} {H H' : Nat → Bool} (h : ∀ e, H e = H' e) (hs : Sk sk H) : Sk sk H' := by
  have : H = H' := funext h
  rw [← this]; exact hs
theorem lst_take {a : Nat} : ∀ {l : List Nat} {k : Nat}, k ≤ l.length → lst a (l.take k) = (a :: l).getD k 0
  | l, 0, _ => by rw [List.take_zero]; rfl
  | l, k + 1, h => by
    rw [tk_succ (by omega), lst_snoc]; rfl
theorem X4_draw (N : Nat) (hN : 30 < N) {a : Nat} {l : List Nat} (hn : (a :: l).Nodup) (h9 : ∀ x, x ∈ a :: l → x < 9) {p : Nat → Int32} (hp : PA p (a :: l)) {sk : Nat → Int32} {H : Nat → Bool} (hs : Sk sk H) (pl : Int32) : Ok (f_X4_drawPath N sk pl p (nI (l.length + 1))) (fun r => Sk r.1 (xs H (wk a l)) ∧ ∀ x, bt r.2 x = (bt pl x || decide (x ∈ a :: l))) := by
  unfold f_X4_drawPath
  have hl := nd_le 9 _ hn h9
  rw [List.length_cons] at hl
  refine lpU2 (fun n i s q => f_X4_drawPath_b2 N p (nI (l.length + 1)) n (nI i) s q) (fun i s q => Sk s (xs H (wk a (l.take (i - 1)))) ∧ ∀ x, bt q x = (bt pl x || decide (x ∈ (a :: l).take i))) (l.length + 1) ?_ ?_ N 0 _ _ (Nat.zero_le _) (by omega) ⟨Sk_cong (fun e => by show H e = (H e ^^ false); rw [Bool.xor_false]) hs, fun x => by simp⟩
  · rintro n s q ⟨h1, h2⟩
    simp only [f_X4_drawPath_b2]
    refine Ok_ife (nI_leI (by omega) (by omega)) (fun _ => Ok_some.mpr ⟨?_, ?_⟩) (fun c => absurd (Nat.le_refl _) c)
    · rw [Nat.add_sub_cancel, List.take_length] at h1; exact h1
    · intro x
      rw [h2, List.take_of_length_le (by rw [List.length_cons]; omega)]
  · rintro n i s q hi ⟨h1, h2⟩ ih
    simp only [f_X4_drawPath_b2, f_X4_drawPath_b53]
    refine Ok_ife (nI_leI (by omega) (by omega)) (fun c => absurd c (by omega)) (fun _ => ?_)
    have x9 : (a :: l).getD i 0 < 9 := h9 _ (gD_mem (by rw [List.length_cons]; omega))
    rw [nI_1, nI_clamp (n := i) (by omega), hp i (by rw [List.length_cons]; omega), X7_bit]
    have pl2 : ∀ x, bt (q ||| ((1 : Int32) <<< (nI ((a :: l).getD i 0) &&& 31))) x = (bt pl x || decide (x ∈ (a :: l).take (i + 1))) := fun x => by
      rw [b_or, h2, b_bit (by omega), tk_succ (by rw [List.length_cons]; omega), Bool.or_assoc, ← Bool.decide_or]
      congr 1
      exact decide_eq_decide.mpr (by rw [List.mem_append, List.mem_singleton])
    refine Ok_chk.mpr ⟨inb_nI (by omega) (by decide), Ok_bd1.mpr (Ok_some.mpr (Ok_ife (nI_leI (b := 0) (by omega) (by omega)) (fun c => ih _ _ ⟨?_, pl2⟩) (fun c => ?_)))⟩
    · rw [show i + 1 - 1 = i - 1 by omega]; exact h1
    · obtain ⟨j, rfl⟩ : ∃ j, i = j + 1 := ⟨i - 1, by omega⟩
      rw [nI_sub1 (by omega), Nat.add_sub_cancel, nI_clamp (n := j) (by omega), hp j (by rw [List.length_cons]; omega)]
      have y9 : (a :: l).getD j 0 < 9 := h9 _ (gD_mem (by rw [List.length_cons]; omega))
      have ne : (a :: l).getD j 0 ≠ (a :: l).getD (j + 1) 0 := fun e => by
        have := (List.getD_inj (by rw [List.length_cons]; omega) (by rw [List.length_cons]; omega) hn).mp e
        omega
      refine Ok_chk.mpr ⟨inb_nI (by omega) (by decide), Ok_chk.mpr ⟨inb_nI (by omega) (by decide), Ok_bd1.mpr (Ok_mono (X7_toggle N s y9 x9 ne) (fun r hr => ih _ _ ⟨Sk_cong (fun e => ?_) (Sk_tog y9 x9 ne h1 hr), pl2⟩))⟩⟩
      show ((H e ^^ wk a (l.take (j + 1 - 1)) e) ^^ decide (e = cd ((a :: l).getD j 0) ((a :: l).getD (j + 1) 0))) = (H e ^^ wk a (l.take (j + 1 + 1 - 1)) e)
      rw [show j + 1 - 1 = j by omega, show j + 1 + 1 - 1 = j + 1 by omega, tk_succ (by omega : j < l.length), wk_app, lst_take (by omega), Bool.xor_assoc]
      congr 2
      show _ = (decide (e = cd ((a :: l).getD j 0) (l.getD j 0)) ^^ false)
      rw [Bool.xor_false]; rfl
theorem X4_start (N : Nat) (hN : 30 < N) {l : List Nat} (hC : Cy l) {p : Nat → Int32} (hp : PA p l) (sk : Nat → Int32) (pl rings : Int32) (ns ls st : Nat → Int32) : Ok (f_X4_startSketch N sk pl rings ns ls st p (nI l.length)) (fun r => Sk r.1 (cs l) ∧ (∀ x, bt r.2.1 x = decide (x ∈ l)) ∧ r.2.2.1 = nI 2 ∧ ∀ k, k < 2 → RR 9 r.2.2.2.1 r.2.2.2.2.1 r.2.2.2.2.2 k l) := by
  obtain ⟨a, l', rfl⟩ : ∃ a t, l = a :: t := by
    cases l with
    | nil => exact absurd hC.2.1 (by decide)
    | cons a t => exact ⟨a, t, rfl⟩
  have hl := nd_le 9 _ hC.1 hC.2.2
  have h3 := hC.2.1
  rw [List.length_cons] at hl h3
  unfold f_X4_startSketch
  rw [List.length_cons]
  have s0 : Sk (filled 9 (0 : Int32) sk) (fun _ => false) := fun u hu v => by
    unfold filled
    rw [if_pos hu, b_0, Bool.and_false]
  refine Ok_bd1.mpr (Ok_mono (X4_draw N hN hC.1 hC.2.2 hp s0 0) (fun r hr => ?_))
  rw [nI_sub1 (by omega), Nat.add_sub_cancel, nI_clamp (n := l'.length) (by omega), show (0 : Int32).toNatClampNeg = 0 from rfl, hp 0 (by simp), hp l'.length (by simp), List.getD_cons_zero]
  have la : lst a l' = (a :: l').getD l'.length 0 := by
    rw [← lst_take (Nat.le_refl _), List.take_length]
  rw [← la]
  have z9 := hC.2.2 _ (lst_mem l' a)
  have a9 := hC.2.2 a List.mem_cons_self
  have ne : a ≠ lst a l' := fun q => by
    have h0 : (a :: l').getD 0 0 = (a :: l').getD l'.length 0 := by rw [← la, ← q]; rfl
    have := (List.getD_inj (by simp) (by simp) hC.1).mp h0
    omega
  refine Ok_chk.mpr ⟨by decide, Ok_chk.mpr ⟨inb_nI (by omega) (by decide), Ok_bd1.mpr (Ok_mono (X7_toggle N r.1 a9 z9 ne) (fun r2 hr2 => ?_))⟩⟩
  have sF : Sk r2 (cs (a :: l')) := by
    refine Sk_cong (fun e => ?_) (Sk_tog a9 z9 ne hr.1 hr2)
    show ((false ^^ wk a l' e) ^^ decide (e = cd a (lst a l'))) = wk a (l' ++ [a]) e
    rw [wk_app, Bool.false_xor]
    congr 1
    show _ = (decide (e = cd (lst a l') a) ^^ false)
    rw [Bool.xor_false, cd_comm]
  have pF : ∀ x, bt r.2 x = decide (x ∈ a :: l') := fun x => by rw [hr.2, b_0, Bool.false_or]
  refine lpU3 (fun n i x y z => f_X4_startSketch_b48 N p (nI (l'.length + 1)) n (nI i) r2 r.2 2 x y z) (fun i x y z => ∀ k, k < i → RR 9 x y z k (a :: l')) 2 ?_ ?_ N 0 _ _ _ (Nat.zero_le _) (by omega) (fun k hk => by omega)
  · intro n x y z hI
    simp only [f_X4_startSketch_b48]
    rw [show nI 2 = (2 : Int32) from rfl, if_pos (by decide)]
    exact Ok_some.mpr ⟨sF, pF, rfl, hI⟩
  · intro n i x y z hi hI ih
    simp only [f_X4_startSketch_b48]
    refine Ok_ife (nI_leI (a := 2) (b := i) (by omega) (by omega)) (fun c => absurd c (by omega)) (fun _ => ?_)
    rw [show nI i * 9 = nI (9 * i) by rw [show (9 : Int32) = nI 9 from rfl, pk_mul, Nat.mul_comm], nI_1, nI_clamp (n := i) (by omega), nI_clamp (n := 9 * i) (by omega), nI_clamp (n := l'.length + 1) (by omega), show (0 : Int32).toNatClampNeg = 0 from rfl]
    refine Ok_chk.mpr ⟨cpok_t (s := 0) (by omega) (by omega) (by decide) (by decide), Ok_chk.mpr ⟨inb_nI (by omega) (by decide), Ok_chk.mpr ⟨inb_nI (by omega) (by decide), ih _ _ _ (fun k hk => ?_)⟩⟩⟩
    by_cases c : k = i
    · rw [c]
      refine ⟨pk_us, fun j hj => ?_, fun x => by rw [pk_us]; exact pF x⟩
      rw [List.length_cons] at hj
      rw [pk_cpy_in (by omega) (by omega), show 0 + (9 * i + j - 9 * i) = j by omega]
      exact hp j (by rw [List.length_cons]; exact hj)
    · obtain ⟨g1, g2, g3⟩ := hI k (by omega)
      refine ⟨by rw [pk_un c]; exact g1, fun j hj => ?_, fun x => by rw [pk_un c]; exact g3 x⟩
      have hj2 := hj
      rw [List.length_cons] at hj2
      rw [pk_cpy_out (by omega)]; exact g2 j hj
