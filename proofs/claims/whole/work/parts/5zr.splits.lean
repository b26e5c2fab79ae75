/-! ===== the reference splits a ring ===== -/
theorem X8_adds (N : Nat) {ns ls st : Nat → Int32} {k : Nat} {l : List Nat} (hk : k < 40) (h : RR 10 ns ls st k l) (hl : l.length < 10) {v : Nat} (hv : v < 9) : Ok (f_X8_adds N ns ls st (nI k) (nI v)) (fun r => RR 10 r.1 r.2.1 r.2.2 k (l ++ [v]) ∧ FrR 10 ns ls st r.1 r.2.1 r.2.2 k) := by
  unfold f_X8_adds
  have ik : inb (nI k) 40 = true := inb_nI hk (by decide)
  have e : 10 * nI k + nI l.length = nI (10 * k + l.length) := by
    rw [show (10 : Int32) = nI 10 from rfl, pk_mul, nI_add]
  rw [nI_clamp (n := k) (by omega), h.1, e, nI_1, nI_clamp (n := 10 * k + l.length) (by omega)]
  exact Ok_chk.mpr ⟨ik, Ok_chk.mpr ⟨inb_nI (by omega) (by decide), Ok_chk.mpr ⟨ik, Ok_chk.mpr ⟨ik, Ok_chk.mpr ⟨ik, Ok_chk.mpr ⟨ik, Ok_some.mpr (RR_app (Or.inr rfl) h hl hv)⟩⟩⟩⟩⟩⟩
theorem X8_begins (N : Nat) (ns ls st : Nat → Int32) {k : Nat} (hk : k < 40) : Ok (f_X8_begins N ls st (nI k)) (fun r => RR 10 ns r.1 r.2 k [] ∧ FrR 10 ns ls st ns r.1 r.2 k) := by
  unfold f_X8_begins
  have ik : inb (nI k) 40 = true := inb_nI hk (by decide)
  rw [nI_clamp (n := k) (by omega)]
  exact Ok_chk.mpr ⟨ik, Ok_chk.mpr ⟨ik, Ok_some.mpr (RR_new k)⟩⟩
def KI (ns ls st : Nat → Int32) (f nr : Nat) (rg : Nat → List Nat) (lf ln : List Nat) : Prop := RR 10 ns ls st f lf ∧ RR 10 ns ls st nr ln ∧ ∀ k, k < nr → k ≠ f → RR 10 ns ls st k (rg k)
section SPR
variable {nr f a b : Nat} {s t m : List Nat} {rg : Nat → List Nat}
theorem X8_addF (N : Nat) {ns ls st : Nat → Int32} {lf ln : List Nat} (hf : f < nr) (hnr : nr < 40) (hg : ∀ k, k < nr → (rg k).length ≤ 10) (h : KI ns ls st f nr rg lf ln) (h1 : lf.length < 10) (h2 : ln.length ≤ 10) {v : Nat} (hv : v < 9) : Ok (f_X8_adds N ns ls st (nI f) (nI v)) (fun r => KI r.1 r.2.1 r.2.2 f nr rg (lf ++ [v]) ln) :=
  Ok_mono (X8_adds N (by omega) h.1 h1 hv) (fun r hr => ⟨hr.1, hr.2 nr ln (by omega) h2 h.2.1, fun k k1 k2 => hr.2 k _ k2 (hg k k1) (h.2.2 k k1 k2)⟩)
theorem X8_addN (N : Nat) {ns ls st : Nat → Int32} {lf ln : List Nat} (hf : f < nr) (hnr : nr < 40) (hg : ∀ k, k < nr → (rg k).length ≤ 10) (h : KI ns ls st f nr rg lf ln) (h1 : lf.length ≤ 10) (h2 : ln.length < 10) {v : Nat} (hv : v < 9) : Ok (f_X8_adds N ns ls st (nI nr) (nI v)) (fun r => KI r.1 r.2.1 r.2.2 f nr rg lf (ln ++ [v])) :=
  Ok_mono (X8_adds N (by omega) h.2.1 h2 hv) (fun r hr => ⟨hr.2 f lf (by omega) h1 h.1, hr.1, fun k k1 k2 => hr.2 k _ (by omega) (hg k k1) (h.2.2 k k1 k2)⟩)
theorem X8_splits (N : Nat) (hN : 100 < N) {path : Nat → Int32} (hp : PA path (a :: (m ++ [b]))) (ns ls st old : Nat → Int32) (hcy : ∀ k, k < nr → Cy (rg k)) (hR : ∀ k, k < nr → RR 10 ns ls st k (rg k)) (hf : f < nr) (hnr : nr ≤ 14) {u v : List Nat} (he : rg f = u ++ a :: v) (hq : v ++ u = s ++ b :: t) (hC1 : Cy (a :: (s ++ b :: m.reverse))) (hC2 : Cy (b :: (t ++ a :: m))) :
    Ok (f_X8_splits N ns ls st (nI nr) path (nI (m.length + 2)) old (nI f)) (fun r => r.2.2.2.1 = nI (nr + 1) ∧ ∀ k, k < nr + 1 → RR 10 r.1 r.2.1 r.2.2.1 k (rgN nr rg f a b s t m k)) := by
  have cf := hcy f hf
  have rf := hR f hf
  have hl := nd_le 9 _ cf.1 cf.2.2
  have hg : ∀ k, k < nr → (rg k).length ≤ 10 := fun k hk => by have := nd_le 9 _ (hcy k hk).1 (hcy k hk).2.2; omega
  have hl1 := nd_le 9 _ hC1.1 hC1.2.2
  have hl2 := nd_le 9 _ hC2.1 hC2.2.2
  simp only [List.length_cons, List.length_append, List.length_reverse] at hl1 hl2
  have eu : (rg f).length = u.length + (v.length + 1) := by rw [he]; simp
  have es : v.length + u.length = s.length + (t.length + 1) := by
    have := congrArg List.length hq
    simpa using this
  have a9 : a < 9 := hC1.2.2 a List.mem_cons_self
  have b9 : b < 9 := hC2.2.2 b List.mem_cons_self
  have nb : b ∉ a :: s := by
    intro q
    have h2 := List.nodup_cons.mp hC1.1
    rcases List.mem_cons.mp q with q | q
    · exact h2.1 (by rw [← q]; simp)
    · exact (List.nodup_append.mp h2.2).2.2 b q b List.mem_cons_self rfl
  -- the ring read on, cyclically
  have cyc : ∀ i, i < (rg f).length → (rg f).getD ((u.length + i) % (rg f).length) 0 = (a :: (s ++ b :: t)).getD i 0 := by
    intro i hi
    have := rot_get (u := u) (v := v) (c := a) (i := i) (by rw [List.length_cons, List.length_append]; omega)
    rw [hq, ← he] at this
    rw [this]
    congr 1
    by_cases q : u.length + i < (rg f).length
    · rw [if_pos q, Nat.mod_eq_of_lt q]
    · rw [if_neg q, Nat.mod_eq_sub_mod (by omega), Nat.mod_eq_of_lt (by omega)]
  have cy0 : (rg f).getD u.length 0 = a := by
    have := cyc 0 (by omega)
    rw [Nat.add_zero, Nat.mod_eq_of_lt (by omega)] at this
    rw [this]; rfl
  have Q9 : ∀ i, i < (rg f).length → (a :: (s ++ b :: t)).getD i 0 < 9 := fun i hi => by
    rw [← cyc i hi]
    exact cf.2.2 _ (gD_mem (Nat.mod_lt _ (by omega)))
  unfold f_X8_splits
  rw [nI_clamp (n := f) (by omega), rf.1]
  refine Ok_chk.mpr ⟨inb_nI (by omega) (by decide), Ok_nm.mpr ?_⟩
  -- behind the copy
  have rest : ∀ old', PA old' (rg f) → Ok (f_X8_splits_b37 N path (nI (m.length + 2)) (nI f) (nI (rg f).length) ns ls st (nI nr) old') (fun r => r.2.2.2.1 = nI (nr + 1) ∧ ∀ k, k < nr + 1 → RR 10 r.1 r.2.1 r.2.2.1 k (rgN nr rg f a b s t m k)) := by
    intro old' po
    -- forward along the path, into the new ring
    have fwd : ∀ (n i : Nat) (ns ls st : Nat → Int32), i ≤ m.length → m.length - i < n → KI ns ls st f nr rg (a :: (s ++ b :: m.reverse)) (b :: (t ++ a :: m.take i)) → Ok (f_X8_splits_b213 N path (nI (m.length + 2)) n (nI (i + 1)) ns ls st (nI nr) old') (fun r => r.2.2.2.1 = nI (nr + 1) ∧ ∀ k, k < nr + 1 → RR 10 r.1 r.2.1 r.2.2.1 k (rgN nr rg f a b s t m k)) := by
      intro n
      induction n with
      | zero => intro i _ _ _ _ q; omega
      | succ n ih =>
        intro i ns ls st hi hn hk
        simp only [f_X8_splits_b213, f_X8_splits_b245]
        rw [nI_sub1 (by omega), show m.length + 2 - 1 = m.length + 1 by omega]
        refine Ok_ife (nI_leI (by omega) (by omega)) (fun c => ?_) (fun c => ?_)
        · rw [List.take_of_length_le (by omega)] at hk
          refine Ok_some.mpr ⟨nI_1 nr, fun k hk2 => ?_⟩
          by_cases q1 : k = f
          · rw [rgN_f k q1, q1]; exact hk.1
          · by_cases q2 : k = nr
            · rw [q2, rgN_n (by omega)]; exact hk.2.1
            · rw [rgN_o q1 q2]; exact hk.2.2 k (by omega) q1
        · have e1 : path (i + 1) = nI (m.getD i 0) := by
            rw [hp (i + 1) (by simp; omega), List.getD_cons_succ, gD_l (by omega)]
          rw [nI_clamp (n := i + 1) (by omega), e1, nI_1]
          have x9 : m.getD i 0 < 9 := hC2.2.2 _ (by
            have := gD_mem (l := m) (j := i) (by omega)
            simp only [List.mem_cons, List.mem_append]
            exact Or.inr (Or.inr (Or.inr this)))
          refine Ok_chk.mpr ⟨inb_nI (by omega) (by decide), Ok_bd1.mpr (Ok_mono (X8_addN N hf (by omega) hg hk (by simp only [List.length_cons, List.length_append, List.length_reverse]; omega) (by simp only [List.length_cons, List.length_append, List.length_take]; omega) x9) (fun r hr => ih (i + 1) r.1 r.2.1 r.2.2 (by omega) (by omega) ?_))⟩
          have e2 : b :: (t ++ a :: m.take (i + 1)) = (b :: (t ++ a :: m.take i)) ++ [m.getD i 0] := by
            rw [tk_succ (by omega)]; simp
          rw [e2]; exact hr
    -- backward along the path, into the old ring
    have back : ∀ (j n : Nat) (ns ls st : Nat → Int32), j ≤ m.length → j < n → KI ns ls st f nr rg (a :: (s ++ b :: (m.drop j).reverse)) (b :: (t ++ [a])) → Ok (f_X8_splits_b187 N path (nI (m.length + 2)) n (nI f) (nI j) ns ls st (nI nr) old') (fun r => r.2.2.2.1 = nI (nr + 1) ∧ ∀ k, k < nr + 1 → RR 10 r.1 r.2.1 r.2.2.1 k (rgN nr rg f a b s t m k)) := by
      intro j
      induction j with
      | zero =>
        intro n ns ls st _ hn hk
        obtain ⟨n, rfl⟩ : ∃ k, n = k + 1 := ⟨n - 1, by omega⟩
        simp only [f_X8_splits_b187, f_X8_splits_b210]
        rw [show nI 0 = (0 : Int32) from rfl, if_pos (by decide)]
        rw [List.drop_zero] at hk
        exact fwd N 0 ns ls st (Nat.zero_le _) (by omega) (by rw [List.take_zero]; exact hk)
      | succ j ih =>
        intro n ns ls st hj hn hk
        obtain ⟨n, rfl⟩ : ∃ k, n = k + 1 := ⟨n - 1, by omega⟩
        simp only [f_X8_splits_b187]
        refine Ok_ife (nI_leI (b := 0) (by omega) (by omega)) (fun c => absurd c (by omega)) (fun _ => ?_)
        have e1 : path (j + 1) = nI (m.getD j 0) := by
          rw [hp (j + 1) (by simp; omega), List.getD_cons_succ, gD_l (by omega)]
        rw [nI_clamp (n := j + 1) (by omega), e1, nI_m1 (by omega), Nat.add_sub_cancel]
        have x9 : m.getD j 0 < 9 := hC1.2.2 _ (by
          have := gD_mem (l := m) (j := j) (by omega)
          simp only [List.mem_cons, List.mem_append, List.mem_reverse]
          exact Or.inr (Or.inr (Or.inr this)))
        refine Ok_chk.mpr ⟨inb_nI (by omega) (by decide), Ok_bd1.mpr (Ok_mono (X8_addF N hf (by omega) hg hk (by simp only [List.length_cons, List.length_append, List.length_reverse, List.length_drop]; omega) (by simp only [List.length_cons, List.length_append, List.length_nil]; omega) x9) (fun r hr => ih n r.1 r.2.1 r.2.2 (by omega) (by omega) ?_))⟩
        have e2 : a :: (s ++ b :: (m.drop j).reverse) = (a :: (s ++ b :: (m.drop (j + 1)).reverse)) ++ [m.getD j 0] := by
          rw [dr_cons (by omega : j < m.length), List.reverse_cons]; simp
        rw [e2]; exact hr
    -- one place on
    have nxt : ∀ i, (nI ((u.length + i) % (rg f).length) + 1) - (nI ((u.length + i) % (rg f).length) + 1) / nI (rg f).length * nI (rg f).length = nI ((u.length + (i + 1)) % (rg f).length) := by
      intro i
      have := Nat.mod_lt (u.length + i) (by omega : 0 < (rg f).length)
      rw [nI_1, pk_rem (by omega) (by omega) (by omega)]
      congr 1
      rw [← Nat.add_assoc, Nat.add_mod (u.length + i) 1]
      rw [Nat.add_mod ((u.length + i) % (rg f).length) 1, Nat.mod_mod]
    have nz1 : nz (nI (rg f).length) = true := decide_eq_true (fun q => by
      have := (nI_eq (b := 0) (by omega) (by omega)).mp q
      omega)
    -- the second arc
    have arc2 : ∀ (n j : Nat) (ns ls st : Nat → Int32), j ≤ t.length + 1 → t.length + 1 - j < n → KI ns ls st f nr rg (a :: (s ++ [b])) ((b :: (t ++ [a])).take (j + 1)) → Ok (f_X8_splits_b147 N path (nI (m.length + 2)) n (nI f) (nI (rg f).length) (nI u.length) (nI ((u.length + (s.length + 1 + j)) % (rg f).length)) ns ls st (nI nr) old') (fun r => r.2.2.2.1 = nI (nr + 1) ∧ ∀ k, k < nr + 1 → RR 10 r.1 r.2.1 r.2.2.1 k (rgN nr rg f a b s t m k)) := by
      intro n
      induction n with
      | zero => intro j _ _ _ _ q; omega
      | succ n ih =>
        intro j ns ls st hj hn hk
        simp only [f_X8_splits_b147, f_X8_splits_b179]
        have ml := Nat.mod_lt (u.length + (s.length + 1 + j)) (by omega : 0 < (rg f).length)
        rw [nxt]
        by_cases c : j = t.length + 1
        · have e : (u.length + (s.length + 1 + j)) % (rg f).length = u.length := by
            rw [show u.length + (s.length + 1 + j) = u.length + (rg f).length by omega, Nat.add_mod_right, Nat.mod_eq_of_lt (by omega)]
          rw [if_pos (by rw [e])]
          rw [List.take_of_length_le (by simp; omega)] at hk
          rw [show (2 : Int32) = nI 2 from rfl, pk_sub (by omega : 2 ≤ m.length + 2), Nat.add_sub_cancel]
          refine Ok_nm.mpr (back m.length N ns ls st (Nat.le_refl _) (by omega) ?_)
          rw [List.drop_length]; exact hk
        · have ne : (u.length + (s.length + 1 + j)) % (rg f).length ≠ u.length := by
            by_cases w : u.length + (s.length + 1 + j) < (rg f).length
            · rw [Nat.mod_eq_of_lt w]; omega
            · rw [Nat.mod_eq_sub_mod (by omega), Nat.mod_eq_of_lt (by omega)]; omega
          rw [if_neg (fun q => ne ((nI_eq (by omega) (by omega)).mp q))]
          have ml2 := Nat.mod_lt (u.length + (s.length + 1 + j + 1)) (by omega : 0 < (rg f).length)
          refine Ok_chk.mpr ⟨nz1, Ok_nm.mpr (Ok_chk.mpr ⟨inb_nI (by omega) (by decide), ?_⟩)⟩
          rw [nI_clamp (n := (u.length + (s.length + 1 + j + 1)) % (rg f).length) (by omega), po _ ml2]
          have ex : (rg f).getD ((u.length + (s.length + 1 + j + 1)) % (rg f).length) 0 = (b :: (t ++ [a])).getD (j + 1) 0 := by
            by_cases w : s.length + 1 + j + 1 < (rg f).length
            · rw [cyc _ w]
              show ((a :: s) ++ b :: t).getD _ 0 = _
              rw [gD_r (by rw [List.length_cons]; omega), List.length_cons, show s.length + 1 + j + 1 - (s.length + 1) = j + 1 by omega, List.getD_cons_succ, List.getD_cons_succ, gD_l (by omega)]
            · rw [show u.length + (s.length + 1 + j + 1) = u.length + (rg f).length by omega, Nat.add_mod_right, Nat.mod_eq_of_lt (by omega), cy0, List.getD_cons_succ, gD_r (by omega), show j - t.length = 0 by omega]
              rfl
          rw [ex]
          have x9 : (b :: (t ++ [a])).getD (j + 1) 0 < 9 := by rw [← ex]; exact cf.2.2 _ (gD_mem ml2)
          refine Ok_bd1.mpr (Ok_mono (X8_addN N hf (by omega) hg hk (by simp only [List.length_cons, List.length_append, List.length_nil]; omega) (by simp only [List.length_take, List.length_cons, List.length_append, List.length_nil]; omega) x9) (fun r hr => ?_))
          rw [← tk_succ (by simp; omega)] at hr
          exact ih (j + 1) r.1 r.2.1 r.2.2 (by omega) (by omega) hr
    -- the first arc
    have arc1 : ∀ (n i : Nat) (ns ls st : Nat → Int32), i ≤ s.length + 1 → s.length + 1 - i < n → KI ns ls st f nr rg ((a :: (s ++ b :: t)).take (i + 1)) [] → Ok (f_X8_splits_b88 N path (nI (m.length + 2)) n (nI f) (nI (rg f).length) (nI u.length) (nI ((u.length + i) % (rg f).length)) ns ls st (nI nr) old') (fun r => r.2.2.2.1 = nI (nr + 1) ∧ ∀ k, k < nr + 1 → RR 10 r.1 r.2.1 r.2.2.1 k (rgN nr rg f a b s t m k)) := by
      intro n
      induction n with
      | zero => intro i _ _ _ _ q; omega
      | succ n ih =>
        intro i ns ls st hi hn hk
        simp only [f_X8_splits_b88, f_X8_splits_b132]
        have ml := Nat.mod_lt (u.length + i) (by omega : 0 < (rg f).length)
        rw [nxt, nI_clamp (n := (u.length + i) % (rg f).length) (by omega), po _ ml, cyc i (by omega), nI_sub1 (by omega), show m.length + 2 - 1 = m.length + 1 by omega, nI_clamp (n := m.length + 1) (by omega), hp (m.length + 1) (by simp), List.getD_cons_succ, gD_r (Nat.le_refl _), Nat.sub_self, List.getD_cons_zero]
        refine Ok_chk.mpr ⟨inb_nI (by omega) (by decide), Ok_chk.mpr ⟨inb_nI (by omega) (by decide), ?_⟩⟩
        by_cases c : i = s.length + 1
        · have ex : (a :: (s ++ b :: t)).getD i 0 = b := by
            show ((a :: s) ++ b :: t).getD i 0 = b
            rw [gD_r (by rw [List.length_cons]; omega), List.length_cons, c, Nat.sub_self]; rfl
          rw [ex, if_pos rfl]
          have tk : (a :: (s ++ b :: t)).take (i + 1) = a :: (s ++ [b]) := by
            rw [tk_succ (by simp; omega), ex]
            show ((a :: s) ++ b :: t).take i ++ [b] = (a :: s) ++ [b]
            rw [show i = (a :: s).length by rw [List.length_cons]; exact c, List.take_left]
          rw [tk] at hk
          refine Ok_chk.mpr ⟨inb_nI (by omega) (by decide), Ok_bd1.mpr (Ok_mono (X8_addN N hf (by omega) hg hk (by simp only [List.length_cons, List.length_append, List.length_nil]; omega) (by decide) b9) (fun r hr => ?_))⟩
          have := arc2 N 0 r.1 r.2.1 r.2.2 (by omega) (by omega) hr
          rw [Nat.add_zero, ← c] at this
          exact this
        · have ml2 := Nat.mod_lt (u.length + (i + 1)) (by omega : 0 < (rg f).length)
          have nd : (a :: (s ++ b :: t)).getD i 0 ≠ b := fun q => nb (by
            have e : (a :: (s ++ b :: t)).getD i 0 = (a :: s).getD i 0 := gD_l (a := a :: s) (b := b :: t) (by rw [List.length_cons]; omega)
            rw [e] at q
            rw [← q]; exact gD_mem (by rw [List.length_cons]; omega))
          rw [if_neg (fun q => nd ((nI_eq (by have := Q9 i (by omega); omega) (by omega)).mp q))]
          refine Ok_chk.mpr ⟨nz1, Ok_nm.mpr (Ok_chk.mpr ⟨inb_nI (by omega) (by decide), ?_⟩)⟩
          rw [nI_clamp (n := (u.length + (i + 1)) % (rg f).length) (by omega), po _ ml2, cyc (i + 1) (by omega)]
          refine Ok_bd1.mpr (Ok_mono (X8_addF N hf (by omega) hg hk (by simp only [List.length_take, List.length_cons, List.length_append]; omega) (by decide) (Q9 (i + 1) (by omega))) (fun r hr => ?_))
          rw [← tk_succ (by simp; omega)] at hr
          exact ih (i + 1) r.1 r.2.1 r.2.2 (by omega) (by omega) hr
    unfold f_X8_splits_b37
    -- the place of a
    have find : ∀ (n i : Nat), i ≤ u.length → u.length - i < n → Ok (f_X8_splits_b39 N path (nI (m.length + 2)) n (nI f) (nI (rg f).length) (nI i) ns ls st (nI nr) old') (fun r => r.2.2.2.1 = nI (nr + 1) ∧ ∀ k, k < nr + 1 → RR 10 r.1 r.2.1 r.2.2.1 k (rgN nr rg f a b s t m k)) := by
      intro n
      induction n with
      | zero => intro i _ q; omega
      | succ n ih =>
        intro i hi hn
        simp only [f_X8_splits_b39, f_X8_splits_b60]
        rw [nI_clamp (n := i) (by omega), po i (by omega), show (0 : Int32).toNatClampNeg = 0 from rfl, hp 0 (by simp), List.getD_cons_zero, nI_1]
        refine Ok_chk.mpr ⟨inb_nI (by omega) (by decide), Ok_chk.mpr ⟨by decide, ?_⟩⟩
        have r9 := cf.2.2 _ (gD_mem (l := rg f) (j := i) (by omega))
        refine Ok_ife (nI_eq (by omega) (by omega)) (fun c => ?_) (fun c => ?_)
        · have ei : i = u.length := (List.getD_inj (by omega) (by omega) cf.1).mp (c.trans cy0.symm)
          rw [c, ei]
          refine Ok_bd1.mpr (Ok_mono (X8_begins N ns ls st (k := f) (by omega)) (fun r1 h1 => Ok_bd1.mpr (Ok_mono (X8_begins N ns r1.1 r1.2 (k := nr) (by omega)) (fun r2 h2 => ?_))))
          have k0 : KI ns r2.1 r2.2 f nr rg [] [] := ⟨h2.2 f [] (by omega) (by decide) h1.1, h2.1, fun k k1 k2 => h2.2 k _ (by omega) (hg k k1) (h1.2 k _ k2 (hg k k1) (hR k k1))⟩
          refine Ok_chk.mpr ⟨inb_nI (by omega) (by decide), Ok_bd1.mpr (Ok_mono (X8_addF N hf (by omega) hg k0 (by decide) (by decide) a9) (fun r3 h3 => ?_))⟩
          have := arc1 N 0 r3.1 r3.2.1 r3.2.2 (by omega) (by omega) h3
          rw [Nat.add_zero, Nat.mod_eq_of_lt (by omega)] at this
          exact this
        · refine ih (i + 1) ?_ (by
            have : i ≠ u.length := fun q => c (by rw [q]; exact cy0)
            omega)
          have : i ≠ u.length := fun q => c (by rw [q]; exact cy0)
          omega
    exact find N 0 (Nat.zero_le _) (by omega)
  refine lpU (fun n i o => f_X8_splits_b9 N path (nI (m.length + 2)) n (nI f) (nI (rg f).length) (nI i) ns ls st (nI nr) o) (fun i o => ∀ j, j < i → o j = nI ((rg f).getD j 0)) (rg f).length ?_ ?_ N 0 _ (Nat.zero_le _) (by omega) (fun j q => by omega)
  · intro n o ho
    simp only [f_X8_splits_b9]
    exact Ok_ife (nI_leI (by omega) (by omega)) (fun _ => rest o ho) (fun c => absurd (Nat.le_refl _) c)
  · intro n i o hi ho ih
    simp only [f_X8_splits_b9]
    refine Ok_ife (nI_leI (by omega) (by omega)) (fun c => absurd c (by omega)) (fun _ => ?_)
    rw [show 10 * nI f + nI i = nI (10 * f + i) by rw [show (10 : Int32) = nI 10 from rfl, pk_mul, nI_add], nI_1, nI_clamp (n := i) (by omega), nI_clamp (n := 10 * f + i) (by omega)]
    refine Ok_chk.mpr ⟨inb_nI (by omega) (by decide), Ok_chk.mpr ⟨inb_nI (by omega) (by decide), ih _ (fun j hj => ?_)⟩⟩
    rw [upd_at]
    by_cases c : j = i
    · rw [if_pos c, c]; exact rf.2.1 i hi
    · rw [if_neg c]; exact ho j (by omega)
end SPR
