/-! ===== the walk around faces, abstractly (the rows fb_* begin with the kit's texts to paste) ===== -/
theorem fb_holes : ∀ (m n : Nat) (f : Nat → Nat), (∀ i, i < n → f i < m) → (∀ i j, i < j → j < n → f i ≠ f j) → n ≤ m := by
  intro m
  induction m with
  | zero =>
    intro n f h1 _
    rcases Nat.eq_zero_or_pos n with h | h
    · omega
    · exact absurd (h1 0 h) (Nat.not_lt_zero _)
  | succ m ih =>
    intro n f h1 h2
    by_cases hx : ∃ i, i < n ∧ f i = m
    · obtain ⟨a, ha, hfa⟩ := hx
      have hg := ih (n - 1) (fun i => if i < a then f i else f (i + 1)) (by
        intro i hi
        by_cases q : i < a
        · simp only [if_pos q]
          have b1 := h1 i (by omega)
          have b2 := h2 i a q ha
          omega
        · simp only [if_neg q]
          have b1 := h1 (i + 1) (by omega)
          have b2 := h2 a (i + 1) (by omega) (by omega)
          omega) (by
        intro i j hij hj
        by_cases q : i < a
        · by_cases r : j < a
          · simp only [if_pos q, if_pos r]
            exact h2 i j hij (by omega)
          · simp only [if_pos q, if_neg r]
            exact h2 i (j + 1) (by omega) (by omega)
        · have r : ¬ j < a := by omega
          simp only [if_neg q, if_neg r]
          exact h2 (i + 1) (j + 1) (by omega) (by omega))
      omega
    · have hg := ih n f (fun i hi => by
        have b1 := h1 i hi
        have b2 : f i ≠ m := fun e => hx ⟨i, hi, e⟩
        omega) h2
      omega
theorem fb_twice {m n : Nat} {f : Nat → Nat} (h : ∀ i, i < n → f i < m) (hm : m < n) : ∃ i j, i < j ∧ j < n ∧ f i = f j := by
  refine Classical.byContradiction fun hx => ?_
  have := fb_holes m n f h (fun i j hij hj e => hx ⟨i, j, hij, hj, e⟩)
  omega
theorem fb_ct_kth {p : Nat → Bool} {k : Nat} : ∀ {n : Nat}, k < fb_ct p n → ∃ i, i < n ∧ p i = true ∧ fb_ct p i = k
  | 0, h => absurd h (Nat.not_lt_zero k)
  | n + 1, h => by
    rcases Nat.lt_or_ge k (fb_ct p n) with q | q
    · obtain ⟨i, h1, h2⟩ := fb_ct_kth q
      exact ⟨i, by omega, h2⟩
    · rw [fb_ct_succ] at h
      cases hp : p n
      · simp [hp] at h; omega
      · simp [hp] at h
        exact ⟨n, by omega, hp, by omega⟩
theorem fb_ct_kth_one {p : Nat → Bool} {i j : Nat} (hi : p i = true) (hj : p j = true) (e : fb_ct p i = fb_ct p j) : i = j := by
  have key : ∀ a b : Nat, a < b → p a = true → fb_ct p a < fb_ct p b := by
    intro a b hab ha
    have h := fb_ct_mono p (show a + 1 ≤ b from hab)
    rw [fb_ct_succ, ha] at h
    simp at h
    omega
  rcases Nat.lt_trichotomy i j with q | q | q
  · have := key i j q hi; omega
  · exact q
  · have := key j i q hj; omega
/-- the node that a directed edge leaves; the other direction; the directed edge behind one -/
def tl (G : Gr) (d : Nat) : Nat := if d % 2 = 0 then (gEnd G (d / 2)).1 else (gEnd G (d / 2)).2
def op (d : Nat) : Nat := if d % 2 = 0 then d + 1 else d - 1
def nx (G : Gr) (d : Nat) : Nat :=
  2 * (gR G (tl G (op d))).getD ((plc (gR G (tl G (op d))) (d / 2) + 1) % (gR G (tl G (op d))).length) 0 + (if (gEnd G ((gR G (tl G (op d))).getD ((plc (gR G (tl G (op d))) (d / 2) + 1) % (gR G (tl G (op d))).length) 0)).1 = tl G (op d) then 0 else 1)
theorem op_op (d : Nat) : op (op d) = d := by
  unfold op
  split <;> split <;> omega
theorem op_half (d : Nat) : op d / 2 = d / 2 := by
  unfold op
  split <;> omega
theorem op_lt {d m : Nat} (h : d < 2 * m) : op d < 2 * m := by
  unfold op
  split <;> omega
theorem op_ne (d : Nat) : op d ≠ d := by
  unfold op
  split <;> omega
theorem op_par (d : Nat) : op d % 2 = 0 ↔ ¬ d % 2 = 0 := by
  unfold op
  split <;> omega
section WALK
variable {G : Gr} (hW : WF G)
theorem tl_lt (hW : WF G) {d : Nat} (h : d < 2 * (gE G).length) : tl G d < gN G := by
  have := WF_end hW (e := d / 2) (by omega)
  unfold tl
  split <;> omega
theorem tl_op (hW : WF G) {d : Nat} (h : d < 2 * (gE G).length) : tl G (op d) ≠ tl G d := by
  have := WF_end hW (e := d / 2) (by omega)
  unfold tl
  rw [op_half]
  by_cases c : d % 2 = 0
  · rw [if_pos c, if_neg (fun q => (op_par d).mp q c)]; omega
  · rw [if_neg c, if_pos ((op_par d).mpr c)]; omega
theorem tl_at (hW : WF G) {d : Nat} (h : d < 2 * (gE G).length) : d / 2 ∈ gR G (tl G d) := by
  refine (hW.2.2.2.2.2.2.1 _ _).mpr ⟨by omega, ?_⟩
  unfold tl
  split
  · exact Or.inl rfl
  · exact Or.inr rfl
theorem op_at (hW : WF G) {d : Nat} (h : d < 2 * (gE G).length) : d / 2 ∈ gR G (tl G (op d)) := by
  have := tl_at hW (op_lt h)
  rw [op_half] at this
  exact this
/-- the edge behind d/2 in the rotation of the head -/
theorem nx_edge (hW : WF G) {d : Nat} (h : d < 2 * (gE G).length) : (gR G (tl G (op d))).getD ((plc (gR G (tl G (op d))) (d / 2) + 1) % (gR G (tl G (op d))).length) 0 ∈ gR G (tl G (op d)) := by
  have h1 := plc_lt (op_at hW h)
  exact getD_mem (Nat.mod_lt _ (by omega))
theorem nx_half (d : Nat) : nx G d / 2 = (gR G (tl G (op d))).getD ((plc (gR G (tl G (op d))) (d / 2) + 1) % (gR G (tl G (op d))).length) 0 := by
  unfold nx
  split <;> omega
theorem nx_lt (hW : WF G) {d : Nat} (h : d < 2 * (gE G).length) : nx G d < 2 * (gE G).length := by
  have h1 := (rot_lt hW (nx_edge hW h)).1
  have h2 := nx_half (G := G) d
  omega
theorem nx_tl (hW : WF G) {d : Nat} (h : d < 2 * (gE G).length) : tl G (nx G d) = tl G (op d) := by
  have h1 := (hW.2.2.2.2.2.2.1 _ _).mp (nx_edge hW h)
  have h2 := nx_half (G := G) d
  rw [← h2] at h1
  have h3 : nx G d % 2 = 0 ↔ (gEnd G (nx G d / 2)).1 = tl G (op d) := by
    rw [h2]
    unfold nx
    split
    · rename_i c
      exact ⟨fun _ => c, fun _ => by omega⟩
    · rename_i c
      exact ⟨fun q => absurd q (by omega), fun q => absurd q c⟩
  rw [tl]
  split
  · rename_i c
    exact h3.mp c
  · rename_i c
    rcases h1.2 with q | q
    · exact absurd (h3.mpr q) c
    · exact q
theorem nx_inj (hW : WF G) {d e : Nat} (hd : d < 2 * (gE G).length) (he : e < 2 * (gE G).length) (h : nx G d = nx G e) : d = e := by
  have v : tl G (op d) = tl G (op e) := by rw [← nx_tl hW hd, h, nx_tl hW he]
  have h1 := nx_half (G := G) d
  rw [h, nx_half, ← v] at h1
  have p1 := plc_lt (op_at hW hd)
  have p2 := plc_lt (op_at hW he)
  rw [← v] at p2
  have hn := hW.2.2.2.2.2.1 (tl G (op d))
  have h2 := nd_getD hn (Nat.mod_lt _ (by omega)) (Nat.mod_lt _ (by omega)) h1
  have h3 : plc (gR G (tl G (op d))) (e / 2) = plc (gR G (tl G (op d))) (d / 2) := by
    generalize plc (gR G (tl G (op d))) (e / 2) = a at *
    generalize plc (gR G (tl G (op d))) (d / 2) = b at *
    generalize (gR G (tl G (op d))).length = n at *
    rcases Nat.lt_or_ge (a + 1) n with q1 | q1 <;> rcases Nat.lt_or_ge (b + 1) n with q2 | q2
    · rw [Nat.mod_eq_of_lt q1, Nat.mod_eq_of_lt q2] at h2; omega
    · obtain rfl : n = b + 1 := by omega
      rw [Nat.mod_eq_of_lt q1, Nat.mod_self] at h2; omega
    · obtain rfl : n = a + 1 := by omega
      rw [Nat.mod_eq_of_lt q2, Nat.mod_self] at h2; omega
    · omega
  have h4 : e / 2 = d / 2 := by
    have a1 := plc_get (op_at hW hd)
    have a2 : (gR G (tl G (op d))).getD (plc (gR G (tl G (op d))) (e / 2)) 0 = e / 2 := plc_get (by rw [v]; exact op_at hW he)
    rw [h3, a1] at a2
    exact a2.symm
  have h5 : e = d ∨ e = op d := by
    unfold op
    split <;> omega
  rcases h5 with h5 | h5
  · exact h5.symm
  · rw [h5, op_op] at v
    exact absurd v (tl_op hW hd)
def it (G : Gr) : Nat → Nat → Nat
  | 0, d => d
  | k + 1, d => nx G (it G k d)
theorem it_lt (hW : WF G) {d : Nat} (h : d < 2 * (gE G).length) : ∀ k, it G k d < 2 * (gE G).length
  | 0 => h
  | k + 1 => nx_lt hW (it_lt hW h k)
theorem it_add (G : Gr) (d : Nat) (j : Nat) : ∀ k, it G (j + k) d = it G k (it G j d)
  | 0 => rfl
  | k + 1 => by
    show nx G (it G (j + k) d) = nx G (it G k (it G j d))
    rw [it_add G d j k]
theorem it_can (hW : WF G) {d : Nat} (h : d < 2 * (gE G).length) (k : Nat) : ∀ j, it G j d = it G (j + k) d → it G k d = d
  | 0, q => by rw [Nat.zero_add] at q; exact q.symm
  | j + 1, q => it_can hW h k j (by
    rw [show j + 1 + k = (j + k) + 1 from by omega] at q
    exact nx_inj hW (it_lt hW h j) (it_lt hW h (j + k)) q)
theorem it_back (hW : WF G) {d : Nat} (h : d < 2 * (gE G).length) : ∃ p, (0 < p ∧ it G p d = d) ∧ ∀ q, q < p → ¬ (0 < q ∧ it G q d = d) := by
  refine pk_least _ ?_
  obtain ⟨i, j, h1, h2, h3⟩ := fb_twice (m := 2 * (gE G).length) (n := 2 * (gE G).length + 1) (f := fun k => it G k d) (fun k _ => it_lt hW h k) (by omega)
  refine ⟨j - i, by omega, it_can hW h (j - i) i ?_⟩
  rw [show i + (j - i) = j from by omega]
  exact h3
/-- how long the face of d is -/
noncomputable def per (G : Gr) (d : Nat) : Nat := Classical.epsilon (fun p => (0 < p ∧ it G p d = d) ∧ ∀ q, q < p → ¬ (0 < q ∧ it G q d = d))
theorem per_sp (hW : WF G) {d : Nat} (h : d < 2 * (gE G).length) : (0 < per G d ∧ it G (per G d) d = d) ∧ ∀ q, q < per G d → ¬ (0 < q ∧ it G q d = d) := by
  exact Classical.epsilon_spec (it_back hW h)
theorem it_mod (hW : WF G) {d : Nat} (h : d < 2 * (gE G).length) (k : Nat) : ∃ j, j < per G d ∧ it G k d = it G j d := by
  obtain ⟨⟨p0, p1⟩, -⟩ := per_sp hW h
  induction k with
  | zero => exact ⟨0, p0, rfl⟩
  | succ k ih =>
    obtain ⟨j, h1, h2⟩ := ih
    rcases Nat.lt_or_ge (j + 1) (per G d) with q | q
    · exact ⟨j + 1, q, by show nx G (it G k d) = nx G (it G j d); rw [h2]⟩
    · refine ⟨0, p0, ?_⟩
      show nx G (it G k d) = d
      rw [h2]
      have : per G d = j + 1 := by omega
      rw [this] at p1
      exact p1
theorem it_dis (hW : WF G) {d : Nat} (h : d < 2 * (gE G).length) {i j : Nat} (hi : i < j) (hj : j < per G d) : it G i d ≠ it G j d := by
  intro q
  have := (per_sp hW h).2 (j - i) (by omega)
  exact this ⟨by omega, it_can hW h (j - i) i (by rw [show i + (j - i) = j from by omega]; exact q)⟩
theorem it_rev (hW : WF G) {d : Nat} (h : d < 2 * (gE G).length) (k : Nat) : ∃ j, it G j (it G k d) = d := by
  obtain ⟨j, h1, h2⟩ := it_mod hW h k
  refine ⟨per G d - j, ?_⟩
  rw [h2, ← it_add, show j + (per G d - j) = per G d from by omega]
  exact (per_sp hW h).1.2
/-- the smallest directed edge of the face of d -/
noncomputable def mn (G : Gr) (d : Nat) : Nat := Classical.choose (pk_least (fun x => ∃ k, it G k d = x) ⟨d, 0, rfl⟩)
theorem mn_sp (G : Gr) (d : Nat) : (∃ k, it G k d = mn G d) ∧ ∀ k, mn G d ≤ it G k d := by
  obtain ⟨h1, h2⟩ := Classical.choose_spec (pk_least (fun x => ∃ k, it G k d = x) ⟨d, 0, rfl⟩)
  refine ⟨h1, fun k => ?_⟩
  rcases Nat.lt_or_ge (it G k d) (mn G d) with q | q
  · exact absurd ⟨k, rfl⟩ (h2 _ q)
  · exact q
theorem mn_le (G : Gr) (d : Nat) : mn G d ≤ d := (mn_sp G d).2 0
theorem mn_it (hW : WF G) {d : Nat} (h : d < 2 * (gE G).length) (k : Nat) : mn G (it G k d) = mn G d := by
  refine Nat.le_antisymm ?_ ?_
  · obtain ⟨j, hj⟩ := (mn_sp G d).1
    obtain ⟨i, hi⟩ := it_rev hW h k
    have := (mn_sp G (it G k d)).2 (i + j)
    rw [it_add, hi, hj] at this
    exact this
  · obtain ⟨j, hj⟩ := (mn_sp G (it G k d)).1
    have := (mn_sp G d).2 (k + j)
    rw [it_add, hj] at this
    exact this
theorem mn_orb (hW : WF G) {d x : Nat} (hd : d < 2 * (gE G).length) (hx : x < 2 * (gE G).length) (h : mn G x = mn G d) : ∃ j, j < per G d ∧ it G j d = x := by
  obtain ⟨i, hi⟩ := (mn_sp G d).1
  obtain ⟨j, hj⟩ := (mn_sp G x).1
  obtain ⟨b, hb⟩ := it_rev hW hx j
  rw [hj, h, ← hi, ← it_add] at hb
  obtain ⟨k, k1, k2⟩ := it_mod hW hd (i + b)
  exact ⟨k, k1, by rw [← k2, hb]⟩
theorem mn_lt (hW : WF G) {d : Nat} (h : d < 2 * (gE G).length) : mn G d < 2 * (gE G).length := Nat.lt_of_le_of_lt (mn_le G d) h
theorem mn_mn (hW : WF G) {d : Nat} (h : d < 2 * (gE G).length) : mn G (mn G d) = mn G d := by
  obtain ⟨k, hk⟩ := (mn_sp G d).1
  rw [← hk, mn_it hW h]
  exact hk.symm
/-- faces: how many, of which one a directed edge is, the first directed edge of one -/
noncomputable def isMn (G : Gr) (c : Nat) : Bool := decide (mn G c = c)
noncomputable def nF (G : Gr) : Nat := fb_ct (isMn G) (2 * (gE G).length)
noncomputable def lab (G : Gr) (d : Nat) : Nat := fb_ct (isMn G) (mn G d)
noncomputable def fst0 (G : Gr) (f : Nat) : Nat := Classical.epsilon (fun i => i < 2 * (gE G).length ∧ isMn G i = true ∧ fb_ct (isMn G) i = f)
theorem fst_sp {f : Nat} (h : f < nF G) : fst0 G f < 2 * (gE G).length ∧ isMn G (fst0 G f) = true ∧ fb_ct (isMn G) (fst0 G f) = f := by
  exact Classical.epsilon_spec (fb_ct_kth h)
theorem mn_is (hW : WF G) {d : Nat} (h : d < 2 * (gE G).length) : isMn G (mn G d) = true := decide_eq_true (mn_mn hW h)
theorem lab_lt (hW : WF G) {d : Nat} (h : d < 2 * (gE G).length) : lab G d < nF G := by
  have h1 := fb_ct_step (isMn G) (mn G d + 1) (2 * (gE G).length - (mn G d + 1))
  have := mn_lt hW h
  rw [show mn G d + 1 + (2 * (gE G).length - (mn G d + 1)) = 2 * (gE G).length from by omega, fb_ct_succ, if_pos (mn_is hW h)] at h1
  unfold lab nF
  omega
theorem lab_eq (hW : WF G) {d e : Nat} (hd : d < 2 * (gE G).length) (he : e < 2 * (gE G).length) : lab G d = lab G e ↔ mn G d = mn G e := by
  constructor
  · intro h
    exact fb_ct_kth_one (mn_is hW hd) (mn_is hW he) h
  · intro h
    unfold lab
    rw [h]
theorem lab_fst (hW : WF G) {f d : Nat} (hf : f < nF G) (hd : d < 2 * (gE G).length) : lab G d = f ↔ mn G d = fst0 G f := by
  obtain ⟨h1, h2, h3⟩ := fst_sp hf
  constructor
  · intro h
    exact fb_ct_kth_one (mn_is hW hd) h2 (by rw [h3]; exact h)
  · intro h
    unfold lab
    rw [h, h3]
theorem fst_mn {f : Nat} (hf : f < nF G) : mn G (fst0 G f) = fst0 G f := of_decide_eq_true (fst_sp hf).2.1
theorem fst_lab (hW : WF G) {d : Nat} (h : d < 2 * (gE G).length) : fst0 G (lab G d) = mn G d := ((lab_fst hW (lab_lt hW h) h).mp rfl).symm
theorem fst_of (hW : WF G) {c : Nat} (hc : c < 2 * (gE G).length) (h : mn G c = c) : fst0 G (fb_ct (isMn G) c) = c := by
  have := fst_lab hW hc
  unfold lab at this
  rw [h] at this
  exact this
/-- the directed edges of a face, counted -/
theorem per_ct (hW : WF G) {s : Nat} (h : s < 2 * (gE G).length) : ∀ k, k ≤ per G s → fb_ct (fun d => decide (∃ j, j < k ∧ it G j s = d)) (2 * (gE G).length) = k
  | 0, _ => fb_ct_zero.mpr (fun d _ => decide_eq_false (fun ⟨j, q, _⟩ => Nat.not_lt_zero j q))
  | k + 1, hk => by
    have ih := per_ct hW h k (by omega)
    have hl := it_lt hW h k
    have h1 := fb_ct_upd (fun d => decide (∃ j, j < k ∧ it G j s = d)) true hl
    have h2 : decide (∃ j, j < k ∧ it G j s = it G k s) = false := decide_eq_false (fun ⟨j, q1, q2⟩ => it_dis hW h q1 (by omega) q2)
    rw [h2, ih] at h1
    simp only [if_true, Bool.false_eq_true, if_false] at h1
    rw [show (fun d => decide (∃ j, j < k + 1 ∧ it G j s = d)) = (fun d => if d = it G k s then true else decide (∃ j, j < k ∧ it G j s = d)) from ?_]
    · omega
    · funext d
      by_cases c : d = it G k s
      · rw [if_pos c]
        exact decide_eq_true ⟨k, by omega, c.symm⟩
      · rw [if_neg c]
        refine decide_eq_decide.mpr ⟨fun ⟨j, q1, q2⟩ => ⟨j, ?_, q2⟩, fun ⟨j, q1, q2⟩ => ⟨j, by omega, q2⟩⟩
        rcases Nat.lt_or_ge j k with q | q
        · exact q
        · obtain rfl : j = k := by omega
          exact absurd q2.symm c
theorem per_le (hW : WF G) {s : Nat} (h : s < 2 * (gE G).length) : per G s ≤ 2 * (gE G).length := by
  rw [← per_ct hW h (per G s) (Nat.le_refl _)]
  exact fb_ct_le _ _
theorem per_lab (hW : WF G) {f : Nat} (hf : f < nF G) : fb_ct (fun d => decide (lab G d = f)) (2 * (gE G).length) = per G (fst0 G f) := by
  have h0 := (fst_sp hf).1
  rw [← per_ct hW h0 (per G (fst0 G f)) (Nat.le_refl _)]
  refine fb_ct_cong (fun d hd => decide_eq_decide.mpr ?_)
  rw [lab_fst hW hf hd]
  constructor
  · intro h
    exact mn_orb hW h0 hd (by rw [h, fst_mn hf])
  · rintro ⟨j, -, rfl⟩
    rw [mn_it hW h0, fst_mn hf]
/-- a face has two directed edges or more, so that there are at most 20 -/
theorem nx_ne (hW : WF G) {d : Nat} (h : d < 2 * (gE G).length) : nx G d ≠ d := by
  intro q
  have h1 := nx_tl hW h
  rw [q] at h1
  exact tl_op hW h h1.symm
end WALK
