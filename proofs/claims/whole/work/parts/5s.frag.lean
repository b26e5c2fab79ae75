/-! ===== fragments: the ends, and their colour ===== -/
def GW (G : Nat → Bool) : Prop := ∀ e, G e = true → e < 81 ∧ e / 9 < e % 9
def rc (G H : Nat → Bool) (x y : Nat) : Prop := ∀ T : Nat → Prop, T x → (∀ u w, T u → w < 9 → u ≠ w → G (cd u w) = true → ¬ VH H w → T w) → T y
def En (G H : Nat → Bool) (e a : Nat) : Prop := VH H a ∧ (inc a e = true ∨ ∃ x y, inc x e = true ∧ ¬ VH H x ∧ rc G H x y ∧ G (cd y a) = true)
theorem GW_cd {G : Nat → Bool} (hG : GW G) {u v : Nat} (hu : u < 9) (hv : v < 9) (h : G (cd u v) = true) : u ≠ v := by
  intro q
  have := (hG _ h).2
  rw [q] at this
  unfold cd at this
  split at this <;> omega
theorem inc_two {a b e : Nat} (ha : inc a e = true) (hb : inc b e = true) (hab : a ≠ b) (v : Nat) : inc v e = (decide (v = a) ^^ decide (v = b)) := by
  unfold inc
  rcases (inc_t ha).1 with q | q <;> rcases (inc_t hb).1 with r | r
  · omega
  · rw [← q, ← r]
  · rw [← q, ← r, Bool.xor_comm]
  · omega
theorem GW_two {G : Nat → Bool} (hG : GW G) {a b e : Nat} (he : G e = true) (ha : inc a e = true) (hb : inc b e = true) (hab : a ≠ b) : e = cd a b ∧ a < 9 ∧ b < 9 := by
  have w := hG e he
  unfold cd
  rcases (inc_t ha).1 with q | q <;> rcases (inc_t hb).1 with r | r
  · omega
  · rw [if_pos (by omega)]; omega
  · rw [if_neg (by omega)]; omega
  · omega
section FRG
variable {G H : Nat → Bool} {nr : Nat} {rg : Nat → List Nat} {col : Nat → Nat}
theorem Iv_H (hI : Iv H nr rg) {e : Nat} (he : H e = true) : e < 81 ∧ e / 9 ≠ e % 9 := by
  obtain ⟨i, j, hi, _, _, hk⟩ := hI.2.1 e he
  have hcs := hk i hi
  rw [decide_eq_true rfl, Bool.true_or] at hcs
  exact ⟨cs_lt (hI.1 i hi).2.2 hcs, (cs_ne (hI.1 i hi) hcs).1⟩
theorem VH_lt (hI : Iv H nr rg) {x : Nat} (h : VH H x) : x < 9 := by
  obtain ⟨e, h1, h2⟩ := h
  have := (inc_t h2).1
  have := (Iv_H hI h1).1
  omega
theorem VH_rg (hI : Iv H nr rg) {k x : Nat} (hk : k < nr) (h : x ∈ rg k) : VH H x := by
  obtain ⟨e1, _, _, q1, _, q2, _⟩ := cs_two (hI.1 k hk) h
  exact ⟨e1, hI.2.2.1 k hk e1 q1, q2⟩
theorem H_join (hI : Iv H nr rg) {a b : Nat} (ha : VH H a) (hb : VH H b) : ∃ Z, Sb Z H ∧ ∀ v, dg v Z = (decide (v = a) ^^ decide (v = b)) := by
  obtain ⟨z, hz⟩ := hI.2.2.2.2.2.2.1
  obtain ⟨Y, y1, y2⟩ := hz a ha
  obtain ⟨Z, z1, z2⟩ := hz b hb
  refine ⟨xs Y Z, fun e he => ?_, fun v => ?_⟩
  · change (Y e ^^ Z e) = true at he
    cases c : Y e with
    | true => exact y1 e c
    | false => rw [c, Bool.false_xor] at he; exact z1 e he
  · rw [dg_xs, y2, z2]
    cases decide (v = a) <;> cases decide (v = b) <;> cases decide (v = z) <;> rfl
/-- what lies off the drawing between two of its nodes, seen in one colour -/
theorem Q_part (hI : Iv H nr rg) (hHG : Sb H G) (hE : Ex G H nr rg col) {Q : Nat → Bool} {a b : Nat} (ha : VH H a) (hb : VH H b) (hQ : ∀ e, Q e = true → G e = true ∧ H e = false) (hd : ∀ v, dg v Q = (decide (v = a) ^^ decide (v = b))) {k : Nat} (hk : k < nr) :
    ∃ Y, Sb Y (cs (rg k)) ∧ ∀ v, dg v Y = dg v (fun e => Q e && decide (col e = k)) := by
  obtain ⟨ZH, z1, z2⟩ := H_join hI ha hb
  have hX1 : Sb (xs Q ZH) G := by
    intro e he
    change (Q e ^^ ZH e) = true at he
    cases c : Q e with
    | true => exact (hQ e c).1
    | false => rw [c, Bool.false_xor] at he; exact hHG e (z1 e he)
  have hX2 : ev (xs Q ZH) := by
    intro v
    rw [dg_xs, hd, z2, Bool.xor_self]
  obtain ⟨Z, w1, w2, w3⟩ := hE.2.2 _ hX1 hX2 k hk
  refine ⟨fun e => Z e && cs (rg k) e, fun e he => by rw [Bool.and_eq_true] at he; exact he.2, fun v => ?_⟩
  have e1 : Z = xs (fun e => Z e && cs (rg k) e) (fun e => Q e && decide (col e = k)) := by
    funext e
    show Z e = ((Z e && cs (rg k) e) ^^ (Q e && decide (col e = k)))
    cases c : cs (rg k) e with
    | true =>
      have hH := hI.2.2.1 k hk e c
      have : Q e = false := by
        cases q : Q e with
        | false => rfl
        | true => rw [(hQ e q).2] at hH; cases hH
      rw [this]
      cases Z e <;> rfl
    | false =>
      rw [Bool.and_false, Bool.false_xor]
      cases q : SF G H col k e with
      | true =>
        have r := SF_t.mp q
        rw [w3 e q, decide_eq_true r.2.2, Bool.and_true]
        show (Q e ^^ ZH e) = Q e
        cases g : ZH e with
        | false => rw [Bool.xor_false]
        | true => have := z1 e g; rw [r.2.1] at this; cases this
      | false =>
        have hz : Z e = false := by
          cases g : Z e with
          | false => rfl
          | true =>
            rcases w2 e g with g2 | g2
            · rw [c] at g2; cases g2
            · rw [q] at g2; cases g2
        rw [hz]
        symm
        cases g : (Q e && decide (col e = k)) with
        | false => rfl
        | true =>
          rw [Bool.and_eq_true, decide_eq_true_eq] at g
          rw [SF_t.mpr ⟨(hQ e g.1).1, (hQ e g.1).2, g.2⟩] at q
          cases q
  have d := w1 v
  rw [e1, dg_xs] at d
  cases g1 : dg v (fun e => Z e && cs (rg k) e) <;> cases g2 : dg v (fun e => Q e && decide (col e = k)) <;> rw [g1, g2] at d <;> first | rfl | cases d
theorem Q_col (hI : Iv H nr rg) (hHG : Sb H G) (hE : Ex G H nr rg col) {Q : Nat → Bool} {a b e0 : Nat} (hab : a ≠ b) (ha : VH H a) (hb : VH H b) (hQ : ∀ e, Q e = true → G e = true ∧ H e = false) (hd : ∀ v, dg v Q = (decide (v = a) ^^ decide (v = b))) (ho : ∀ e x, Q e = true → inc x e = true → VH H x → x = a ∨ x = b) (h0 : ∀ e, Q e = true → inc a e = true → e = e0) :
    a ∈ rg (col e0) ∧ b ∈ rg (col e0) ∧ Q e0 = true := by
  have da : dg a Q = true := by rw [hd, decide_eq_true rfl, decide_eq_false hab]; rfl
  obtain ⟨e, _, q1, q2⟩ := dg_ex da
  have ee := h0 e q1 q2
  subst ee
  have hk : col e < nr := hE.1 e (hQ e q1).1 (hQ e q1).2
  obtain ⟨Y, y1, y2⟩ := Q_part hI hHG hE ha hb hQ hd hk
  have d0 : dg a (fun g => Q g && decide (col g = col e)) = true := by
    rw [← da]
    refine dg_cong (fun g _ hi => ?_)
    cases c : Q g with
    | false => rfl
    | true => rw [h0 g c hi, decide_eq_true rfl]; rfl
  have dx : ∀ x, x ≠ a → x ≠ b → dg x (fun g => Q g && decide (col g = col e)) = false := by
    intro x hxa hxb
    by_cases c : VH H x
    · refine dg_no (fun g _ hi => ?_)
      cases q : Q g with
      | false => rfl
      | true =>
        rcases ho g x q hi c with r | r
        · exact absurd r hxa
        · exact absurd r hxb
    · rw [← y2 x]
      refine dg_no (fun g _ hi => ?_)
      cases q : Y g with
      | false => rfl
      | true => exact absurd ⟨g, hI.2.2.1 _ hk g (y1 g q), hi⟩ c
  have db : dg b (fun g => Q g && decide (col g = col e)) = true := by rw [← odd_pair hab dx, d0]
  have on : ∀ v, dg v (fun g => Q g && decide (col g = col e)) = true → v ∈ rg (col e) := by
    intro v hv
    rw [← y2] at hv
    obtain ⟨g, _, r1, r2⟩ := dg_ex hv
    exact cs_on (hI.1 _ hk).2.2 (y1 g r1) r2
  exact ⟨on a d0, on b db, q1⟩
theorem rc_J (hG : GW G) {x y : Nat} (hx : x < 9) (hv : ¬ VH H x) (h : rc G H x y) : y < 9 ∧ ¬ VH H y ∧ ∃ J : Nat → Bool, (∀ e, J e = true → G e = true ∧ ∀ z, inc z e = true → ¬ VH H z) ∧ ∀ v, dg v J = (decide (v = x) ^^ decide (v = y)) := by
  refine h (fun y => y < 9 ∧ ¬ VH H y ∧ ∃ J : Nat → Bool, (∀ e, J e = true → G e = true ∧ ∀ z, inc z e = true → ¬ VH H z) ∧ ∀ v, dg v J = (decide (v = x) ^^ decide (v = y))) ⟨hx, hv, fun _ => false, fun _ q => absurd q Bool.false_ne_true, fun v => ?_⟩ ?_
  · rw [dg_no (fun _ _ _ => rfl), Bool.xor_self]
  · rintro u w ⟨h1, h2, J, h3, h4⟩ hw huw hg hvw
    refine ⟨hw, hvw, xs J (sg (cd u w)), fun e he => ?_, fun v => ?_⟩
    · change (J e ^^ decide (e = cd u w)) = true at he
      by_cases c : e = cd u w
      · rw [c]
        refine ⟨hg, fun z hz => ?_⟩
        rw [inc_cd h1 hw] at hz
        by_cases c1 : z = u
        · rw [c1]; exact h2
        · by_cases c2 : z = w
          · rw [c2]; exact hvw
          · rw [decide_eq_false c1, decide_eq_false c2] at hz; cases hz
      · rw [decide_eq_false c, Bool.xor_false] at he
        exact h3 e he
    · rw [dg_xs, h4, dg_sg v (cd_lt h1 hw), inc_cd h1 hw]
      cases decide (v = x) <;> cases decide (v = u) <;> cases decide (v = w) <;> rfl
/-- an edge of a fragment at the drawing: its colour's ring has the ends -/
theorem col_frag (hG : GW G) (hI : Iv H nr rg) (hHG : Sb H G) (hE : Ex G H nr rg col) {e a b : Nat} (he : G e = true) (heH : H e = false) (ha : VH H a) (hi : inc a e = true) (hb : En G H e b) (hab : a ≠ b) : a ∈ rg (col e) ∧ b ∈ rg (col e) := by
  have e81 := (hG e he).1
  obtain ⟨hb1, hb2⟩ := hb
  rcases hb2 with hb2 | ⟨x, y, x1, x2, x3, x4⟩
  · have k := Q_col hI hHG hE (Q := sg e) (e0 := e) hab ha hb1 (fun g hg => by
      have : g = e := of_decide_eq_true hg
      rw [this]; exact ⟨he, heH⟩) (fun v => by rw [dg_sg v e81, inc_two hi hb2 hab]) (fun g z hg hz _ => by
      have : g = e := of_decide_eq_true hg
      rw [this, inc_two hi hb2 hab] at hz
      by_cases c : z = a
      · exact Or.inl c
      · by_cases c2 : z = b
        · exact Or.inr c2
        · rw [decide_eq_false c, decide_eq_false c2] at hz; cases hz) (fun g hg _ => of_decide_eq_true hg)
    exact ⟨k.1, k.2.1⟩
  · have hxa : x ≠ a := fun q => x2 (by rw [q]; exact ha)
    have g2 := GW_two hG he hi x1 (fun q => hxa q.symm)
    obtain ⟨y1, y2, J, j1, j2⟩ := rc_J hG g2.2.2 x2 x3
    have b9 := VH_lt hI hb1
    have hyb : y ≠ b := fun q => y2 (by rw [q]; exact hb1)
    have hya : y ≠ a := fun q => y2 (by rw [q]; exact ha)
    have gH : H (cd y b) = false := by
      cases c : H (cd y b) with
      | false => rfl
      | true => exact absurd ⟨_, c, by rw [inc_cd y1 b9, decide_eq_true rfl, decide_eq_false hyb]; rfl⟩ y2
    -- where an edge of the way can lie
    have mem : ∀ g, xs (sg e) (xs J (sg (cd y b))) g = true → g = e ∨ J g = true ∨ g = cd y b := by
      intro g hg
      change (decide (g = e) ^^ (J g ^^ decide (g = cd y b))) = true at hg
      by_cases c1 : g = e
      · exact Or.inl c1
      · by_cases c2 : g = cd y b
        · exact Or.inr (Or.inr c2)
        · rw [decide_eq_false c1, decide_eq_false c2, Bool.xor_false, Bool.false_xor] at hg
          exact Or.inr (Or.inl hg)
    have k := Q_col hI hHG hE (Q := xs (sg e) (xs J (sg (cd y b)))) (e0 := e) hab ha hb1 (fun g hg => by
      rcases mem g hg with c | c | c
      · rw [c]; exact ⟨he, heH⟩
      · refine ⟨(j1 g c).1, ?_⟩
        cases q : H g with
        | false => rfl
        | true =>
          have w := Iv_H hI q
          exact absurd ⟨g, q, inc_l w.2⟩ ((j1 g c).2 _ (inc_l w.2))
      · rw [c]; exact ⟨x4, gH⟩) (fun v => by
      rw [dg_xs, dg_xs, dg_sg v e81, dg_sg v (cd_lt y1 b9), j2, inc_cd y1 b9, inc_two hi x1 (fun q => hxa q.symm)]
      cases decide (v = a) <;> cases decide (v = x) <;> cases decide (v = y) <;> cases decide (v = b) <;> rfl) (fun g z hg hz hvz => by
      rcases mem g hg with c | c | c
      · rw [c, inc_two hi x1 (fun q => hxa q.symm)] at hz
        by_cases c1 : z = a
        · exact Or.inl c1
        · by_cases c2 : z = x
          · exact absurd (by rw [← c2]; exact hvz) x2
          · rw [decide_eq_false c1, decide_eq_false c2] at hz; cases hz
      · exact absurd hvz ((j1 g c).2 z hz)
      · rw [c, inc_cd y1 b9] at hz
        by_cases c1 : z = y
        · exact absurd (by rw [← c1]; exact hvz) y2
        · by_cases c2 : z = b
          · exact Or.inr c2
          · rw [decide_eq_false c1, decide_eq_false c2] at hz; cases hz) (fun g hg hz => by
      rcases mem g hg with c | c | c
      · exact c
      · exact absurd ha ((j1 g c).2 a hz)
      · rw [c, inc_cd y1 b9, decide_eq_false (fun q => hya q.symm), decide_eq_false hab] at hz
        cases hz)
    exact ⟨k.1, k.2.1⟩
/-- two edges that share a node off the drawing have the same ends -/
theorem En_share (hG : GW G) {e g z : Nat} (he : G e = true) (hg : G g = true) (h1 : inc z e = true) (h2 : inc z g = true) (hz : ¬ VH H z) {a : Nat} (h : En G H e a) : En G H g a := by
  refine ⟨h.1, Or.inr ?_⟩
  rcases h.2 with q | ⟨x, y, x1, x2, x3, x4⟩
  · have hza : z ≠ a := fun r => hz (by rw [r]; exact h.1)
    have w := GW_two hG he h1 q hza
    exact ⟨z, z, h2, hz, fun T t1 _ => t1, by rw [← w.1]; exact he⟩
  · refine ⟨z, y, h2, hz, ?_, x4⟩
    by_cases c : z = x
    · rw [c]; exact x3
    · have w := GW_two hG he h1 x1 c
      intro T t1 t2
      exact x3 T (t2 z x t1 w.2.2 c (by rw [← w.1]; exact he) x2) t2
/-- a path off the drawing has one colour -/
theorem path_col (hI : Iv H nr rg) (hHG : Sb H G) (hE : Ex G H nr rg col) {a b : Nat} {m : List Nat} (hn : (a :: (m ++ [b])).Nodup) (h9 : ∀ y, y ∈ a :: (m ++ [b]) → y < 9) (ha : VH H a) (hb : VH H b) (hm : ∀ x, x ∈ m → ¬ VH H x) (hP : ∀ e, wk a (m ++ [b]) e = true → G e = true ∧ H e = false) {e0 : Nat} (h0 : wk a (m ++ [b]) e0 = true) : ∀ e, wk a (m ++ [b]) e = true → col e = col e0 := by
  have hk : col e0 < nr := hE.1 e0 (hP e0 h0).1 (hP e0 h0).2
  obtain ⟨Y, y1, y2⟩ := Q_part hI hHG hE ha hb hP (fun v => by rw [dg_wk v (m ++ [b]) a h9, lst_snoc]) hk
  rcases wk_even (m ++ [b]) a hn h9 (fun e => wk a (m ++ [b]) e && decide (col e = col e0)) (fun e q => by rw [Bool.and_eq_true] at q; exact q.1) (fun x hx hxa hxl => by
    rw [lst_snoc] at hxl
    have hxm : x ∈ m := by
      simp at hx
      rcases hx with q | q | q
      · exact absurd q hxa
      · exact q
      · exact absurd q hxl
    rw [← y2 x]
    refine dg_no (fun g _ hi => ?_)
    cases q : Y g with
    | false => rfl
    | true => exact absurd ⟨g, hI.2.2.1 _ hk g (y1 g q), hi⟩ (hm x hxm)) with q | q
  · have := q e0
    rw [h0, decide_eq_true rfl] at this
    cases this
  · intro e he
    have := q e
    rw [he, Bool.true_and, decide_eq_true_eq] at this
    exact this
end FRG
