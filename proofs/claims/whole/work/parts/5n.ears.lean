/-! ===== what is drawn: rings, and how a path splits one ===== -/
def VH (H : Nat → Bool) (x : Nat) : Prop := ∃ e, H e = true ∧ inc x e = true
def ip (X Y : Nat → Bool) : Bool := py 81 (fun e => X e && Y e)
theorem ip_xr (Y X Z : Nat → Bool) : ip Y (xs X Z) = (ip Y X ^^ ip Y Z) := by
  unfold ip xs
  rw [← py_xor]
  refine py_cong 81 (fun e _ => ?_)
  cases Y e <;> cases X e <;> cases Z e <;> rfl
theorem ip_sg (Y : Nat → Bool) {a : Nat} (ha : a < 81) : ip Y (sg a) = Y a := by
  unfold ip sg
  rw [← py_at Y 81 ha]
  exact py_cong 81 (fun e _ => Bool.and_comm _ _)
theorem ip_no {X Y : Nat → Bool} (h : ∀ e, X e = true → Y e = false) : ip X Y = false := by
  unfold ip
  refine py_false 81 (fun e _ => ?_)
  cases c : X e with
  | false => rfl
  | true => rw [h e c]; rfl
theorem ip_comm (X Y : Nat → Bool) : ip X Y = ip Y X := by
  unfold ip
  exact py_cong 81 (fun e _ => Bool.and_comm _ _)
theorem ip_cong {X Y Z : Nat → Bool} (h : ∀ e, X e = true → Y e = Z e) : ip X Y = ip X Z := by
  unfold ip
  refine py_cong 81 (fun e _ => ?_)
  cases c : X e with
  | false => rfl
  | true => rw [h e c]
theorem ip_two {X Y : Nat → Bool} {i : Nat} (h : ip X Y = false) (hi : i < 81) (h1 : X i = true) (h2 : Y i = true) : ∃ j, j ≠ i ∧ X j = true ∧ Y j = true := by
  obtain ⟨j, _, j2, j3⟩ := py_two (f := fun e => X e && Y e) h hi (by show (X i && Y i) = true; rw [h1, h2]; rfl)
  rw [Bool.and_eq_true] at j3
  exact ⟨j, j2, j3.1, j3.2⟩
theorem ip_dl {X : Nat → Bool} (h : ev X) (A : Nat → Bool) : ip X (dl A) = false := orth_ev h A
/-- the cycle alone: 2-connected -/
theorem cs_star {l : List Nat} (h : Cy l) {A : Nat → Bool} {x : Nat} (hA : ∀ e, cs l e = true → dl A e = true → inc x e = true) (hx : A x = false) : (∀ y, y ∈ l → y ≠ x → A y = false) ∨ (∀ y, y ∈ l → y ≠ x → A y = true) := by
  by_cases c : x ∈ l
  · obtain ⟨e1, e2, n12, q1, q2, i1, i2, q3⟩ := cs_two h c
    have hp := ip_dl (ev_cs h.2.2) A
    have l1 : e1 < 81 := cs_lt h.2.2 q1
    have l2 : e2 < 81 := cs_lt h.2.2 q2
    -- both or none
    have hb : dl A e1 = dl A e2 := by
      cases d1 : dl A e1 with
      | true =>
        obtain ⟨j, j2, j3, j4⟩ := ip_two hp l1 q1 d1
        rcases q3 j j3 (hA j j3 j4) with r | r
        · exact absurd r j2
        · rw [← r, j4]
      | false =>
        cases d2 : dl A e2 with
        | false => rfl
        | true =>
          obtain ⟨j, j2, j3, j4⟩ := ip_two hp l2 q2 d2
          rcases q3 j j3 (hA j j3 j4) with r | r
          · rw [r, d1] at j4; cases j4
          · exact absurd r j2
    cases d : dl A e1 with
    | false =>
      refine Or.inl (fun y hy _ => ?_)
      rw [← hx]
      refine cs_conn h (fun e he => ?_) hy c
      cases g : dl A e with
      | false => rfl
      | true =>
        rcases q3 e he (hA e he g) with r | r
        · rw [r, d] at g; cases g
        · rw [r, ← hb, d] at g; cases g
    | true =>
      refine Or.inr (fun y hy hyx => ?_)
      have k := cs_conn h (A := fun z => A z ^^ decide (z = x)) (fun e he => ?_) hy c
      · rw [decide_eq_false hyx, hx, decide_eq_true rfl, Bool.xor_false] at k
        exact k
      · have e0 : dl (fun z => A z ^^ decide (z = x)) e = (dl A e ^^ inc x e) := by
          unfold dl inc
          have c1 : decide (e / 9 = x) = decide (x = e / 9) := decide_eq_decide.mpr eq_comm
          have c2 : decide (e % 9 = x) = decide (x = e % 9) := decide_eq_decide.mpr eq_comm
          show ((A (e / 9) ^^ decide (e / 9 = x)) ^^ (A (e % 9) ^^ decide (e % 9 = x))) = _
          rw [c1, c2]
          cases A (e / 9) <;> cases A (e % 9) <;> cases decide (x = e / 9) <;> cases decide (x = e % 9) <;> rfl
        rw [e0]
        cases g : inc x e with
        | true =>
          rcases q3 e he g with r | r
          · rw [r, d]; rfl
          · rw [r, ← hb, d]; rfl
        | false =>
          cases g2 : dl A e with
          | false => rfl
          | true => rw [hA e he g2] at g; cases g
  · have k : ∀ {y z}, y ∈ l → z ∈ l → A y = A z := fun hy hz => cs_conn h (A := A) (fun e he => by
      cases g : dl A e with
      | false => rfl
      | true => exact absurd (cs_on h.2.2 he (hA e he g)) c) hy hz
    obtain ⟨y0, hy0⟩ : ∃ y, y ∈ l := by
      cases l with
      | nil => have := h.2.1; simp at this
      | cons a t => exact ⟨a, by simp⟩
    cases d : A y0 with
    | false => exact Or.inl (fun y hy _ => by rw [k hy hy0, d])
    | true => exact Or.inr (fun y hy _ => by rw [k hy hy0, d])
theorem cs_join {l : List Nat} (h : Cy l) {a b : Nat} (ha : a ∈ l) (hb : b ∈ l) : ∃ Z, Sb Z (cs l) ∧ ∀ v, dg v Z = (decide (v = a) ^^ decide (v = b)) := by
  by_cases c : a = b
  · refine ⟨fun _ => false, fun _ q => absurd q Bool.false_ne_true, fun v => ?_⟩
    rw [dg_no (fun e _ _ => rfl), c, Bool.xor_self]
  · have a9 := h.2.2 a ha
    have b9 := h.2.2 b hb
    have hd : ∀ v, dg v (sg (cd a b)) = (decide (v = a) ^^ decide (v = b)) := fun v => by rw [dg_sg v (cd_lt a9 b9), inc_cd a9 b9]
    obtain ⟨Y, y1, y2⟩ := cs_close h (sg (cd a b)) (fun x hx => by
      rw [hd, decide_eq_false (fun q => hx (by rw [q]; exact ha)), decide_eq_false (fun q => hx (by rw [q]; exact hb))]; rfl)
    refine ⟨Y, y1, fun v => ?_⟩
    have := y2 v
    rw [dg_xs, hd] at this
    cases g : dg v Y <;> cases g2 : (decide (v = a) ^^ decide (v = b)) <;> rw [g, g2] at this <;> first | rfl | cases this
theorem wk_sum (A : Nat → Bool) (l : List Nat) (a : Nat) (h9 : ∀ y, y ∈ a :: l → y < 9) : ip (wk a l) (dl A) = (A a ^^ A (lst a l)) := by
  unfold ip
  rw [← orth]
  have ha := h9 a List.mem_cons_self
  have hl := h9 _ (lst_mem l a)
  have e : py 9 (fun v => A v && dg v (wk a l)) = py 9 (fun v => (decide (v = a) && A v) ^^ (decide (v = lst a l) && A v)) := by
    refine py_cong 9 (fun v _ => ?_)
    rw [dg_wk v l a h9]
    cases A v <;> cases decide (v = a) <;> cases decide (v = lst a l) <;> rfl
  rw [e, py_xor, py_at A 9 ha, py_at A 9 hl]
/-- a set of edges along a path is a cut, if its ends allow it -/
theorem wk_ext (l : List Nat) : ∀ (a : Nat), (a :: l).Nodup → (∀ y, y ∈ a :: l → y < 9) → ∀ (Y A : Nat → Bool), ip Y (wk a l) = (A a ^^ A (lst a l)) → ∃ A' : Nat → Bool, (∀ x, (x ∉ a :: l ∨ x = a ∨ x = lst a l) → A' x = A x) ∧ ∀ e, wk a l e = true → Y e = dl A' e := by
  induction l with
  | nil =>
    intro a _ _ Y A _
    exact ⟨A, fun _ _ => rfl, fun _ h => absurd h Bool.false_ne_true⟩
  | cons b t ih =>
    intro a hn h9 Y A hp
    have ha : a < 9 := h9 a List.mem_cons_self
    have hb : b < 9 := h9 b (by simp)
    have hn' := List.nodup_cons.mp hn
    have h9' : ∀ y, y ∈ b :: t → y < 9 := fun y hy => h9 y (List.mem_cons_of_mem _ hy)
    have hab : a ≠ b := fun q => hn'.1 (by rw [q]; exact List.mem_cons_self)
    have hp2 : (Y (cd a b) ^^ ip Y (wk b t)) = (A a ^^ A (lst b t)) := by
      have e0 : ip Y (wk a (b :: t)) = (ip Y (sg (cd a b)) ^^ ip Y (wk b t)) := ip_xr Y (sg (cd a b)) (wk b t)
      rw [ip_sg Y (cd_lt ha hb)] at e0
      rw [← e0]
      exact hp
    obtain ⟨A', q1, q2⟩ := ih b hn'.2 h9' Y (fun x => if x = b then A a ^^ Y (cd a b) else A x) (by
      rw [if_pos rfl]
      by_cases c : lst b t = b
      · rw [if_pos c]
        cases t with
        | nil =>
          rw [ip_no (X := Y) (Y := wk b []) (fun e _ => rfl), Bool.xor_self]
        | cons d t =>
          exact absurd (lst_mem t d) (by rw [show lst d t = b from c]; exact (List.nodup_cons.mp hn'.2).1)
      · rw [if_neg c]
        cases g1 : Y (cd a b) <;> cases g2 : A a <;> cases g3 : A (lst b t) <;> rw [g1, g2, g3] at hp2 <;> cases g4 : ip Y (wk b t) <;> rw [g4] at hp2 <;> first | rfl | cases hp2)
    have hA1 : ∀ x, (x ∉ a :: b :: t ∨ x = a ∨ x = lst a (b :: t)) → A' x = A x := by
      intro x hx
      rcases hx with hx | hx | hx
      · rw [q1 x (Or.inl (fun q => hx (List.mem_cons_of_mem _ q))), if_neg (fun q => hx (by rw [q]; simp))]
      · rw [hx, q1 a (Or.inl hn'.1), if_neg hab]
      · change x = lst b t at hx
        rw [hx, q1 _ (Or.inr (Or.inr rfl))]
        by_cases c : lst b t = b
        · rw [if_pos c]
          cases t with
          | nil =>
            rw [ip_no (X := Y) (Y := wk b []) (fun e _ => rfl), Bool.xor_false] at hp2
            rw [hp2]
            show (A a ^^ (A a ^^ A b)) = A b
            cases A a <;> cases A b <;> rfl
          | cons d t =>
            exact absurd (lst_mem t d) (by rw [show lst d t = b from c]; exact (List.nodup_cons.mp hn'.2).1)
        · rw [if_neg c]
    refine ⟨A', hA1, fun e he => ?_⟩
    by_cases c : e = cd a b
    · rw [c, dl_cd ha hb, hA1 a (Or.inr (Or.inl rfl)), q1 b (Or.inr (Or.inl rfl)), if_pos rfl]
      cases A a <;> cases Y (cd a b) <;> rfl
    · change (decide (e = cd a b) ^^ wk b t e) = true at he
      rw [decide_eq_false c, Bool.false_xor] at he
      exact q2 e he
/-- an edge of a path touches an inner node, unless it is all of the path -/
theorem wk_inner {b e : Nat} : ∀ (m : List Nat) (a : Nat), (a :: (m ++ [b])).Nodup → (∀ y, y ∈ a :: (m ++ [b]) → y < 9) → wk a (m ++ [b]) e = true → (m = [] ∧ e = cd a b) ∨ ∃ x, x ∈ m ∧ inc x e = true
  | [], a, _, _, h => by
    refine Or.inl ⟨rfl, ?_⟩
    change (decide (e = cd a b) ^^ false) = true at h
    rw [Bool.xor_false, decide_eq_true_eq] at h
    exact h
  | c :: m, a, hn, h9, h => by
    have ha : a < 9 := h9 a List.mem_cons_self
    have hc : c < 9 := h9 c (by simp)
    have hb : b < 9 := h9 b (by simp)
    have hn' := List.nodup_cons.mp hn
    have h9' : ∀ y, y ∈ c :: (m ++ [b]) → y < 9 := fun y hy => h9 y (List.mem_cons_of_mem _ hy)
    refine Or.inr ?_
    by_cases q : e = cd a c
    · refine ⟨c, by simp, ?_⟩
      rw [q, inc_cd ha hc, decide_eq_true rfl, decide_eq_false (fun r => hn'.1 (by rw [r]; simp))]; rfl
    · change (decide (e = cd a c) ^^ wk c (m ++ [b]) e) = true at h
      rw [decide_eq_false q, Bool.false_xor] at h
      rcases wk_inner m c hn'.2 h9' h with ⟨_, r⟩ | ⟨x, r1, r2⟩
      · refine ⟨c, by simp, ?_⟩
        rw [r, inc_cd hc hb, decide_eq_true rfl, decide_eq_false (fun r2 => (List.nodup_cons.mp hn'.2).1 (by rw [r2]; simp))]; rfl
      · exact ⟨x, by simp [r1], r2⟩
/-- the rings of what is drawn -/
def Iv (H : Nat → Bool) (nr : Nat) (rg : Nat → List Nat) : Prop :=
  (∀ k, k < nr → Cy (rg k)) ∧
  (∀ e, H e = true → ∃ i j, i < nr ∧ j < nr ∧ i ≠ j ∧ ∀ k, k < nr → cs (rg k) e = (decide (k = i) || decide (k = j))) ∧
  (∀ k, k < nr → Sb (cs (rg k)) H) ∧
  (∀ X, Sb X H → ev X → ∃ c : Nat → Bool, ∀ e, X e = py nr (fun k => c k && cs (rg k) e)) ∧
  (∀ Y : Nat → Bool, (∀ k, k < nr → ip Y (cs (rg k)) = false) → ∃ A, ∀ e, H e = true → Y e = dl A e) ∧
  (∀ (A : Nat → Bool) x, (∀ e, H e = true → dl A e = true → inc x e = true) → A x = false → (∀ y, VH H y → y ≠ x → A y = false) ∨ (∀ y, VH H y → y ≠ x → A y = true)) ∧
  (∃ b, ∀ a, VH H a → ∃ Z, Sb Z H ∧ ∀ v, dg v Z = (decide (v = a) ^^ decide (v = b))) ∧
  2 ≤ nr
theorem VH_cs {l : List Nat} (h : Cy l) {x : Nat} : VH (cs l) x ↔ x ∈ l := by
  constructor
  · rintro ⟨e, h1, h2⟩
    exact cs_on h.2.2 h1 h2
  · intro hx
    obtain ⟨e1, _, _, q1, _, q2, _⟩ := cs_two h hx
    exact ⟨e1, q1, q2⟩
theorem Iv_start {l : List Nat} (h : Cy l) : Iv (cs l) 2 (fun _ => l) := by
  refine ⟨fun _ _ => h, fun e he => ⟨0, 1, by omega, by omega, by omega, fun k hk => ?_⟩, fun _ _ => fun _ q => q, fun X hs hX => ?_, fun Y hY => ?_, fun A x hA hx => ?_, ?_, by omega⟩
  · rw [he]
    rcases (by omega : k = 0 ∨ k = 1) with q | q <;> rw [q] <;> rfl
  · rcases cs_only h hs hX with q | q
    · exact ⟨fun _ => false, fun e => by rw [q e]; rfl⟩
    · refine ⟨fun k => decide (k = 0), fun e => ?_⟩
      rw [q e]
      show cs l e = ((false ^^ (true && cs l e)) ^^ (false && cs l e))
      cases cs l e <;> rfl
  · cases l with
    | nil => exact ⟨fun _ => false, fun e he => by cases he⟩
    | cons a t =>
      have h9 := h.2.2
      have ha : a < 9 := h9 a List.mem_cons_self
      have hz : lst a t < 9 := h9 _ (lst_mem t a)
      have hzne : lst a t ≠ a := by
        cases t with
        | nil => have := h.2.1; simp at this
        | cons b t => exact fun q => (List.nodup_cons.mp h.1).1 (by have := lst_mem t b; rw [← q]; exact this)
      obtain ⟨A, q1, q2⟩ := wk_ext t a h.1 h9 Y (fun x => decide (x = lst a t) && ip Y (wk a t)) (by
        rw [decide_eq_false (fun q => hzne q.symm), decide_eq_true rfl]
        cases ip Y (wk a t) <;> rfl)
      refine ⟨A, fun e he => ?_⟩
      have ecs : ∀ e, cs (a :: t) e = (wk a t e ^^ decide (e = cd (lst a t) a)) := by
        intro e
        show wk a (t ++ [a]) e = _
        rw [wk_app]
        show (_ ^^ (decide (e = cd (lst a t) a) ^^ false)) = _
        rw [Bool.xor_false]
      cases c : wk a t e with
      | true => exact q2 e c
      | false =>
        rw [ecs, c, Bool.false_xor, decide_eq_true_eq] at he
        have hp := hY 0 (by omega)
        have e1 : ip Y (cs (a :: t)) = (ip Y (wk a t) ^^ Y (cd (lst a t) a)) := by
          rw [← ip_sg Y (cd_lt hz ha), ← ip_xr]
          refine ip_cong (fun g _ => ?_)
          rw [ecs]; rfl
        rw [e1] at hp
        rw [he, dl_cd hz ha, q1 _ (Or.inr (Or.inr rfl)), q1 _ (Or.inr (Or.inl rfl)), decide_eq_true rfl, decide_eq_false (fun q => hzne q.symm)]
        cases g1 : ip Y (wk a t) <;> cases g2 : Y (cd (lst a t) a) <;> rw [g1, g2] at hp <;> first | rfl | cases hp
  · rcases cs_star h hA hx with q | q
    · exact Or.inl (fun y hy => q y ((VH_cs h).mp hy))
    · exact Or.inr (fun y hy => q y ((VH_cs h).mp hy))
  · cases l with
    | nil => have := h.2.1; simp at this
    | cons b t => exact ⟨b, fun a ha => cs_join h ((VH_cs h).mp ha) (by simp)⟩
