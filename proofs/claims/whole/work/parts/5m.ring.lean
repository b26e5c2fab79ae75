/-! ===== rings: closed walks without a node twice ===== -/
def cs : List Nat → Nat → Bool
  | [], _ => false
  | a :: t, e => wk a (t ++ [a]) e
theorem cl_mem {a y : Nat} {t : List Nat} (h : y ∈ a :: (t ++ [a])) : y ∈ a :: t := by
  rw [List.mem_cons, List.mem_append, List.mem_singleton] at h
  rw [List.mem_cons]
  rcases h with h | h | h
  · exact Or.inl h
  · exact Or.inr h
  · exact Or.inl h
def Cy (l : List Nat) : Prop := l.Nodup ∧ 3 ≤ l.length ∧ ∀ x, x ∈ l → x < 9
theorem cs_rot (s t : List Nat) (e : Nat) : cs (s ++ t) e = cs (t ++ s) e := by
  cases s with
  | nil => rw [List.append_nil]; rfl
  | cons a s =>
    cases t with
    | nil => rw [List.append_nil]; rfl
    | cons b t =>
      show wk a ((s ++ b :: t) ++ [a]) e = wk b ((t ++ a :: s) ++ [b]) e
      have e1 : (s ++ b :: t) ++ [a] = (s ++ [b]) ++ (t ++ [a]) := by simp
      have e2 : (t ++ a :: s) ++ [b] = (t ++ [a]) ++ (s ++ [b]) := by simp
      rw [e1, e2, wk_app e (s ++ [b]), wk_app e (t ++ [a]), lst_snoc, lst_snoc, Bool.xor_comm]
theorem Cy_rot {s t : List Nat} (h : Cy (s ++ t)) : Cy (t ++ s) := by
  refine ⟨(List.perm_append_comm.nodup_iff).mp h.1, ?_, fun x hx => h.2.2 x ?_⟩
  · have := h.2.1
    rw [List.length_append] at this ⊢
    omega
  · rw [List.mem_append] at hx ⊢
    exact hx.symm
theorem ev_cs {l : List Nat} (h : ∀ x, x ∈ l → x < 9) : ev (cs l) := by
  cases l with
  | nil => exact ev_no (fun _ => rfl)
  | cons a t =>
    intro v
    have e : cs (a :: t) = wk a (t ++ [a]) := rfl
    rw [e, dg_wk v (t ++ [a]) a (fun y hy => h y (cl_mem hy)), lst_snoc, Bool.xor_self]
theorem cs_uv {l : List Nat} {e : Nat} (h : cs l e = true) : ∃ u v, u ∈ l ∧ v ∈ l ∧ e = cd u v := by
  cases l with
  | nil => cases h
  | cons a t =>
    obtain ⟨u, v, h1, h2, h3⟩ := wk_uv (l := t ++ [a]) (a := a) h
    exact ⟨u, v, cl_mem h1, cl_mem h2, h3⟩
theorem cs_on {l : List Nat} (h9 : ∀ x, x ∈ l → x < 9) {e x : Nat} (h : cs l e = true) (hi : inc x e = true) : x ∈ l := by
  obtain ⟨u, v, h1, h2, h3⟩ := cs_uv h
  rw [h3, inc_cd (h9 u h1) (h9 v h2)] at hi
  by_cases c : x = u
  · rw [c]; exact h1
  · by_cases c2 : x = v
    · rw [c2]; exact h2
    · rw [decide_eq_false c, decide_eq_false c2] at hi; cases hi
theorem cs_lt {l : List Nat} (h9 : ∀ x, x ∈ l → x < 9) {e : Nat} (h : cs l e = true) : e < 81 := by
  obtain ⟨u, v, h1, h2, h3⟩ := cs_uv h
  rw [h3]
  exact cd_lt (h9 u h1) (h9 v h2)
/-- the two edges of a ring at its first node -/
theorem cs_head {x b c : Nat} {t : List Nat} (h : Cy (x :: b :: c :: t)) :
    cd x b ≠ cd (lst c t) x ∧ ∀ e, inc x e = true → cs (x :: b :: c :: t) e = (decide (e = cd x b) || decide (e = cd (lst c t) x)) := by
  have h9 := h.2.2
  have hn1 := List.nodup_cons.mp h.1
  have hn2 := List.nodup_cons.mp hn1.2
  have hx : x < 9 := h9 x (by simp)
  have hb : b < 9 := h9 b (by simp)
  have mz := lst_mem t c
  have hz : lst c t < 9 := h9 _ (List.mem_cons_of_mem _ (List.mem_cons_of_mem _ mz))
  have hne : cd x b ≠ cd (lst c t) x := by
    intro q
    rcases cd_inj hx hb hz hx q with ⟨q1, _⟩ | ⟨_, q2⟩
    · exact hn1.1 (by rw [q1]; exact List.mem_cons_of_mem _ mz)
    · exact hn2.1 (by rw [q2]; exact mz)
  refine ⟨hne, fun e hi => ?_⟩
  show (decide (e = cd x b) ^^ wk b (c :: t ++ [x]) e) = _
  rw [wk_app]
  have e1 : wk b (c :: t) e = false := wk_off (fun y hy => h9 y (List.mem_cons_of_mem _ hy)) hn1.1 hi
  have e2 : wk (lst b (c :: t)) [x] e = decide (e = cd (lst c t) x) := by
    show (decide (e = cd (lst c t) x) ^^ false) = _
    rw [Bool.xor_false]
  rw [e1, e2, Bool.false_xor]
  by_cases q : e = cd x b
  · rw [decide_eq_true q, decide_eq_false (by rw [q]; exact hne)]; rfl
  · rw [decide_eq_false q, Bool.false_xor, Bool.false_or]
theorem Cy_form {l : List Nat} (h : Cy l) {x : Nat} (hx : x ∈ l) : ∃ b c t, Cy (x :: b :: c :: t) ∧ (∀ e, cs l e = cs (x :: b :: c :: t) e) ∧ (∀ y, y ∈ l ↔ y ∈ x :: b :: c :: t) := by
  obtain ⟨s, t, e⟩ := List.append_of_mem hx
  have h1 : Cy (x :: t ++ s) := Cy_rot (by rw [← e]; exact h)
  have h2 : ∀ e', cs l e' = cs (x :: t ++ s) e' := fun e' => by rw [e]; exact cs_rot s (x :: t) e'
  have h4 : ∀ y, y ∈ l ↔ y ∈ x :: t ++ s := fun y => by rw [e, List.mem_append, List.mem_append]; exact Or.comm
  have h3 := h1.2.1
  cases q : t ++ s with
  | nil => rw [List.cons_append, q] at h3; simp at h3
  | cons b t' =>
    cases t' with
    | nil => rw [List.cons_append, q] at h3; simp at h3
    | cons c t'' =>
      rw [List.cons_append, q] at h1 h2 h4
      exact ⟨b, c, t'', h1, h2, h4⟩
/-- each node of a ring has just two of its edges -/
theorem cs_two {l : List Nat} (h : Cy l) {x : Nat} (hx : x ∈ l) : ∃ e1 e2, e1 ≠ e2 ∧ cs l e1 = true ∧ cs l e2 = true ∧ inc x e1 = true ∧ inc x e2 = true ∧ ∀ e, cs l e = true → inc x e = true → e = e1 ∨ e = e2 := by
  obtain ⟨b, c, t, h1, h2, _⟩ := Cy_form h hx
  obtain ⟨h3, h4⟩ := cs_head h1
  have h9 := h1.2.2
  have hn1 := List.nodup_cons.mp h1.1
  have hx9 : x < 9 := h9 x (by simp)
  have hb : b < 9 := h9 b (by simp)
  have mz := lst_mem t c
  have hz : lst c t < 9 := h9 _ (List.mem_cons_of_mem _ (List.mem_cons_of_mem _ mz))
  have i1 : inc x (cd x b) = true := by
    rw [inc_cd hx9 hb, decide_eq_true rfl, decide_eq_false (fun q => hn1.1 (by rw [q]; simp))]; rfl
  have i2 : inc x (cd (lst c t) x) = true := by
    rw [inc_cd hz hx9, decide_eq_true rfl, decide_eq_false (fun q => hn1.1 (by rw [q]; exact List.mem_cons_of_mem _ mz))]; rfl
  refine ⟨cd x b, cd (lst c t) x, h3, ?_, ?_, i1, i2, fun e he hi => ?_⟩
  · rw [h2, h4 _ i1, decide_eq_true rfl]; rfl
  · rw [h2, h4 _ i2, decide_eq_true rfl, Bool.or_true]
  · rw [h2, h4 e hi, Bool.or_eq_true, decide_eq_true_eq, decide_eq_true_eq] at he
    exact he
theorem cs_ne {l : List Nat} (h : Cy l) {e : Nat} (he : cs l e = true) : e / 9 ≠ e % 9 ∧ e / 9 ∈ l ∧ e % 9 ∈ l := by
  obtain ⟨u, v, h1, h2, h3⟩ := cs_uv he
  have hu := h.2.2 u h1
  have hv := h.2.2 v h2
  have huv : u ≠ v := by
    intro q
    obtain ⟨b, c, t, k1, k2, k3⟩ := Cy_form h h1
    have := (cs_head k1).2
    have he' := he
    rw [k2, h3, ← q] at he'
    -- a loop has no place in the walk
    have hn := k1.1
    have : ∀ (m : List Nat) (a : Nat), (∀ y, y ∈ a :: m → y < 9) → (a :: m).Nodup → wk a m (cd u u) = false := by
      intro m
      induction m with
      | nil => intro a _ _; rfl
      | cons d m ih =>
        intro a g9 gn
        show (decide (cd u u = cd a d) ^^ wk d m (cd u u)) = false
        rw [ih d (fun y hy => g9 y (List.mem_cons_of_mem _ hy)) (List.nodup_cons.mp gn).2, decide_eq_false ?_]
        · rfl
        · intro q2
          have ga := g9 a (by simp)
          have gd := g9 d (by simp)
          have : a = d := by
            rcases cd_inj hu hu ga gd q2 with q3 | q3 <;> omega
          exact (List.nodup_cons.mp gn).1 (by rw [this]; simp)
    change (wk u ((b :: c :: t) ++ [u]) (cd u u)) = true at he'
    rw [wk_app, this _ _ k1.2.2 k1.1] at he'
    change (false ^^ (decide (cd u u = cd (lst c t) u) ^^ false)) = true at he'
    rw [Bool.false_xor, Bool.xor_false, decide_eq_true_eq] at he'
    have mz := lst_mem t c
    have hz : lst c t < 9 := k1.2.2 _ (List.mem_cons_of_mem _ (List.mem_cons_of_mem _ mz))
    have : u = lst c t := by
      rcases cd_inj hu hu hz hu he' with q3 | q3 <;> omega
    exact (List.nodup_cons.mp hn).1 (by rw [this]; exact List.mem_cons_of_mem _ mz)
  rw [h3]
  unfold cd
  split
  · rw [show (9 * u + v) / 9 = u by omega, show (9 * u + v) % 9 = v by omega]
    exact ⟨huv, h1, h2⟩
  · rw [show (9 * v + u) / 9 = v by omega, show (9 * v + u) % 9 = u by omega]
    exact ⟨fun q => huv q.symm, h2, h1⟩
/-- an even part of a ring is nothing or the ring -/
theorem cs_only {l : List Nat} (h : Cy l) {X : Nat → Bool} (hs : Sb X (cs l)) (he : ev X) : (∀ e, X e = false) ∨ (∀ e, X e = cs l e) := by
  cases l with
  | nil => exact Or.inl (fun e => by
      cases c : X e with
      | false => rfl
      | true => have := hs e c; cases this)
  | cons a t =>
    have h9 := h.2.2
    have ha : a < 9 := h9 a List.mem_cons_self
    have hz : lst a t < 9 := h9 _ (lst_mem t a)
    have hzne : a ≠ lst a t := by
      cases t with
      | nil => have := h.2.1; simp at this
      | cons b t => exact fun q => (List.nodup_cons.mp h.1).1 (by have := lst_mem t b; rw [q]; exact this)
    have ecs : ∀ e, cs (a :: t) e = (wk a t e ^^ decide (e = cd (lst a t) a)) := by
      intro e
      show wk a (t ++ [a]) e = _
      rw [wk_app]
      show (_ ^^ (decide (e = cd (lst a t) a) ^^ false)) = _
      rw [Bool.xor_false]
    have eX : X = xs (fun e => decide (e = cd (lst a t) a) && X (cd (lst a t) a)) (fun e => X e && !decide (e = cd (lst a t) a)) := by
      funext e
      show X e = ((decide (e = cd (lst a t) a) && X (cd (lst a t) a)) ^^ (X e && !decide (e = cd (lst a t) a)))
      by_cases c : e = cd (lst a t) a
      · rw [decide_eq_true c, c]; cases X (cd (lst a t) a) <;> rfl
      · rw [decide_eq_false c]; cases X e <;> rfl
    have s0 : Sb (fun e => X e && !decide (e = cd (lst a t) a)) (wk a t) := by
      intro e q
      rw [Bool.and_eq_true, Bool.not_eq_true'] at q
      have := hs e q.1
      rw [ecs, q.2, Bool.xor_false] at this
      exact this
    have dX : ∀ x, ((X (cd (lst a t) a) && inc x (cd (lst a t) a)) ^^ dg x (fun e => X e && !decide (e = cd (lst a t) a))) = false := by
      intro x
      have := he x
      rw [eX, dg_xs, dg_sc x (cd_lt hz ha)] at this
      exact this
    have ih := wk_even t a h.1 h9 _ s0 (fun x hx hxa hxl => by
      have := dX x
      rw [inc_cd hz ha, decide_eq_false hxa, decide_eq_false hxl, Bool.xor_self, Bool.and_false, Bool.false_xor] at this
      exact this)
    have hd := dX a
    rw [inc_cd hz ha, decide_eq_true rfl, decide_eq_false hzne, Bool.false_xor, Bool.and_true] at hd
    rcases ih with ih | ih
    · rw [dg_no (fun e _ _ => ih e), Bool.xor_false] at hd
      refine Or.inl (fun e => ?_)
      rw [eX]
      show ((decide (e = cd (lst a t) a) && X (cd (lst a t) a)) ^^ (X e && !decide (e = cd (lst a t) a))) = false
      rw [ih e, hd, Bool.and_false]; rfl
    · have q : dg a (fun e => X e && !decide (e = cd (lst a t) a)) = dg a (wk a t) := dg_cong (fun e _ _ => ih e)
      rw [q, dg_wk a t a h9, decide_eq_true rfl, decide_eq_false hzne] at hd
      have hd' : X (cd (lst a t) a) = true := by
        cases h : X (cd (lst a t) a) with
        | true => rfl
        | false => rw [h] at hd; cases hd
      refine Or.inr (fun e => ?_)
      rw [ecs, eX]
      show ((decide (e = cd (lst a t) a) && X (cd (lst a t) a)) ^^ (X e && !decide (e = cd (lst a t) a))) = _
      rw [ih e, hd', Bool.and_true, Bool.xor_comm]
theorem dl_f {A : Nat → Bool} {e x : Nat} (h : dl A e = false) (hi : inc x e = true) : A (e / 9) = A x := by
  unfold dl at h
  rcases (inc_t hi).1 with q | q
  · rw [q]
  · rw [q]
    cases c : A (e / 9) <;> cases c2 : A (e % 9) <;> rw [c, c2] at h <;> first | rfl | cases h
/-- a ring hangs together -/
theorem cs_conn {l : List Nat} (h : Cy l) {A : Nat → Bool} (hA : ∀ e, cs l e = true → dl A e = false) {x y : Nat} (hx : x ∈ l) (hy : y ∈ l) : A x = A y := by
  have hev := ev_cs h.2.2
  have k := cs_only h (X := fun e => cs l e && A (e / 9)) (fun e q => by rw [Bool.and_eq_true] at q; exact q.1) (fun v => by
    cases c : A v with
    | true =>
      rw [← hev v]
      refine dg_cong (fun e _ hi => ?_)
      cases q : cs l e with
      | false => rfl
      | true => rw [dl_f (hA e q) hi, c]; rfl
    | false =>
      refine dg_no (fun e _ hi => ?_)
      cases q : cs l e with
      | false => rfl
      | true => rw [dl_f (hA e q) hi, c]; rfl)
  have at' : ∀ z, z ∈ l → ∃ e, cs l e = true ∧ A z = A (e / 9) := by
    intro z hz
    obtain ⟨e1, _, _, q1, _, q2, _⟩ := cs_two h hz
    exact ⟨e1, q1, (dl_f (hA e1 q1) q2).symm⟩
  obtain ⟨e, q1, q2⟩ := at' x hx
  obtain ⟨g, q3, q4⟩ := at' y hy
  rw [q2, q4]
  rcases k with k | k
  · have a1 := k e
    have a2 := k g
    rw [q1, Bool.true_and] at a1
    rw [q3, Bool.true_and] at a2
    rw [a1, a2]
  · have a1 := k e
    have a2 := k g
    rw [q1, Bool.true_and] at a1
    rw [q3, Bool.true_and] at a2
    rw [a1, a2]
/-- what is odd on a ring alone is closed along it -/
theorem cs_close {l : List Nat} (h : Cy l) (B : Nat → Bool) (hB : ∀ x, x ∉ l → dg x B = false) : ∃ Y, Sb Y (cs l) ∧ ev (xs B Y) := by
  cases l with
  | nil => have := h.2.1; simp at this
  | cons a t =>
    have h9 := h.2.2
    have ha : a < 9 := h9 a List.mem_cons_self
    have hz : lst a t < 9 := h9 _ (lst_mem t a)
    obtain ⟨Y, y1, y2⟩ := wk_close t a h.1 h9 B
    have hc : wk a t (cd (lst a t) a) = false := by
      cases t with
      | nil => rfl
      | cons b t =>
        cases t with
        | nil => have := h.2.1; simp at this
        | cons c t =>
          have q := (cs_head h).1
          show (decide (cd (lst c t) a = cd a b) ^^ wk b (c :: t) (cd (lst c t) a)) = false
          rw [decide_eq_false (fun r => q r.symm), Bool.false_xor]
          have hn := List.nodup_cons.mp h.1
          refine wk_off (fun y hy => h9 y (List.mem_cons_of_mem _ hy)) hn.1 ?_
          have hz' : lst c t < 9 := hz
          rw [inc_cd hz' ha, decide_eq_true rfl, decide_eq_false (fun r => hn.1 (by rw [r]; exact List.mem_cons_of_mem _ (lst_mem t c)))]; rfl
    refine ⟨Y, fun e he => ?_, odd_none (u := lst a t) (fun x hx => ?_)⟩
    · show wk a (t ++ [a]) e = true
      rw [wk_app, y1 e he]
      show (true ^^ (decide (e = cd (lst a t) a) ^^ false)) = true
      rw [decide_eq_false (fun q => by have := y1 e he; rw [q, hc] at this; cases this)]; rfl
    · by_cases c : x ∈ a :: t
      · exact y2 x c hx
      · rw [dg_xs, hB x c, Bool.false_xor]
        refine dg_no (fun e _ hi => ?_)
        cases q : Y e with
        | false => rfl
        | true => have := y1 e q; rw [wk_off h9 c hi] at this; cases this
