/-! ===== walks and cycles as sets of edges ===== -/
def lst : Nat → List Nat → Nat
  | a, [] => a
  | _, b :: t => lst b t
def wk : Nat → List Nat → Nat → Bool
  | _, [], _ => false
  | a, b :: t, e => decide (e = cd a b) ^^ wk b t e
theorem lst_mem : ∀ (l : List Nat) (a : Nat), lst a l ∈ a :: l
  | [], a => List.mem_cons_self
  | b :: t, a => List.mem_cons_of_mem _ (lst_mem t b)
theorem lst_app : ∀ (s t : List Nat) (a : Nat), lst a (s ++ t) = lst (lst a s) t
  | [], _, _ => rfl
  | b :: s, t, _ => lst_app s t b
theorem lst_snoc (s : List Nat) (a b : Nat) : lst a (s ++ [b]) = b := by rw [lst_app]; rfl
theorem wk_app (e : Nat) : ∀ (s t : List Nat) (a : Nat), wk a (s ++ t) e = (wk a s e ^^ wk (lst a s) t e)
  | [], t, a => by show wk a t e = (false ^^ wk a t e); rw [Bool.false_xor]
  | b :: s, t, a => by
    show (decide (e = cd a b) ^^ wk b (s ++ t) e) = ((decide (e = cd a b) ^^ wk b s e) ^^ wk (lst b s) t e)
    rw [wk_app e s t b, Bool.xor_assoc]
theorem wk_rev (e : Nat) : ∀ (s : List Nat) (a b : Nat), wk a (s ++ [b]) e = wk b (s.reverse ++ [a]) e
  | [], a, b => by show (decide (e = cd a b) ^^ false) = (decide (e = cd b a) ^^ false); rw [cd_comm]
  | c :: s, a, b => by
    show (decide (e = cd a c) ^^ wk c (s ++ [b]) e) = _
    rw [wk_rev e s c b, List.reverse_cons, wk_app e (s.reverse ++ [c]) [a] b, lst_snoc]
    show _ = (_ ^^ (decide (e = cd c a) ^^ false))
    rw [Bool.xor_false, Bool.xor_comm, cd_comm]
theorem wk_in {e : Nat} : ∀ (l : List Nat) (a : Nat), wk a l e = true → ∃ s u v t, a :: l = s ++ u :: v :: t ∧ e = cd u v
  | [], _, h => by cases h
  | b :: t, a, h => by
    by_cases c : e = cd a b
    · exact ⟨[], a, b, t, rfl, c⟩
    · change (decide (e = cd a b) ^^ wk b t e) = true at h
      rw [decide_eq_false c, Bool.false_xor] at h
      obtain ⟨s, u, v, t', h1, h2⟩ := wk_in t b h
      exact ⟨a :: s, u, v, t', by rw [h1]; rfl, h2⟩
theorem wk_uv {e : Nat} {l : List Nat} {a : Nat} (h : wk a l e = true) : ∃ u v, u ∈ a :: l ∧ v ∈ a :: l ∧ e = cd u v := by
  obtain ⟨s, u, v, t, h1, h2⟩ := wk_in l a h
  refine ⟨u, v, ?_, ?_, h2⟩
  · rw [h1]; simp
  · rw [h1]; simp
theorem wk_off {l : List Nat} {a x : Nat} (h9 : ∀ y, y ∈ a :: l → y < 9) (hx : x ∉ a :: l) {e : Nat} (hi : inc x e = true) : wk a l e = false := by
  cases c : wk a l e with
  | false => rfl
  | true =>
    obtain ⟨u, v, h1, h2, h3⟩ := wk_uv c
    rw [h3, inc_cd (h9 u h1) (h9 v h2), decide_eq_false (fun q => hx (by rw [q]; exact h1)), decide_eq_false (fun q => hx (by rw [q]; exact h2))] at hi
    cases hi
theorem wk_lt {l : List Nat} {a : Nat} (h9 : ∀ y, y ∈ a :: l → y < 9) {e : Nat} (h : wk a l e = true) : e < 81 := by
  obtain ⟨u, v, h1, h2, h3⟩ := wk_uv h
  rw [h3]
  exact cd_lt (h9 u h1) (h9 v h2)
theorem dg_wk (v : Nat) : ∀ (l : List Nat) (a : Nat), (∀ y, y ∈ a :: l → y < 9) → dg v (wk a l) = (decide (v = a) ^^ decide (v = lst a l))
  | [], a, _ => by
    rw [dg_no (X := wk a []) (fun e _ _ => rfl)]
    show false = (decide (v = a) ^^ decide (v = a))
    cases decide (v = a) <;> rfl
  | b :: t, a, h9 => by
    have e : wk a (b :: t) = xs (sg (cd a b)) (wk b t) := rfl
    have ha : a < 9 := h9 a List.mem_cons_self
    have hb : b < 9 := h9 b (by simp)
    rw [e, dg_xs, dg_sg v (cd_lt ha hb), inc_cd ha hb, dg_wk v t b (fun y hy => h9 y (List.mem_cons_of_mem _ hy))]
    show _ = (decide (v = a) ^^ decide (v = lst b t))
    cases decide (v = a) <;> cases decide (v = b) <;> cases decide (v = lst b t) <;> rfl
theorem cd_off {a b : Nat} (ha : a < 9) (hb : b < 9) {t : List Nat} (h9 : ∀ y, y ∈ b :: t → y < 9) (hn : a ∉ b :: t) : wk b t (cd a b) = false := by
  refine wk_off h9 hn ?_
  rw [inc_cd ha hb, decide_eq_true rfl, decide_eq_false (fun q => hn (by rw [q]; exact List.mem_cons_self))]; rfl
theorem dg_sc (x : Nat) {a : Nat} (ha : a < 81) (c : Bool) : dg x (fun e => decide (e = a) && c) = (c && inc x a) := by
  unfold dg
  rw [← py_at (fun _ => c && inc x a) 81 ha]
  refine py_cong 81 (fun e _ => ?_)
  by_cases q : e = a
  · subst q
    show ((decide (e = e) && c) && inc x e) = (decide (e = e) && (c && inc x e))
    rw [Bool.and_assoc]
  · show ((decide (e = a) && c) && inc x e) = (decide (e = a) && (c && inc x a))
    rw [decide_eq_false q]
    rfl
/-- a part of a path that is even inside is nothing or all -/
theorem wk_even : ∀ (l : List Nat) (a : Nat), (a :: l).Nodup → (∀ y, y ∈ a :: l → y < 9) → ∀ X : Nat → Bool, Sb X (wk a l) → (∀ x, x ∈ a :: l → x ≠ a → x ≠ lst a l → dg x X = false) → (∀ e, X e = false) ∨ (∀ e, X e = wk a l e)
  | [], a, _, _, X, hs, _ => by
    refine Or.inl (fun e => ?_)
    cases c : X e with
    | false => rfl
    | true => have := hs e c; cases this
  | b :: t, a, hn, h9, X, hs, he => by
    have ha : a < 9 := h9 a List.mem_cons_self
    have hb : b < 9 := h9 b (by simp)
    have hn' := List.nodup_cons.mp hn
    have h9' : ∀ y, y ∈ b :: t → y < 9 := fun y hy => h9 y (List.mem_cons_of_mem _ hy)
    have hab : a ≠ b := fun q => hn'.1 (by rw [q]; exact List.mem_cons_self)
    have eX : X = xs (fun e => decide (e = cd a b) && X (cd a b)) (fun e => X e && !decide (e = cd a b)) := by
      funext e
      show X e = ((decide (e = cd a b) && X (cd a b)) ^^ (X e && !decide (e = cd a b)))
      by_cases c : e = cd a b
      · rw [decide_eq_true c, c]; cases X (cd a b) <;> rfl
      · rw [decide_eq_false c]; cases X e <;> rfl
    have s0 : Sb (fun e => X e && !decide (e = cd a b)) (wk b t) := by
      intro e q
      rw [Bool.and_eq_true, Bool.not_eq_true'] at q
      have := hs e q.1
      change (decide (e = cd a b) ^^ wk b t e) = true at this
      rw [q.2, Bool.false_xor] at this
      exact this
    have d1 : ∀ x, dg x (fun e => decide (e = cd a b) && X (cd a b)) = (X (cd a b) && inc x (cd a b)) := fun x => dg_sc x (cd_lt ha hb) _
    have d0 : ∀ x, x ∈ b :: t → x ≠ b → dg x (fun e => X e && !decide (e = cd a b)) = dg x X := by
      intro x hx hxb
      have hxa : x ≠ a := fun q => hn'.1 (by rw [← q]; exact hx)
      conv => rhs; rw [eX]
      rw [dg_xs, d1, inc_cd ha hb, decide_eq_false hxa, decide_eq_false hxb, Bool.xor_self, Bool.and_false, Bool.false_xor]
    have ih := wk_even t b hn'.2 h9' _ s0 (fun x hx hxb hxl => by
      rw [d0 x hx hxb]
      exact he x (List.mem_cons_of_mem _ hx) (fun q => hn'.1 (by rw [← q]; exact hx)) hxl)
    have key : (∀ e, X e = false) ∨ (∀ e, X e = wk a (b :: t) e) ∨ False := by
      cases t with
      | nil =>
        have z : ∀ e, (X e && !decide (e = cd a b)) = false := by
          rcases ih with ih | ih
          · exact ih
          · exact fun e => ih e
        cases c : X (cd a b) with
        | false =>
          refine Or.inl (fun e => ?_)
          rw [eX]
          show ((decide (e = cd a b) && X (cd a b)) ^^ (X e && !decide (e = cd a b))) = false
          rw [z e, c, Bool.and_false]; rfl
        | true =>
          refine Or.inr (Or.inl (fun e => ?_))
          rw [eX]
          show ((decide (e = cd a b) && X (cd a b)) ^^ (X e && !decide (e = cd a b))) = (decide (e = cd a b) ^^ false)
          rw [z e, c, Bool.and_true]
      | cons c t' =>
        have hbl : b ≠ lst b (c :: t') := fun q => (List.nodup_cons.mp hn'.2).1 (by
          have := lst_mem t' c
          rw [q]; exact this)
        have hd : dg b X = false := he b (by simp) (fun q => hab q.symm) hbl
        rw [eX, dg_xs, d1, inc_cd ha hb, decide_eq_false (fun q => hab q.symm), decide_eq_true rfl, Bool.false_xor, Bool.and_true] at hd
        rcases ih with ih | ih
        · rw [dg_no (fun e _ _ => ih e), Bool.xor_false] at hd
          refine Or.inl (fun e => ?_)
          rw [eX]
          show ((decide (e = cd a b) && X (cd a b)) ^^ (X e && !decide (e = cd a b))) = false
          rw [ih e, hd, Bool.and_false]; rfl
        · have q : dg b (fun e => X e && !decide (e = cd a b)) = dg b (wk b (c :: t')) := dg_cong (fun e _ _ => ih e)
          rw [q, dg_wk b (c :: t') b h9', decide_eq_true rfl, decide_eq_false hbl] at hd
          have hd' : X (cd a b) = true := by
            cases h : X (cd a b) with
            | true => rfl
            | false => rw [h] at hd; cases hd
          refine Or.inr (Or.inl (fun e => ?_))
          rw [eX]
          show ((decide (e = cd a b) && X (cd a b)) ^^ (X e && !decide (e = cd a b))) = (decide (e = cd a b) ^^ wk b (c :: t') e)
          rw [ih e, hd', Bool.and_true]
    rcases key with k | k | k
    · exact Or.inl k
    · exact Or.inr k
    · exact k.elim
/-- what is odd on a path alone is closed along it, but for its end -/
theorem wk_close : ∀ (l : List Nat) (a : Nat), (a :: l).Nodup → (∀ y, y ∈ a :: l → y < 9) → ∀ B : Nat → Bool, ∃ Y, Sb Y (wk a l) ∧ ∀ x, x ∈ a :: l → x ≠ lst a l → dg x (xs B Y) = false
  | [], a, _, _, B => ⟨fun _ => false, fun _ h => absurd h Bool.false_ne_true, fun _ hx hl => absurd (List.mem_singleton.mp hx) hl⟩
  | b :: t, a, hn, h9, B => by
    have ha : a < 9 := h9 a List.mem_cons_self
    have hb : b < 9 := h9 b (by simp)
    have hn' := List.nodup_cons.mp hn
    have h9' : ∀ y, y ∈ b :: t → y < 9 := fun y hy => h9 y (List.mem_cons_of_mem _ hy)
    have hab : a ≠ b := fun q => hn'.1 (by rw [q]; exact List.mem_cons_self)
    obtain ⟨Y, y1, y2⟩ := wk_close t b hn'.2 h9' (xs B (fun e => decide (e = cd a b) && dg a B))
    have dA : ∀ x, dg x (fun e => decide (e = cd a b) && dg a B) = (dg a B && inc x (cd a b)) := fun x => dg_sc x (cd_lt ha hb) _
    have hoff := cd_off ha hb h9' hn'.1
    refine ⟨xs (fun e => decide (e = cd a b) && dg a B) Y, fun e h => ?_, fun x hx hl => ?_⟩
    · show (decide (e = cd a b) ^^ wk b t e) = true
      change ((decide (e = cd a b) && dg a B) ^^ Y e) = true at h
      by_cases c : e = cd a b
      · rw [c, hoff, decide_eq_true rfl]; rfl
      · rw [decide_eq_false c, Bool.false_and, Bool.false_xor] at h
        rw [decide_eq_false c, y1 e h]; rfl
    · have r : xs B (xs (fun e => decide (e = cd a b) && dg a B) Y) = xs (xs B (fun e => decide (e = cd a b) && dg a B)) Y := by
        funext e
        exact (Bool.xor_assoc _ _ _).symm
      rw [r]
      rcases List.mem_cons.mp hx with q | q
      · rw [q, dg_xs, dg_xs, dA, inc_cd ha hb, decide_eq_true rfl, decide_eq_false hab]
        have : dg a Y = false := dg_no (fun e _ hi => by
          cases c : Y e with
          | false => rfl
          | true => have := y1 e c; rw [wk_off h9' hn'.1 hi] at this; cases this)
        rw [this]
        cases dg a B <;> rfl
      · exact y2 x q hl
