/-! ===== a path splits a ring ===== -/
def Sp (H : Nat → Bool) (nr : Nat) (rg : Nat → List Nat) (f a b : Nat) (s t m : List Nat) : Prop :=
  f < nr ∧ (∃ u v, rg f = u ++ v ∧ v ++ u = a :: (s ++ b :: t)) ∧ m.Nodup ∧ (∀ x, x ∈ m → x < 9 ∧ ¬ VH H x) ∧ (m = [] → H (cd a b) = false)
def rgN (nr : Nat) (rg : Nat → List Nat) (f a b : Nat) (s t m : List Nat) : Nat → List Nat := fun k => if k = f then a :: (s ++ b :: m.reverse) else if k = nr then b :: (t ++ a :: m) else rg k
section SPL
variable {H : Nat → Bool} {nr : Nat} {rg : Nat → List Nat} {f a b : Nat} {s t m : List Nat}
theorem Sp_L (hI : Iv H nr rg) (hS : Sp H nr rg f a b s t m) : Cy (a :: (s ++ b :: t)) ∧ (∀ e, cs (rg f) e = cs (a :: (s ++ b :: t)) e) ∧ (∀ x, x ∈ rg f ↔ x ∈ a :: (s ++ b :: t)) ∧ (∀ x, x ∈ rg f → VH H x) := by
  obtain ⟨hf, ⟨u, v, h1, h2⟩, _⟩ := hS
  have hc := hI.1 f hf
  refine ⟨?_, fun e => ?_, fun x => ?_, fun x hx => ?_⟩
  · rw [← h2]; exact Cy_rot (by rw [← h1]; exact hc)
  · rw [← h2, h1]; exact cs_rot u v e
  · rw [← h2, h1, List.mem_append, List.mem_append]; exact Or.comm
  · obtain ⟨e1, _, _, q1, _, q2, _⟩ := cs_two hc hx
    exact ⟨e1, hI.2.2.1 f hf e1 q1, q2⟩
theorem Sp_m (hI : Iv H nr rg) (hS : Sp H nr rg f a b s t m) : ∀ x, x ∈ m → x ∉ a :: (s ++ b :: t) := by
  intro x hx hq
  have h := Sp_L hI hS
  exact (hS.2.2.2.1 x hx).2 (h.2.2.2 x ((h.2.2.1 x).mpr hq))
theorem Sp_P (hI : Iv H nr rg) (hS : Sp H nr rg f a b s t m) : (a :: (m ++ [b])).Nodup ∧ (∀ y, y ∈ a :: (m ++ [b]) → y < 9) := by
  have h := Sp_L hI hS
  have hm := Sp_m hI hS
  have hn := List.nodup_cons.mp h.1.1
  refine ⟨List.nodup_cons.mpr ⟨fun q => ?_, List.nodup_append.mpr ⟨hS.2.2.1, List.nodup_cons.mpr ⟨by simp, List.nodup_nil⟩, fun x hx y hy q => ?_⟩⟩, fun y hy => ?_⟩
  · rcases List.mem_append.mp q with q | q
    · exact hm a q (by simp)
    · rw [List.mem_singleton] at q
      exact hn.1 (by rw [q]; simp)
  · rw [List.mem_singleton] at hy
    exact hm x hx (by rw [q, hy]; simp)
  · rcases List.mem_cons.mp hy with q | q
    · rw [q]; exact h.1.2.2 a (by simp)
    · rcases List.mem_append.mp q with q | q
      · exact (hS.2.2.2.1 y q).1
      · rw [List.mem_singleton] at q
        rw [q]; exact h.1.2.2 b (by simp)
theorem Sp_off (hI : Iv H nr rg) (hS : Sp H nr rg f a b s t m) {e : Nat} (he : wk a (m ++ [b]) e = true) : H e = false := by
  have hP := Sp_P hI hS
  rcases wk_inner m a hP.1 hP.2 he with ⟨h1, h2⟩ | ⟨x, h1, h2⟩
  · rw [h2]; exact hS.2.2.2.2 h1
  · cases c : H e with
    | false => rfl
    | true => exact absurd ⟨e, c, h2⟩ (hS.2.2.2.1 x h1).2
theorem Sp_f (hI : Iv H nr rg) (hS : Sp H nr rg f a b s t m) (e : Nat) : cs (rg f) e = (wk a (s ++ [b]) e ^^ wk b (t ++ [a]) e) := by
  rw [(Sp_L hI hS).2.1 e]
  show wk a ((s ++ b :: t) ++ [a]) e = _
  rw [show (s ++ b :: t) ++ [a] = (s ++ [b]) ++ (t ++ [a]) by simp, wk_app e (s ++ [b]), lst_snoc]
theorem Sp_1 (e : Nat) : cs (a :: (s ++ b :: m.reverse)) e = (wk a (s ++ [b]) e ^^ wk a (m ++ [b]) e) := by
  show wk a ((s ++ b :: m.reverse) ++ [a]) e = _
  rw [show (s ++ b :: m.reverse) ++ [a] = (s ++ [b]) ++ (m.reverse ++ [a]) by simp, wk_app e (s ++ [b]), lst_snoc, ← wk_rev]
theorem Sp_2 (e : Nat) : cs (b :: (t ++ a :: m)) e = (wk b (t ++ [a]) e ^^ wk a (m ++ [b]) e) := by
  show wk b ((t ++ a :: m) ++ [b]) e = _
  rw [show (t ++ a :: m) ++ [b] = (t ++ [a]) ++ (m ++ [b]) by simp, wk_app e (t ++ [a]), lst_snoc]
theorem Sp_arcs (hI : Iv H nr rg) (hS : Sp H nr rg f a b s t m) : (∀ y, y ∈ a :: (s ++ [b]) → y < 9) ∧ (∀ y, y ∈ b :: (t ++ [a]) → y < 9) ∧ (a :: (s ++ [b])).Nodup ∧ (b :: (t ++ [a])).Nodup := by
  have h := (Sp_L hI hS).1
  have h9 := h.2.2
  have hn := List.nodup_cons.mp h.1
  have hn2 := List.nodup_append.mp hn.2
  have hn3 := List.nodup_cons.mp hn2.2.1
  refine ⟨fun y hy => h9 y ?_, fun y hy => h9 y ?_, ?_, ?_⟩
  · simp at hy ⊢
    rcases hy with q | q | q
    · exact Or.inl q
    · exact Or.inr (Or.inl q)
    · exact Or.inr (Or.inr (Or.inl q))
  · simp at hy ⊢
    rcases hy with q | q | q
    · exact Or.inr (Or.inr (Or.inl q))
    · exact Or.inr (Or.inr (Or.inr q))
    · exact Or.inl q
  · refine List.nodup_cons.mpr ⟨fun q => hn.1 ?_, List.nodup_append.mpr ⟨hn2.1, List.nodup_cons.mpr ⟨by simp, List.nodup_nil⟩, fun x hx y hy q => ?_⟩⟩
    · simp at q ⊢
      rcases q with q | q
      · exact Or.inl q
      · exact Or.inr (Or.inl q)
    · rw [List.mem_singleton] at hy
      exact hn2.2.2 x hx y (by rw [hy]; simp) q
  · refine List.nodup_cons.mpr ⟨fun q => ?_, List.nodup_append.mpr ⟨hn3.2, List.nodup_cons.mpr ⟨by simp, List.nodup_nil⟩, fun x hx y hy q => ?_⟩⟩
    · rcases List.mem_append.mp q with q | q
      · exact hn3.1 q
      · rw [List.mem_singleton] at q
        exact hn.1 (by rw [← q]; simp)
    · rw [List.mem_singleton] at hy
      exact hn.1 (by rw [← hy, ← q]; simp [hx])
theorem Sp_dis (hI : Iv H nr rg) (hS : Sp H nr rg f a b s t m) {e : Nat} (h1 : wk a (s ++ [b]) e = true) : wk b (t ++ [a]) e = false := by
  have h := (Sp_L hI hS).1
  have ha := Sp_arcs hI hS
  have hn := List.nodup_cons.mp h.1
  have hn2 := List.nodup_append.mp hn.2
  have hn3 := List.nodup_cons.mp hn2.2.1
  have a9 : a < 9 := h.2.2 a (by simp)
  have b9 : b < 9 := h.2.2 b (by simp)
  cases c : wk b (t ++ [a]) e with
  | false => rfl
  | true =>
    exfalso
    rcases wk_inner s a ha.2.2.1 ha.1 h1 with ⟨q1, q2⟩ | ⟨x, q1, q2⟩
    · rcases wk_inner t b ha.2.2.2 ha.2.1 c with ⟨r1, _⟩ | ⟨x, r1, r2⟩
      · have := h.2.1
        rw [q1, r1] at this
        simp at this
      · rw [q2, inc_cd a9 b9] at r2
        have n1 : x ≠ a := fun q => hn.1 (by rw [← q]; simp [r1])
        have n2 : x ≠ b := fun q => hn3.1 (by rw [← q]; exact r1)
        rw [decide_eq_false n1, decide_eq_false n2] at r2
        cases r2
    · rw [wk_off ha.2.1 (fun q => ?_) q2] at c
      · cases c
      · simp at q
        rcases q with q | q | q
        · exact hn2.2.2 x q1 b (by simp) q
        · exact hn2.2.2 x q1 x (by simp [q]) rfl
        · exact hn.1 (by rw [← q]; simp [q1])
theorem Sp_sub (hI : Iv H nr rg) (hS : Sp H nr rg f a b s t m) {e : Nat} : (wk a (s ++ [b]) e = true → H e = true) ∧ (wk b (t ++ [a]) e = true → H e = true) := by
  have k := hI.2.2.1 f hS.1 e
  rw [Sp_f hI hS] at k
  constructor
  · intro q
    exact k (by rw [q, Sp_dis hI hS q]; rfl)
  · intro q
    refine k ?_
    cases c : wk a (s ++ [b]) e with
    | false => rw [q]; rfl
    | true => rw [Sp_dis hI hS c] at q; cases q
theorem Sp_Cy (hI : Iv H nr rg) (hS : Sp H nr rg f a b s t m) : Cy (a :: (s ++ b :: m.reverse)) ∧ Cy (b :: (t ++ a :: m)) := by
  have h := (Sp_L hI hS).1
  have hm := Sp_m hI hS
  have hn := List.nodup_cons.mp h.1
  have hn2 := List.nodup_append.mp hn.2
  have hn3 := List.nodup_cons.mp hn2.2.1
  have h9 := h.2.2
  have hmb : b ∉ m := fun q => hm b q (by simp)
  have hma : a ∉ m := fun q => hm a q (by simp)
  have sub := fun e => Sp_sub hI hS (e := e)
  refine ⟨⟨?_, ?_, fun x hx => ?_⟩, ⟨?_, ?_, fun x hx => ?_⟩⟩
  · refine List.nodup_cons.mpr ⟨fun q => ?_, List.nodup_append.mpr ⟨hn2.1, List.nodup_cons.mpr ⟨by simpa using hmb, List.reverse_perm m |>.nodup_iff.mpr hS.2.2.1⟩, fun x hx y hy q => ?_⟩⟩
    · simp at q
      rcases q with q | q | q
      · exact hn.1 (by simp [q])
      · exact hn.1 (by simp [q])
      · exact hma q
    · simp at hy
      rcases hy with r | r
      · exact hn2.2.2 x hx b (by simp) (by rw [q, r])
      · exact hm y r (by rw [← q]; simp [hx])
  · simp
    rcases m with _ | ⟨c, m⟩
    · rcases s with _ | ⟨d, s⟩
      · have k := (sub (cd a b)).1 (by show (decide (cd a b = cd a b) ^^ false) = true; rw [decide_eq_true rfl]; rfl)
        rw [hS.2.2.2.2 rfl] at k
        cases k
      · simp <;> omega
    · simp <;> omega
  · simp at hx
    rcases hx with q | q | q | q
    · exact h9 x (by simp [q])
    · exact h9 x (by simp [q])
    · exact h9 x (by simp [q])
    · exact (hS.2.2.2.1 x q).1
  · refine List.nodup_cons.mpr ⟨fun q => ?_, List.nodup_append.mpr ⟨hn3.2, List.nodup_cons.mpr ⟨hma, hS.2.2.1⟩, fun x hx y hy q => ?_⟩⟩
    · simp at q
      rcases q with q | q | q
      · exact hn3.1 q
      · exact hn.1 (by simp [q])
      · exact hmb q
    · simp at hy
      rcases hy with r | r
      · exact hn.1 (by rw [← r, ← q]; simp [hx])
      · exact hm y r (by rw [← q]; simp [hx])
  · simp
    rcases m with _ | ⟨c, m⟩
    · rcases t with _ | ⟨d, t⟩
      · have k := (sub (cd a b)).2 (by show (decide (cd a b = cd b a) ^^ false) = true; rw [decide_eq_true (cd_comm a b)]; rfl)
        rw [hS.2.2.2.2 rfl] at k
        cases k
      · simp <;> omega
    · simp <;> omega
  · simp at hx
    rcases hx with q | q | q | q
    · exact h9 x (by simp [q])
    · exact h9 x (by simp [q])
    · exact h9 x (by simp [q])
    · exact (hS.2.2.2.1 x q).1
theorem Sp_VH (hI : Iv H nr rg) (hS : Sp H nr rg f a b s t m) {x : Nat} : VH (xs H (wk a (m ++ [b]))) x ↔ VH H x ∨ x ∈ m := by
  have hP := Sp_P hI hS
  have hL := Sp_L hI hS
  constructor
  · rintro ⟨e, h1, h2⟩
    change (H e ^^ wk a (m ++ [b]) e) = true at h1
    cases c : wk a (m ++ [b]) e with
    | false => rw [c, Bool.xor_false] at h1; exact Or.inl ⟨e, h1, h2⟩
    | true =>
      obtain ⟨u, v, q1, q2, q3⟩ := wk_uv c
      have : x ∈ a :: (m ++ [b]) := by
        rw [q3, inc_cd (hP.2 u q1) (hP.2 v q2)] at h2
        by_cases r : x = u
        · rw [r]; exact q1
        · by_cases r2 : x = v
          · rw [r2]; exact q2
          · rw [decide_eq_false r, decide_eq_false r2] at h2; cases h2
      simp at this
      rcases this with r | r | r
      · exact Or.inl (hL.2.2.2 x ((hL.2.2.1 x).mpr (by rw [r]; simp)))
      · exact Or.inr r
      · exact Or.inl (hL.2.2.2 x ((hL.2.2.1 x).mpr (by rw [r]; simp)))
  · rintro (⟨e, h1, h2⟩ | hx)
    · refine ⟨e, ?_, h2⟩
      show (H e ^^ wk a (m ++ [b]) e) = true
      cases c : wk a (m ++ [b]) e with
      | false => rw [h1]; rfl
      | true => rw [Sp_off hI hS c] at h1; cases h1
    · have hcy := (Sp_Cy hI hS).2
      obtain ⟨e1, _, _, q1, _, q2, _⟩ := cs_two hcy (x := x) (by simp [hx])
      refine ⟨e1, ?_, q2⟩
      show (H e1 ^^ wk a (m ++ [b]) e1) = true
      rw [Sp_2] at q1
      cases c : wk a (m ++ [b]) e1 with
      | true => rw [Sp_off hI hS c]; rfl
      | false =>
        rw [c, Bool.xor_false] at q1
        rw [(Sp_sub hI hS).2 q1]; rfl
theorem rgN_f (k : Nat) (h : k = f) : rgN nr rg f a b s t m k = a :: (s ++ b :: m.reverse) := if_pos h
theorem rgN_n (h : nr ≠ f) : rgN nr rg f a b s t m nr = b :: (t ++ a :: m) := by
  unfold rgN
  rw [if_neg h, if_pos rfl]
theorem rgN_o {k : Nat} (h1 : k ≠ f) (h2 : k ≠ nr) : rgN nr rg f a b s t m k = rg k := by
  unfold rgN
  rw [if_neg h1, if_neg h2]
/-- the ring's set after the split, by the one before -/
theorem rgN_cs (hI : Iv H nr rg) (hS : Sp H nr rg f a b s t m) (k e : Nat) (hk : k < nr) : cs (rgN nr rg f a b s t m k) e = (cs (rg k) e ^^ (decide (k = f) && (wk b (t ++ [a]) e ^^ wk a (m ++ [b]) e))) := by
  have hf := hS.1
  by_cases c : k = f
  · rw [rgN_f k c, Sp_1, c, Sp_f hI hS, decide_eq_true rfl]
    cases wk a (s ++ [b]) e <;> cases wk b (t ++ [a]) e <;> cases wk a (m ++ [b]) e <;> rfl
  · rw [rgN_o c (by omega), decide_eq_false c, Bool.false_and, Bool.xor_false]
end SPL
