/-! ===== two rings: the pieces between their common nodes ===== -/
noncomputable def cb (p : Prop) : Bool := @decide p (Classical.propDecidable p)
theorem cb_t {p : Prop} : cb p = true ↔ p := @decide_eq_true_iff p (Classical.propDecidable p)
theorem cb_f {p : Prop} : cb p = false ↔ ¬ p := by
  constructor
  · intro q r
    rw [cb_t.mpr r] at q
    cases q
  · intro q
    cases c : cb p with
    | false => rfl
    | true => exact absurd (cb_t.mp c) q
def Rc (H : Nat → Bool) (nr : Nat) (rg : Nat → List Nat) (F F' k k' : Nat) : Prop := (k < nr ∧ k ≠ F ∧ k ≠ F') ∧ (k' < nr ∧ k' ≠ F ∧ k' ≠ F') ∧ ∃ Y, Sb Y H ∧ (∀ e, Y e = true → cs (rg F) e = false ∧ cs (rg F') e = false) ∧ ∀ j, j < nr → ip Y (cs (rg j)) = (decide (j = k) ^^ decide (j = k'))
noncomputable def cl (H : Nat → Bool) (nr : Nat) (rg : Nat → List Nat) (F F' k : Nat) : Nat := Classical.epsilon (fun j => Rc H nr rg F F' k j)
noncomputable def oth (nr : Nat) (rg : Nat → List Nat) (F F' e : Nat) : Nat := Classical.epsilon (fun k => (k < nr ∧ k ≠ F ∧ k ≠ F') ∧ cs (rg k) e = true)
noncomputable def ide (H : Nat → Bool) (nr : Nat) (rg : Nat → List Nat) (F F' e : Nat) : Nat := if (cs (rg F) e && cs (rg F') e) = true then nr + e else cl H nr rg F F' (oth nr rg F F' e)
section SEG
variable {H : Nat → Bool} {nr : Nat} {rg : Nat → List Nat} {F F' : Nat}
theorem cut_val (hI : Iv H nr rg) (c : Nat → Bool) {e i j : Nat} (hi : i < nr) (hj : j < nr) (hij : i ≠ j) (hk : ∀ k, k < nr → cs (rg k) e = (decide (k = i) || decide (k = j))) : py nr (fun k => c k && cs (rg k) e) = (c i ^^ c j) := by
  rw [← py_at c nr hi, ← py_at c nr hj, ← py_xor]
  refine py_cong nr (fun k q => ?_)
  rw [hk k q]
  by_cases q1 : k = i
  · rw [decide_eq_true q1, decide_eq_false (by omega)]
    cases c k <;> rfl
  · rw [decide_eq_false q1]
    cases c k <;> cases decide (k = j) <;> rfl
theorem cut_ev (hI : Iv H nr rg) (c : Nat → Bool) : ev (fun e => py nr (fun k => c k && cs (rg k) e)) := by
  intro v
  unfold dg
  have e2 : ∀ e, (py nr (fun k => c k && cs (rg k) e) && inc v e) = py nr (fun k => c k && (cs (rg k) e && inc v e)) := by
    intro e
    rw [Bool.and_comm, ← py_and]
    refine py_cong nr (fun k _ => ?_)
    cases inc v e <;> cases c k <;> cases cs (rg k) e <;> rfl
  rw [py_cong 81 (fun e _ => e2 e), py_swap]
  refine py_false nr (fun k hk => ?_)
  rw [py_and]
  have := ev_cs (hI.1 k hk).2.2 v
  unfold dg at this
  rw [this, Bool.and_false]
theorem Rc_symm {k k' : Nat} (h : Rc H nr rg F F' k k') : Rc H nr rg F F' k' k := by
  obtain ⟨h1, h2, Y, y1, y2, y3⟩ := h
  exact ⟨h2, h1, Y, y1, y2, fun j hj => by rw [y3 j hj, Bool.xor_comm]⟩
theorem Rc_trans {k k' k'' : Nat} (h : Rc H nr rg F F' k k') (g : Rc H nr rg F F' k' k'') : Rc H nr rg F F' k k'' := by
  obtain ⟨h1, h2, Y, y1, y2, y3⟩ := h
  obtain ⟨g1, g2, Z, z1, z2, z3⟩ := g
  have mem : ∀ e, xs Y Z e = true → Y e = true ∨ Z e = true := by
    intro e he
    change (Y e ^^ Z e) = true at he
    cases c : Y e with
    | true => exact Or.inl rfl
    | false => rw [c, Bool.false_xor] at he; exact Or.inr he
  refine ⟨h1, g2, xs Y Z, fun e he => (mem e he).elim (y1 e) (z1 e), fun e he => (mem e he).elim (y2 e) (z2 e), fun j hj => ?_⟩
  rw [ip_comm, ip_xr, ip_comm _ Y, ip_comm _ Z, y3 j hj, z3 j hj]
  cases decide (j = k) <;> cases decide (j = k') <;> cases decide (j = k'') <;> rfl
theorem Rc_refl {k : Nat} (h : k < nr ∧ k ≠ F ∧ k ≠ F') : Rc H nr rg F F' k k := ⟨h, h, fun _ => false, fun _ q => absurd q Bool.false_ne_true, fun _ q => absurd q Bool.false_ne_true, fun j _ => by rw [ip_no (fun _ q => absurd q Bool.false_ne_true), Bool.xor_self]⟩
theorem two_rings (hI : Iv H nr rg) {e k k' k'' : Nat} (hk : k < nr) (hk' : k' < nr) (hk'' : k'' < nr) (h1 : cs (rg k) e = true) (h2 : cs (rg k') e = true) (h3 : cs (rg k'') e = true) (n : k ≠ k') : k'' = k ∨ k'' = k' := by
  obtain ⟨i, j, _, _, _, q⟩ := hI.2.1 e (hI.2.2.1 k hk e h1)
  rw [q k hk, Bool.or_eq_true, decide_eq_true_eq, decide_eq_true_eq] at h1
  rw [q k' hk', Bool.or_eq_true, decide_eq_true_eq, decide_eq_true_eq] at h2
  rw [q k'' hk'', Bool.or_eq_true, decide_eq_true_eq, decide_eq_true_eq] at h3
  omega
theorem Rc_edge (hI : Iv H nr rg) {k k' e : Nat} (hF : F < nr) (hF' : F' < nr) (h1 : k < nr ∧ k ≠ F ∧ k ≠ F') (h2 : k' < nr ∧ k' ≠ F ∧ k' ≠ F') (e1 : cs (rg k) e = true) (e2 : cs (rg k') e = true) : Rc H nr rg F F' k k' := by
  by_cases c : k = k'
  · rw [← c]; exact Rc_refl h1
  · have off : ∀ f, f < nr → f ≠ k → f ≠ k' → cs (rg f) e = false := by
      intro f hf n1 n2
      cases q : cs (rg f) e with
      | false => rfl
      | true =>
        rcases two_rings hI h1.1 h2.1 hf e1 e2 q c with r | r
        · exact absurd r n1
        · exact absurd r n2
    refine ⟨h1, h2, sg e, fun g hg => ?_, fun g hg => ?_, fun j hj => ?_⟩
    · rw [show g = e from of_decide_eq_true hg]; exact hI.2.2.1 k h1.1 e e1
    · rw [show g = e from of_decide_eq_true hg]; exact ⟨off F hF (Ne.symm h1.2.1) (Ne.symm h2.2.1), off F' hF' (Ne.symm h1.2.2) (Ne.symm h2.2.2)⟩
    · rw [ip_comm, ip_sg _ (cs_lt (hI.1 k h1.1).2.2 e1)]
      by_cases q1 : j = k
      · rw [q1, e1, decide_eq_true rfl, decide_eq_false c]; rfl
      · by_cases q2 : j = k'
        · rw [q2, e2, decide_eq_true rfl, decide_eq_false (fun r => c r.symm)]; rfl
        · rw [off j hj q1 q2, decide_eq_false q1, decide_eq_false q2]; rfl
theorem cl_sp {k : Nat} (h : k < nr ∧ k ≠ F ∧ k ≠ F') : Rc H nr rg F F' k (cl H nr rg F F' k) := Classical.epsilon_spec (p := fun j => Rc H nr rg F F' k j) ⟨k, Rc_refl h⟩
theorem cl_eq {k k' : Nat} (h : Rc H nr rg F F' k k') : cl H nr rg F F' k = cl H nr rg F F' k' := by
  unfold cl
  have : (fun j => Rc H nr rg F F' k j) = (fun j => Rc H nr rg F F' k' j) := funext (fun j => propext ⟨fun q => Rc_trans (Rc_symm h) q, fun q => Rc_trans h q⟩)
  rw [this]
theorem Rc_comm {k k' : Nat} (h : Rc H nr rg F F' k k') : Rc H nr rg F' F k k' := by
  obtain ⟨h1, h2, Y, y1, y2, y3⟩ := h
  exact ⟨⟨h1.1, h1.2.2, h1.2.1⟩, ⟨h2.1, h2.2.2, h2.2.1⟩, Y, y1, fun e he => (y2 e he).symm, y3⟩
theorem cl_comm (k : Nat) : cl H nr rg F F' k = cl H nr rg F' F k := by
  unfold cl
  have : (fun j => Rc H nr rg F F' k j) = (fun j => Rc H nr rg F' F k j) := funext (fun j => propext ⟨Rc_comm, Rc_comm⟩)
  rw [this]
theorem oth_comm (e : Nat) : oth nr rg F F' e = oth nr rg F' F e := by
  unfold oth
  have : (fun k => (k < nr ∧ k ≠ F ∧ k ≠ F') ∧ cs (rg k) e = true) = (fun k => (k < nr ∧ k ≠ F' ∧ k ≠ F) ∧ cs (rg k) e = true) := funext (fun k => propext ⟨fun q => ⟨⟨q.1.1, q.1.2.2, q.1.2.1⟩, q.2⟩, fun q => ⟨⟨q.1.1, q.1.2.2, q.1.2.1⟩, q.2⟩⟩)
  rw [this]
theorem ide_comm (e : Nat) : ide H nr rg F F' e = ide H nr rg F' F e := by
  unfold ide
  rw [cl_comm, oth_comm, Bool.and_comm]
/-- an edge of one of the two rings alone has one more ring -/
theorem oth_sp (hI : Iv H nr rg) (hF : F < nr) (hF' : F' < nr) (hne : F ≠ F') {e : Nat} (h : cs (rg F) e = true) (h' : cs (rg F') e = false) : (oth nr rg F F' e < nr ∧ oth nr rg F F' e ≠ F ∧ oth nr rg F F' e ≠ F') ∧ cs (rg (oth nr rg F F' e)) e = true := by
  refine Classical.epsilon_spec (p := fun k => (k < nr ∧ k ≠ F ∧ k ≠ F') ∧ cs (rg k) e = true) ?_
  obtain ⟨i, j, hi, hj, hij, q⟩ := hI.2.1 e (hI.2.2.1 F hF e h)
  have q1 := q F hF
  rw [h, eq_comm, Bool.or_eq_true, decide_eq_true_eq, decide_eq_true_eq] at q1
  have qi := q i hi
  rw [decide_eq_true rfl, Bool.true_or] at qi
  have qj := q j hj
  rw [decide_eq_true (rfl : j = j), Bool.or_true] at qj
  have n' : ∀ k, cs (rg k) e = true → k ≠ F' := fun k r w => by rw [w, h'] at r; cases r
  rcases q1 with r | r
  · exact ⟨j, ⟨hj, by omega, n' j qj⟩, qj⟩
  · exact ⟨i, ⟨hi, by omega, n' i qi⟩, qi⟩
theorem ide_one (hI : Iv H nr rg) (hF : F < nr) (hF' : F' < nr) (hne : F ≠ F') {e k : Nat} (h : cs (rg F) e = true) (hk : k < nr ∧ k ≠ F ∧ k ≠ F') (hke : cs (rg k) e = true) : ide H nr rg F F' e = cl H nr rg F F' k ∧ cs (rg F') e = false := by
  have h' : cs (rg F') e = false := by
    cases q : cs (rg F') e with
    | false => rfl
    | true =>
      rcases two_rings hI hF hk.1 hF' h hke q (Ne.symm hk.2.1) with r | r
      · exact absurd r.symm hne
      · exact absurd r.symm hk.2.2
  refine ⟨?_, h'⟩
  unfold ide
  rw [h', Bool.and_false, if_neg Bool.false_ne_true]
  have o := oth_sp hI hF hF' hne h h'
  exact cl_eq (Rc_edge hI hF hF' o.1 hk o.2 hke)
theorem cl_lt {k : Nat} (h : k < nr ∧ k ≠ F ∧ k ≠ F') : cl H nr rg F F' k < nr := (cl_sp h).2.1.1
/-- the pieces on the one ring and on the other close each other -/
theorem seg_ev (hI : Iv H nr rg) (hF : F < nr) (hF' : F' < nr) (hne : F ≠ F') (t : Nat → Bool) : ev (fun e => (cs (rg F) e && t (ide H nr rg F F' e)) ^^ (cs (rg F') e && t (ide H nr rg F F' e))) := by
  refine ev_cong (fun e => ?_) (cut_ev hI (fun k => (!decide (k = F) && !decide (k = F')) && t (cl H nr rg F F' k)))
  have cF : ((!decide (F = F) && !decide (F = F')) && t (cl H nr rg F F' F)) = false := by rw [decide_eq_true rfl]; rfl
  have cF' : ((!decide (F' = F) && !decide (F' = F')) && t (cl H nr rg F F' F')) = false := by rw [decide_eq_true (rfl : F' = F')]; simp
  have co : ∀ k, k ≠ F → k ≠ F' → ((!decide (k = F) && !decide (k = F')) && t (cl H nr rg F F' k)) = t (cl H nr rg F F' k) := by
    intro k h1 h2
    rw [decide_eq_false h1, decide_eq_false h2]; rfl
  cases h : cs (rg F) e with
  | true =>
    have hH := hI.2.2.1 F hF e h
    cases h' : cs (rg F') e with
    | true =>
      rw [cut_val hI _ hF hF' hne (e := e) (fun k hk => ?_), cF, cF']
      · rw [Bool.true_and, Bool.xor_self, Bool.xor_self]
      · by_cases q1 : k = F
        · rw [q1, h, decide_eq_true rfl]; rfl
        · by_cases q2 : k = F'
          · rw [q2, h', decide_eq_true (rfl : F' = F'), Bool.or_true]
          · rw [decide_eq_false q1, decide_eq_false q2]
            cases q : cs (rg k) e with
            | false => rfl
            | true =>
              rcases two_rings hI hF hF' hk h h' q hne with r | r
              · exact absurd r q1
              · exact absurd r q2
    | false =>
      have o := oth_sp hI hF hF' hne h h'
      have i1 := (ide_one hI hF hF' hne h o.1 o.2).1
      rw [cut_val hI _ hF o.1.1 (Ne.symm o.1.2.1) (e := e) (fun k hk => ?_), cF, co _ o.1.2.1 o.1.2.2, i1]
      · rw [Bool.true_and, Bool.false_and, Bool.xor_false, Bool.false_xor]
      · by_cases q1 : k = F
        · rw [q1, h, decide_eq_true rfl]; rfl
        · by_cases q2 : k = oth nr rg F F' e
          · rw [q2, o.2, decide_eq_true rfl, Bool.or_true]
          · rw [decide_eq_false q1, decide_eq_false q2]
            cases q : cs (rg k) e with
            | false => rfl
            | true =>
              rcases two_rings hI hF o.1.1 hk h o.2 q (Ne.symm o.1.2.1) with r | r
              · exact absurd r q1
              · exact absurd r q2
  | false =>
    cases h' : cs (rg F') e with
    | true =>
      have o := oth_sp hI hF' hF (Ne.symm hne) h' h
      have i1 := (ide_one hI hF' hF (Ne.symm hne) h' o.1 o.2).1
      rw [← ide_comm, ← cl_comm] at i1
      rw [cut_val hI _ hF' o.1.1 (Ne.symm o.1.2.1) (e := e) (fun k hk => ?_), cF', co _ o.1.2.2 o.1.2.1, i1]
      · rw [Bool.true_and, Bool.false_and, Bool.false_xor]
      · by_cases q1 : k = F'
        · rw [q1, h', decide_eq_true rfl]; rfl
        · by_cases q2 : k = oth nr rg F' F e
          · rw [q2, o.2, decide_eq_true rfl, Bool.or_true]
          · rw [decide_eq_false q1, decide_eq_false q2]
            cases q : cs (rg k) e with
            | false => rfl
            | true =>
              rcases two_rings hI hF' o.1.1 hk h' o.2 q (Ne.symm o.1.2.1) with r | r
              · exact absurd r q1
              · exact absurd r q2
    | false =>
      rw [Bool.false_and, Bool.xor_self]
      cases hH : H e with
      | false =>
        refine py_false nr (fun k hk => ?_)
        cases q : cs (rg k) e with
        | false => rw [Bool.and_false]
        | true => rw [hI.2.2.1 k hk e q] at hH; cases hH
      | true =>
        obtain ⟨i, j, hi, hj, hij, q⟩ := hI.2.1 e hH
        have qi := q i hi
        rw [decide_eq_true rfl, Bool.true_or] at qi
        have qj := q j hj
        rw [decide_eq_true (rfl : j = j), Bool.or_true] at qj
        have n : ∀ k, cs (rg k) e = true → k ≠ F ∧ k ≠ F' := fun k r => ⟨fun w => (by rw [w, h] at r; cases r), fun w => (by rw [w, h'] at r; cases r)⟩
        rw [cut_val hI _ hi hj hij q, co i (n i qi).1 (n i qi).2, co j (n j qj).1 (n j qj).2, cl_eq (Rc_edge hI hF hF' ⟨hi, n i qi⟩ ⟨hj, n j qj⟩ qi qj), Bool.xor_self]
/-- two edges of one piece cut the ring, and not the other ring -/
theorem seg_cut (hI : Iv H nr rg) (hF : F < nr) (hF' : F' < nr) (hne : F ≠ F') {e1 e2 : Nat} (h1 : cs (rg F) e1 = true) (h2 : cs (rg F) e2 = true) (n : e1 ≠ e2) (hi : ide H nr rg F F' e1 = ide H nr rg F F' e2) : ∃ A, (∀ e, cs (rg F) e = true → dl A e = (decide (e = e1) || decide (e = e2))) ∧ ∀ e, cs (rg F') e = true → dl A e = false := by
  have n1 : cs (rg F') e1 = false ∧ cs (rg F') e2 = false := by
    unfold ide at hi
    rw [h1, h2, Bool.true_and, Bool.true_and] at hi
    cases q1 : cs (rg F') e1 with
    | false =>
      cases q2 : cs (rg F') e2 with
      | false => exact ⟨rfl, rfl⟩
      | true =>
        rw [q1, q2, if_neg Bool.false_ne_true, if_pos rfl] at hi
        have := cl_lt (H := H) (rg := rg) (oth_sp hI hF hF' hne h1 q1).1
        omega
    | true =>
      cases q2 : cs (rg F') e2 with
      | false =>
        rw [q1, q2, if_neg Bool.false_ne_true, if_pos rfl] at hi
        have := cl_lt (H := H) (rg := rg) (oth_sp hI hF hF' hne h2 q2).1
        omega
      | true =>
        rw [q1, q2, if_pos rfl, if_pos rfl] at hi
        omega
  have o1 := oth_sp hI hF hF' hne h1 n1.1
  have o2 := oth_sp hI hF hF' hne h2 n1.2
  rw [(ide_one hI hF hF' hne h1 o1.1 o1.2).1, (ide_one hI hF hF' hne h2 o2.1 o2.2).1] at hi
  have hR : Rc H nr rg F F' (oth nr rg F F' e1) (oth nr rg F F' e2) := by
    have r1 := cl_sp (H := H) (rg := rg) o1.1
    have r2 := cl_sp (H := H) (rg := rg) o2.1
    rw [hi] at r1
    exact Rc_trans r1 (Rc_symm r2)
  obtain ⟨_, _, Y, y1, y2, y3⟩ := hR
  have l1 := cs_lt (hI.1 F hF).2.2 h1
  have l2 := cs_lt (hI.1 F hF).2.2 h2
  have ring1 : ∀ (e : Nat), cs (rg F) e = true → cs (rg F') e = false → (oth nr rg F F' e < nr ∧ oth nr rg F F' e ≠ F ∧ oth nr rg F F' e ≠ F') ∧ cs (rg (oth nr rg F F' e)) e = true → ∀ j, j < nr → j ≠ F → cs (rg j) e = decide (j = oth nr rg F F' e) := by
    intro e w1 w2 o j hj hjF
    by_cases q : j = oth nr rg F F' e
    · rw [decide_eq_true q, q, o.2]
    · rw [decide_eq_false q]
      cases r : cs (rg j) e with
      | false => rfl
      | true =>
        rcases two_rings hI hF o.1.1 hj w1 o.2 r (Ne.symm o.1.2.1) with w | w
        · exact absurd w hjF
        · exact absurd w q
  obtain ⟨A, hA⟩ := hI.2.2.2.2.1 (xs Y (xs (sg e1) (sg e2))) (fun j hj => by
    rw [ip_comm, ip_xr, ip_xr, ip_sg _ l1, ip_sg _ l2, ip_comm, y3 j hj]
    by_cases q : j = F
    · rw [q, h1, h2, decide_eq_false (Ne.symm o1.1.2.1), decide_eq_false (Ne.symm o2.1.2.1)]; rfl
    · rw [ring1 e1 h1 n1.1 o1 j hj q, ring1 e2 h2 n1.2 o2 j hj q]
      cases decide (j = oth nr rg F F' e1) <;> cases decide (j = oth nr rg F F' e2) <;> rfl)
  refine ⟨A, fun e he => ?_, fun e he => ?_⟩
  · rw [← hA e (hI.2.2.1 F hF e he)]
    show (Y e ^^ (decide (e = e1) ^^ decide (e = e2))) = _
    have : Y e = false := by
      cases q : Y e with
      | false => rfl
      | true => have := (y2 e q).1; rw [he] at this; cases this
    rw [this, Bool.false_xor]
    by_cases q1 : e = e1
    · rw [decide_eq_true q1, decide_eq_false (by omega)]; rfl
    · rw [decide_eq_false q1, Bool.false_xor, Bool.false_or]
  · rw [← hA e (hI.2.2.1 F' hF' e he)]
    show (Y e ^^ (decide (e = e1) ^^ decide (e = e2))) = false
    have : Y e = false := by
      cases q : Y e with
      | false => rfl
      | true => have := (y2 e q).2; rw [he] at this; cases this
    rw [this, decide_eq_false (fun q => by rw [q, n1.1] at he; cases he), decide_eq_false (fun q => by rw [q, n1.2] at he; cases he)]
    rfl
end SEG
