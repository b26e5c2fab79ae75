/-! ===== duals: fewer edges, parts, nodes of one or two edges, few edges ===== -/
theorem Pl_cong {G G' : Nat → Bool} (h : ∀ e, G e = G' e) (hG : Pl G) : Pl G' := by
  have : G = G' := funext h
  rw [← this]; exact hG
theorem Pl_del {G G' : Nat → Bool} (hs : Sb G' G) (h : Pl G) : Pl G' := by
  obtain ⟨Φ, l, r, h⟩ := h
  refine ⟨Quot (fun p q : Φ => ∃ e, G e = true ∧ G' e = false ∧ p = l e ∧ q = r e), fun e => Quot.mk _ (l e), fun e => Quot.mk _ (r e), fun X => ⟨fun ⟨h1, h2⟩ => ?_, fun ⟨c, hc⟩ => ?_⟩⟩
  · obtain ⟨c, hc⟩ := (h X).mp ⟨fun e he => hs e (h1 e he), h2⟩
    have off : ∀ e, G' e = false → X e = false := by
      intro e q
      cases w : X e with
      | false => rfl
      | true => rw [h1 e w] at q; cases q
    refine ⟨Quot.lift c (fun p q ⟨e, q1, q2, q3, q4⟩ => ?_), fun e => ?_⟩
    · have k := hc e
      rw [off e q2, q1, Bool.true_and] at k
      rw [q3, q4]
      cases g1 : c (l e) <;> cases g2 : c (r e) <;> rw [g1, g2] at k <;> first | rfl | cases k
    · show X e = (G' e && (c (l e) ^^ c (r e)))
      cases w : G' e with
      | true => rw [hc e, hs e w]
      | false => rw [off e w]; rfl
  · have hX : ∀ e, X e = (G e && (c (Quot.mk _ (l e)) ^^ c (Quot.mk _ (r e)))) := by
      intro e
      rw [hc e]
      cases w : G' e with
      | true => rw [hs e w]
      | false =>
        cases w2 : G e with
        | false => rfl
        | true =>
          have : (Quot.mk (fun p q : Φ => ∃ e, G e = true ∧ G' e = false ∧ p = l e ∧ q = r e) (l e)) = Quot.mk _ (r e) := Quot.sound ⟨e, w2, w, rfl, rfl⟩
          rw [this, Bool.xor_self]; rfl
    have k := (h X).mpr ⟨fun p => c (Quot.mk _ p), hX⟩
    refine ⟨fun e he => ?_, k.2⟩
    rw [hc e, Bool.and_eq_true] at he
    exact he.1
/-- no cycle: any graph without even parts -/
theorem Pl_no {G : Nat → Bool} (h : ∀ X, Sb X G → ev X → ∀ e, X e = false) : Pl G := by
  refine ⟨Unit, fun _ => (), fun _ => (), fun X => ⟨fun ⟨h1, h2⟩ => ⟨fun _ => false, fun e => ?_⟩, fun ⟨c, hc⟩ => ?_⟩⟩
  · rw [h X h1 h2 e, Bool.xor_self, Bool.and_false]
  · have : ∀ e, X e = false := fun e => by rw [hc e, Bool.xor_self, Bool.and_false]
    exact ⟨fun e he => absurd he (by rw [this e]; exact Bool.false_ne_true), ev_no this⟩
/-- two parts that no even set joins -/
theorem Pl_sum {G A : Nat → Bool} (hs : Sb A G) (hA : ∀ X, Sb X G → ev X → ev (fun e => X e && A e)) (h1 : Pl A) (h2 : Pl (fun e => G e && !A e)) : Pl G := by
  obtain ⟨Φ, l, r, p⟩ := h1
  obtain ⟨Ψ, l', r', p'⟩ := h2
  refine ⟨Φ ⊕ Ψ, fun e => bif A e then Sum.inl (l e) else Sum.inr (l' e), fun e => bif A e then Sum.inl (r e) else Sum.inr (r' e), fun X => ⟨fun ⟨x1, x2⟩ => ?_, fun ⟨c, hc⟩ => ?_⟩⟩
  · have xA := hA X x1 x2
    obtain ⟨c, hc⟩ := (p (fun e => X e && A e)).mp ⟨fun e he => by rw [Bool.and_eq_true] at he; exact he.2, xA⟩
    obtain ⟨c', hc'⟩ := (p' (fun e => X e && !A e)).mp ⟨fun e he => by
      rw [Bool.and_eq_true] at he
      show (G e && !A e) = true
      rw [x1 e he.1, he.2]; rfl, ev_cong (fun e => by
      show (X e ^^ (X e && A e)) = (X e && !A e)
      cases X e <;> cases A e <;> rfl) (ev_xs x2 xA)⟩
    refine ⟨Sum.elim c c', fun e => ?_⟩
    have k := hc e
    have k' := hc' e
    show X e = (G e && (Sum.elim c c' (bif A e then Sum.inl (l e) else Sum.inr (l' e)) ^^ Sum.elim c c' (bif A e then Sum.inl (r e) else Sum.inr (r' e))))
    cases w : A e with
    | true =>
      rw [w, Bool.and_true] at k
      rw [k, hs e w]; rfl
    | false =>
      change (X e && !A e) = ((G e && !A e) && (c' (l' e) ^^ c' (r' e))) at k'
      rw [w, Bool.not_false, Bool.and_true, Bool.and_true] at k'
      rw [k']; rfl
  · have y := (p (fun e => A e && (c (Sum.inl (l e)) ^^ c (Sum.inl (r e))))).mpr ⟨fun q => c (Sum.inl q), fun _ => rfl⟩
    have y' := (p' (fun e => (G e && !A e) && (c (Sum.inr (l' e)) ^^ c (Sum.inr (r' e))))).mpr ⟨fun q => c (Sum.inr q), fun _ => rfl⟩
    refine ⟨fun e he => ?_, ev_cong (fun e => ?_) (ev_xs y.2 y'.2)⟩
    · rw [hc e, Bool.and_eq_true] at he
      exact he.1
    · rw [hc e]
      show ((A e && (c (Sum.inl (l e)) ^^ c (Sum.inl (r e)))) ^^ ((G e && !A e) && (c (Sum.inr (l' e)) ^^ c (Sum.inr (r' e))))) = (G e && (c (bif A e then Sum.inl (l e) else Sum.inr (l' e)) ^^ c (bif A e then Sum.inl (r e) else Sum.inr (r' e))))
      cases w : A e with
      | true =>
        rw [hs e w]
        show ((true && (c (Sum.inl (l e)) ^^ c (Sum.inl (r e)))) ^^ ((true && !true) && (c (Sum.inr (l' e)) ^^ c (Sum.inr (r' e))))) = (true && (c (Sum.inl (l e)) ^^ c (Sum.inl (r e))))
        cases c (Sum.inl (l e)) <;> cases c (Sum.inl (r e)) <;> rfl
      | false =>
        show ((false && (c (Sum.inl (l e)) ^^ c (Sum.inl (r e)))) ^^ ((G e && !false) && (c (Sum.inr (l' e)) ^^ c (Sum.inr (r' e))))) = (G e && (c (Sum.inr (l' e)) ^^ c (Sum.inr (r' e))))
        cases G e <;> cases c (Sum.inr (l' e)) <;> cases c (Sum.inr (r' e)) <;> rfl
/-- the triangle over a node with two edges -/
def tri (v a b : Nat) : Nat → Bool := xs (sg (cd v a)) (xs (sg (cd v b)) (sg (cd a b)))
theorem tri_ev {v a b : Nat} (hv : v < 9) (ha : a < 9) (hb : b < 9) : ev (tri v a b) := by
  intro x
  unfold tri
  rw [dg_xs, dg_xs, dg_sg x (cd_lt hv ha), dg_sg x (cd_lt hv hb), dg_sg x (cd_lt ha hb), inc_cd hv ha, inc_cd hv hb, inc_cd ha hb]
  cases decide (x = v) <;> cases decide (x = a) <;> cases decide (x = b) <;> rfl
section DEG
variable {G : Nat → Bool} {v a b : Nat}
theorem tri_at (hv : v < 9) (ha : a < 9) (hb : b < 9) (hva : v ≠ a) (hvb : v ≠ b) (hab : a ≠ b) : cd v a ≠ cd v b ∧ cd v a ≠ cd a b ∧ cd v b ≠ cd a b ∧ tri v a b (cd v a) = true ∧ tri v a b (cd v b) = true ∧ tri v a b (cd a b) = true ∧ ∀ e, e ≠ cd v a → e ≠ cd v b → e ≠ cd a b → tri v a b e = false := by
  have n1 : cd v a ≠ cd v b := fun q => by rcases cd_inj hv ha hv hb q with r | r <;> omega
  have n2 : cd v a ≠ cd a b := fun q => by rcases cd_inj hv ha ha hb q with r | r <;> omega
  have n3 : cd v b ≠ cd a b := fun q => by rcases cd_inj hv hb ha hb q with r | r <;> omega
  refine ⟨n1, n2, n3, ?_, ?_, ?_, fun e h1 h2 h3 => ?_⟩
  · show (decide (cd v a = cd v a) ^^ (decide (cd v a = cd v b) ^^ decide (cd v a = cd a b))) = true
    rw [decide_eq_true rfl, decide_eq_false n1, decide_eq_false n2]; rfl
  · show (decide (cd v b = cd v a) ^^ (decide (cd v b = cd v b) ^^ decide (cd v b = cd a b))) = true
    rw [decide_eq_true rfl, decide_eq_false (Ne.symm n1), decide_eq_false n3]; rfl
  · show (decide (cd a b = cd v a) ^^ (decide (cd a b = cd v b) ^^ decide (cd a b = cd a b))) = true
    rw [decide_eq_true rfl, decide_eq_false (Ne.symm n2), decide_eq_false (Ne.symm n3)]; rfl
  · show (decide (e = cd v a) ^^ (decide (e = cd v b) ^^ decide (e = cd a b))) = false
    rw [decide_eq_false h1, decide_eq_false h2, decide_eq_false h3]; rfl
/-- a node with two edges: an even set has both or none -/
theorem deg2 (hv : v < 9) (ha : a < 9) (hb : b < 9) (hva : v ≠ a) (hvb : v ≠ b) (hab : a ≠ b) (hG : ∀ e, G e = true → inc v e = true → e = cd v a ∨ e = cd v b) {X : Nat → Bool} (hs : Sb X G) (hX : ev X) : X (cd v a) = X (cd v b) := by
  have t := tri_at hv ha hb hva hvb hab
  have d : dg v X = dg v (xs (fun e => decide (e = cd v a) && X (cd v a)) (fun e => decide (e = cd v b) && X (cd v b))) := by
    refine dg_cong (fun e _ hi => ?_)
    show X e = ((decide (e = cd v a) && X (cd v a)) ^^ (decide (e = cd v b) && X (cd v b)))
    by_cases c1 : e = cd v a
    · rw [c1, decide_eq_true rfl, decide_eq_false t.1, Bool.true_and, Bool.false_and, Bool.xor_false]
    · by_cases c2 : e = cd v b
      · rw [c2, decide_eq_true rfl, decide_eq_false (Ne.symm t.1), Bool.true_and, Bool.false_and, Bool.false_xor]
      · rw [decide_eq_false c1, decide_eq_false c2]
        cases q : X e with
        | false => rfl
        | true =>
          rcases hG e (hs e q) hi with r | r
          · exact absurd r c1
          · exact absurd r c2
  rw [hX v, dg_xs, dg_sc v (cd_lt hv ha), dg_sc v (cd_lt hv hb), inc_cd hv ha, inc_cd hv hb, decide_eq_true rfl, decide_eq_false hva, decide_eq_false hvb] at d
  cases g1 : X (cd v a) <;> cases g2 : X (cd v b) <;> rw [g1, g2] at d <;> first | rfl | cases d
/-- the edge that bridges a node over -/
def brg (G : Nat → Bool) (v a b : Nat) : Nat → Bool := fun e => (G e && (!decide (e = cd v a) && !decide (e = cd v b))) || decide (e = cd a b)
theorem brg_at (hv : v < 9) (ha : a < 9) (hb : b < 9) (hva : v ≠ a) (hvb : v ≠ b) (hab : a ≠ b) : brg G v a b (cd v a) = false ∧ brg G v a b (cd v b) = false ∧ brg G v a b (cd a b) = true ∧ ∀ e, e ≠ cd v a → e ≠ cd v b → e ≠ cd a b → brg G v a b e = G e := by
  have t := tri_at hv ha hb hva hvb hab
  unfold brg
  refine ⟨?_, ?_, ?_, fun e h1 h2 h3 => ?_⟩
  · rw [decide_eq_true rfl, decide_eq_false t.2.1]; simp
  · rw [decide_eq_true (rfl : cd v b = cd v b), decide_eq_false t.2.2.1]; simp
  · rw [decide_eq_true (rfl : cd a b = cd a b), Bool.or_true]
  · rw [decide_eq_false h1, decide_eq_false h2, decide_eq_false h3]; cases G e <;> rfl
/-- X over the bridged graph, from X over the graph, and back: the triangle is added -/
theorem Pl_brg (hv : v < 9) (ha : a < 9) (hb : b < 9) (hva : v ≠ a) (hvb : v ≠ b) (hab : a ≠ b) (h1 : G (cd v a) = true) (h2 : G (cd v b) = true) (hG : ∀ e, G e = true → inc v e = true → e = cd v a ∨ e = cd v b) : Pl G ↔ Pl (brg G v a b) := by
  have t := tri_at hv ha hb hva hvb hab
  have q := brg_at (G := G) hv ha hb hva hvb hab
  have tev := tri_ev hv ha hb
  have tc : ∀ z : Bool, ev (fun e => z && tri v a b e) := by
    intro z
    cases z with
    | false => exact ev_no (fun _ => rfl)
    | true => exact ev_cong (fun _ => (Bool.true_and _).symm) tev
  constructor
  · intro hP
    cases hg : G (cd a b) with
    | true =>
      refine Pl_del (fun e he => ?_) hP
      by_cases c1 : e = cd v a
      · rw [c1, q.1] at he; cases he
      · by_cases c2 : e = cd v b
        · rw [c2, q.2.1] at he; cases he
        · by_cases c3 : e = cd a b
          · rw [c3]; exact hg
          · rw [q.2.2.2 e c1 c2 c3] at he; exact he
    | false =>
      obtain ⟨Φ, l, r, p⟩ := hP
      refine ⟨Φ, fun e => if e = cd a b then l (cd v a) else l e, fun e => if e = cd a b then r (cd v a) else r e, fun X => ⟨fun ⟨x1, x2⟩ => ?_, fun ⟨c, hc⟩ => ?_⟩⟩
      · obtain ⟨c, hc⟩ := (p (xs X (fun e => X (cd a b) && tri v a b e))).mp ⟨fun e he => by
          change (X e ^^ (X (cd a b) && tri v a b e)) = true at he
          by_cases c1 : e = cd v a
          · rw [c1]; exact h1
          · by_cases c2 : e = cd v b
            · rw [c2]; exact h2
            · by_cases c3 : e = cd a b
              · rw [c3, t.2.2.2.2.2.1] at he
                cases w : X (cd a b) <;> rw [w] at he <;> cases he
              · rw [t.2.2.2.2.2.2 e c1 c2 c3, Bool.and_false, Bool.xor_false] at he
                rw [← q.2.2.2 e c1 c2 c3]; exact x1 e he, ev_xs x2 (tc _)⟩
        refine ⟨c, fun e => ?_⟩
        dsimp only
        have k := hc e
        change (X e ^^ (X (cd a b) && tri v a b e)) = _ at k
        have off : ∀ e, brg G v a b e = false → X e = false := fun e w => by
          cases z : X e with
          | false => rfl
          | true => rw [x1 e z] at w; cases w
        by_cases c1 : e = cd v a
        · rw [c1, q.1, off _ q.1]; rfl
        · by_cases c2 : e = cd v b
          · rw [c2, q.2.1, off _ q.2.1]; rfl
          · by_cases c3 : e = cd a b
            · rw [if_pos c3, if_pos c3, c3, q.2.2.1, Bool.true_and]
              have k1 := hc (cd v a)
              change (X (cd v a) ^^ (X (cd a b) && tri v a b (cd v a))) = _ at k1
              rw [off _ q.1, t.2.2.2.1, h1, Bool.and_true, Bool.false_xor, Bool.true_and] at k1
              exact k1
            · rw [if_neg c3, if_neg c3, q.2.2.2 e c1 c2 c3]
              rw [t.2.2.2.2.2.2 e c1 c2 c3, Bool.and_false, Bool.xor_false] at k
              exact k
      · have y := (p (fun e => G e && (c (l e) ^^ c (r e)))).mpr ⟨c, fun _ => rfl⟩
        have yd := deg2 hv ha hb hva hvb hab hG y.1 y.2
        rw [h1, h2, Bool.true_and, Bool.true_and] at yd
        refine ⟨fun e he => by rw [hc e, Bool.and_eq_true] at he; exact he.1, ev_cong (fun e => ?_) (ev_xs y.2 (tc (c (l (cd v a)) ^^ c (r (cd v a)))))⟩
        rw [hc e]
        show ((G e && (c (l e) ^^ c (r e))) ^^ ((c (l (cd v a)) ^^ c (r (cd v a))) && tri v a b e)) = (brg G v a b e && (c (if e = cd a b then l (cd v a) else l e) ^^ c (if e = cd a b then r (cd v a) else r e)))
        by_cases c1 : e = cd v a
        · rw [c1, q.1, h1, t.2.2.2.1]
          cases (c (l (cd v a)) ^^ c (r (cd v a))) <;> rfl
        · by_cases c2 : e = cd v b
          · rw [c2, q.2.1, h2, t.2.2.2.2.1, yd]
            cases (c (l (cd v b)) ^^ c (r (cd v b))) <;> rfl
          · by_cases c3 : e = cd a b
            · rw [if_pos c3, if_pos c3, c3, q.2.2.1, hg, t.2.2.2.2.2.1]
              cases (c (l (cd v a)) ^^ c (r (cd v a))) <;> rfl
            · rw [if_neg c3, if_neg c3, q.2.2.2 e c1 c2 c3, t.2.2.2.2.2.2 e c1 c2 c3, Bool.and_false, Bool.xor_false]
  · intro hP
    obtain ⟨Φ, l, r, p⟩ := hP
    -- over the graph: x1 with the triangle added lies over the bridged graph
    have down : ∀ X, Sb X G → ev X → ∀ z : Bool, z = X (cd v a) → Sb (xs X (fun e => z && tri v a b e)) (brg G v a b) := by
      intro X x1 x2 z hz e he
      change (X e ^^ (z && tri v a b e)) = true at he
      by_cases c1 : e = cd v a
      · rw [c1, t.2.2.2.1, ← hz] at he
        cases z <;> cases he
      · by_cases c2 : e = cd v b
        · rw [c2, t.2.2.2.2.1, ← deg2 hv ha hb hva hvb hab hG x1 x2, ← hz] at he
          cases z <;> cases he
        · by_cases c3 : e = cd a b
          · rw [c3]; exact q.2.2.1
          · rw [t.2.2.2.2.2.2 e c1 c2 c3, Bool.and_false, Bool.xor_false] at he
            rw [q.2.2.2 e c1 c2 c3]; exact x1 e he
    cases hg : G (cd a b) with
    | false =>
      refine ⟨Φ, fun e => if e = cd v a ∨ e = cd v b then l (cd a b) else l e, fun e => if e = cd v a ∨ e = cd v b then r (cd a b) else r e, fun X => ⟨fun ⟨x1, x2⟩ => ?_, fun ⟨c, hc⟩ => ?_⟩⟩
      · obtain ⟨c, hc⟩ := (p (xs X (fun e => X (cd v a) && tri v a b e))).mp ⟨down X x1 x2 _ rfl, ev_xs x2 (tc _)⟩
        have kg := hc (cd a b)
        change (X (cd a b) ^^ (X (cd v a) && tri v a b (cd a b))) = _ at kg
        have xg : X (cd a b) = false := by
          cases z : X (cd a b) with
          | false => rfl
          | true => rw [x1 _ z] at hg; cases hg
        rw [xg, t.2.2.2.2.2.1, q.2.2.1, Bool.and_true, Bool.false_xor, Bool.true_and] at kg
        refine ⟨c, fun e => ?_⟩
        dsimp only
        have k := hc e
        change (X e ^^ (X (cd v a) && tri v a b e)) = _ at k
        by_cases c1 : e = cd v a
        · rw [if_pos (Or.inl c1), if_pos (Or.inl c1), c1, h1, Bool.true_and]; exact kg
        · by_cases c2 : e = cd v b
          · rw [if_pos (Or.inr c2), if_pos (Or.inr c2), c2, h2, Bool.true_and, ← deg2 hv ha hb hva hvb hab hG x1 x2]; exact kg
          · rw [if_neg (fun w => w.elim c1 c2), if_neg (fun w => w.elim c1 c2)]
            by_cases c3 : e = cd a b
            · rw [c3, xg, hg]; rfl
            · rw [t.2.2.2.2.2.2 e c1 c2 c3, Bool.and_false, Bool.xor_false, q.2.2.2 e c1 c2 c3] at k
              exact k
      · have y := (p (fun e => brg G v a b e && (c (l e) ^^ c (r e)))).mpr ⟨c, fun _ => rfl⟩
        refine ⟨fun e he => by rw [hc e, Bool.and_eq_true] at he; exact he.1, ev_cong (fun e => ?_) (ev_xs y.2 (tc (c (l (cd a b)) ^^ c (r (cd a b)))))⟩
        rw [hc e]
        show ((brg G v a b e && (c (l e) ^^ c (r e))) ^^ ((c (l (cd a b)) ^^ c (r (cd a b))) && tri v a b e)) = (G e && (c (if e = cd v a ∨ e = cd v b then l (cd a b) else l e) ^^ c (if e = cd v a ∨ e = cd v b then r (cd a b) else r e)))
        by_cases c1 : e = cd v a
        · rw [if_pos (Or.inl c1), if_pos (Or.inl c1), c1, q.1, h1, t.2.2.2.1]
          cases (c (l (cd a b)) ^^ c (r (cd a b))) <;> rfl
        · by_cases c2 : e = cd v b
          · rw [if_pos (Or.inr c2), if_pos (Or.inr c2), c2, q.2.1, h2, t.2.2.2.2.1]
            cases (c (l (cd a b)) ^^ c (r (cd a b))) <;> rfl
          · rw [if_neg (fun w => w.elim c1 c2), if_neg (fun w => w.elim c1 c2)]
            by_cases c3 : e = cd a b
            · rw [c3, q.2.2.1, hg, t.2.2.2.2.2.1]
              cases (c (l (cd a b)) ^^ c (r (cd a b))) <;> rfl
            · rw [q.2.2.2 e c1 c2 c3, t.2.2.2.2.2.2 e c1 c2 c3, Bool.and_false, Bool.xor_false]
    | true =>
      refine ⟨Option Φ, fun e => if e = cd v a ∨ e = cd v b then none else some (l e), fun e => if e = cd v a ∨ e = cd v b then some (r (cd a b)) else if e = cd a b then none else some (r e), fun X => ⟨fun ⟨x1, x2⟩ => ?_, fun ⟨c, hc⟩ => ?_⟩⟩
      · obtain ⟨c, hc⟩ := (p (xs X (fun e => X (cd v a) && tri v a b e))).mp ⟨down X x1 x2 _ rfl, ev_xs x2 (tc _)⟩
        have kg := hc (cd a b)
        change (X (cd a b) ^^ (X (cd v a) && tri v a b (cd a b))) = _ at kg
        rw [t.2.2.2.2.2.1, q.2.2.1, Bool.and_true, Bool.true_and] at kg
        refine ⟨fun o => o.elim (c (r (cd a b)) ^^ X (cd v a)) c, fun e => ?_⟩
        dsimp only
        have k := hc e
        change (X e ^^ (X (cd v a) && tri v a b e)) = _ at k
        by_cases c1 : e = cd v a
        · rw [if_pos (Or.inl c1), if_pos (Or.inl c1), c1, h1]
          show X (cd v a) = (true && ((c (r (cd a b)) ^^ X (cd v a)) ^^ c (r (cd a b))))
          cases X (cd v a) <;> cases c (r (cd a b)) <;> rfl
        · by_cases c2 : e = cd v b
          · rw [if_pos (Or.inr c2), if_pos (Or.inr c2), c2, h2, ← deg2 hv ha hb hva hvb hab hG x1 x2]
            show X (cd v a) = (true && ((c (r (cd a b)) ^^ X (cd v a)) ^^ c (r (cd a b))))
            cases X (cd v a) <;> cases c (r (cd a b)) <;> rfl
          · rw [if_neg (fun w => w.elim c1 c2), if_neg (fun w => w.elim c1 c2)]
            by_cases c3 : e = cd a b
            · rw [if_pos c3, c3, hg]
              show X (cd a b) = (true && (c (l (cd a b)) ^^ (c (r (cd a b)) ^^ X (cd v a))))
              cases g1 : X (cd a b) <;> cases g2 : X (cd v a) <;> cases g3 : c (l (cd a b)) <;> cases g4 : c (r (cd a b)) <;> rw [g1, g2, g3, g4] at kg <;> first | rfl | cases kg
            · rw [if_neg c3]
              rw [t.2.2.2.2.2.2 e c1 c2 c3, Bool.and_false, Bool.xor_false, q.2.2.2 e c1 c2 c3] at k
              exact k
      · have y := (p (fun e => brg G v a b e && (c (some (l e)) ^^ c (some (r e))))).mpr ⟨fun z => c (some z), fun _ => rfl⟩
        refine ⟨fun e he => by rw [hc e, Bool.and_eq_true] at he; exact he.1, ev_cong (fun e => ?_) (ev_xs y.2 (tc (c none ^^ c (some (r (cd a b))))))⟩
        rw [hc e]
        show ((brg G v a b e && (c (some (l e)) ^^ c (some (r e)))) ^^ ((c none ^^ c (some (r (cd a b)))) && tri v a b e)) = (G e && (c (if e = cd v a ∨ e = cd v b then none else some (l e)) ^^ c (if e = cd v a ∨ e = cd v b then some (r (cd a b)) else if e = cd a b then none else some (r e))))
        by_cases c1 : e = cd v a
        · rw [if_pos (Or.inl c1), if_pos (Or.inl c1), c1, q.1, h1, t.2.2.2.1]
          cases c none <;> cases c (some (r (cd a b))) <;> rfl
        · by_cases c2 : e = cd v b
          · rw [if_pos (Or.inr c2), if_pos (Or.inr c2), c2, q.2.1, h2, t.2.2.2.2.1]
            cases c none <;> cases c (some (r (cd a b))) <;> rfl
          · rw [if_neg (fun w => w.elim c1 c2), if_neg (fun w => w.elim c1 c2)]
            by_cases c3 : e = cd a b
            · rw [if_pos c3, c3, q.2.2.1, hg, t.2.2.2.2.2.1]
              cases c none <;> cases c (some (r (cd a b))) <;> cases c (some (l (cd a b))) <;> rfl
            · rw [if_neg c3, q.2.2.2 e c1 c2 c3, t.2.2.2.2.2.2 e c1 c2 c3, Bool.and_false, Bool.xor_false]
/-- a node with one edge -/
theorem Pl_leaf {e0 : Nat} (hi : inc v e0 = true) (h81 : e0 < 81) (h0 : G e0 = true) (hG : ∀ e, G e = true → inc v e = true → e = e0) : Pl G ↔ Pl (fun e => G e && !decide (e = e0)) := by
  have no : ∀ X, Sb X G → ev X → X e0 = false := by
    intro X h1 h2
    have d : dg v X = dg v (fun e => decide (e = e0) && X e0) := by
      refine dg_cong (fun e _ hie => ?_)
      show X e = (decide (e = e0) && X e0)
      by_cases c : e = e0
      · rw [c, decide_eq_true rfl, Bool.true_and]
      · rw [decide_eq_false c]
        cases q : X e with
        | false => rfl
        | true => exact absurd (hG e (h1 e q) hie) c
    rw [h2 v, dg_sc v h81, hi, Bool.and_true] at d
    exact d.symm
  constructor
  · exact Pl_del (fun e he => by rw [Bool.and_eq_true] at he; exact he.1)
  · intro h
    refine Pl_sum (A := sg e0) (fun e he => by rw [show e = e0 from of_decide_eq_true he]; exact h0) (fun X h1 h2 => ev_no (fun e => ?_)) (Pl_no (fun X h1 h2 e => ?_)) h
    · by_cases c : e = e0
      · rw [c, no X h1 h2]; rfl
      · show (X e && decide (e = e0)) = false
        rw [decide_eq_false c, Bool.and_false]
    · cases q : X e with
      | false => rfl
      | true =>
        have : e = e0 := of_decide_eq_true (h1 e q)
        rw [this, no X (fun g hg => by rw [show g = e0 from of_decide_eq_true (h1 g hg)]; exact h0) h2] at q
        cases q
end DEG
