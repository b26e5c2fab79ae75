/-! ===== duals; what is drawn can be drawn further ===== -/
def Pl (G : Nat → Bool) : Prop := ∃ (Φ : Type) (l r : Nat → Φ), ∀ X : Nat → Bool, (Sb X G ∧ ev X) ↔ ∃ c : Φ → Bool, ∀ e, X e = (G e && (c (l e) ^^ c (r e)))
def OS (C S : Nat → Bool) : Prop := ∃ (Φ : Type) (m l r : Nat → Φ), ∀ X : Nat → Bool, ((∀ e, X e = true → C e = true ∨ S e = true) ∧ ev X) ↔ ∃ c : Φ → Bool, ∀ e, X e = ((C e && c (m e)) || (S e && (c (l e) ^^ c (r e))))
def SF (G H : Nat → Bool) (col : Nat → Nat) (k e : Nat) : Bool := (G e && !H e) && decide (col e = k)
def Ex (G H : Nat → Bool) (nr : Nat) (rg : Nat → List Nat) (col : Nat → Nat) : Prop :=
  (∀ e, G e = true → H e = false → col e < nr) ∧
  (∀ k, k < nr → OS (cs (rg k)) (SF G H col k)) ∧
  (∀ X, Sb X G → ev X → ∀ k, k < nr → ∃ Z, ev Z ∧ (∀ e, Z e = true → cs (rg k) e = true ∨ SF G H col k e = true) ∧ ∀ e, SF G H col k e = true → Z e = X e)
theorem SF_t {G H : Nat → Bool} {col : Nat → Nat} {k e : Nat} : SF G H col k e = true ↔ G e = true ∧ H e = false ∧ col e = k := by
  unfold SF
  rw [Bool.and_eq_true, Bool.and_eq_true, Bool.not_eq_true', decide_eq_true_eq, and_assoc]
theorem SF_H {G H : Nat → Bool} {col : Nat → Nat} {k e : Nat} (h : H e = true) : SF G H col k e = false := by
  cases c : SF G H col k e with
  | false => rfl
  | true => rw [(SF_t.mp c).2.1] at h; cases h
/-- the rings are a dual of what they draw -/
theorem Iv_Pl {H : Nat → Bool} {nr : Nat} {rg : Nat → List Nat} (hI : Iv H nr rg) : Pl H := by
  have ch : ∀ e, ∃ p : Nat × Nat, H e = true → p.1 < nr ∧ p.2 < nr ∧ p.1 ≠ p.2 ∧ ∀ k, k < nr → cs (rg k) e = (decide (k = p.1) || decide (k = p.2)) := by
    intro e
    cases c : H e with
    | false => exact ⟨(0, 0), fun q => by cases q⟩
    | true =>
      obtain ⟨i, j, h1, h2, h3, h4⟩ := hI.2.1 e c
      exact ⟨(i, j), fun _ => ⟨h1, h2, h3, h4⟩⟩
  obtain ⟨P, hP⟩ := Classical.axiomOfChoice ch
  have sum : ∀ (c : Nat → Bool) e, py nr (fun k => c k && cs (rg k) e) = (H e && (c (P e).1 ^^ c (P e).2)) := by
    intro c e
    cases hH : H e with
    | false =>
      refine py_false nr (fun k hk => ?_)
      cases q : cs (rg k) e with
      | false => rw [Bool.and_false]
      | true => rw [hI.2.2.1 k hk e q] at hH; cases hH
    | true =>
      obtain ⟨h1, h2, h3, h4⟩ := hP e hH
      rw [Bool.true_and, ← py_at c nr h1, ← py_at c nr h2, ← py_xor]
      refine py_cong nr (fun k hk => ?_)
      rw [h4 k hk]
      by_cases q1 : k = (P e).1
      · rw [decide_eq_true q1, decide_eq_false (by omega)]
        cases c k <;> rfl
      · rw [decide_eq_false q1]
        cases c k <;> cases decide (k = (P e).2) <;> rfl
  refine ⟨Nat, fun e => (P e).1, fun e => (P e).2, fun X => ⟨fun ⟨h1, h2⟩ => ?_, fun ⟨c, hc⟩ => ⟨fun e he => ?_, fun v => ?_⟩⟩⟩
  · obtain ⟨c, hc⟩ := hI.2.2.2.1 X h1 h2
    exact ⟨c, fun e => by rw [hc e, sum]⟩
  · rw [hc e, Bool.and_eq_true] at he
    exact he.1
  · have e1 : dg v X = dg v (fun e => py nr (fun k => c k && cs (rg k) e)) := dg_cong (fun e _ _ => by rw [hc e, sum])
    rw [e1]
    unfold dg
    have e2 : ∀ e, (py nr (fun k => c k && cs (rg k) e) && inc v e) = py nr (fun k => c k && (cs (rg k) e && inc v e)) := by
      intro e
      rw [Bool.and_comm, ← py_and]
      refine py_cong nr (fun k _ => ?_)
      cases inc v e <;> cases c k <;> cases cs (rg k) e <;> rfl
    rw [py_cong 81 (fun e _ => e2 e), py_swap]
    refine py_false nr (fun k hk => ?_)
    rw [py_and]
    have := ev_cs (hI.1 k hk).2.2 v
    unfold dg at this
    rw [this, Bool.and_false]
theorem OS_cong {C S C' S' : Nat → Bool} (hC : ∀ e, C e = C' e) (hS : ∀ e, S e = S' e) (h : OS C S) : OS C' S' := by
  have e1 : C = C' := funext hC
  have e2 : S = S' := funext hS
  rw [← e1, ← e2]; exact h
/-- fewer edges: their dual nodes are joined -/
theorem OS_del {C S S' : Nat → Bool} (hd : ∀ e, C e = true → S e = false) (hs : Sb S' S) (h : OS C S) : OS C S' := by
  obtain ⟨Φ, m, l, r, h⟩ := h
  refine ⟨Quot (fun p q : Φ => ∃ e, S e = true ∧ S' e = false ∧ p = l e ∧ q = r e), fun e => Quot.mk _ (m e), fun e => Quot.mk _ (l e), fun e => Quot.mk _ (r e), fun X => ⟨fun ⟨h1, h2⟩ => ?_, fun ⟨c, hc⟩ => ?_⟩⟩
  · obtain ⟨c, hc⟩ := (h X).mp ⟨fun e he => (h1 e he).imp_right (hs e), h2⟩
    refine ⟨Quot.lift c (fun p q ⟨e, q1, q2, q3, q4⟩ => ?_), fun e => ?_⟩
    · have k := hc e
      have kC : C e = false := by
        cases w : C e with
        | false => rfl
        | true => rw [hd e w] at q1; cases q1
      have kX : X e = false := by
        cases w : X e with
        | false => rfl
        | true =>
          rcases h1 e w with w2 | w2
          · rw [kC] at w2; cases w2
          · rw [q2] at w2; cases w2
      rw [kX, kC, q1, Bool.false_and, Bool.false_or, Bool.true_and] at k
      rw [q3, q4]
      cases g1 : c (l e) <;> cases g2 : c (r e) <;> rw [g1, g2] at k <;> first | rfl | cases k
    · show X e = ((C e && c (m e)) || (S' e && (c (l e) ^^ c (r e))))
      cases w : S' e with
      | true => rw [hc e, hs e w]
      | false =>
        cases w2 : C e with
        | true => rw [hc e, w2, hd e w2]
        | false =>
          have kX : X e = false := by
            cases w3 : X e with
            | false => rfl
            | true =>
              rcases h1 e w3 with w4 | w4
              · rw [w2] at w4; cases w4
              · rw [w] at w4; cases w4
          rw [kX]; rfl
  · have hX : ∀ e, X e = ((C e && c (Quot.mk _ (m e))) || (S e && (c (Quot.mk _ (l e)) ^^ c (Quot.mk _ (r e))))) := by
      intro e
      rw [hc e]
      cases w : S' e with
      | true => rw [hs e w]
      | false =>
        cases w2 : S e with
        | false => rfl
        | true =>
          have : (Quot.mk (fun p q : Φ => ∃ e, S e = true ∧ S' e = false ∧ p = l e ∧ q = r e) (l e)) = Quot.mk _ (r e) := Quot.sound ⟨e, w2, w, rfl, rfl⟩
          rw [this, Bool.xor_self]; rfl
    have k := (h X).mpr ⟨fun p => c (Quot.mk _ p), hX⟩
    refine ⟨fun e he => ?_, k.2⟩
    rw [hc e, Bool.or_eq_true, Bool.and_eq_true, Bool.and_eq_true] at he
    exact he.imp And.left And.left
/-- a cycle of a graph with a dual: each side is a dual of its own -/
theorem Ex_start {G : Nat → Bool} {l : List Nat} (hG : Pl G) (hC : Cy l) (hs : Sb (cs l) G) : ∃ col, Ex G (cs l) 2 (fun _ => l) col := by
  obtain ⟨Φ, L, R, h⟩ := hG
  obtain ⟨c0, h0⟩ := (h (cs l)).mp ⟨hs, ev_cs hC.2.2⟩
  -- the part of a cut on one side
  have side : ∀ (c : Φ → Bool) (kb : Bool), ev (fun e => G e && ((c (L e) && (c0 (L e) == kb)) ^^ (c (R e) && (c0 (R e) == kb)))) := fun c kb => ((h _).mpr ⟨fun p => c p && (c0 p == kb), fun _ => rfl⟩).2
  have hcol : ∀ e (kb : Bool), ((if c0 (L e) then 1 else 0 : Nat) = if kb then 1 else 0) ↔ c0 (L e) = kb := by
    intro e kb
    cases c0 (L e) <;> cases kb <;> decide
  have off : ∀ e, G e = true → cs l e = false → c0 (L e) = c0 (R e) := by
    intro e q1 q2
    have := h0 e
    rw [q1, q2, Bool.true_and] at this
    cases g1 : c0 (L e) <;> cases g2 : c0 (R e) <;> rw [g1, g2] at this <;> first | rfl | cases this
  have on : ∀ e, cs l e = true → G e = true ∧ c0 (R e) = !c0 (L e) := by
    intro e q1
    have := h0 e
    rw [q1, hs e q1, Bool.true_and] at this
    refine ⟨hs e q1, ?_⟩
    cases g1 : c0 (L e) <;> cases g2 : c0 (R e) <;> rw [g1, g2] at this <;> first | rfl | cases this
  -- its value at an edge
  have val : ∀ (c : Φ → Bool) (kb : Bool) e, (G e && ((c (L e) && (c0 (L e) == kb)) ^^ (c (R e) && (c0 (R e) == kb)))) = ((cs l e && c (if c0 (L e) == kb then L e else R e)) || (SF G (cs l) (fun e => if c0 (L e) then 1 else 0) (if kb then 1 else 0) e && (c (L e) ^^ c (R e)))) := by
    intro c kb e
    cases q1 : cs l e with
    | true =>
      obtain ⟨q2, q3⟩ := on e q1
      rw [q2, SF_H q1, Bool.true_and, Bool.true_and, Bool.false_and, Bool.or_false]
      by_cases g : c0 (L e) = kb
      · have b1 : (c0 (L e) == kb) = true := by rw [g]; cases kb <;> rfl
        have b2 : (c0 (R e) == kb) = false := by rw [q3, g]; cases kb <;> rfl
        rw [b1, b2, if_pos rfl, Bool.and_true, Bool.and_false, Bool.xor_false]
      · have b1 : (c0 (L e) == kb) = false := by
          cases w : c0 (L e) <;> cases w2 : kb <;> rw [w, w2] at g <;> first | rfl | exact absurd rfl g
        have b2 : (c0 (R e) == kb) = true := by
          rw [q3]
          cases w : c0 (L e) <;> cases w2 : kb <;> rw [w, w2] at g <;> first | rfl | exact absurd rfl g
        rw [b1, b2, if_neg Bool.false_ne_true, Bool.and_true, Bool.and_false, Bool.false_xor]
    | false =>
      rw [Bool.false_and, Bool.false_or]
      cases q2 : G e with
      | false =>
        have : SF G (cs l) (fun e => if c0 (L e) then 1 else 0) (if kb then 1 else 0) e = false := by
          unfold SF; rw [q2]; rfl
        rw [this]; rfl
      | true =>
        have q3 := off e q2 q1
        have b3 : SF G (cs l) (fun e => if c0 (L e) then 1 else 0) (if kb then 1 else 0) e = (c0 (L e) == kb) := by
          unfold SF
          rw [q2, q1, decide_eq_decide.mpr (hcol e kb)]
          by_cases g : c0 (L e) = kb
          · rw [decide_eq_true g, g]; cases kb <;> rfl
          · rw [decide_eq_false g]
            cases w : c0 (L e) <;> cases w2 : kb <;> rw [w, w2] at g <;> first | rfl | exact absurd rfl g
        rw [b3, ← q3]
        cases (c0 (L e) == kb) <;> cases c (L e) <;> cases c (R e) <;> rfl
  refine ⟨fun e => if c0 (L e) then 1 else 0, fun e _ _ => by dsimp only; split <;> omega, fun k hk => ?_, fun X hX1 hX2 k hk => ?_⟩
  · obtain ⟨kb, hkb⟩ : ∃ kb : Bool, k = if kb then 1 else 0 := by
      rcases (by omega : k = 0 ∨ k = 1) with q | q
      · exact ⟨false, q⟩
      · exact ⟨true, q⟩
    subst hkb
    refine ⟨Φ, fun e => if c0 (L e) == kb then L e else R e, L, R, fun X => ⟨fun ⟨h1, h2⟩ => ?_, fun ⟨c, hc⟩ => ?_⟩⟩
    · have hXG : Sb X G := fun e he => by
        rcases h1 e he with q | q
        · exact hs e q
        · exact (SF_t.mp q).1
      obtain ⟨c, hc⟩ := (h X).mp ⟨hXG, h2⟩
      have hX1 : Sb (fun e => G e && ((c (L e) && (c0 (L e) == !kb)) ^^ (c (R e) && (c0 (R e) == !kb)))) (cs l) := by
        intro e he
        cases q : cs l e with
        | true => rfl
        | false =>
          exfalso
          rw [Bool.and_eq_true] at he
          have q3 := off e he.1 q
          have : X e = true := by
            rw [hc e, he.1, Bool.true_and]
            have he2 := he.2
            rw [← q3] at he2
            cases g1 : c0 (L e) <;> cases g2 : kb <;> cases g3 : c (L e) <;> cases g4 : c (R e) <;> rw [g1, g2, g3, g4] at he2 <;> first | rfl | cases he2
          rcases h1 e this with w | w
          · rw [q] at w; cases w
          · have w2 : c0 (L e) = kb := (hcol e kb).mp (SF_t.mp w).2.2
            have he2 := he.2
            rw [← q3, w2, show (kb == !kb) = false by cases kb <;> rfl, Bool.and_false, Bool.and_false] at he2
            cases he2
      have sumX : ∀ e, X e = ((G e && ((c (L e) && (c0 (L e) == kb)) ^^ (c (R e) && (c0 (R e) == kb)))) ^^ (G e && ((c (L e) && (c0 (L e) == !kb)) ^^ (c (R e) && (c0 (R e) == !kb))))) := by
        intro e
        rw [hc e]
        cases G e <;> cases c0 (L e) <;> cases c0 (R e) <;> cases kb <;> cases c (L e) <;> cases c (R e) <;> rfl
      rcases cs_only hC hX1 (side c (!kb)) with q | q
      · refine ⟨c, fun e => ?_⟩
        rw [sumX e, q e, Bool.xor_false, val]
      · refine ⟨fun p => !c p, fun e => ?_⟩
        rw [sumX e, q e, val]
        dsimp only
        cases w : cs l e with
        | true =>
          have : SF G (cs l) (fun e => if c0 (L e) then 1 else 0) (if kb then 1 else 0) e = false := by
            unfold SF; rw [w]; simp
          rw [this]
          cases c (if c0 (L e) == kb then L e else R e) <;> rfl
        | false =>
          cases SF G (cs l) (fun e => if c0 (L e) then 1 else 0) (if kb then 1 else 0) e <;> cases c (L e) <;> cases c (R e) <;> rfl
    · refine ⟨fun e he => ?_, ev_cong (fun e => ?_) (side c kb)⟩
      · rw [hc e, Bool.or_eq_true, Bool.and_eq_true, Bool.and_eq_true] at he
        exact he.imp And.left And.left
      · rw [hc e, val]
  · obtain ⟨kb, hkb⟩ : ∃ kb : Bool, k = if kb then 1 else 0 := by
      rcases (by omega : k = 0 ∨ k = 1) with q | q
      · exact ⟨false, q⟩
      · exact ⟨true, q⟩
    subst hkb
    obtain ⟨c, hc⟩ := (h X).mp ⟨hX1, hX2⟩
    refine ⟨_, side c kb, fun e he => ?_, fun e he => ?_⟩
    · rw [val, Bool.or_eq_true, Bool.and_eq_true, Bool.and_eq_true] at he
      exact he.imp And.left And.left
    · have w := SF_t.mp he
      rw [val, he, w.2.1, Bool.false_and, Bool.false_or, Bool.true_and, hc e, w.1, Bool.true_and]
