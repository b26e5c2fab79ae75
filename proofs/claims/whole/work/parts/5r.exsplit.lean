/-! ===== a path through a ring of its own colour ===== -/
section EXS
variable {G H : Nat → Bool} {nr : Nat} {rg : Nat → List Nat} {f a b : Nat} {s t m : List Nat} {col : Nat → Nat}
theorem Ex_split (hI : Iv H nr rg) (hS : Sp H nr rg f a b s t m) (hE : Ex G H nr rg col) (hP : ∀ e, wk a (m ++ [b]) e = true → G e = true ∧ col e = f) : ∃ col', Ex G (xs H (wk a (m ++ [b]))) (nr + 1) (rgN nr rg f a b s t m) col' := by
  have hf := hS.1
  have hfn : nr ≠ f := by omega
  have hPP := Sp_P hI hS
  obtain ⟨Φ, M, L, R, h⟩ := hE.2.1 f hf
  have PS : ∀ e, wk a (m ++ [b]) e = true → SF G H col f e = true := fun e q => SF_t.mpr ⟨(hP e q).1, Sp_off hI hS q, (hP e q).2⟩
  have cC : ∀ e, cs (rg f) e = true → H e = true := fun e => hI.2.2.1 f hf e
  have dis : ∀ e, cs (rg f) e = true → SF G H col f e = false := fun e q => SF_H (cC e q)
  have Cf := Sp_f hI hS
  have arcsC : ∀ e, (wk a (s ++ [b]) e = true → cs (rg f) e = true) ∧ (wk b (t ++ [a]) e = true → cs (rg f) e = true) := by
    intro e
    rw [Cf]
    constructor
    · intro q; rw [q, Sp_dis hI hS q]; rfl
    · intro q
      cases w : wk a (s ++ [b]) e with
      | false => rw [q]; rfl
      | true => rw [Sp_dis hI hS w] at q; cases q
  obtain ⟨c0, h0⟩ := (h (cs (a :: (s ++ b :: m.reverse)))).mp ⟨fun e q => by
    rw [Sp_1] at q
    cases w : wk a (m ++ [b]) e with
    | true => exact Or.inr (PS e w)
    | false => rw [w, Bool.xor_false] at q; exact Or.inl ((arcsC e).1 q), ev_cs (Sp_Cy hI hS).1.2.2⟩
  have onC : ∀ e, cs (rg f) e = true → wk a (m ++ [b]) e = false ∧ wk a (s ++ [b]) e = c0 (M e) ∧ wk b (t ++ [a]) e = !c0 (M e) := by
    intro e q
    have p0 : wk a (m ++ [b]) e = false := by
      cases w : wk a (m ++ [b]) e with
      | false => rfl
      | true => have := cC e q; rw [Sp_off hI hS w] at this; cases this
    have k := h0 e
    rw [Sp_1, p0, q, dis e q, Bool.xor_false, Bool.true_and, Bool.false_and, Bool.or_false] at k
    have k2 := Cf e
    rw [q, k] at k2
    refine ⟨p0, k, ?_⟩
    cases g1 : c0 (M e) <;> cases g2 : wk b (t ++ [a]) e <;> rw [g1, g2] at k2 <;> first | rfl | cases k2
  have offC : ∀ e, cs (rg f) e = false → wk a (s ++ [b]) e = false ∧ wk b (t ++ [a]) e = false := by
    intro e q
    constructor
    · cases w : wk a (s ++ [b]) e with
      | false => rfl
      | true => rw [(arcsC e).1 w] at q; cases q
    · cases w : wk b (t ++ [a]) e with
      | false => rfl
      | true => rw [(arcsC e).2 w] at q; cases q
  have onS : ∀ e, SF G H col f e = true → cs (rg f) e = false ∧ wk a (m ++ [b]) e = (c0 (L e) ^^ c0 (R e)) := by
    intro e q
    have c1 : cs (rg f) e = false := by
      cases w : cs (rg f) e with
      | false => rfl
      | true => rw [dis e w] at q; cases q
    have k := h0 e
    rw [Sp_1, (offC e c1).1, c1, q, Bool.false_xor, Bool.false_and, Bool.false_or, Bool.true_and] at k
    exact ⟨c1, k⟩
  -- the two sides: kb = true is the ring f, kb = false the new one
  have ringS : ∀ (kb : Bool) e, cs (rgN nr rg f a b s t m (if kb then f else nr)) e = ((if kb then wk a (s ++ [b]) e else wk b (t ++ [a]) e) ^^ wk a (m ++ [b]) e) := by
    intro kb e
    cases kb with
    | true => rw [if_pos rfl, if_pos rfl, rgN_f f rfl, Sp_1]
    | false => rw [if_neg Bool.false_ne_true, if_neg Bool.false_ne_true, rgN_n hfn, Sp_2]
  have sF : ∀ (kb : Bool) e, SF G (xs H (wk a (m ++ [b]))) (fun e => if col e = f then (if c0 (L e) then f else nr) else col e) (if kb then f else nr) e = (SF G H col f e && (!wk a (m ++ [b]) e && (c0 (L e) == kb))) := by
    intro kb e
    rw [Bool.eq_iff_iff, SF_t, Bool.and_eq_true, Bool.and_eq_true, SF_t, Bool.not_eq_true']
    constructor
    · rintro ⟨q1, q2, q3⟩
      change (H e ^^ wk a (m ++ [b]) e) = false at q2
      have hH : H e = false ∧ wk a (m ++ [b]) e = false := by
        cases w : wk a (m ++ [b]) e with
        | false => rw [w, Bool.xor_false] at q2; exact ⟨q2, rfl⟩
        | true => rw [w, Sp_off hI hS w] at q2; cases q2
      by_cases w : col e = f
      · rw [if_pos w] at q3
        refine ⟨⟨q1, hH.1, w⟩, hH.2, ?_⟩
        cases g : c0 (L e) <;> cases kb <;> rw [g] at q3 <;> simp at q3 ⊢ <;> omega
      · rw [if_neg w] at q3
        have := hE.1 e q1 hH.1
        cases kb <;> simp at q3 <;> omega
    · rintro ⟨⟨q1, q2, q3⟩, q4, q5⟩
      refine ⟨q1, ?_, ?_⟩
      · show (H e ^^ wk a (m ++ [b]) e) = false
        rw [q2, q4]; rfl
      · rw [if_pos q3]
        cases g : c0 (L e) <;> cases kb <;> rw [g] at q5 <;> first | rfl | cases q5
  have side : ∀ (c : Φ → Bool) (kb : Bool), ev (fun e => (cs (rg f) e && (c (M e) && (c0 (M e) == kb))) || (SF G H col f e && ((c (L e) && (c0 (L e) == kb)) ^^ (c (R e) && (c0 (R e) == kb))))) := fun c kb => ((h _).mpr ⟨fun p => c p && (c0 p == kb), fun _ => rfl⟩).2
  have val : ∀ (c : Φ → Bool) (kb : Bool) e, ((cs (rg f) e && (c (M e) && (c0 (M e) == kb))) || (SF G H col f e && ((c (L e) && (c0 (L e) == kb)) ^^ (c (R e) && (c0 (R e) == kb))))) = ((cs (rgN nr rg f a b s t m (if kb then f else nr)) e && c (if wk a (m ++ [b]) e then (if c0 (L e) == kb then L e else R e) else M e)) || ((SF G H col f e && (!wk a (m ++ [b]) e && (c0 (L e) == kb))) && (c (L e) ^^ c (R e)))) := by
    intro c kb e
    rw [ringS]
    cases q1 : cs (rg f) e with
    | true =>
      obtain ⟨p0, p1, p2⟩ := onC e q1
      rw [p0, p1, p2, dis e q1, if_neg Bool.false_ne_true, Bool.false_and, Bool.false_and, Bool.false_and, Bool.or_false, Bool.or_false, Bool.true_and, Bool.xor_false]
      cases kb <;> cases c0 (M e) <;> cases c (M e) <;> rfl
    | false =>
      obtain ⟨p1, p2⟩ := offC e q1
      rw [p1, p2, ite_self, Bool.false_and, Bool.false_or, Bool.false_xor]
      cases q2 : SF G H col f e with
      | false =>
        have p0 : wk a (m ++ [b]) e = false := by
          cases w : wk a (m ++ [b]) e with
          | false => rfl
          | true => rw [PS e w] at q2; cases q2
        rw [p0]; rfl
      | true =>
        have k := (onS e q2).2
        cases p0 : wk a (m ++ [b]) e with
        | true =>
          rw [p0] at k
          rw [if_pos rfl]
          by_cases g : c0 (L e) = kb
          · have b1 : (c0 (L e) == kb) = true := by rw [g]; cases kb <;> rfl
            have b2 : (c0 (R e) == kb) = false := by
              cases w : c0 (L e) <;> cases w2 : c0 (R e) <;> cases w3 : kb <;> rw [w, w2] at k <;> rw [w, w3] at g <;> first | rfl | exact absurd k (by decide) | exact absurd g (by decide)
            rw [b1, b2, if_pos rfl]
            cases c (L e) <;> cases c (R e) <;> rfl
          · have b1 : (c0 (L e) == kb) = false := by
              cases w : c0 (L e) <;> cases w2 : kb <;> rw [w, w2] at g <;> first | rfl | exact absurd rfl g
            have b2 : (c0 (R e) == kb) = true := by
              cases w : c0 (L e) <;> cases w2 : c0 (R e) <;> cases w3 : kb <;> rw [w, w2] at k <;> rw [w, w3] at g <;> first | rfl | exact absurd rfl g | exact absurd k (by decide)
            rw [b1, b2, if_neg Bool.false_ne_true]
            cases c (L e) <;> cases c (R e) <;> rfl
        | false =>
          rw [p0] at k
          have k2 : c0 (R e) = c0 (L e) := by
            cases w : c0 (L e) <;> cases w2 : c0 (R e) <;> rw [w, w2] at k <;> first | rfl | cases k
          rw [k2]
          cases (c0 (L e) == kb) <;> cases c (L e) <;> cases c (R e) <;> rfl
  have sumX : ∀ (c : Φ → Bool) (kb : Bool) e, ((cs (rg f) e && c (M e)) || (SF G H col f e && (c (L e) ^^ c (R e)))) = (((cs (rg f) e && (c (M e) && (c0 (M e) == kb))) || (SF G H col f e && ((c (L e) && (c0 (L e) == kb)) ^^ (c (R e) && (c0 (R e) == kb))))) ^^ ((cs (rg f) e && (c (M e) && (c0 (M e) == !kb))) || (SF G H col f e && ((c (L e) && (c0 (L e) == !kb)) ^^ (c (R e) && (c0 (R e) == !kb)))))) := by
    intro c kb e
    cases q : cs (rg f) e with
    | true =>
      rw [dis e q]
      cases c (M e) <;> cases c0 (M e) <;> cases kb <;> rfl
    | false =>
      rw [Bool.false_and, Bool.false_and, Bool.false_and, Bool.false_or, Bool.false_or, Bool.false_or]
      cases SF G H col f e <;> cases c (L e) <;> cases c (R e) <;> cases c0 (L e) <;> cases c0 (R e) <;> cases kb <;> rfl
  refine ⟨fun e => if col e = f then (if c0 (L e) then f else nr) else col e, fun e q1 q2 => ?_, ?_, ?_⟩
  · dsimp only
    have hH : H e = false := by
      change (H e ^^ wk a (m ++ [b]) e) = false at q2
      cases w : wk a (m ++ [b]) e with
      | false => rw [w, Bool.xor_false] at q2; exact q2
      | true => exact Sp_off hI hS w
    have := hE.1 e q1 hH
    split
    · split <;> omega
    · omega
  · have two : ∀ kb : Bool, OS (cs (rgN nr rg f a b s t m (if kb then f else nr))) (SF G (xs H (wk a (m ++ [b]))) (fun e => if col e = f then (if c0 (L e) then f else nr) else col e) (if kb then f else nr)) := by
      intro kb
      refine OS_cong (fun _ => rfl) (fun e => (sF kb e).symm) ?_
      refine ⟨Φ, fun e => if wk a (m ++ [b]) e then (if c0 (L e) == kb then L e else R e) else M e, L, R, fun X => ⟨fun ⟨h1, h2⟩ => ?_, fun ⟨c, hc⟩ => ?_⟩⟩
      · have hXC : ∀ e, X e = true → cs (rg f) e = true ∨ SF G H col f e = true := by
          intro e q
          rcases h1 e q with w | w
          · rw [ringS] at w
            cases p0 : wk a (m ++ [b]) e with
            | true => exact Or.inr (PS e p0)
            | false =>
              rw [p0, Bool.xor_false] at w
              cases kb with
              | true => rw [if_pos rfl] at w; exact Or.inl ((arcsC e).1 w)
              | false => rw [if_neg Bool.false_ne_true] at w; exact Or.inl ((arcsC e).2 w)
          · rw [Bool.and_eq_true] at w; exact Or.inr w.1
        obtain ⟨c, hc⟩ := (h X).mp ⟨hXC, h2⟩
        have hs1 : Sb (fun e => (cs (rg f) e && (c (M e) && (c0 (M e) == !kb))) || (SF G H col f e && ((c (L e) && (c0 (L e) == !kb)) ^^ (c (R e) && (c0 (R e) == !kb))))) (wk a (m ++ [b])) := by
          intro e he
          dsimp only at he
          cases p0 : wk a (m ++ [b]) e with
          | true => rfl
          | false =>
            exfalso
            cases q1 : cs (rg f) e with
            | true =>
              obtain ⟨_, p1, p2⟩ := onC e q1
              rw [q1, dis e q1, Bool.true_and, Bool.false_and, Bool.or_false, Bool.and_eq_true] at he
              have hX : X e = true := by rw [hc e, q1, he.1]; rfl
              rcases h1 e hX with w | w
              · rw [ringS, p0, p1, p2, Bool.xor_false] at w
                have he2 := he.2
                cases g : c0 (M e) <;> cases kb <;> rw [g] at w he2 <;> first | exact absurd w (by decide) | exact absurd he2 (by decide)
              · change (SF G H col f e && (!wk a (m ++ [b]) e && (c0 (L e) == kb))) = true at w
                rw [dis e q1] at w; cases w
            | false =>
              rw [q1, Bool.false_and, Bool.false_or, Bool.and_eq_true] at he
              have k := (onS e he.1).2
              rw [p0] at k
              have k2 : c0 (R e) = c0 (L e) := by
                cases w : c0 (L e) <;> cases w2 : c0 (R e) <;> rw [w, w2] at k <;> first | rfl | cases k
              have he2 := he.2
              rw [k2] at he2
              have k3 : (c0 (L e) == !kb) = true ∧ (c (L e) ^^ c (R e)) = true := by
                cases g : (c0 (L e) == !kb) <;> rw [g] at he2
                · rw [Bool.and_false, Bool.and_false] at he2; cases he2
                · rw [Bool.and_true, Bool.and_true] at he2; exact ⟨rfl, he2⟩
              have hX : X e = true := by rw [hc e, he.1, k3.2, Bool.or_eq_true]; exact Or.inr rfl
              rcases h1 e hX with w | w
              · rw [ringS, p0, (offC e q1).1, (offC e q1).2, ite_self] at w; cases w
              · rw [Bool.and_eq_true, Bool.and_eq_true] at w
                have k4 := w.2.2
                have k5 := k3.1
                cases g : c0 (L e) <;> cases kb <;> rw [g] at k4 k5 <;> first | exact absurd k4 (by decide) | exact absurd k5 (by decide)
        have none : ∀ e, ((cs (rg f) e && (c (M e) && (c0 (M e) == !kb))) || (SF G H col f e && ((c (L e) && (c0 (L e) == !kb)) ^^ (c (R e) && (c0 (R e) == !kb))))) = false := by
          rcases wk_even (m ++ [b]) a hPP.1 hPP.2 _ hs1 (fun x _ _ _ => side c (!kb) x) with q | q
          · exact q
          · exfalso
            have d := side c (!kb) a
            rw [dg_cong (Y := wk a (m ++ [b])) (fun e _ _ => q e), dg_wk a (m ++ [b]) a hPP.2, lst_snoc, decide_eq_true rfl, decide_eq_false (fun w => (List.nodup_cons.mp hPP.1).1 (by rw [w]; simp))] at d
            cases d
        refine ⟨c, fun e => ?_⟩
        rw [hc e, sumX c kb e, none e, Bool.xor_false, val]
      · refine ⟨fun e he => ?_, ev_cong (fun e => ?_) (side c kb)⟩
        · rw [hc e, Bool.or_eq_true, Bool.and_eq_true, Bool.and_eq_true] at he
          exact he.imp And.left And.left
        · rw [hc e, val]
    intro k hk
    by_cases q1 : k = f
    · have := two true
      rw [if_pos rfl] at this
      rw [q1]; exact this
    · by_cases q2 : k = nr
      · have := two false
        rw [if_neg Bool.false_ne_true] at this
        rw [q2]; exact this
      · refine OS_cong (fun e => by rw [rgN_o q1 q2]) (fun e => ?_) (hE.2.1 k (by omega))
        rw [Bool.eq_iff_iff, SF_t, SF_t]
        constructor
        · rintro ⟨w1, w2, w3⟩
          have p0 : wk a (m ++ [b]) e = false := by
            cases w : wk a (m ++ [b]) e with
            | false => rfl
            | true => have := (hP e w).2; omega
          refine ⟨w1, ?_, ?_⟩
          · show (H e ^^ wk a (m ++ [b]) e) = false
            rw [w2, p0]; rfl
          · rw [if_neg (by omega)]; exact w3
        · rintro ⟨w1, w2, w3⟩
          change (H e ^^ wk a (m ++ [b]) e) = false at w2
          by_cases w : col e = f
          · rw [if_pos w] at w3
            split at w3 <;> omega
          · rw [if_neg w] at w3
            have p0 : wk a (m ++ [b]) e = false := by
              cases w4 : wk a (m ++ [b]) e with
              | false => rfl
              | true => exact absurd (hP e w4).2 w
            rw [p0, Bool.xor_false] at w2
            exact ⟨w1, w2, w3⟩
  · intro X hX1 hX2
    have two : ∀ kb : Bool, ∃ Z, ev Z ∧ (∀ e, Z e = true → cs (rgN nr rg f a b s t m (if kb then f else nr)) e = true ∨ SF G (xs H (wk a (m ++ [b]))) (fun e => if col e = f then (if c0 (L e) then f else nr) else col e) (if kb then f else nr) e = true) ∧ ∀ e, SF G (xs H (wk a (m ++ [b]))) (fun e => if col e = f then (if c0 (L e) then f else nr) else col e) (if kb then f else nr) e = true → Z e = X e := by
      intro kb
      obtain ⟨Z, z1, z2, z3⟩ := hE.2.2 X hX1 hX2 f hf
      obtain ⟨c, hc⟩ := (h Z).mp ⟨z2, z1⟩
      refine ⟨_, side c kb, fun e he => ?_, fun e he => ?_⟩
      · rw [sF]
        rw [val, Bool.or_eq_true, Bool.and_eq_true, Bool.and_eq_true] at he
        exact he.imp And.left And.left
      · rw [sF] at he
        have he' := he
        rw [Bool.and_eq_true, Bool.and_eq_true, Bool.not_eq_true'] at he'
        have q0 := (onS e he'.1).1
        rw [← z3 e he'.1, val, he, ringS, (offC e q0).1, (offC e q0).2, ite_self, he'.2.1, hc e, he'.1, q0]
        rfl
    intro k hk
    by_cases q1 : k = f
    · have := two true
      rw [if_pos rfl] at this
      rw [q1]; exact this
    · by_cases q2 : k = nr
      · have := two false
        rw [if_neg Bool.false_ne_true] at this
        rw [q2]; exact this
      · obtain ⟨Z, z1, z2, z3⟩ := hE.2.2 X hX1 hX2 k (by omega)
        have eqS : ∀ e, SF G (xs H (wk a (m ++ [b]))) (fun e => if col e = f then (if c0 (L e) then f else nr) else col e) k e = true ↔ SF G H col k e = true := by
          intro e
          rw [SF_t, SF_t]
          constructor
          · rintro ⟨w1, w2, w3⟩
            change (H e ^^ wk a (m ++ [b]) e) = false at w2
            by_cases w : col e = f
            · rw [if_pos w] at w3
              split at w3 <;> omega
            · rw [if_neg w] at w3
              have p0 : wk a (m ++ [b]) e = false := by
                cases w4 : wk a (m ++ [b]) e with
                | false => rfl
                | true => exact absurd (hP e w4).2 w
              rw [p0, Bool.xor_false] at w2
              exact ⟨w1, w2, w3⟩
          · rintro ⟨w1, w2, w3⟩
            have p0 : wk a (m ++ [b]) e = false := by
              cases w : wk a (m ++ [b]) e with
              | false => rfl
              | true => have := (hP e w).2; omega
            refine ⟨w1, ?_, ?_⟩
            · show (H e ^^ wk a (m ++ [b]) e) = false
              rw [w2, p0]; rfl
            · rw [if_neg (by omega)]; exact w3
        refine ⟨Z, z1, fun e he => ?_, fun e he => z3 e ((eqS e).mp he)⟩
        rw [rgN_o q1 q2]
        exact (z2 e he).imp_right (eqS e).mpr
end EXS
