/-! ===== one-sided drawings are glued and moved ===== -/
theorem series {l : List Nat} {A I : Nat → Bool} {u v : Nat} (hC : Cy l) (hIC : Sb I (cs l)) (hJ : ∃ e, cs l e = true ∧ I e = false) (huv : u ≠ v) (hd : ∀ x, dg x I = (decide (x = u) ^^ decide (x = v))) (hsh : ∀ x e g, (A e = true ∨ (cs l e = true ∧ I e = false)) → inc x e = true → I g = true → inc x g = true → x = u ∨ x = v) {X : Nat → Bool} (hX : ∀ e, X e = true → cs l e = true ∨ A e = true) (hev : ev X) : ∃ t : Bool, ∀ e, I e = true → X e = t := by
  have dx : ∀ x, x ≠ u → x ≠ v → dg x (fun e => X e && I e) = false := by
    intro x hxu hxv
    by_cases c : ∃ g, I g = true ∧ inc x g = true
    · obtain ⟨g, g1, g2⟩ := c
      rw [← hev x]
      refine dg_cong (fun e _ hi => ?_)
      cases q : X e with
      | false => rfl
      | true =>
        cases r : I e with
        | true => rfl
        | false =>
          exfalso
          have : A e = true ∨ (cs l e = true ∧ I e = false) := by
            rcases hX e q with w | w
            · exact Or.inr ⟨w, r⟩
            · exact Or.inl w
          rcases hsh x e g this hi g1 g2 with w | w
          · exact hxu w
          · exact hxv w
    · refine dg_no (fun e _ hi => ?_)
      cases r : I e with
      | false => rw [Bool.and_false]
      | true => exact absurd ⟨e, r, hi⟩ c
  have hp := odd_pair huv dx
  refine ⟨dg u (fun e => X e && I e), fun e he => ?_⟩
  have hev2 : ev (xs (fun e => X e && I e) (fun e => I e && dg u (fun e => X e && I e))) := by
    intro x
    have d2 : dg x (fun e => I e && dg u (fun e => X e && I e)) = (dg u (fun e => X e && I e) && dg x I) := by
      cases dg u (fun e => X e && I e) with
      | false => rw [Bool.false_and]; exact dg_no (fun e _ _ => Bool.and_false _)
      | true => rw [Bool.true_and]; exact dg_cong (fun e _ _ => Bool.and_true _)
    rw [dg_xs, d2, hd]
    by_cases c1 : x = u
    · rw [c1, decide_eq_true rfl, decide_eq_false huv]
      cases dg u (fun e => X e && I e) <;> rfl
    · by_cases c2 : x = v
      · rw [c2, decide_eq_true (rfl : v = v), decide_eq_false (Ne.symm huv), ← hp]
        cases dg u (fun e => X e && I e) <;> rfl
      · rw [dx x c1 c2, decide_eq_false c1, decide_eq_false c2]
        cases dg u (fun e => X e && I e) <;> rfl
  rcases cs_only hC (fun e he => hIC e (by
    change ((X e && I e) ^^ (I e && dg u (fun e => X e && I e))) = true at he
    cases r : I e with
    | true => rfl
    | false => rw [r, Bool.and_false, Bool.false_and] at he; cases he)) hev2 with q | q
  · have := q e
    change ((X e && I e) ^^ (I e && dg u (fun e => X e && I e))) = false at this
    rw [he, Bool.and_true, Bool.true_and] at this
    cases g1 : X e <;> cases g2 : dg u (fun e => X e && I e) <;> rw [g1, g2] at this <;> first | rfl | cases this
  · obtain ⟨g, g1, g2⟩ := hJ
    have := q g
    change ((X g && I g) ^^ (I g && dg u (fun e => X e && I e))) = cs l g at this
    rw [g2, g1, Bool.and_false, Bool.false_and] at this
    cases this
theorem glue {l : List Nat} {A B I : Nat → Bool} {u v : Nat} (hC : Cy l) (hIC : Sb I (cs l)) (hI0 : ∃ e, I e = true) (hJ : ∃ e, cs l e = true ∧ I e = false) (huv : u ≠ v) (hd : ∀ x, dg x I = (decide (x = u) ^^ decide (x = v))) (hA : ∀ e, A e = true → cs l e = false) (hB : ∀ e, B e = true → cs l e = false) (hAB : ∀ e, A e = true → B e = false) (hsh : ∀ x e g, (A e = true ∨ (cs l e = true ∧ I e = false)) → inc x e = true → (B g = true ∨ I g = true) → inc x g = true → x = u ∨ x = v) (oA : OS (cs l) A) (oB : OS (cs l) B) : OS (cs l) (fun e => A e || B e) := by
  obtain ⟨e0, he0⟩ := hI0
  obtain ⟨e1, he1, he1'⟩ := hJ
  have hcs := ev_cs hC.2.2
  -- the rest of the ring is odd at the same nodes
  have hdJ : ∀ x, dg x (fun e => cs l e && !I e) = (decide (x = u) ^^ decide (x = v)) := by
    intro x
    have e : cs l = xs I (fun e => cs l e && !I e) := by
      funext e
      show cs l e = (I e ^^ (cs l e && !I e))
      cases r : I e with
      | true => rw [hIC e r]; rfl
      | false => cases cs l e <;> rfl
    have := hcs x
    rw [e, dg_xs, hd] at this
    cases g1 : (decide (x = u) ^^ decide (x = v)) <;> cases g2 : dg x (fun e => cs l e && !I e) <;> rw [g1, g2] at this <;> first | rfl | cases this
  have serA : ∀ X : Nat → Bool, (∀ e, X e = true → cs l e = true ∨ A e = true) → ev X → ∃ t : Bool, ∀ e, I e = true → X e = t := fun X h1 h2 => series hC hIC ⟨e1, he1, he1'⟩ huv hd (fun x e g h3 h4 h5 h6 => hsh x e g h3 h4 (Or.inr h5) h6) h1 h2
  have serB : ∀ X : Nat → Bool, (∀ e, X e = true → cs l e = true ∨ B e = true) → ev X → ∃ t : Bool, ∀ e, (cs l e && !I e) = true → X e = t := fun X h1 h2 => series (A := B) hC (fun e he => by rw [Bool.and_eq_true] at he; exact he.1) ⟨e0, hIC e0 he0, by rw [he0, Bool.not_true, Bool.and_false]⟩ huv hdJ (fun x e g h3 h4 h5 h6 => by
    rw [Bool.and_eq_true, Bool.not_eq_true'] at h5
    refine hsh x g e (Or.inr h5) h6 ?_ h4
    rcases h3 with h3 | ⟨h3, h3'⟩
    · exact Or.inl h3
    · rw [h3, Bool.true_and, Bool.not_eq_false'] at h3'; exact Or.inr h3') h1 h2
  obtain ⟨ΦA, mA, lA, rA, pA⟩ := oA
  obtain ⟨ΦB, mB, lB, rB, pB⟩ := oB
  have cA0 : ∀ e, cs l e = true → A e = false := fun e q => by
    cases r : A e with
    | false => rfl
    | true => rw [hA e r] at q; cases q
  have cB0 : ∀ e, cs l e = true → B e = false := fun e q => by
    cases r : B e with
    | false => rfl
    | true => rw [hB e r] at q; cases q
  have mu : ∀ e, I e = true → mA e = mA e0 := by
    intro e he
    have k := (pA (fun g => (cs l g && cb (mA g = mA e0)) || (A g && (cb (lA g = mA e0) ^^ cb (rA g = mA e0))))).mpr ⟨fun p => cb (p = mA e0), fun _ => rfl⟩
    obtain ⟨t, ht⟩ := serA _ k.1 k.2
    have k1 := ht e he
    have k0 := ht e0 he0
    rw [hIC e0 he0, cA0 e0 (hIC e0 he0), cb_t.mpr rfl] at k0
    rw [hIC e he, cA0 e (hIC e he), ← k0] at k1
    refine cb_t.mp ?_
    cases w : cb (mA e = mA e0) with
    | true => rfl
    | false => rw [w] at k1; cases k1
  have nu : ∀ e, cs l e = true → I e = false → mB e = mB e1 := by
    intro e he hie
    have k := (pB (fun g => (cs l g && cb (mB g = mB e1)) || (B g && (cb (lB g = mB e1) ^^ cb (rB g = mB e1))))).mpr ⟨fun p => cb (p = mB e1), fun _ => rfl⟩
    obtain ⟨t, ht⟩ := serB _ k.1 k.2
    have k1 := ht e (by rw [he, hie]; rfl)
    have k0 := ht e1 (by rw [he1, he1']; rfl)
    rw [he1, cB0 e1 he1, cb_t.mpr rfl] at k0
    rw [he, cB0 e he, ← k0] at k1
    refine cb_t.mp ?_
    cases w : cb (mB e = mB e1) with
    | true => rfl
    | false => rw [w] at k1; cases k1
  -- the two duals, joined in one node
  have hg : ∃ g : ΦB → ΦA ⊕ ΦB, ∀ p, (p = mB e1 → g p = Sum.inl (mA e0)) ∧ (p ≠ mB e1 → g p = Sum.inr p) := by
    refine Classical.axiomOfChoice (r := fun p q => (p = mB e1 → q = Sum.inl (mA e0)) ∧ (p ≠ mB e1 → q = Sum.inr p)) (fun p => ?_)
    by_cases c : p = mB e1
    · exact ⟨Sum.inl (mA e0), fun _ => rfl, fun q => absurd c q⟩
    · exact ⟨Sum.inr p, fun q => absurd q c, fun _ => rfl⟩
  obtain ⟨g, hg⟩ := hg
  refine ⟨ΦA ⊕ ΦB, fun e => bif I e then g (mB e) else Sum.inl (mA e), fun e => bif A e then Sum.inl (lA e) else g (lB e), fun e => bif A e then Sum.inl (rA e) else g (rB e), fun X => ⟨fun ⟨h1, h2⟩ => ?_, fun ⟨c, hc⟩ => ?_⟩⟩
  · have cases3 : ∀ e, X e = true → (A e = true ∨ (cs l e = true ∧ I e = false)) ∨ (B e = true ∨ I e = true) := by
      intro e he
      rcases h1 e he with q | q
      · cases r : I e with
        | true => exact Or.inr (Or.inr rfl)
        | false => exact Or.inl (Or.inr ⟨q, rfl⟩)
      · rw [Bool.or_eq_true] at q
        rcases q with q | q
        · exact Or.inl (Or.inl q)
        · exact Or.inr (Or.inl q)
    have pa : ∀ e, (A e || (cs l e && !I e)) = true ↔ (A e = true ∨ (cs l e = true ∧ I e = false)) := fun e => by
      rw [Bool.or_eq_true, Bool.and_eq_true, Bool.not_eq_true']
    have pb : ∀ e, (B e || I e) = true ↔ (B e = true ∨ I e = true) := fun e => by rw [Bool.or_eq_true]
    have noAB : ∀ e, (A e || (cs l e && !I e)) = true → (B e || I e) = false := by
      intro e he
      rcases (pa e).mp he with q | ⟨q, r⟩
      · rw [hAB e q, Bool.false_or]
        cases r : I e with
        | false => rfl
        | true => have := hA e q; rw [hIC e r] at this; cases this
      · rw [cB0 e q, r]; rfl
    have eX : X = xs (fun e => X e && (A e || (cs l e && !I e))) (fun e => X e && (B e || I e)) := by
      funext e
      show X e = ((X e && (A e || (cs l e && !I e))) ^^ (X e && (B e || I e)))
      cases q : X e with
      | false => rfl
      | true =>
        rcases cases3 e q with r | r
        · have r' := (pa e).mpr r
          rw [r', noAB e r']; rfl
        · have r' := (pb e).mpr r
          cases w : (A e || (cs l e && !I e)) with
          | false => rw [r']; rfl
          | true => rw [noAB e w] at r'; cases r'
    have dA : ∀ x, x ≠ u → x ≠ v → dg x (fun e => X e && (A e || (cs l e && !I e))) = false := by
      intro x hxu hxv
      by_cases c : ∃ e, (A e || (cs l e && !I e)) = true ∧ inc x e = true
      · obtain ⟨e, c1, c2⟩ := c
        rw [← h2 x]
        refine dg_cong (fun e' _ hi => ?_)
        cases q : X e' with
        | false => rfl
        | true =>
          rcases cases3 e' q with r | r
          · rw [(pa e').mpr r]; rfl
          · rcases hsh x e e' ((pa e).mp c1) c2 r hi with w | w
            · exact absurd w hxu
            · exact absurd w hxv
      · refine dg_no (fun e _ hi => ?_)
        cases r : (A e || (cs l e && !I e)) with
        | false => rw [Bool.and_false]
        | true => exact absurd ⟨e, r, hi⟩ c
    have dB : ∀ x, dg x (fun e => X e && (B e || I e)) = dg x (fun e => X e && (A e || (cs l e && !I e))) := by
      intro x
      have := h2 x
      rw [eX, dg_xs] at this
      cases g1 : dg x (fun e => X e && (A e || (cs l e && !I e))) <;> cases g2 : dg x (fun e => X e && (B e || I e)) <;> rw [g1, g2] at this <;> first | rfl | cases this
    have hp := odd_pair huv dA
    -- t: odd at the two nodes
    obtain ⟨t, ht⟩ : ∃ t, t = dg u (fun e => X e && (A e || (cs l e && !I e))) := ⟨_, rfl⟩
    have dall : ∀ x, dg x (fun e => X e && (A e || (cs l e && !I e))) = (t && (decide (x = u) ^^ decide (x = v))) := by
      intro x
      by_cases c1 : x = u
      · rw [c1, decide_eq_true rfl, decide_eq_false huv, ← ht]; cases t <;> rfl
      · by_cases c2 : x = v
        · rw [c2, decide_eq_true (rfl : v = v), decide_eq_false (Ne.symm huv), ← hp, ← ht]; cases t <;> rfl
        · rw [dA x c1 c2, decide_eq_false c1, decide_eq_false c2]; cases t <;> rfl
    have dt : ∀ (K : Nat → Bool) x, dg x (fun e => t && K e) = (t && dg x K) := by
      intro K x
      cases t with
      | false => rw [Bool.false_and]; exact dg_no (fun e _ _ => rfl)
      | true => rw [Bool.true_and]; exact dg_cong (fun e _ _ => rfl)
    have evA : ev (xs (fun e => X e && (A e || (cs l e && !I e))) (fun e => t && I e)) := by
      intro x
      rw [dg_xs, dall, dt, hd, Bool.xor_self]
    have evB : ev (xs (fun e => X e && (B e || I e)) (fun e => t && (cs l e && !I e))) := by
      intro x
      rw [dg_xs, dB, dall, dt, hdJ, Bool.xor_self]
    obtain ⟨cA, kA⟩ := (pA _).mp ⟨fun e he => by
      change ((X e && (A e || (cs l e && !I e))) ^^ (t && I e)) = true at he
      cases r : I e with
      | true => exact Or.inl (hIC e r)
      | false =>
        rw [r, Bool.and_false, Bool.xor_false, Bool.and_eq_true, Bool.or_eq_true, Bool.and_eq_true] at he
        rcases he.2 with w | w
        · exact Or.inr w
        · exact Or.inl w.1, evA⟩
    obtain ⟨cB, kB⟩ := (pB _).mp ⟨fun e he => by
      change ((X e && (B e || I e)) ^^ (t && (cs l e && !I e))) = true at he
      cases r : cs l e with
      | true => exact Or.inl rfl
      | false =>
        have hI' : I e = false := by
          cases w : I e with
          | false => rfl
          | true => rw [hIC e w] at r; cases r
        rw [r, hI', Bool.false_and, Bool.and_false, Bool.xor_false, Bool.or_false, Bool.and_eq_true] at he
        exact Or.inr he.2, evB⟩
    have tA : cA (mA e0) = t := by
      have := kA e0
      change ((X e0 && (A e0 || (cs l e0 && !I e0))) ^^ (t && I e0)) = _ at this
      rw [he0, hIC e0 he0, cA0 e0 (hIC e0 he0)] at this
      cases g0 : X e0 <;> cases g1 : cA (mA e0) <;> cases t <;> rw [g0, g1] at this <;> first | rfl | cases this
    have tB : cB (mB e1) = t := by
      have := kB e1
      change ((X e1 && (B e1 || I e1)) ^^ (t && (cs l e1 && !I e1))) = _ at this
      rw [he1, he1', cB0 e1 he1] at this
      cases g0 : X e1 <;> cases g1 : cB (mB e1) <;> cases t <;> rw [g0, g1] at this <;> first | rfl | cases this
    have cg : ∀ p, (Sum.elim cA cB) (g p) = cB p := by
      intro p
      by_cases w : p = mB e1
      · rw [(hg p).1 w, w, tB, ← tA]; rfl
      · rw [(hg p).2 w]; rfl
    refine ⟨Sum.elim cA cB, fun e => ?_⟩
    show X e = ((cs l e && Sum.elim cA cB (bif I e then g (mB e) else Sum.inl (mA e))) || ((A e || B e) && (Sum.elim cA cB (bif A e then Sum.inl (lA e) else g (lB e)) ^^ Sum.elim cA cB (bif A e then Sum.inl (rA e) else g (rB e)))))
    cases r : cs l e with
    | true =>
      rw [cA0 e r, cB0 e r, Bool.or_self, Bool.false_and, Bool.or_false, Bool.true_and]
      cases w : I e with
      | true =>
        have := kB e
        change ((X e && (B e || I e)) ^^ (t && (cs l e && !I e))) = _ at this
        rw [r, w, cB0 e r] at this
        rw [cond_true, cg]
        cases g1 : X e <;> cases g2 : cB (mB e) <;> cases t <;> rw [g1, g2] at this <;> first | rfl | cases this
      | false =>
        have := kA e
        change ((X e && (A e || (cs l e && !I e))) ^^ (t && I e)) = _ at this
        rw [r, w, cA0 e r] at this
        rw [cond_false]
        show X e = cA (mA e)
        cases g1 : X e <;> cases g2 : cA (mA e) <;> cases t <;> rw [g1, g2] at this <;> first | rfl | cases this
    | false =>
      have hI' : I e = false := by
        cases w : I e with
        | false => rfl
        | true => rw [hIC e w] at r; cases r
      rw [Bool.false_and, Bool.false_or]
      cases w : A e with
      | true =>
        have := kA e
        change ((X e && (A e || (cs l e && !I e))) ^^ (t && I e)) = _ at this
        rw [r, w, hI', Bool.false_and, Bool.or_false, Bool.and_true, Bool.and_false, Bool.xor_false, Bool.false_and, Bool.false_or] at this
        rw [this, Bool.true_or]; rfl
      | false =>
        rw [Bool.false_or, cond_false, cond_false, cg, cg]
        cases w2 : B e with
        | true =>
          have := kB e
          change ((X e && (B e || I e)) ^^ (t && (cs l e && !I e))) = _ at this
          rw [r, w2, hI', Bool.false_and, Bool.or_false, Bool.and_true, Bool.and_false, Bool.xor_false, Bool.false_and, Bool.false_or] at this
          exact this
        | false =>
          rw [Bool.false_and]
          cases q : X e with
          | false => rfl
          | true =>
            rcases h1 e q with z | z
            · rw [r] at z; cases z
            · change (A e || B e) = true at z
              rw [w, w2] at z; cases z
  · have yA := (pA (fun e => (cs l e && c (Sum.inl (mA e))) || (A e && (c (Sum.inl (lA e)) ^^ c (Sum.inl (rA e)))))).mpr ⟨fun p => c (Sum.inl p), fun _ => rfl⟩
    have yB := (pB (fun e => (cs l e && c (g (mB e))) || (B e && (c (g (lB e)) ^^ c (g (rB e)))))).mpr ⟨fun p => c (g p), fun _ => rfl⟩
    have yC : ev (fun e => cs l e && c (Sum.inl (mA e0))) := by
      cases c (Sum.inl (mA e0)) with
      | false => exact ev_no (fun e => Bool.and_false _)
      | true => exact ev_cong (fun e => (Bool.and_true _).symm) hcs
    refine ⟨fun e he => ?_, ev_cong (fun e => ?_) (ev_xs yA.2 (ev_xs yB.2 yC))⟩
    · rw [hc e, Bool.or_eq_true, Bool.and_eq_true, Bool.and_eq_true] at he
      exact he.imp And.left And.left
    · show (((cs l e && c (Sum.inl (mA e))) || (A e && (c (Sum.inl (lA e)) ^^ c (Sum.inl (rA e))))) ^^ (((cs l e && c (g (mB e))) || (B e && (c (g (lB e)) ^^ c (g (rB e))))) ^^ (cs l e && c (Sum.inl (mA e0))))) = X e
      rw [hc e]
      show _ = ((cs l e && c (bif I e then g (mB e) else Sum.inl (mA e))) || ((A e || B e) && (c (bif A e then Sum.inl (lA e) else g (lB e)) ^^ c (bif A e then Sum.inl (rA e) else g (rB e)))))
      cases r : cs l e with
      | true =>
        rw [cA0 e r, cB0 e r]
        cases w : I e with
        | true =>
          rw [mu e w, cond_true]
          cases c (Sum.inl (mA e0)) <;> cases c (g (mB e)) <;> rfl
        | false =>
          rw [nu e r w, (hg (mB e1)).1 rfl, cond_false]
          cases c (Sum.inl (mA e0)) <;> cases c (Sum.inl (mA e)) <;> rfl
      | false =>
        cases w : A e with
        | true =>
          rw [hAB e w, cond_true, cond_true]
          cases c (Sum.inl (lA e)) <;> cases c (Sum.inl (rA e)) <;> rfl
        | false =>
          rw [cond_false, cond_false]
          cases B e <;> cases c (g (lB e)) <;> cases c (g (rB e)) <;> rfl
