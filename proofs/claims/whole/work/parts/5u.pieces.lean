/-! ===== a piece has two ends ===== -/
section PCS
variable {H : Nat → Bool} {nr : Nat} {rg : Nat → List Nat} {F F' : Nat}
noncomputable def sgm (H : Nat → Bool) (nr : Nat) (rg : Nat → List Nat) (F F' j e : Nat) : Bool := cs (rg F) e && decide (ide H nr rg F F' e = j)
theorem sgm_t {j e : Nat} : sgm H nr rg F F' j e = true ↔ cs (rg F) e = true ∧ ide H nr rg F F' e = j := by
  unfold sgm
  rw [Bool.and_eq_true, decide_eq_true_eq]
theorem sgm_dg (hI : Iv H nr rg) (hF : F < nr) (hF' : F' < nr) (hne : F ≠ F') (j x : Nat) : dg x (sgm H nr rg F F' j) = dg x (sgm H nr rg F' F j) := by
  have k := seg_ev hI hF hF' hne (fun i => decide (i = j)) x
  have e : (fun e => (cs (rg F) e && decide (ide H nr rg F F' e = j)) ^^ (cs (rg F') e && decide (ide H nr rg F F' e = j))) = xs (sgm H nr rg F F' j) (sgm H nr rg F' F j) := by
    funext e
    show _ = (sgm H nr rg F F' j e ^^ sgm H nr rg F' F j e)
    unfold sgm
    rw [ide_comm (F := F') (F' := F)]
  rw [e, dg_xs] at k
  cases g1 : dg x (sgm H nr rg F F' j) <;> cases g2 : dg x (sgm H nr rg F' F j) <;> rw [g1, g2] at k <;> first | rfl | cases k
/-- at a common node the ring's two edges lie in two pieces -/
theorem seg_turn (hI : Iv H nr rg) (hF : F < nr) (hF' : F' < nr) (hne : F ≠ F') {x w : Nat} (hx : x ∈ rg F) (hx' : x ∈ rg F') (hw : w ∈ rg F) (hw' : w ∈ rg F') (hxw : w ≠ x) {e1 e2 : Nat} (h1 : cs (rg F) e1 = true) (h2 : cs (rg F) e2 = true) (i1 : inc x e1 = true) (i2 : inc x e2 = true) (n : e1 ≠ e2) : ide H nr rg F F' e1 ≠ ide H nr rg F F' e2 := by
  intro hi
  obtain ⟨A, a1, a2⟩ := seg_cut hI hF hF' hne h1 h2 n hi
  obtain ⟨g1, g2, _, _, _, _, _, q⟩ := cs_two (hI.1 F hF) hx
  have only : ∀ e, cs (rg F) e = true → inc x e = true → e = e1 ∨ e = e2 := by
    intro e he hie
    have := q e he hie
    have := q e1 h1 i1
    have := q e2 h2 i2
    omega
  have k1 : A w = A x := cs_conn (hI.1 F' hF') a2 hw' hx'
  have k2 := cs_conn (hI.1 F hF) (A := fun z => A z ^^ decide (z = x)) (fun e he => by
    have e0 : dl (fun z => A z ^^ decide (z = x)) e = (dl A e ^^ inc x e) := by
      unfold dl inc
      have c1 : decide (e / 9 = x) = decide (x = e / 9) := decide_eq_decide.mpr eq_comm
      have c2 : decide (e % 9 = x) = decide (x = e % 9) := decide_eq_decide.mpr eq_comm
      show ((A (e / 9) ^^ decide (e / 9 = x)) ^^ (A (e % 9) ^^ decide (e % 9 = x))) = _
      rw [c1, c2]
      cases A (e / 9) <;> cases A (e % 9) <;> cases decide (x = e / 9) <;> cases decide (x = e % 9) <;> rfl
    rw [e0, a1 e he]
    cases g : inc x e with
    | true =>
      rcases only e he g with r | r
      · rw [decide_eq_true r]; rfl
      · rw [decide_eq_true r, Bool.or_true]; rfl
    | false =>
      rw [decide_eq_false (fun r => by rw [r, i1] at g; cases g), decide_eq_false (fun r => by rw [r, i2] at g; cases g)]; rfl) hw hx
  rw [decide_eq_false hxw, decide_eq_true rfl, k1] at k2
  cases g : A x <;> rw [g] at k2 <;> cases k2
theorem dl_not (A : Nat → Bool) (e : Nat) : dl (fun z => !A z) e = dl A e := by
  show ((!A (e / 9)) ^^ (!A (e % 9))) = (A (e / 9) ^^ A (e % 9))
  cases A (e / 9) <;> cases A (e % 9) <;> rfl
/-- the same, with the side of the other ring named -/
theorem seg_side (hI : Iv H nr rg) (hF : F < nr) (hF' : F' < nr) (hne : F ≠ F') {e1 e2 : Nat} (h1 : cs (rg F) e1 = true) (h2 : cs (rg F) e2 = true) (n : e1 ≠ e2) (hi : ide H nr rg F F' e1 = ide H nr rg F F' e2) : ∃ A, (∀ e, cs (rg F) e = true → dl A e = (decide (e = e1) || decide (e = e2))) ∧ ∀ x, x ∈ rg F' → A x = false := by
  obtain ⟨A, a1, a2⟩ := seg_cut hI hF hF' hne h1 h2 n hi
  have hc : ∀ x y, x ∈ rg F' → y ∈ rg F' → A x = A y := fun x y hx hy => cs_conn (hI.1 F' hF') a2 hx hy
  by_cases q : ∃ x, x ∈ rg F' ∧ A x = true
  · obtain ⟨x, q1, q2⟩ := q
    refine ⟨fun z => !A z, fun e he => ?_, fun y hy => ?_⟩
    · rw [← a1 e he, dl_not]
    · show (!A y) = false
      rw [hc y x hy q1, q2]; rfl
  · refine ⟨A, a1, fun x hx => ?_⟩
    cases g : A x with
    | false => rfl
    | true => exact absurd ⟨x, hx, g⟩ q
theorem dl_out {A : Nat → Bool} {e x : Nat} (h : dl A e = true) (hi : inc x e = true) (hx : A x = false) : ∃ y, inc y e = true ∧ y ≠ x ∧ A y = true := by
  have w := inc_t hi
  unfold dl at h
  rcases w.1 with q | q
  · refine ⟨e % 9, inc_r w.2, fun r => w.2 (by rw [r]; exact q.symm), ?_⟩
    rw [← q, hx, Bool.false_xor] at h
    exact h
  · refine ⟨e / 9, inc_l w.2, fun r => w.2 (by rw [r]; exact q), ?_⟩
    rw [← q, hx, Bool.xor_false] at h
    exact h
theorem dl_ends {A : Nat → Bool} {e x y : Nat} (hx : inc x e = true) (hy : inc y e = true) (hxy : x ≠ y) : dl A e = (A x ^^ A y) := by
  unfold dl
  rcases (inc_t hx).1 with q | q <;> rcases (inc_t hy).1 with r | r
  · omega
  · rw [← q, ← r]
  · rw [← q, ← r, Bool.xor_comm]
  · omega
/-- a piece of a ring is odd at two nodes, and these are common to both rings -/
theorem seg_two (hI : Iv H nr rg) (hF : F < nr) (hF' : F' < nr) (hne : F ≠ F') {w1 w2 : Nat} (hw : w1 ≠ w2) (p1 : w1 ∈ rg F) (p1' : w1 ∈ rg F') (p2 : w2 ∈ rg F) (p2' : w2 ∈ rg F') {j e0 : Nat} (h0 : sgm H nr rg F F' j e0 = true) :
    ∃ u v, u ≠ v ∧ ∀ x, dg x (sgm H nr rg F F' j) = (decide (x = u) ^^ decide (x = v)) := by
  have other : ∀ x, ∃ w, w ∈ rg F ∧ w ∈ rg F' ∧ w ≠ x := by
    intro x
    by_cases c : w1 = x
    · exact ⟨w2, p2, p2', by omega⟩
    · exact ⟨w1, p1, p1', c⟩
  have common : ∀ x, dg x (sgm H nr rg F F' j) = true → x ∈ rg F ∧ x ∈ rg F' := by
    intro x hx
    obtain ⟨e, _, q1, q2⟩ := dg_ex hx
    rw [sgm_dg hI hF hF' hne] at hx
    obtain ⟨g, _, r1, r2⟩ := dg_ex hx
    exact ⟨cs_on (hI.1 F hF).2.2 (sgm_t.mp q1).1 q2, cs_on (hI.1 F' hF').2.2 (sgm_t.mp r1).1 r2⟩
  -- not even
  have hex : ∃ u, dg u (sgm H nr rg F F' j) = true := by
    by_cases q : ∃ u, dg u (sgm H nr rg F F' j) = true
    · exact q
    · exfalso
      have hev : ev (sgm H nr rg F F' j) := fun v => by
        cases g : dg v (sgm H nr rg F F' j) with
        | false => rfl
        | true => exact absurd ⟨v, g⟩ q
      rcases cs_only (hI.1 F hF) (fun e he => (sgm_t.mp he).1) hev with r | r
      · rw [r e0] at h0; cases h0
      · obtain ⟨g1, g2, n, c1, c2, i1, i2, _⟩ := cs_two (hI.1 F hF) p1
        refine seg_turn hI hF hF' hne p1 p1' p2 p2' (Ne.symm hw) c1 c2 i1 i2 n ?_
        have s1 : sgm H nr rg F F' j g1 = true := by rw [r, c1]
        have s2 : sgm H nr rg F F' j g2 = true := by rw [r, c2]
        rw [(sgm_t.mp s1).2, (sgm_t.mp s2).2]
  obtain ⟨u, hu⟩ := hex
  obtain ⟨v, _, hvu, hv⟩ := odd_two hu
  refine ⟨u, v, Ne.symm hvu, fun x => ?_⟩
  by_cases cu : x = u
  · rw [cu, hu, decide_eq_true rfl, decide_eq_false (Ne.symm hvu)]; rfl
  · by_cases cv : x = v
    · rw [cv, hv, decide_eq_true (rfl : v = v), decide_eq_false hvu]; rfl
    · rw [decide_eq_false cu, decide_eq_false cv, Bool.xor_self]
      cases hx : dg x (sgm H nr rg F F' j) with
      | false => rfl
      | true =>
        exfalso
        have edge : ∀ z, dg z (sgm H nr rg F F' j) = true → ∃ e, cs (rg F) e = true ∧ ide H nr rg F F' e = j ∧ inc z e = true := by
          intro z hz
          obtain ⟨e, _, q1, q2⟩ := dg_ex hz
          exact ⟨e, (sgm_t.mp q1).1, (sgm_t.mp q1).2, q2⟩
        obtain ⟨eu, u1, u2, u3⟩ := edge u hu
        obtain ⟨ev', v1, v2, v3⟩ := edge v hv
        obtain ⟨ex, x1, x2, x3⟩ := edge x hx
        have bu := common u hu
        have bv := common v hv
        have bx := common x hx
        -- one edge between two of the odd nodes: impossible beside a third
        have noEdge : ∀ p q z e g, p ≠ q → z ≠ p → z ≠ q → p ∈ rg F' → q ∈ rg F' → cs (rg F) e = true → ide H nr rg F F' e = j → inc p e = true → inc q e = true → cs (rg F) g = true → ide H nr rg F F' g = j → inc z g = true → False := by
          intro p q z e g npq nzp nzq hp hq he hie ip iq hg hig iz
          have neg : e ≠ g := by
            intro r
            rw [← r, inc_two ip iq npq, decide_eq_false nzp, decide_eq_false nzq] at iz
            cases iz
          obtain ⟨A, a1, a2⟩ := seg_side hI hF hF' hne he hg neg (by rw [hie, hig])
          have := a1 e he
          rw [decide_eq_true rfl, Bool.true_or, dl_ends ip iq npq, a2 p hp, a2 q hq] at this
          cases this
        have nuv : eu ≠ ev' := fun r => noEdge u v x eu ex (Ne.symm hvu) cu cv bu.2 bv.2 u1 u2 u3 (by rw [r]; exact v3) x1 x2 x3
        have nux : eu ≠ ex := fun r => noEdge u x v eu ev' (Ne.symm cu) hvu (Ne.symm cv) bu.2 bx.2 u1 u2 u3 (by rw [r]; exact x3) v1 v2 v3
        have nvx : ev' ≠ ex := fun r => noEdge v x u ev' eu (Ne.symm cv) (Ne.symm hvu) (Ne.symm cu) bv.2 bx.2 v1 v2 v3 (by rw [r]; exact x3) u1 u2 u3
        obtain ⟨A, a1, a2⟩ := seg_side hI hF hF' hne u1 v1 nuv (by rw [u2, v2])
        obtain ⟨B, b1, b2⟩ := seg_side hI hF hF' hne u1 x1 nux (by rw [u2, x2])
        have hd : dl (fun z => A z && B z) eu = true := by
          obtain ⟨y, y1, y2, y3⟩ := dl_out (A := A) (e := eu) (x := u) (by rw [a1 eu u1, decide_eq_true rfl]; rfl) u3 (a2 u bu.2)
          have hB := b1 eu u1
          rw [decide_eq_true rfl, Bool.true_or, dl_ends u3 y1 (Ne.symm y2), b2 u bu.2, Bool.false_xor] at hB
          rw [dl_ends u3 y1 (Ne.symm y2), a2 u bu.2, y3, hB]; rfl
        have hp := ip_dl (ev_cs (hI.1 F hF).2.2) (fun z => A z && B z)
        obtain ⟨g, g1, g2, g3⟩ := ip_two hp (cs_lt (hI.1 F hF).2.2 u1) u1 hd
        -- g is cut by A or by B
        have hne9 := (cs_ne (hI.1 F hF) g2).1
        have cutA : ∀ z e, inc z e = true → A z = false → dl A e = false → dl (fun z => A z && B z) e = false := by
          intro z e hz hAz hdl
          have w := dl_f hdl hz
          rw [hAz] at w
          unfold dl at hdl ⊢
          rw [w, Bool.false_xor] at hdl
          show ((A (e / 9) && B (e / 9)) ^^ (A (e % 9) && B (e % 9))) = false
          rw [w, hdl]; rfl
        have cutB : ∀ z e, inc z e = true → B z = false → dl B e = false → dl (fun z => A z && B z) e = false := by
          intro z e hz hBz hdl
          have w := dl_f hdl hz
          rw [hBz] at w
          unfold dl at hdl ⊢
          rw [w, Bool.false_xor] at hdl
          show ((A (e / 9) && B (e / 9)) ^^ (A (e % 9) && B (e % 9))) = false
          rw [w, hdl, Bool.and_false, Bool.and_false]; rfl
        by_cases c1 : g = ev'
        · rw [c1, cutB v ev' v3 (b2 v bv.2) (by rw [b1 ev' v1, decide_eq_false (Ne.symm nuv), decide_eq_false nvx]; rfl)] at g3
          cases g3
        · by_cases c2 : g = ex
          · rw [c2, cutA x ex x3 (a2 x bx.2) (by rw [a1 ex x1, decide_eq_false (Ne.symm nux), decide_eq_false (Ne.symm nvx)]; rfl)] at g3
            cases g3
          · have dA : dl A g = false := by rw [a1 g g2, decide_eq_false g1, decide_eq_false c1]; rfl
            have dB : dl B g = false := by rw [b1 g g2, decide_eq_false g1, decide_eq_false c2]; rfl
            unfold dl at dA dB
            change ((A (g / 9) && B (g / 9)) ^^ (A (g % 9) && B (g % 9))) = true at g3
            cases w1 : A (g / 9) <;> cases w2 : A (g % 9) <;> cases w3 : B (g / 9) <;> cases w4 : B (g % 9) <;> rw [w1, w2] at dA <;> rw [w3, w4] at dB <;> rw [w1, w2, w3, w4] at g3 <;> first | exact absurd dA (by decide) | exact absurd dB (by decide) | exact absurd g3 (by decide)
/-- where a piece meets the rest of its ring, or a common node, is an end of it -/
theorem seg_end (hI : Iv H nr rg) (hF : F < nr) {j u v : Nat} (h : ∀ x, dg x (sgm H nr rg F F' j) = (decide (x = u) ^^ decide (x = v))) {x g c : Nat} (hg : sgm H nr rg F F' j g = true) (ig : inc x g = true) (hc : cs (rg F) c = true) (hj : ide H nr rg F F' c ≠ j) (ic : inc x c = true) : x = u ∨ x = v := by
  have hx : x ∈ rg F := cs_on (hI.1 F hF).2.2 hc ic
  have hg' := sgm_t.mp hg
  have ngc : g ≠ c := fun r => hj (by rw [← r]; exact hg'.2)
  obtain ⟨e1, e2, _, _, _, _, _, q⟩ := cs_two (hI.1 F hF) hx
  have d : dg x (sgm H nr rg F F' j) = true := by
    have : dg x (sgm H nr rg F F' j) = dg x (sg g) := by
      refine dg_cong (fun e _ hi => ?_)
      show _ = decide (e = g)
      by_cases r : e = g
      · rw [r, hg, decide_eq_true rfl]
      · rw [decide_eq_false r]
        cases w : sgm H nr rg F F' j e with
        | false => rfl
        | true =>
          exfalso
          have w' := sgm_t.mp w
          have k1 := q e w'.1 hi
          have k2 := q g hg'.1 ig
          have k3 := q c hc ic
          have : e ≠ c := fun r2 => hj (by rw [← r2]; exact w'.2)
          omega
    rw [this, dg_sg x (cs_lt (hI.1 F hF).2.2 hg'.1), ig]
  rw [h x] at d
  by_cases c1 : x = u
  · exact Or.inl c1
  · by_cases c2 : x = v
    · exact Or.inr c2
    · rw [decide_eq_false c1, decide_eq_false c2] at d; cases d
theorem and3 {a b c d : Bool} (h : (b && c) = d) : ((a && b) && c) = (d && a) := by
  rw [← h]
  cases a <;> cases b <;> cases c <;> rfl
/-- a node on the ring and on a third one is touched by that one's piece -/
theorem seg_third (hI : Iv H nr rg) (hF : F < nr) (hF' : F' < nr) (hne : F ≠ F') {k x : Nat} (hk : k < nr ∧ k ≠ F ∧ k ≠ F') (hx : x ∈ rg F) (hxk : x ∈ rg k) : ∃ e, sgm H nr rg F F' (cl H nr rg F F' k) e = true ∧ inc x e = true := by
  cases d : dg x (sgm H nr rg F F' (cl H nr rg F F' k)) with
  | true =>
    obtain ⟨e, _, q1, q2⟩ := dg_ex d
    exact ⟨e, q1, q2⟩
  | false =>
    have d' := d
    rw [sgm_dg hI hF hF' hne] at d'
    -- the part of the star that belongs to the piece
    have hinQ : ∀ i e, i < nr → cs (rg i) e = true → (i ≠ F ∧ i ≠ F') → (∃ i', (i' < nr ∧ i' ≠ F ∧ i' ≠ F') ∧ cs (rg i') e = true ∧ cl H nr rg F F' i' = cl H nr rg F F' k) → cl H nr rg F F' i = cl H nr rg F F' k := by
      rintro i e hi hie hn ⟨i', h1, h2, h3⟩
      rw [← h3]
      exact cl_eq (Rc_edge hI hF hF' ⟨hi, hn⟩ h1 hie h2)
    obtain ⟨A, hA⟩ := hI.2.2.2.2.1 (fun e => inc x e && cb (∃ i', (i' < nr ∧ i' ≠ F ∧ i' ≠ F') ∧ cs (rg i') e = true ∧ cl H nr rg F F' i' = cl H nr rg F F' k)) (fun i hi => by
      by_cases c1 : i = F
      · rw [c1, ← d]
        unfold ip dg
        refine py_cong 81 (fun e _ => ?_)
        have : (cb (∃ i', (i' < nr ∧ i' ≠ F ∧ i' ≠ F') ∧ cs (rg i') e = true ∧ cl H nr rg F F' i' = cl H nr rg F F' k) && cs (rg F) e) = sgm H nr rg F F' (cl H nr rg F F' k) e := by
          rw [Bool.eq_iff_iff, Bool.and_eq_true, sgm_t, cb_t]
          constructor
          · rintro ⟨⟨i', h1, h2, h3⟩, h4⟩
            exact ⟨h4, by rw [(ide_one hI hF hF' hne h4 h1 h2).1, h3]⟩
          · rintro ⟨h4, h5⟩
            refine ⟨?_, h4⟩
            have h' : cs (rg F') e = false := by
              cases w : cs (rg F') e with
              | false => rfl
              | true =>
                unfold ide at h5
                rw [h4, w, if_pos (by rfl)] at h5
                have := cl_lt (H := H) (rg := rg) hk
                omega
            have o := oth_sp hI hF hF' hne h4 h'
            exact ⟨_, o.1, o.2, by rw [← (ide_one hI hF hF' hne h4 o.1 o.2).1, h5]⟩
        exact and3 this
      · by_cases c2 : i = F'
        · rw [c2, ← d']
          unfold ip dg
          refine py_cong 81 (fun e _ => ?_)
          have : (cb (∃ i', (i' < nr ∧ i' ≠ F ∧ i' ≠ F') ∧ cs (rg i') e = true ∧ cl H nr rg F F' i' = cl H nr rg F F' k) && cs (rg F') e) = sgm H nr rg F' F (cl H nr rg F F' k) e := by
            rw [Bool.eq_iff_iff, Bool.and_eq_true, sgm_t, cb_t]
            constructor
            · rintro ⟨⟨i', h1, h2, h3⟩, h4⟩
              exact ⟨h4, by rw [(ide_one hI hF' hF (Ne.symm hne) h4 ⟨h1.1, h1.2.2, h1.2.1⟩ h2).1, ← cl_comm, h3]⟩
            · rintro ⟨h4, h5⟩
              refine ⟨?_, h4⟩
              have h' : cs (rg F) e = false := by
                cases w : cs (rg F) e with
                | false => rfl
                | true =>
                  unfold ide at h5
                  rw [h4, w, if_pos (by rfl)] at h5
                  have := cl_lt (H := H) (rg := rg) hk
                  omega
              have o := oth_sp hI hF' hF (Ne.symm hne) h4 h'
              exact ⟨_, ⟨o.1.1, o.1.2.2, o.1.2.1⟩, o.2, by rw [cl_comm, ← (ide_one hI hF' hF (Ne.symm hne) h4 o.1 o.2).1, h5]⟩
          exact and3 this
        · by_cases c3 : cl H nr rg F F' i = cl H nr rg F F' k
          · have := ev_cs (hI.1 i hi).2.2 x
            rw [← this]
            unfold ip dg
            refine py_cong 81 (fun e _ => ?_)
            refine and3 ?_
            cases w : cs (rg i) e with
            | false => rw [Bool.and_false]
            | true => rw [cb_t.mpr ⟨i, ⟨hi, c1, c2⟩, w, c3⟩]; rfl
          · refine ip_no (fun e he => ?_)
            rw [Bool.and_eq_true, cb_t] at he
            cases w : cs (rg i) e with
            | false => rfl
            | true => exact absurd (hinQ i e hi w ⟨c1, c2⟩ he.2) c3)
    have key : ∀ B : Nat → Bool, (∀ e, H e = true → (inc x e && cb (∃ i', (i' < nr ∧ i' ≠ F ∧ i' ≠ F') ∧ cs (rg i') e = true ∧ cl H nr rg F F' i' = cl H nr rg F F' k)) = dl B e) → B x = false → ∃ e, sgm H nr rg F F' (cl H nr rg F F' k) e = true ∧ inc x e = true := by
      intro B hB hBx
      rcases hI.2.2.2.2.2.1 B x (fun e he hd => by rw [← hB e he, Bool.and_eq_true] at hd; exact hd.1) hBx with q | q
      · exfalso
        obtain ⟨e1, _, _, r1, _, r2, _⟩ := cs_two (hI.1 k hk.1) hxk
        have hH := hI.2.2.1 k hk.1 e1 r1
        have w := hB e1 hH
        rw [r2, cb_t.mpr ⟨k, hk, r1, rfl⟩, Bool.true_and] at w
        obtain ⟨y, y1, y2, y3⟩ := dl_out w.symm r2 hBx
        rw [q y ⟨e1, hH, y1⟩ y2] at y3
        cases y3
      · obtain ⟨e1, _, _, r1, _, r2, _⟩ := cs_two (hI.1 F hF) hx
        have hH := hI.2.2.1 F hF e1 r1
        have w := hB e1 hH
        have hne9 := (inc_t r2).2
        have hd : dl B e1 = true := by
          rcases (inc_t r2).1 with g | g
          · rw [dl_ends r2 (inc_r hne9) (by rw [g]; exact hne9), hBx, q _ ⟨e1, hH, inc_r hne9⟩ (by rw [g]; exact Ne.symm hne9)]; rfl
          · rw [dl_ends r2 (inc_l hne9) (by rw [g]; exact Ne.symm hne9), hBx, q _ ⟨e1, hH, inc_l hne9⟩ (by rw [g]; exact hne9)]; rfl
        rw [hd, Bool.and_eq_true, cb_t] at w
        obtain ⟨_, i', h1, h2, h3⟩ := w
        exact ⟨e1, sgm_t.mpr ⟨r1, by rw [(ide_one hI hF hF' hne r1 h1 h2).1, h3]⟩, r2⟩
    cases hAx : A x with
    | false => exact key A hA hAx
    | true =>
      refine key (fun z => !A z) (fun e he => ?_) (by show (!A x) = false; rw [hAx]; rfl)
      rw [hA e he, dl_not]
end PCS
