/-! ===== from one ring to the other ===== -/
section MOV
variable {H : Nat → Bool} {nr : Nat} {rg : Nat → List Nat} {F F' : Nat}
/-- two rings with two nodes in common -/
def Tw (nr : Nat) (rg : Nat → List Nat) (F F' : Nat) : Prop := F < nr ∧ F' < nr ∧ F ≠ F' ∧ ∃ w1 w2, w1 ≠ w2 ∧ (w1 ∈ rg F ∧ w1 ∈ rg F') ∧ (w2 ∈ rg F ∧ w2 ∈ rg F')
theorem Tw_comm (h : Tw nr rg F F') : Tw nr rg F' F := by
  obtain ⟨h1, h2, h3, w1, w2, h4, h5, h6⟩ := h
  exact ⟨h2, h1, Ne.symm h3, w1, w2, h4, h5.symm, h6.symm⟩
theorem Tw_turn (hI : Iv H nr rg) (h : Tw nr rg F F') {x : Nat} (hx : x ∈ rg F) (hx' : x ∈ rg F') {e1 e2 : Nat} (h1 : cs (rg F) e1 = true) (h2 : cs (rg F) e2 = true) (i1 : inc x e1 = true) (i2 : inc x e2 = true) (n : e1 ≠ e2) : ide H nr rg F F' e1 ≠ ide H nr rg F F' e2 := by
  obtain ⟨q1, q2, q3, w1, w2, q4, q5, q6⟩ := h
  by_cases c : w1 = x
  · exact seg_turn hI q1 q2 q3 hx hx' q6.1 q6.2 (by omega) h1 h2 i1 i2 n
  · exact seg_turn hI q1 q2 q3 hx hx' q5.1 q5.2 c h1 h2 i1 i2 n
theorem Tw_two (hI : Iv H nr rg) (h : Tw nr rg F F') {j e0 : Nat} (h0 : sgm H nr rg F F' j e0 = true) : ∃ u v, u ≠ v ∧ ∀ x, dg x (sgm H nr rg F F' j) = (decide (x = u) ^^ decide (x = v)) := by
  obtain ⟨q1, q2, q3, w1, w2, q4, q5, q6⟩ := h
  exact seg_two hI q1 q2 q3 q4 q5.1 q5.2 q6.1 q6.2 h0
/-- there is more of the ring than one piece -/
theorem Tw_more (hI : Iv H nr rg) (h : Tw nr rg F F') (j : Nat) : ∃ e, cs (rg F) e = true ∧ sgm H nr rg F F' j e = false := by
  have h' := h
  obtain ⟨q1, q2, q3, w1, w2, q4, q5, q6⟩ := h'
  obtain ⟨g1, g2, n, c1, c2, i1, i2, _⟩ := cs_two (hI.1 F q1) q5.1
  have k := Tw_turn hI h q5.1 q5.2 c1 c2 i1 i2 n
  by_cases c : ide H nr rg F F' g1 = j
  · refine ⟨g2, c2, ?_⟩
    cases w : sgm H nr rg F F' j g2 with
    | false => rfl
    | true => exact absurd (by rw [c, (sgm_t.mp w).2]) k
  · refine ⟨g1, c1, ?_⟩
    cases w : sgm H nr rg F F' j g1 with
    | false => rfl
    | true => exact absurd (sgm_t.mp w).2 c
theorem Tw_meet (hI : Iv H nr rg) (h : Tw nr rg F F') {j u v : Nat} (hd : ∀ x, dg x (sgm H nr rg F F' j) = (decide (x = u) ^^ decide (x = v))) {x g : Nat} (hx : x ∈ rg F) (hx' : x ∈ rg F') (hg : sgm H nr rg F F' j g = true) (ig : inc x g = true) : x = u ∨ x = v := by
  obtain ⟨g1, g2, n, c1, c2, i1, i2, q⟩ := cs_two (hI.1 F h.1) hx
  have hg' := sgm_t.mp hg
  obtain ⟨c, k1, k2, k3⟩ : ∃ c, cs (rg F) c = true ∧ inc x c = true ∧ c ≠ g := by
    by_cases w : g1 = g
    · exact ⟨g2, c2, i2, by omega⟩
    · exact ⟨g1, c1, i1, w⟩
  have k := Tw_turn hI h hx hx' k1 hg'.1 k2 ig k3
  rw [hg'.2] at k
  exact seg_end hI h.1 hd hg ig k1 k k2
theorem Tw_series (hI : Iv H nr rg) (h : Tw nr rg F F') {T : Nat → Bool} (hTW : ∀ e x, T e = true → inc x e = true → VH H x → x ∈ rg F ∧ x ∈ rg F') {X : Nat → Bool} (hX : ∀ e, X e = true → cs (rg F) e = true ∨ T e = true) (hev : ev X) {e g : Nat} (he : cs (rg F) e = true) (hg : cs (rg F) g = true) (hi : ide H nr rg F F' e = ide H nr rg F F' g) : X e = X g := by
  have se : sgm H nr rg F F' (ide H nr rg F F' g) e = true := sgm_t.mpr ⟨he, hi⟩
  have sg' : sgm H nr rg F F' (ide H nr rg F F' g) g = true := sgm_t.mpr ⟨hg, rfl⟩
  obtain ⟨u, v, huv, hd⟩ := Tw_two hI h se
  obtain ⟨t, ht⟩ := series (A := T) (hI.1 F h.1) (fun e he => (sgm_t.mp he).1) (Tw_more hI h _) huv hd (fun x c g' hc hic hg' hig => by
    have hg2 := sgm_t.mp hg'
    rcases hc with hc | ⟨hc, hc2⟩
    · have w := hTW c x hc hic ⟨g', hI.2.2.1 F h.1 g' hg2.1, hig⟩
      exact Tw_meet hI h hd w.1 w.2 hg' hig
    · refine seg_end hI h.1 hd hg' hig hc (fun q => ?_) hic
      rw [sgm_t.mpr ⟨hc, q⟩] at hc2
      cases hc2) hX hev
  rw [ht e se, ht g sg']
theorem Tw_rep (hI : Iv H nr rg) (h : Tw nr rg F F') {e : Nat} (he : cs (rg F') e = true) : ∃ g, cs (rg F) g = true ∧ ide H nr rg F F' g = ide H nr rg F F' e := by
  by_cases c : ∃ g, cs (rg F) g = true ∧ ide H nr rg F F' g = ide H nr rg F F' e
  · exact c
  · exfalso
    have s' : sgm H nr rg F' F (ide H nr rg F F' e) e = true := sgm_t.mpr ⟨he, (ide_comm e).symm⟩
    obtain ⟨u, v, huv, hd⟩ := Tw_two hI (Tw_comm h) s'
    have k := hd u
    rw [← sgm_dg hI h.1 h.2.1 h.2.2.1, dg_no (fun g _ _ => ?_), decide_eq_true rfl, decide_eq_false huv] at k
    · cases k
    · cases w : sgm H nr rg F F' (ide H nr rg F F' e) g with
      | false => rfl
      | true => exact absurd ⟨g, sgm_t.mp w⟩ c
/-- what hangs on the common nodes alone is moved to the other ring -/
theorem Tw_move (hI : Iv H nr rg) (h : Tw nr rg F F') {T : Nat → Bool} (hTH : ∀ e, T e = true → H e = false) (hTW : ∀ e x, T e = true → inc x e = true → VH H x → x ∈ rg F ∧ x ∈ rg F') (o : OS (cs (rg F)) T) : OS (cs (rg F')) T := by
  obtain ⟨Φ, m, l, r, p⟩ := o
  have hF := h.1
  have hF' := h.2.1
  have cT : ∀ e, cs (rg F) e = true → T e = false := fun e q => by
    cases w : T e with
    | false => rfl
    | true => have := hI.2.2.1 F hF e q; rw [hTH e w] at this; cases this
  have cT' : ∀ e, cs (rg F') e = true → T e = false := fun e q => by
    cases w : T e with
    | false => rfl
    | true => have := hI.2.2.1 F' hF' e q; rw [hTH e w] at this; cases this
  have hTW' : ∀ e x, T e = true → inc x e = true → VH H x → x ∈ rg F' ∧ x ∈ rg F := fun e x q1 q2 q3 => (hTW e x q1 q2 q3).symm
  have mconst : ∀ e g, cs (rg F) e = true → cs (rg F) g = true → ide H nr rg F F' e = ide H nr rg F F' g → m e = m g := by
    intro e g he hg hi
    have k := (p (fun c => (cs (rg F) c && cb (m c = m g)) || (T c && (cb (l c = m g) ^^ cb (r c = m g))))).mpr ⟨fun q => cb (q = m g), fun _ => rfl⟩
    have s := Tw_series hI h hTW k.1 k.2 he hg hi
    rw [he, hg, cT e he, cT g hg, cb_t.mpr (rfl : m g = m g)] at s
    refine cb_t.mp ?_
    cases w : cb (m e = m g) with
    | true => rfl
    | false => rw [w] at s; cases s
  have ch : ∀ e, ∃ g, cs (rg F') e = true → cs (rg F) g = true ∧ ide H nr rg F F' g = ide H nr rg F F' e := by
    intro e
    cases c : cs (rg F') e with
    | false => exact ⟨0, fun q => by cases q⟩
    | true =>
      obtain ⟨g, g1, g2⟩ := Tw_rep hI h c
      exact ⟨g, fun _ => ⟨g1, g2⟩⟩
  obtain ⟨R, hR⟩ := Classical.axiomOfChoice ch
  have sev := seg_ev hI hF hF' h.2.2.1
  refine ⟨Φ, fun e => m (R e), l, r, fun X => ⟨fun ⟨h1, h2⟩ => ?_, fun ⟨c, hc⟩ => ?_⟩⟩
  · -- t: what X has of each piece
    have ser : ∀ e g, cs (rg F') e = true → cs (rg F') g = true → ide H nr rg F F' e = ide H nr rg F F' g → X e = X g := fun e g he hg hi => Tw_series hI (Tw_comm h) hTW' h1 h2 he hg (by rw [ide_comm (F := F') (F' := F), hi, ide_comm (F := F') (F' := F)])
    have tv : ∀ e, cs (rg F') e = true → X e = cb (∃ g, cs (rg F') g = true ∧ ide H nr rg F F' g = ide H nr rg F F' e ∧ X g = true) := by
      intro e he
      cases q : X e with
      | true => exact (cb_t.mpr ⟨e, he, rfl, q⟩).symm
      | false =>
        refine (cb_f.mpr ?_).symm
        rintro ⟨g, g1, g2, g3⟩
        rw [ser g e g1 he g2, q] at g3
        cases g3
    obtain ⟨c, hc⟩ := (p (fun e => (cs (rg F) e && cb (∃ g, cs (rg F') g = true ∧ ide H nr rg F F' g = ide H nr rg F F' e ∧ X g = true)) || (T e && X e))).mp ⟨fun e he => by
      rw [Bool.or_eq_true, Bool.and_eq_true, Bool.and_eq_true] at he
      exact he.imp And.left And.left, ev_cong (fun e => by
      show (X e ^^ ((cs (rg F) e && cb (∃ g, cs (rg F') g = true ∧ ide H nr rg F F' g = ide H nr rg F F' e ∧ X g = true)) ^^ (cs (rg F') e && cb (∃ g, cs (rg F') g = true ∧ ide H nr rg F F' g = ide H nr rg F F' e ∧ X g = true)))) = _
      cases w' : cs (rg F') e with
      | true =>
        rw [cT' e w', tv e w']
        cases cs (rg F) e <;> cases cb (∃ g, cs (rg F') g = true ∧ ide H nr rg F F' g = ide H nr rg F F' e ∧ X g = true) <;> rfl
      | false =>
        cases w : cs (rg F) e with
        | true =>
          have hx : X e = false := by
            cases q : X e with
            | false => rfl
            | true =>
              rcases h1 e q with z | z
              · rw [w'] at z; cases z
              · rw [cT e w] at z; cases z
          rw [hx, cT e w]
          cases cb (∃ g, cs (rg F') g = true ∧ ide H nr rg F F' g = ide H nr rg F F' e ∧ X g = true) <;> rfl
        | false =>
          cases q : X e with
          | false => rw [Bool.and_false]; rfl
          | true =>
            rcases h1 e q with z | z
            · rw [w'] at z; cases z
            · rw [z]; rfl) (ev_xs h2 (sev (fun j => cb (∃ g, cs (rg F') g = true ∧ ide H nr rg F F' g = j ∧ X g = true))))⟩
    refine ⟨c, fun e => ?_⟩
    cases w' : cs (rg F') e with
    | true =>
      have k := hR e w'
      have hce := hc (R e)
      rw [k.1, cT (R e) k.1, Bool.true_and, Bool.false_and, Bool.or_false, Bool.true_and, Bool.false_and, Bool.or_false, k.2] at hce
      rw [cT' e w', tv e w', hce, Bool.true_and, Bool.false_and, Bool.or_false]
    | false =>
      rw [Bool.false_and, Bool.false_or]
      cases w : T e with
      | true =>
        have hF0 : cs (rg F) e = false := by
          cases z : cs (rg F) e with
          | false => rfl
          | true => rw [cT e z] at w; cases w
        have hce := hc e
        rw [hF0, w, Bool.false_and, Bool.false_or, Bool.true_and, Bool.false_and, Bool.false_or, Bool.true_and] at hce
        rw [hce, Bool.true_and]
      | false =>
        cases q : X e with
        | false => rfl
        | true =>
          rcases h1 e q with z | z
          · rw [w'] at z; cases z
          · rw [w] at z; cases z
  · have y := (p (fun e => (cs (rg F) e && c (m e)) || (T e && (c (l e) ^^ c (r e))))).mpr ⟨c, fun _ => rfl⟩
    refine ⟨fun e he => ?_, ev_cong (fun e => ?_) (ev_xs y.2 (sev (fun j => cb (∃ g, cs (rg F) g = true ∧ ide H nr rg F F' g = j ∧ c (m g) = true))))⟩
    · rw [hc e, Bool.or_eq_true, Bool.and_eq_true, Bool.and_eq_true] at he
      exact he.imp And.left And.left
    · show (((cs (rg F) e && c (m e)) || (T e && (c (l e) ^^ c (r e)))) ^^ ((cs (rg F) e && cb (∃ g, cs (rg F) g = true ∧ ide H nr rg F F' g = ide H nr rg F F' e ∧ c (m g) = true)) ^^ (cs (rg F') e && cb (∃ g, cs (rg F) g = true ∧ ide H nr rg F F' g = ide H nr rg F F' e ∧ c (m g) = true)))) = X e
      rw [hc e]
      have tv : ∀ g, cs (rg F) g = true → ide H nr rg F F' g = ide H nr rg F F' e → c (m g) = cb (∃ g, cs (rg F) g = true ∧ ide H nr rg F F' g = ide H nr rg F F' e ∧ c (m g) = true) := by
        intro g hg hi
        cases q : c (m g) with
        | true => exact (cb_t.mpr ⟨g, hg, hi, q⟩).symm
        | false =>
          refine (cb_f.mpr ?_).symm
          rintro ⟨g', g1, g2, g3⟩
          rw [mconst g' g g1 hg (by rw [g2, hi]), q] at g3
          cases g3
      cases w : cs (rg F) e with
      | true =>
        rw [cT e w, tv e w rfl]
        cases w' : cs (rg F') e with
        | true =>
          have k := hR e w'
          rw [tv (R e) k.1 k.2]
          cases cb (∃ g, cs (rg F) g = true ∧ ide H nr rg F F' g = ide H nr rg F F' e ∧ c (m g) = true) <;> rfl
        | false =>
          cases cb (∃ g, cs (rg F) g = true ∧ ide H nr rg F F' g = ide H nr rg F F' e ∧ c (m g) = true) <;> rfl
      | false =>
        cases w' : cs (rg F') e with
        | true =>
          have k := hR e w'
          rw [tv (R e) k.1 k.2, cT' e w']
          cases cb (∃ g, cs (rg F) g = true ∧ ide H nr rg F F' g = ide H nr rg F F' e ∧ c (m g) = true) <;> rfl
        | false =>
          rw [Bool.false_and, Bool.false_and, Bool.false_and, Bool.xor_false, Bool.xor_false, Bool.false_or]
end MOV
