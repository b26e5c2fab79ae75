/-! ===== fragments change places between two rings ===== -/
section SWP
variable {G H : Nat → Bool} {nr : Nat} {rg : Nat → List Nat} {F F' : Nat} {col : Nat → Nat} {T : Nat → Bool}
def CRule (G H : Nat → Bool) (nr : Nat) (rg : Nat → List Nat) : Prop := ∀ e, G e = true → H e = false → ∀ a b, a ≠ b → En G H e a → En G H e b → ∃ k1 k2, k1 < nr ∧ k2 < nr ∧ k1 ≠ k2 ∧ ∀ c, En G H e c → c ∈ rg k1 ∧ c ∈ rg k2
def TRule (G H : Nat → Bool) (rg : Nat → List Nat) (F F' : Nat) (T : Nat → Bool) : Prop := ∀ e, G e = true → H e = false → (T e = true ↔ ∀ a, En G H e a → a ∈ rg F ∧ a ∈ rg F')
theorem TRule_comm (h : TRule G H rg F F' T) : TRule G H rg F' F T := fun e h1 h2 => (h e h1 h2).trans ⟨fun q a ha => (q a ha).symm, fun q a ha => (q a ha).symm⟩
theorem T_share (hG : GW G) (hT : TRule G H rg F F' T) {e g z : Nat} (he : G e = true) (heH : H e = false) (hg : G g = true) (hgH : H g = false) (h1 : inc z e = true) (h2 : inc z g = true) (hz : ¬ VH H z) (h : T e = true) : T g = true :=
  (hT g hg hgH).mpr (fun a ha => (hT e he heH).mp h a (En_share hG hg he h2 h1 hz ha))
/-- where the part of a fragment set that hangs on common nodes is odd -/
theorem T_odd (hG : GW G) (hI : Iv H nr rg) (hT : TRule G H rg F F' T) {k : Nat} (hk : k < nr) {Z : Nat → Bool} (hZ : ev Z) (hZs : ∀ e, Z e = true → cs (rg k) e = true ∨ SF G H col k e = true) {x : Nat} (hx : ¬ (x ∈ rg F ∧ x ∈ rg F')) : dg x (fun e => Z e && (SF G H col k e && T e)) = false := by
  by_cases c : VH H x
  · refine dg_no (fun e _ hi => ?_)
    cases q : (SF G H col k e && T e) with
    | false => rw [Bool.and_false]
    | true =>
      rw [Bool.and_eq_true] at q
      have s := SF_t.mp q.1
      exact absurd ((hT e s.1 s.2.1).mp q.2 x ⟨c, Or.inl hi⟩) hx
  · by_cases c2 : ∃ g, (SF G H col k g && T g) = true ∧ inc x g = true
    · obtain ⟨g, g1, g2⟩ := c2
      rw [Bool.and_eq_true] at g1
      have sg := SF_t.mp g1.1
      rw [← hZ x]
      refine dg_cong (fun e _ hi => ?_)
      cases q : Z e with
      | false => rfl
      | true =>
        rcases hZs e q with w | w
        · exact absurd ⟨e, hI.2.2.1 k hk e w, hi⟩ c
        · have se := SF_t.mp w
          rw [w, T_share hG hT sg.1 sg.2.1 se.1 se.2.1 g2 hi c g1.2]; rfl
    · refine dg_no (fun e _ hi => ?_)
      cases q : (SF G H col k e && T e) with
      | false => rw [Bool.and_false]
      | true => exact absurd ⟨e, q, hi⟩ c2
theorem half_Z (hG : GW G) (hI : Iv H nr rg) (hE : Ex G H nr rg col) (h : Tw nr rg F F') (hT : TRule G H rg F F' T) (X : Nat → Bool) (hX1 : Sb X G) (hX2 : ev X) : ∃ Z, ev Z ∧ (∀ e, Z e = true → cs (rg F) e = true ∨ ((SF G H col F' e && T e) || (SF G H col F e && !T e)) = true) ∧ ∀ e, ((SF G H col F' e && T e) || (SF G H col F e && !T e)) = true → Z e = X e := by
  have hF := h.1
  have hF' := h.2.1
  have hne := h.2.2.1
  obtain ⟨Z, z1, z2, z3⟩ := hE.2.2 X hX1 hX2 F hF
  obtain ⟨Z', z1', z2', z3'⟩ := hE.2.2 X hX1 hX2 F' hF'
  obtain ⟨Y2, y2, y2'⟩ := cs_close (hI.1 F hF) (fun e => Z e && (SF G H col F e && T e)) (fun x hx => T_odd hG hI hT hF z1 z2 (fun q => hx q.1))
  obtain ⟨Y1, y1, y1'⟩ := cs_close (hI.1 F hF) (fun e => Z' e && (SF G H col F' e && T e)) (fun x hx => T_odd hG hI hT hF' z1' z2' (fun q => hx q.1))
  have offC : ∀ e k, SF G H col k e = true → cs (rg F) e = false := by
    intro e k q
    cases w : cs (rg F) e with
    | false => rfl
    | true => have := hI.2.2.1 F hF e w; rw [(SF_t.mp q).2.1] at this; cases this
  have Yo : ∀ e, cs (rg F) e = false → Y1 e = false ∧ Y2 e = false := by
    intro e q
    constructor
    · cases w : Y1 e with
      | false => rfl
      | true => rw [y1 e w] at q; cases q
    · cases w : Y2 e with
      | false => rfl
      | true => rw [y2 e w] at q; cases q
  have dis : ∀ e, SF G H col F e = true → SF G H col F' e = false := by
    intro e q
    cases w : SF G H col F' e with
    | false => rfl
    | true => exact absurd ((SF_t.mp q).2.2.symm.trans (SF_t.mp w).2.2) hne
  refine ⟨xs (xs Z (xs (fun e => Z e && (SF G H col F e && T e)) Y2)) (xs (fun e => Z' e && (SF G H col F' e && T e)) Y1), ev_xs (ev_xs z1 y2') y1', fun e he => ?_, fun e he => ?_⟩
  · cases c : cs (rg F) e with
    | true => exact Or.inl rfl
    | false =>
      refine Or.inr ?_
      change ((Z e ^^ ((Z e && (SF G H col F e && T e)) ^^ Y2 e)) ^^ ((Z' e && (SF G H col F' e && T e)) ^^ Y1 e)) = true at he
      rw [(Yo e c).1, (Yo e c).2] at he
      have hz : Z e = true → SF G H col F e = true := fun q => by
        rcases z2 e q with w | w
        · rw [c] at w; cases w
        · exact w
      cases q1 : Z e with
      | true =>
        rw [hz q1, dis e (hz q1)]
        rw [q1, hz q1, dis e (hz q1)] at he
        cases g : T e <;> rw [g] at he <;> cases g2 : Z' e <;> rw [g2] at he <;> first | rfl | exact absurd he (by decide)
      | false =>
        rw [q1] at he
        cases g : (SF G H col F' e && T e) with
        | true => rfl
        | false => rw [g, Bool.and_false, Bool.false_and] at he; exact absurd he (by decide)
  · show ((Z e ^^ ((Z e && (SF G H col F e && T e)) ^^ Y2 e)) ^^ ((Z' e && (SF G H col F' e && T e)) ^^ Y1 e)) = X e
    rw [Bool.or_eq_true, Bool.and_eq_true, Bool.and_eq_true, Bool.not_eq_true'] at he
    rcases he with ⟨q1, q2⟩ | ⟨q1, q2⟩
    · have c := offC e F' q1
      have s0 : SF G H col F e = false := by
        cases w : SF G H col F e with
        | false => rfl
        | true => rw [dis e w] at q1; cases q1
      have hz : Z e = false := by
        cases w : Z e with
        | false => rfl
        | true =>
          rcases z2 e w with r | r
          · rw [c] at r; cases r
          · rw [s0] at r; cases r
      rw [(Yo e c).1, (Yo e c).2, hz, q1, q2, z3' e q1]
      cases X e <;> rfl
    · have c := offC e F q1
      rw [(Yo e c).1, (Yo e c).2, q1, q2, dis e q1, z3 e q1]
      cases X e <;> cases Z' e <;> rfl
theorem half_OS (hG : GW G) (hI : Iv H nr rg) (hHG : Sb H G) (hE : Ex G H nr rg col) (h : Tw nr rg F F') (hT : TRule G H rg F F' T) (hR : CRule G H nr rg) : OS (cs (rg F)) (fun e => (SF G H col F' e && T e) || (SF G H col F e && !T e)) := by
  have hF := h.1
  have hF' := h.2.1
  have hne := h.2.2.1
  have disC : ∀ k, k < nr → ∀ j e, cs (rg k) e = true → SF G H col j e = false := fun k hk j e q => SF_H (hI.2.2.1 k hk e q)
  have offC : ∀ e k, SF G H col k e = true → cs (rg F) e = false := by
    intro e k q
    cases w : cs (rg F) e with
    | false => rfl
    | true => have := hI.2.2.1 F hF e w; rw [(SF_t.mp q).2.1] at this; cases this
  have tT : ∀ e, (SF G H col F' e && T e) = true → (G e = true ∧ H e = false ∧ col e = F') ∧ T e = true := fun e q => by
    rw [Bool.and_eq_true, SF_t] at q; exact q
  have tR : ∀ e, (SF G H col F e && !T e) = true → (G e = true ∧ H e = false ∧ col e = F) ∧ T e = false := fun e q => by
    rw [Bool.and_eq_true, SF_t, Bool.not_eq_true'] at q; exact q
  have oT : OS (cs (rg F)) (fun e => SF G H col F' e && T e) := by
    refine Tw_move hI (Tw_comm h) (fun e q => (tT e q).1.2.1) (fun e x q hi hv => ?_) (OS_del (fun e q => disC F' hF' F' e q) (fun e q => (Bool.and_eq_true _ _ ▸ q : SF G H col F' e = true ∧ T e = true).1) (hE.2.1 F' hF'))
    exact ((hT e (tT e q).1.1 (tT e q).1.2.1).mp (tT e q).2 x ⟨hv, Or.inl hi⟩).symm
  have oR : ∀ K : Nat → Bool, (∀ e, K e = true → SF G H col F e = true) → OS (cs (rg F)) K := fun K hK => OS_del (fun e q => disC F hF F e q) hK (hE.2.1 F hF)
  obtain ⟨c0, hc0, _⟩ := Tw_more hI h 0
  -- a piece for each set of ends
  have chA : ∀ E : Nat → Prop, ∃ j, (∃ c, sgm H nr rg F F' j c = true) ∧ ((∃ j', ∀ a, E a → (∃ c, sgm H nr rg F F' j' c = true ∧ inc a c = true) ∨ (a ∉ rg F ∧ j' = ide H nr rg F F' c0)) → ∀ a, E a → (∃ c, sgm H nr rg F F' j c = true ∧ inc a c = true) ∨ (a ∉ rg F ∧ j = ide H nr rg F F' c0)) := by
    intro E
    have hj0 : ∃ c, sgm H nr rg F F' (ide H nr rg F F' c0) c = true := ⟨c0, sgm_t.mpr ⟨hc0, rfl⟩⟩
    by_cases q : ∃ j', ∀ a, E a → (∃ c, sgm H nr rg F F' j' c = true ∧ inc a c = true) ∨ (a ∉ rg F ∧ j' = ide H nr rg F F' c0)
    · obtain ⟨j', hj'⟩ := q
      by_cases w : ∃ c, sgm H nr rg F F' j' c = true
      · exact ⟨j', w, fun _ => hj'⟩
      · refine ⟨_, hj0, fun _ a ha => ?_⟩
        rcases hj' a ha with ⟨c, r1, _⟩ | ⟨r1, _⟩
        · exact absurd ⟨c, r1⟩ w
        · exact Or.inr ⟨r1, rfl⟩
    · exact ⟨_, hj0, fun r => absurd r q⟩
  obtain ⟨as, has⟩ := Classical.axiomOfChoice chA
  have A1 : ∀ e g z, (SF G H col F e && !T e) = true → (SF G H col F g && !T g) = true → inc z e = true → inc z g = true → ¬ VH H z → as (En G H e) = as (En G H g) := by
    intro e g z q1 q2 h1 h2 hz
    have : En G H e = En G H g := funext (fun a => propext ⟨fun r => En_share hG (tR e q1).1.1 (tR g q2).1.1 h1 h2 hz r, fun r => En_share hG (tR g q2).1.1 (tR e q1).1.1 h2 h1 hz r⟩)
    rw [this]
  have A2 : ∀ e a, (SF G H col F e && !T e) = true → inc a e = true → VH H a → (∃ c, sgm H nr rg F F' (as (En G H e)) c = true ∧ inc a c = true) ∨ (a ∉ rg F ∧ as (En G H e) = ide H nr rg F F' c0) := by
    intro e a q hi hv
    obtain ⟨⟨e1, e2, e3⟩, e4⟩ := tR e q
    refine (has (En G H e)).2 ?_ a ⟨hv, Or.inl hi⟩
    by_cases c : ∃ b, b ≠ a ∧ En G H e b
    · obtain ⟨b, hba, hb⟩ := c
      have cf : ∀ d, En G H e d → d ∈ rg F := by
        intro d hd
        by_cases w : d = a
        · have := (col_frag hG hI hHG hE e1 e2 hv hi hb (Ne.symm hba)).1
          rw [e3] at this
          rw [w]; exact this
        · have := (col_frag hG hI hHG hE e1 e2 hv hi hd (Ne.symm w)).2
          rw [e3] at this
          exact this
      obtain ⟨k1, k2, hk1, hk2, hk12, hk⟩ := hR e e1 e2 a b (Ne.symm hba) ⟨hv, Or.inl hi⟩ hb
      have notT : ∀ k, (∀ c, En G H e c → c ∈ rg k) → k ≠ F' := by
        intro k hkc r
        have : T e = true := (hT e e1 e2).mpr (fun d hd => ⟨cf d hd, by rw [← r]; exact hkc d hd⟩)
        rw [this] at e4
        cases e4
      obtain ⟨k, kl, kF, kc⟩ : ∃ k, k < nr ∧ k ≠ F ∧ ∀ c, En G H e c → c ∈ rg k := by
        by_cases w : k1 = F
        · exact ⟨k2, hk2, by omega, fun c hc => (hk c hc).2⟩
        · exact ⟨k1, hk1, w, fun c hc => (hk c hc).1⟩
      have hk3 : k < nr ∧ k ≠ F ∧ k ≠ F' := ⟨kl, kF, notT k kc⟩
      exact ⟨cl H nr rg F F' k, fun d hd => Or.inl (seg_third hI hF hF' hne hk3 (cf d hd) (kc d hd))⟩
    · have only : ∀ b, En G H e b → b = a := fun b hb => by
        by_cases w : b = a
        · exact w
        · exact absurd ⟨b, w, hb⟩ c
      by_cases w : a ∈ rg F
      · obtain ⟨g1, _, _, r1, _, r2, _⟩ := cs_two (hI.1 F hF) w
        refine ⟨ide H nr rg F F' g1, fun b hb => Or.inl ⟨g1, sgm_t.mpr ⟨r1, rfl⟩, ?_⟩⟩
        rw [only b hb]; exact r2
      · refine ⟨ide H nr rg F F' c0, fun b hb => Or.inr ⟨?_, rfl⟩⟩
        rw [only b hb]; exact w
  -- the pieces are put in, one class after the other
  have main : ∀ n, OS (cs (rg F)) (fun e => (SF G H col F' e && T e) || ((SF G H col F e && !T e) && cb (∃ i, i < n ∧ (SF G H col F i && !T i) = true ∧ as (En G H e) = as (En G H i)))) := by
    intro n
    induction n with
    | zero =>
      refine OS_cong (fun _ => rfl) (fun e => ?_) oT
      rw [cb_f.mpr (fun ⟨i, q, _⟩ => by omega), Bool.and_false, Bool.or_false]
    | succ n ih =>
      by_cases c : (SF G H col F n && !T n) = true ∧ ¬ ∃ i, i < n ∧ (SF G H col F i && !T i) = true ∧ as (En G H n) = as (En G H i)
      · obtain ⟨c1, c2⟩ := c
        obtain ⟨g0, hg0⟩ := (has (En G H n)).1
        obtain ⟨u, v, huv, hd⟩ := Tw_two hI h hg0
        have k := glue (A := fun e => (SF G H col F' e && T e) || ((SF G H col F e && !T e) && cb (∃ i, i < n ∧ (SF G H col F i && !T i) = true ∧ as (En G H e) = as (En G H i)))) (B := fun e => (SF G H col F e && !T e) && decide (as (En G H e) = as (En G H n))) (hI.1 F hF) (fun e q => (sgm_t.mp q).1) ⟨g0, hg0⟩ (Tw_more hI h _) huv hd (fun e q => by
            rw [Bool.or_eq_true, Bool.and_eq_true (SF G H col F e && !T e)] at q
            rcases q with q | ⟨q, _⟩
            · exact offC e F' (SF_t.mpr (tT e q).1)
            · exact offC e F (SF_t.mpr (tR e q).1)) (fun e q => by
            rw [Bool.and_eq_true] at q
            exact offC e F (SF_t.mpr (tR e q.1).1)) (fun e q => by
            rw [Bool.or_eq_true, Bool.and_eq_true (SF G H col F e && !T e), cb_t] at q
            cases w : ((SF G H col F e && !T e) && decide (as (En G H e) = as (En G H n))) with
            | false => rfl
            | true =>
              exfalso
              rw [Bool.and_eq_true, decide_eq_true_eq] at w
              rcases q with q | ⟨_, i, i1, i2, i3⟩
              · exact hne ((tR e w.1).1.2.2.symm.trans (tT e q).1.2.2)
              · exact c2 ⟨i, i1, i2, by rw [← w.2, i3]⟩) (fun x e g he hie hg hig => ?_) ih (oR _ (fun e q => by
            rw [Bool.and_eq_true] at q
            exact SF_t.mpr (tR e q.1).1))
        · refine OS_cong (fun _ => rfl) (fun e => ?_) k
          show (((SF G H col F' e && T e) || ((SF G H col F e && !T e) && cb (∃ i, i < n ∧ (SF G H col F i && !T i) = true ∧ as (En G H e) = as (En G H i)))) || ((SF G H col F e && !T e) && decide (as (En G H e) = as (En G H n)))) = _
          have : cb (∃ i, i < n + 1 ∧ (SF G H col F i && !T i) = true ∧ as (En G H e) = as (En G H i)) = (cb (∃ i, i < n ∧ (SF G H col F i && !T i) = true ∧ as (En G H e) = as (En G H i)) || decide (as (En G H e) = as (En G H n))) := by
            rw [Bool.eq_iff_iff, Bool.or_eq_true, cb_t, cb_t, decide_eq_true_eq]
            constructor
            · rintro ⟨i, i1, i2, i3⟩
              rcases Nat.lt_or_ge i n with w | w
              · exact Or.inl ⟨i, w, i2, i3⟩
              · obtain rfl : i = n := by omega
                exact Or.inr i3
            · rintro (⟨i, i1, i2, i3⟩ | w)
              · exact ⟨i, by omega, i2, i3⟩
              · exact ⟨n, by omega, c1, w⟩
          rw [this, Bool.and_or_distrib_left, Bool.or_assoc]
        · -- what the new ones and the old ones share
          have gB : ((SF G H col F g && !T g) = true ∧ as (En G H g) = as (En G H n)) ∨ sgm H nr rg F F' (as (En G H n)) g = true := by
            rcases hg with q | q
            · rw [Bool.and_eq_true, decide_eq_true_eq] at q; exact Or.inl q
            · exact Or.inr q
          have eA : ((SF G H col F' e && T e) = true ∨ ((SF G H col F e && !T e) = true ∧ as (En G H e) ≠ as (En G H n))) ∨ (cs (rg F) e = true ∧ sgm H nr rg F F' (as (En G H n)) e = false) := by
            rcases he with q | q
            · rw [Bool.or_eq_true, Bool.and_eq_true (SF G H col F e && !T e), cb_t] at q
              rcases q with q | ⟨q, i, i1, i2, i3⟩
              · exact Or.inl (Or.inl q)
              · exact Or.inl (Or.inr ⟨q, fun w => c2 ⟨i, i1, i2, by rw [← w, i3]⟩⟩)
            · exact Or.inr q
          by_cases hv : VH H x
          · -- a drawn node
            have gx : (∃ c, sgm H nr rg F F' (as (En G H n)) c = true ∧ inc x c = true) ∨ (x ∉ rg F ∧ as (En G H n) = ide H nr rg F F' c0) := by
              rcases gB with ⟨q1, q2⟩ | q
              · have := A2 g x q1 hig hv
                rw [q2] at this
                exact this
              · exact Or.inl ⟨g, q, hig⟩
            rcases eA with (q | ⟨q1, q2⟩) | ⟨q1, q2⟩
            · have w := (hT e (tT e q).1.1 (tT e q).1.2.1).mp (tT e q).2 x ⟨hv, Or.inl hie⟩
              rcases gx with ⟨c, r1, r2⟩ | ⟨r1, _⟩
              · exact Tw_meet hI h hd w.1 w.2 r1 r2
              · exact absurd w.1 r1
            · rcases A2 e x q1 hie hv with ⟨c', s1, s2⟩ | ⟨s1, s2⟩
              · rcases gx with ⟨c, r1, r2⟩ | ⟨r1, _⟩
                · have s1' := sgm_t.mp s1
                  exact seg_end hI hF hd r1 r2 s1'.1 (by rw [s1'.2]; exact q2) s2
                · exact absurd (cs_on (hI.1 F hF).2.2 (sgm_t.mp s1).1 s2) r1
              · rcases gx with ⟨c, r1, r2⟩ | ⟨_, r2⟩
                · exact absurd (cs_on (hI.1 F hF).2.2 (sgm_t.mp r1).1 r2) s1
                · exact absurd (by rw [s2, r2]) q2
            · rcases gx with ⟨c, r1, r2⟩ | ⟨r1, _⟩
              · refine seg_end hI hF hd r1 r2 q1 (fun w => ?_) hie
                rw [sgm_t.mpr ⟨q1, w⟩] at q2
                cases q2
              · exact absurd (cs_on (hI.1 F hF).2.2 q1 hie) r1
          · -- a node off the drawing
            exfalso
            have noC : ∀ c, cs (rg F) c = true → inc x c = true → False := fun c r1 r2 => hv ⟨c, hI.2.2.1 F hF c r1, r2⟩
            rcases gB with ⟨q1, q2⟩ | q
            · rcases eA with (r | ⟨r1, r2⟩) | ⟨r1, _⟩
              · have := T_share hG hT (tT e r).1.1 (tT e r).1.2.1 (tR g q1).1.1 (tR g q1).1.2.1 hie hig hv (tT e r).2
                rw [(tR g q1).2] at this
                cases this
              · exact r2 (by rw [A1 e g x r1 q1 hie hig hv, q2])
              · exact noC e r1 hie
            · exact noC g (sgm_t.mp q).1 hig
      · refine OS_cong (fun _ => rfl) (fun e => ?_) ih
        refine congrArg (fun b => (SF G H col F' e && T e) || ((SF G H col F e && !T e) && b)) ?_
        rw [Bool.eq_iff_iff, cb_t, cb_t]
        constructor
        · rintro ⟨i, i1, i2, i3⟩
          exact ⟨i, by omega, i2, i3⟩
        · rintro ⟨i, i1, i2, i3⟩
          rcases Nat.lt_or_ge i n with w | w
          · exact ⟨i, w, i2, i3⟩
          · obtain rfl : i = n := by omega
            by_cases w2 : ∃ i', i' < i ∧ (SF G H col F i' && !T i') = true ∧ as (En G H i) = as (En G H i')
            · obtain ⟨i', j1, j2, j3⟩ := w2
              exact ⟨i', j1, j2, by rw [i3, j3]⟩
            · exact absurd ⟨i2, w2⟩ c
  refine OS_cong (fun _ => rfl) (fun e => ?_) (main 81)
  cases q : (SF G H col F e && !T e) with
  | false => rfl
  | true =>
    rw [cb_t.mpr ⟨e, (hG e (tR e q).1.1).1, q, rfl⟩]; rfl
end SWP
