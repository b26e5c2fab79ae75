/-! ===== blocks stand alone, and hang together ===== -/
theorem rn_self {A B : Nat → Nat} {M : Int32} {c x : Nat} : rn A B M c x x := fun _ h _ => h
section SEP
variable {ea eb : Nat → Int32} {A B : Nat → Nat} {M r : Int32} {e0 : Nat}
theorem gm_i (k : Nat) (hk : bt M k = true) : gm A B M (cd (A k) (B k)) = true := gm_t.mpr ⟨k, hk, rfl⟩
/-- an edge at a node, seen from that node -/
theorem at_v {G : Nat → Bool} (hG : GW G) {e v : Nat} (he : G e = true) (hi : inc v e = true) : ∃ y, y < 9 ∧ v < 9 ∧ v ≠ y ∧ e = cd v y := by
  have g := hG e he
  have hc := cd_of g.2
  obtain ⟨q, _⟩ := inc_t hi
  rcases q with q | q
  · exact ⟨e % 9, by omega, by omega, by omega, by rw [q]; exact hc⟩
  · exact ⟨e / 9, by omega, by omega, by omega, by rw [q, cd_comm]; exact hc⟩
theorem Bk_sep (hE : EE ea eb A B M) (hB : Bk A B M e0 r) {X : Nat → Bool} (hs : Sb X (gm A B M)) (hX : ev X) : ev (fun e => X e && gm A B r e) := by
  obtain ⟨_, h2, h3, _⟩ := hB
  intro v
  let D : Nat → Bool := fun z => cb (z ≠ v ∧ ∃ k x, bt r k = true ∧ cd (A k) (B k) = cd v x ∧ x < 9 ∧ v < 9 ∧ v ≠ x ∧ rn A B M v x z)
  have o := ip_dl hX D
  unfold ip at o
  unfold dg
  rw [← o]
  refine py_cong 81 (fun e _ => ?_)
  show ((X e && gm A B r e) && inc v e) = (X e && dl D e)
  cases hx : X e with
  | false => rfl
  | true =>
    have hg := hs e hx
    rw [Bool.true_and, Bool.true_and]
    obtain ⟨i, i1, i2⟩ := gm_t.mp hg
    cases hi : inc v e with
    | true =>
      obtain ⟨y, y9, v9, vy, ey⟩ := at_v (gm_GW hE) hg hi
      have Dv : D v = false := cb_f.mpr (fun q => q.1 rfl)
      rw [Bool.and_true, ey, dl_cd v9 y9, Dv, Bool.false_xor, ← ey]
      cases q : gm A B r e with
      | true =>
        obtain ⟨k, k1, k2⟩ := gm_t.mp q
        exact (cb_t.mpr ⟨Ne.symm vy, k, y, k1, by rw [← k2]; exact ey, y9, v9, vy, rn_self⟩).symm
      | false =>
        refine (cb_f.mpr ?_).symm
        rintro ⟨_, k, x, k1, k2, x9, _, vx, hr⟩
        have : bt r i = true := by
          by_cases c : k = i
          · rw [← c]; exact k1
          · exact h3 k i k1 i1 c ⟨v, x, y, v9, x9, y9, vx, vy, k2, i2.symm.trans ey, hr⟩
        rw [gm_t.mpr ⟨i, this, i2⟩] at q
        cases q
    | false =>
      rw [Bool.and_false]
      obtain ⟨_, _, _, a9, b9, ne⟩ := hE.1 i i1
      rw [i2, inc_cd a9 b9] at hi
      have na : A i ≠ v := fun q => by
        rw [q, decide_eq_true rfl, decide_eq_false (fun w => ne (q.trans w))] at hi; cases hi
      have nb : B i ≠ v := fun q => by
        rw [q, decide_eq_true rfl, decide_eq_false (fun w => ne (w.symm.trans q.symm))] at hi; cases hi
      rw [i2, dl_cd a9 b9]
      have : D (A i) = D (B i) := by
        cases q : D (A i) with
        | true =>
          obtain ⟨_, k, x, k1, k2, x9, v9, vx, hr⟩ := cb_t.mp q
          exact (cb_t.mpr ⟨nb, k, x, k1, k2, x9, v9, vx, fun T t1 t2 => (t2 i i1 na nb).1 (hr T t1 t2)⟩).symm
        | false =>
          refine (cb_f.mpr ?_).symm
          rintro ⟨_, k, x, k1, k2, x9, v9, vx, hr⟩
          refine cb_f.mp q ⟨na, k, x, k1, k2, x9, v9, vx, fun T t1 t2 => (t2 i i1 na nb).2 (hr T t1 t2)⟩
      rw [this, Bool.xor_self]
theorem rn_J (hE : EE ea eb A B M) {c x y : Nat} (h : rn A B M c x y) : ∃ J : Nat → Bool, Sb J (gm A B M) ∧ (∀ e, J e = true → inc c e = false) ∧ ∀ v, dg v J = (decide (v = x) ^^ decide (v = y)) := by
  refine h (fun y => ∃ J : Nat → Bool, Sb J (gm A B M) ∧ (∀ e, J e = true → inc c e = false) ∧ ∀ v, dg v J = (decide (v = x) ^^ decide (v = y))) ⟨fun _ => false, fun e q => absurd q Bool.false_ne_true, fun e q => absurd q Bool.false_ne_true, fun v => by rw [dg_no (fun _ _ _ => rfl), Bool.xor_self]⟩ ?_
  intro j j1 j2 j3
  obtain ⟨_, _, _, a9, b9, ne⟩ := hE.1 j j1
  have ic : inc c (cd (A j) (B j)) = false := by rw [inc_cd a9 b9, decide_eq_false (Ne.symm j2), decide_eq_false (Ne.symm j3)]; rfl
  have step : ∀ p q : Nat, (∀ v, inc v (cd (A j) (B j)) = (decide (v = p) ^^ decide (v = q))) → (∃ J : Nat → Bool, Sb J (gm A B M) ∧ (∀ e, J e = true → inc c e = false) ∧ ∀ v, dg v J = (decide (v = x) ^^ decide (v = p))) → ∃ J : Nat → Bool, Sb J (gm A B M) ∧ (∀ e, J e = true → inc c e = false) ∧ ∀ v, dg v J = (decide (v = x) ^^ decide (v = q)) := by
    rintro p q hpq ⟨J, J1, J2, J3⟩
    refine ⟨xs J (sg (cd (A j) (B j))), fun e he => ?_, fun e he => ?_, fun v => ?_⟩
    · by_cases w : e = cd (A j) (B j)
      · rw [w]; exact gm_i j j1
      · change (J e ^^ decide (e = cd (A j) (B j))) = true at he
        rw [decide_eq_false w, Bool.xor_false] at he
        exact J1 e he
    · by_cases w : e = cd (A j) (B j)
      · rw [w]; exact ic
      · change (J e ^^ decide (e = cd (A j) (B j))) = true at he
        rw [decide_eq_false w, Bool.xor_false] at he
        exact J2 e he
    · rw [dg_xs, J3, dg_sg v (cd_lt a9 b9), hpq]
      cases decide (v = x) <;> cases decide (v = p) <;> cases decide (v = q) <;> rfl
  exact ⟨step (A j) (B j) (fun v => inc_cd a9 b9 v), step (B j) (A j) (fun v => by rw [inc_cd a9 b9, Bool.xor_comm])⟩
/-- what stands alone in a block is all of it or nothing -/
theorem Bk_all (hE : EE ea eb A B M) (hB : Bk A B M e0 r) {S : Nat → Bool} (hS : ∀ X, Sb X (gm A B r) → ev X → ev (fun e => X e && S e)) (h0 : S (cd (A e0) (B e0)) = false) : ∀ k, bt r k = true → S (cd (A k) (B k)) = false := by
  have hB' := hB
  obtain ⟨h1, h2, h3, h4⟩ := hB'
  have := h4 (fun k => bt r k = true ∧ S (cd (A k) (B k)) = false) ⟨h1, h0⟩ (fun k i ⟨k1, k2⟩ kM iM ne hai => ?_)
  · exact fun k hk => (this k hk).2
  · have ir := h3 k i k1 iM ne hai
    refine ⟨ir, ?_⟩
    obtain ⟨c, x, y, c9, x9, y9, cx, cy, e1, e2, hr⟩ := hai
    obtain ⟨J, J1, J2, J3⟩ := rn_J hE hr
    have nek : cd c x ≠ cd c y := fun q => ne (hE.2 k i kM iM (e1.trans (q.trans e2.symm)))
    have ick : inc c (cd c x) = true := by rw [inc_cd c9 x9, decide_eq_true rfl, decide_eq_false cx]; rfl
    have ici : inc c (cd c y) = true := by rw [inc_cd c9 y9, decide_eq_true rfl, decide_eq_false cy]; rfl
    have evX : ev (xs J (xs (sg (cd c x)) (sg (cd c y)))) := by
      intro v
      rw [dg_xs, dg_xs, J3, dg_sg v (cd_lt c9 x9), dg_sg v (cd_lt c9 y9), inc_cd c9 x9, inc_cd c9 y9]
      cases decide (v = x) <;> cases decide (v = y) <;> cases decide (v = c) <;> rfl
    have sbX : Sb (xs J (xs (sg (cd c x)) (sg (cd c y)))) (gm A B M) := by
      intro e he
      by_cases w1 : e = cd c x
      · rw [w1, ← e1]; exact gm_i k kM
      · by_cases w2 : e = cd c y
        · rw [w2, ← e2]; exact gm_i i iM
        · change (J e ^^ (decide (e = cd c x) ^^ decide (e = cd c y))) = true at he
          rw [decide_eq_false w1, decide_eq_false w2, Bool.xor_false, Bool.xor_false] at he
          exact J1 e he
    have s1 := Bk_sep hE hB sbX evX
    have s2 := hS _ (fun e he => by rw [Bool.and_eq_true] at he; exact he.2) s1 c
    cases q : S (cd (A i) (B i)) with
    | false => rfl
    | true =>
      exfalso
      have : dg c (fun e => (xs J (xs (sg (cd c x)) (sg (cd c y))) e && gm A B r e) && S e) = dg c (sg (cd c y)) := by
        refine dg_cong (fun e _ hi => ?_)
        show (((J e ^^ (decide (e = cd c x) ^^ decide (e = cd c y))) && gm A B r e) && S e) = decide (e = cd c y)
        have je : J e = false := by
          cases w : J e with
          | false => rfl
          | true => rw [J2 e w] at hi; cases hi
        rw [je, Bool.false_xor]
        by_cases w1 : e = cd c x
        · rw [w1, ← e1, k2, Bool.and_false, e1, decide_eq_false nek]
        · by_cases w2 : e = cd c y
          · rw [w2, decide_eq_false (Ne.symm nek), decide_eq_true rfl, ← e2, q, gm_i (M := r) i ir]; rfl
          · rw [decide_eq_false w1, decide_eq_false w2]; rfl
      rw [this, dg_sg c (cd_lt c9 y9), ici] at s2
      cases s2
theorem Bk_any (hE : EE ea eb A B M) (hB : Bk A B M e0 r) {S : Nat → Bool} (hS : ∀ X, Sb X (gm A B r) → ev X → ev (fun e => X e && S e)) {e1 : Nat} (h1 : bt r e1 = true) (hs1 : S (cd (A e1) (B e1)) = false) : ∀ k, bt r k = true → S (cd (A k) (B k)) = false := by
  cases c : S (cd (A e0) (B e0)) with
  | false => exact Bk_all hE hB hS c
  | true =>
    have := Bk_all hE hB (S := fun e => !S e) (fun X x1 x2 => ev_cong (fun e => by
      show (X e ^^ (X e && S e)) = (X e && !S e)
      cases X e <;> cases S e <;> rfl) (ev_xs x2 (hS X x1 x2))) (by rw [c]; rfl) e1 h1
    rw [hs1] at this
    cases this
/-- a piece of a block has two ends -/
theorem Bk_two (hE : EE ea eb A B M) (hB : Bk A B M e0 r) {H : Nat → Bool} (hH : Sb H (gm A B r)) {e1 : Nat} (h1 : bt r e1 = true) (he0 : H (cd (A e1) (B e1)) = true) {v : Nat} (hv9 : v < 9) (hv : ¬ VH H v) {k : Nat} (hk : bt r k = true) (hkv : inc v (cd (A k) (B k)) = true) : ∃ a b, a ≠ b ∧ (VH H a ∧ ∃ y, rc (gm A B r) H v y ∧ gm A B r (cd y a) = true) ∧ (VH H b ∧ ∃ y, rc (gm A B r) H v y ∧ gm A B r (cd y b) = true) := by
  have hEr := EE_sub hE hB.2.1
  have hG := gm_GW hEr
  refine Classical.byContradiction (fun hn => ?_)
  have one : ∀ a b, (VH H a ∧ ∃ y, rc (gm A B r) H v y ∧ gm A B r (cd y a) = true) → (VH H b ∧ ∃ y, rc (gm A B r) H v y ∧ gm A B r (cd y b) = true) → a = b := fun a b ha hb => Classical.byContradiction (fun q => hn ⟨a, b, q, ha, hb⟩)
  have all := Bk_any hE hB (S := fun e => cb (∃ x, inc x e = true ∧ rc (gm A B r) H v x)) (fun X hs hX => ?_) h1 (cb_f.mpr ?_) k hk
  · exact cb_f.mp all ⟨v, hkv, rc_self v⟩
  · -- where it may be odd
    have dV : ∀ y, VH H y → ∀ e, X e = true → inc y e = true → (∃ x, inc x e = true ∧ rc (gm A B r) H v x) → ∃ z, rc (gm A B r) H v z ∧ gm A B r (cd z y) = true := by
      rintro y hy e he hi ⟨x, x1, x2⟩
      have hxy : x ≠ y := fun q => rc_off hv x2 (by rw [q]; exact hy)
      have g := GW_two hG (hs e he) x1 hi hxy
      exact ⟨x, x2, by rw [← g.1]; exact hs e he⟩
    have dN : ∀ y, ¬ VH H y → dg y (fun e => X e && cb (∃ x, inc x e = true ∧ rc (gm A B r) H v x)) = false := by
      intro y hy
      by_cases c : rc (gm A B r) H v y
      · rw [← hX y]
        refine dg_cong (fun e _ hi => ?_)
        show (X e && cb (∃ x, inc x e = true ∧ rc (gm A B r) H v x)) = X e
        rw [cb_t.mpr (⟨y, hi, c⟩ : ∃ x, inc x e = true ∧ rc (gm A B r) H v x), Bool.and_true]
      · refine dg_no (fun e _ hi => ?_)
        cases q : (X e && cb (∃ x, inc x e = true ∧ rc (gm A B r) H v x)) with
        | false => rfl
        | true =>
          rw [Bool.and_eq_true, cb_t] at q
          obtain ⟨q1, x, q2, q3⟩ := q
          have hxy : x ≠ y := fun w => c (by rw [← w]; exact q3)
          have g := GW_two hG (hs e q1) q2 hi hxy
          exact absurd (rc_step q3 g.2.2 hxy (by rw [← g.1]; exact hs e q1) hy) c
    by_cases ex : ∃ u, VH H u ∧ ∃ z, rc (gm A B r) H v z ∧ gm A B r (cd z u) = true
    · obtain ⟨u, hu⟩ := ex
      refine odd_none (u := u) (fun y hyu => ?_)
      by_cases hy : VH H y
      · refine dg_no (fun e _ hi => ?_)
        cases q : (X e && cb (∃ x, inc x e = true ∧ rc (gm A B r) H v x)) with
        | false => rfl
        | true =>
          rw [Bool.and_eq_true, cb_t] at q
          exact absurd (one y u ⟨hy, dV y hy e q.1 hi q.2⟩ hu) hyu
      · exact dN y hy
    · intro y
      by_cases hy : VH H y
      · refine dg_no (fun e _ hi => ?_)
        cases q : (X e && cb (∃ x, inc x e = true ∧ rc (gm A B r) H v x)) with
        | false => rfl
        | true =>
          rw [Bool.and_eq_true, cb_t] at q
          exact absurd ⟨y, hy, dV y hy e q.1 hi q.2⟩ ex
      · exact dN y hy
  · rintro ⟨x, x1, x2⟩
    exact rc_off hv x2 ⟨_, he0, x1⟩
/-- an edge that no cycle has is a block of its own -/
theorem Bk_bridge (hE : EE ea eb A B M) (hB : Bk A B M e0 r) {e1 : Nat} (h1 : bt r e1 = true) {D : Nat → Bool} (hD : ∀ k, bt r k = true → k ≠ e1 → D (A k) = D (B k)) (h0 : D (A e1) ≠ D (B e1)) : Pl (gm A B r) := by
  have hEr := EE_sub hE hB.2.1
  obtain ⟨_, _, _, a9, b9, ne⟩ := hEr.1 e1 h1
  have no : ∀ X, Sb X (gm A B r) → ev X → X (cd (A e1) (B e1)) = false := by
    intro X hs hX
    have o := ip_dl hX D
    unfold ip at o
    have : py 81 (fun e => X e && dl D e) = (X (cd (A e1) (B e1)) && dl D (cd (A e1) (B e1))) := by
      refine py_one (cd_lt a9 b9) (fun e _ q => ?_)
      rw [Bool.and_eq_true] at q
      obtain ⟨k, k1, k2⟩ := gm_t.mp (hs e q.1)
      by_cases c : k = e1
      · rw [k2, c]
      · obtain ⟨_, _, _, a9', b9', _⟩ := hEr.1 k k1
        have := q.2
        rw [k2, dl_cd a9' b9', hD k k1 c, Bool.xor_self] at this
        cases this
    rw [this, dl_cd a9 b9] at o
    cases q : X (cd (A e1) (B e1)) with
    | false => rfl
    | true =>
      rw [q, Bool.true_and] at o
      exact absurd (by cases w1 : D (A e1) <;> cases w2 : D (B e1) <;> rw [w1, w2] at o <;> first | rfl | cases o) h0
  have all := Bk_any hE hB (S := fun e => !decide (e = cd (A e1) (B e1))) (fun X hs hX => ev_cong (fun e => ?_) hX) h1 (by rw [decide_eq_true rfl]; rfl)
  · refine Pl_no (fun X hs hX e => ?_)
    cases q : X e with
    | false => rfl
    | true =>
      obtain ⟨k, k1, k2⟩ := gm_t.mp (hs e q)
      have := all k k1
      rw [Bool.not_eq_false', decide_eq_true_eq] at this
      rw [k2, this, no X hs hX] at q
      cases q
  · show X e = (X e && !decide (e = cd (A e1) (B e1)))
    by_cases c : e = cd (A e1) (B e1)
    · rw [c, no X hs hX]; rfl
    · rw [decide_eq_false c, Bool.not_false, Bool.and_true]
end SEP
