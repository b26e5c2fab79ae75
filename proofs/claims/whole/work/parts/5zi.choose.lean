/-! ===== the class weighs the parts off the sketch, and chooses ===== -/
theorem ct_two {p : Nat → Bool} {n : Nat} (h : 2 ≤ fb_ct p n) : ∃ a b, a ≠ b ∧ a < n ∧ b < n ∧ p a = true ∧ p b = true := by
  obtain ⟨a, a1, a2⟩ := fb_ct_pos.mp (by omega : 0 < fb_ct p n)
  by_cases c : ∃ b, b < n ∧ p b = true ∧ b ≠ a
  · obtain ⟨b, b1, b2, b3⟩ := c
    exact ⟨a, b, Ne.symm b3, a1, b1, a2, b2⟩
  · have h1 : fb_ct p n ≤ fb_ct (fun k => decide (k = a)) n := fb_ct_sub (fun k hk hp => decide_eq_true (Classical.byContradiction (fun q => c ⟨k, hk, hp, q⟩)))
    have := ct_one a n
    omega
section CHO
variable {rest sk st : Nat → Int32} {pl : Int32} {H : Nat → Bool} {nr : Nat} {rg : Nat → List Nat}
/-- the part of a node off the sketch -/
theorem X4_part (N : Nat) (hN : 30 < N) (h : SkI rest sk pl st H nr rg) {v : Nat} (hv : v < 9) (hoff : ¬ VH H v) : Ok (f_X7_spread N rest (nI v) (pl ^^^ (-1))) (fun r => (∀ y, bt r y = true ↔ rc (gx rest) H v y) ∧ Ok (f_X7_neighboursOf N rest r) (fun q => ∀ c, bt (q &&& pl) c = true ↔ VH H c ∧ ∃ y, rc (gx rest) H v y ∧ gx rest (cd y c) = true)) := by
  obtain ⟨hS, hD, hnr, hSk, hpl, hst⟩ := h
  refine Ok_mono (X7_spread N hN rest (pl ^^^ (-1)) (fun u hu b hb => (hS u hu b hb).1) v hv) (fun r ⟨h1, h2, h3, h4⟩ => ?_)
  have al : ∀ w, w < 9 → (bt (pl ^^^ (-1)) w = true ↔ ¬ VH H w) := fun w hw => by
    rw [b_not _ (by omega), Bool.not_eq_true', ← hpl w]
    cases bt pl w <;> simp
  have hr : ∀ y, bt r y = true ↔ rc (gx rest) H v y := by
    intro y
    constructor
    · refine h4 (fun y => rc (gx rest) H v y) (rc_self v) ?_ y
      intro u w hu hT hb ha
      have s := hS u hu w hb
      exact rc_step hT s.1 (Ne.symm s.2.1) (by rw [gx_cd hS hu s.1 (Ne.symm s.2.1)]; exact hb) ((al w s.1).mp ha)
    · intro hy
      refine hy (fun y => bt r y = true) h1 ?_
      intro u w hu hw hne hg hvw
      have u9 := h2 u hu
      rw [gx_cd hS u9 hw hne] at hg
      exact h3 u w u9 hu hg ((al w hw).mpr hvw)
  refine ⟨hr, Ok_mono (X7_neigh N hN rest r) (fun q hq c => ?_)⟩
  rw [b_and, Bool.and_eq_true, hq, hpl]
  constructor
  · rintro ⟨⟨y, y1, y2, y3⟩, hc⟩
    have s := hS y y1 c y3
    exact ⟨hc, y, (hr y).mp y2, by rw [gx_cd hS y1 s.1 (Ne.symm s.2.1)]; exact y3⟩
  · rintro ⟨hc, y, y1, y2⟩
    have y9 := rc_lt hv y1
    have yo := rc_off hoff y1
    have c9 := VH_lt hD.2.1 hc
    have ne : y ≠ c := fun q => yo (by rw [q]; exact hc)
    rw [gx_cd hS y9 c9 ne] at y2
    exact ⟨⟨y, y9, (hr y).mpr y1, y2⟩, hc⟩
theorem X4_wParts (N : Nat) (hN : 30 < N) (h : SkI rest sk pl st H nr rg) (K : Nat → Prop) : ∀ (n i : Nat) (seen ins en rn ch : Int32), i ≤ 9 → 9 - i < n → (en = 0 ∨ Ws (gx rest) H st nr ins en rn ch) → (∀ e, K e → Cv (gx rest) H st nr en ch e) → (∀ x, VH H x → bt seen x = true) → (∀ j, j < i → bt seen j = true) → (∀ e x, gx rest e = true → inc x e = true → ¬ VH H x → bt seen x = true → (∃ a b, a ≠ b ∧ En (gx rest) H e a ∧ En (gx rest) H e b) → Cv (gx rest) H st nr en ch e) →
    Ok (f_X4_weighParts_b7 N rest pl (nI nr) st n seen (nI i) ins en rn ch) (fun r => (r.1 = 0 ∧ ¬ Pl (gx rest)) ∨ (r.1 = 1 ∧ (r.2.2.1 = 0 ∨ Ws (gx rest) H st nr r.2.1 r.2.2.1 r.2.2.2.1 r.2.2.2.2) ∧ (∀ e, K e → Cv (gx rest) H st nr r.2.2.1 r.2.2.2.2 e) ∧ ∀ e x, gx rest e = true → inc x e = true → ¬ VH H x → (∃ a b, a ≠ b ∧ En (gx rest) H e a ∧ En (gx rest) H e b) → Cv (gx rest) H st nr r.2.2.1 r.2.2.2.2 e)) := by
  have h' := h
  obtain ⟨hS, hD, hnr, hSk, hpl, hst⟩ := h'
  intro n
  induction n with
  | zero => intro i _ _ _ _ _ _ q; omega
  | succ n ih =>
    intro i seen ins en rn ch hi hm hW hK hs1 hs2 hC
    simp only [f_X4_weighParts_b7, f_X4_weighParts_b76]
    refine Ok_ife (nI_leI (a := 9) (b := i) (by omega) (by omega)) (fun c => ?_) (fun c => ?_)
    · refine Ok_some.mpr (Or.inr ⟨rfl, hW, hK, fun e x q1 q2 q3 q4 => hC e x q1 q2 q3 (hs2 x ?_) q4⟩)
      have := gx_GW rest e q1
      have := (inc_t q2).1
      omega
    · rw [X7_contains N (by omega), nI_1]
      refine Ok_bd1.mpr (Ok_some.mpr ?_)
      cases hb : bt seen i with
      | true =>
        rw [if_pos bT0]
        exact ih (i + 1) seen ins en rn ch (by omega) (by omega) hW hK hs1 (fun j hj => by
          rcases Nat.lt_or_ge j i with q | q
          · exact hs2 j q
          · rw [show j = i by omega]; exact hb) hC
      | false =>
        rw [if_neg (fun q => q bF0)]
        have hoff : ¬ VH H i := fun q => by rw [hs1 i q] at hb; cases hb
        have i9 : i < 9 := by omega
        refine Ok_bd1.mpr (Ok_mono (X4_part N hN h i9 hoff) (fun P ⟨hP, hq⟩ => Ok_bd1.mpr (Ok_mono hq (fun q hC2 => Ok_nm.mpr (Ok_nm.mpr ?_)))))
        generalize hT : q &&& pl = T at hC2
        have t9 : ∀ b, bt T b = true → b < 9 := fun b hb => VH_lt hD.2.1 ((hC2 b).mp hb).1
        have s1 : ∀ x, VH H x → bt (seen ||| P) x = true := fun x hx => by rw [b_or, hs1 x hx]; rfl
        have s2 : ∀ j, j < i + 1 → bt (seen ||| P) j = true := fun j hj => by
          rw [b_or]
          rcases Nat.lt_or_ge j i with w | w
          · rw [hs2 j w]; rfl
          · rw [show j = i by omega, (hP i).mpr (rc_self i), Bool.or_true]
        have hEn : ∀ e x, gx rest e = true → inc x e = true → bt P x = true → ∀ c, bt T c = true ↔ En (gx rest) H e c := fun e x q1 q2 q3 c => by
          rw [hC2, En_part (gx_GW rest) i9 hoff ((hP x).mp q3) q1 q2]
        have up : ∀ (en' ch' : Int32), (∀ e, Cv (gx rest) H st nr en ch e → Cv (gx rest) H st nr en' ch' e) → ((∃ a b, a ≠ b ∧ bt T a = true ∧ bt T b = true) → ∀ e, (∀ c, bt T c = true ↔ En (gx rest) H e c) → Cv (gx rest) H st nr en' ch' e) → (∀ e x, gx rest e = true → inc x e = true → ¬ VH H x → bt (seen ||| P) x = true → (∃ a b, a ≠ b ∧ En (gx rest) H e a ∧ En (gx rest) H e b) → Cv (gx rest) H st nr en' ch' e) := by
          intro en' ch' k1 k2 e x q1 q2 q3 q4 q5
          rw [b_or, Bool.or_eq_true] at q4
          rcases q4 with q4 | q4
          · exact k1 e (hC e x q1 q2 q3 q4 q5)
          · have he := hEn e x q1 q2 q4
            obtain ⟨a, b, w1, w2, w3⟩ := q5
            exact k2 ⟨a, b, w1, (he a).mpr w2, (he b).mpr w3⟩ e he
        rw [J6_bit20 N (fun b hb => by have := t9 b hb; omega)]
        refine Ok_bd1.mpr (Ok_some.mpr (Ok_ife (nI_ltI (b := 2) (by have := fb_ct_le (bt T) 20; omega) (by omega)) (fun c2 => ?_) (fun c2 => ?_)))
        · refine ih (i + 1) (seen ||| P) ins en rn ch (by omega) (by omega) hW hK s1 s2 (up en ch (fun _ w => w) (fun ⟨a, b, w1, w2, w3⟩ => ?_))
          have := ct_list (p := bt T) (n := 20) (l := [a, b]) (by simp [w1]) (fun y hy => by
            simp only [List.mem_cons, List.not_mem_nil, or_false] at hy
            rcases hy with z | z
            · rw [z]; exact ⟨by have := t9 a w2; omega, w2⟩
            · rw [z]; exact ⟨by have := t9 b w3; omega, w3⟩)
          have e2 : [a, b].length = 2 := rfl
          omega
        · obtain ⟨a, b, w1, _, _, w2, w3⟩ := ct_two (by omega : 2 ≤ fb_ct (bt T) 20)
          have pne : ¬ P = 0 := fun z => by
            have := (hP i).mpr (rc_self i)
            rw [z, b_0] at this; cases this
          refine Ok_bd1.mpr (Ok_mono (weigh_go N hN hnr ins en rn ch P T (Or.inr ⟨pne, i, i9, hoff, hP, hC2, a, b, w1, w2, w3⟩) hW) (fun r hr => ?_))
          rcases hr with ⟨r1, r2⟩ | ⟨r1, r2, r3, r4⟩
          · rw [r1, if_neg i00]
            refine Ok_some.mpr (Or.inl ⟨rfl, ?_⟩)
            obtain ⟨va, y, y1, y2⟩ := (hC2 a).mp w2
            have y9 := rc_lt i9 y1
            have yo := rc_off hoff y1
            have a9 := t9 a w2
            have ne : y ≠ a := fun z => yo (by rw [z]; exact va)
            have iy : inc y (cd y a) = true := by rw [inc_cd y9 a9, decide_eq_true rfl, decide_eq_false ne]; rfl
            have ia : inc a (cd y a) = true := by rw [inc_cd y9 a9, decide_eq_true rfl, decide_eq_false (Ne.symm ne)]; rfl
            refine SkI_no h y2 ?_ va ia w1 (hEn _ y y2 iy ((hP y).mpr y1)) w3 r2
            cases z : H (cd y a) with
            | false => rfl
            | true => exact absurd ⟨_, z, iy⟩ yo
          · rw [r1, if_pos i10]
            exact ih (i + 1) (seen ||| P) _ _ _ _ (by omega) (by omega) (Or.inr r2) (fun e he => r3 e (hK e he)) s1 s2 (up _ _ r3 (fun _ e he => r4 e he))
theorem X4_choose (N : Nat) (hN : 30 < N) (h : SkI rest sk pl st H nr rg) {ins en rn ch : Int32} (r2 : en = 0 ∨ Ws (gx rest) H st nr ins en rn ch) (r3 : ∀ a b, a < b → b < 9 → VH H a → VH H b → gx rest (cd a b) = true → H (cd a b) = false → Cv (gx rest) H st nr en ch (cd a b)) : Ok (f_X4_weighParts N rest pl (nI nr) st ins en rn ch) (fun r => (r.1 = 0 ∧ ¬ Pl (gx rest)) ∨ (r.1 = 1 ∧ (r.2.2.1 = 0 ∨ Ws (gx rest) H st nr r.2.1 r.2.2.1 r.2.2.2.1 r.2.2.2.2) ∧ ∀ e, gx rest e = true → H e = false → (∃ a b, a ≠ b ∧ En (gx rest) H e a ∧ En (gx rest) H e b) → Cv (gx rest) H st nr r.2.2.1 r.2.2.2.2 e)) := by
  unfold f_X4_weighParts
  refine Ok_mono (X4_wParts N hN h (fun e => ∃ a b, a < b ∧ b < 9 ∧ VH H a ∧ VH H b ∧ gx rest (cd a b) = true ∧ H (cd a b) = false ∧ e = cd a b) N 0 pl _ _ _ _ (by omega) (by omega) r2 (fun e ⟨a, b, q1, q2, q3, q4, q5, q6, q7⟩ => by rw [q7]; exact r3 a b q1 q2 q3 q4 q5 q6) (fun x hx => (h.2.2.2.2.1 x).mpr hx) (fun j hj => by omega) (fun e x q1 q2 q3 q4 => absurd ((h.2.2.2.2.1 x).mp q4) q3)) (fun s hs => ?_)
  rcases hs with ⟨s1, s2⟩ | ⟨s1, s2, s3, s4⟩
  · exact Or.inl ⟨s1, s2⟩
  · refine Or.inr ⟨s1, s2, fun e he heH h2 => ?_⟩
    have g := gx_GW rest e he
    have hc := cd_of g.2
    by_cases c1 : VH H (e / 9)
    · by_cases c2 : VH H (e % 9)
      · exact s3 e ⟨e / 9, e % 9, g.2, by omega, c1, c2, by rw [← hc]; exact he, by rw [← hc]; exact heH, hc⟩
      · exact s4 e (e % 9) he (inc_r (by omega)) c2 h2
    · exact s4 e (e / 9) he (inc_l (by omega)) c1 h2
end CHO
