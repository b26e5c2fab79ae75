/-! ===== the class weighs the pieces ===== -/
def ft (st : Nat → Int32) (C : Int32) (nr : Nat) : Nat := fb_ct (fun k => decide ((C &&& (st k ^^^ (-1))) = 0)) nr
theorem fit_iff {x C : Int32} : (C &&& (x ^^^ (-1))) = 0 ↔ ∀ i, bt C i = true → bt x i = true := by
  rw [b_zero]
  constructor
  · intro h i hi
    rcases Nat.lt_or_ge i 32 with q | q
    · have := h i q
      rw [b_and, b_not _ q, hi] at this
      cases c : bt x i with
      | true => rfl
      | false => rw [c] at this; cases this
    · rw [b_big q] at hi; cases hi
  · intro h i hi
    rw [b_and, b_not _ hi]
    cases c : bt C i with
    | false => rfl
    | true => rw [h i c]; rfl
theorem X4_weigh (N : Nat) (hN : 30 < N) {st : Nat → Int32} {nr : Nat} (hnr : nr ≤ 14) (ins en rn ch P C : Int32) : Ok (f_X4_weigh N (nI nr) st ins en rn ch P C) (fun r => (0 < ft st C nr → r.1 = 1) ∧ (ft st C nr = 0 → r.1 = 0) ∧ ((en = 0 ∨ nI (ft st C nr) < ch) → r.2.1 = P ∧ r.2.2.1 = C ∧ r.2.2.2.2 = nI (ft st C nr) ∧ (0 < ft st C nr → ∃ f, f < nr ∧ r.2.2.2.1 = nI f ∧ (C &&& (st f ^^^ (-1))) = 0)) ∧ (¬ (en = 0 ∨ nI (ft st C nr) < ch) → r.2 = (ins, en, rn, ch))) := by
  unfold f_X4_weigh
  refine lpU2 (fun n i x y => f_X4_weigh_b8 N (nI nr) st n P C x y (nI i) ins en rn ch) (fun i x y => x = nI (ft st C i) ∧ (0 < ft st C i → ∃ f, f < i ∧ y = nI f ∧ (C &&& (st f ^^^ (-1))) = 0)) nr ?_ ?_ N 0 _ _ (Nat.zero_le _) (by omega) ⟨rfl, fun h => absurd h (Nat.lt_irrefl 0)⟩
  · rintro n x y ⟨rfl, h2⟩
    have hf : ft st C nr ≤ nr := fb_ct_le _ _
    simp only [f_X4_weigh_b8, f_X4_weigh_b44, f_X4_weigh_b59, f_X4_weigh_b80]
    refine Ok_ife (nI_leI (by omega) (by omega)) (fun _ => ?_) (fun c => absurd (Nat.le_refl _) c)
    have tail : ∀ (a b c d : Int32) (Q : Int32 × Int32 × Int32 × Int32 × Int32 → Prop), (0 < ft st C nr → Q (1, a, b, c, d)) → (ft st C nr = 0 → Q (0, a, b, c, d)) → Ok (if nI (ft st C nr) ≤ 0 then some ((0 : Int32), a, b, c, d) else some (1, a, b, c, d)) Q := by
      intro a b c d Q q1 q2
      refine Ok_ife (nI_leI (b := 0) (by omega) (by omega)) (fun z => Ok_some.mpr (q2 (by omega))) (fun z => Ok_some.mpr (q1 (by omega)))
    have new : Ok (if nI (ft st C nr) ≤ 0 then some ((0 : Int32), P, C, y, nI (ft st C nr)) else some (1, P, C, y, nI (ft st C nr))) (fun r => (0 < ft st C nr → r.1 = 1) ∧ (ft st C nr = 0 → r.1 = 0) ∧ (r.2.1 = P ∧ r.2.2.1 = C ∧ r.2.2.2.2 = nI (ft st C nr) ∧ (0 < ft st C nr → ∃ f, f < nr ∧ r.2.2.2.1 = nI f ∧ (C &&& (st f ^^^ (-1))) = 0))) :=
      tail P C y _ _ (fun z => ⟨fun _ => rfl, fun w => by omega, rfl, rfl, rfl, h2⟩) (fun z => ⟨fun w => by omega, fun _ => rfl, rfl, rfl, rfl, h2⟩)
    refine Ok_ite.mpr ⟨fun c => Ok_mono new (fun r hr => ⟨hr.1, hr.2.1, fun _ => hr.2.2, fun q => absurd (Or.inl c) q⟩), fun c => Ok_ite.mpr ⟨fun c2 => ?_, fun c2 => Ok_mono new (fun r hr => ⟨hr.1, hr.2.1, fun _ => hr.2.2, fun q => absurd (Or.inr (i_nle.mp c2)) q⟩)⟩⟩
    have no : ¬ (en = 0 ∨ nI (ft st C nr) < ch) := fun q => q.elim c (fun w => (i_nlt.mpr c2) w)
    exact tail ins en rn ch _ (fun z => ⟨fun _ => rfl, fun w => by omega, fun w => absurd w no, fun _ => rfl⟩) (fun z => ⟨fun w => by omega, fun _ => rfl, fun w => absurd w no, fun _ => rfl⟩)
  · rintro n i x y hi ⟨rfl, h2⟩ ih
    have hf : ft st C i ≤ i := fb_ct_le _ _
    simp only [f_X4_weigh_b8, f_X4_weigh_b38]
    refine Ok_ife (nI_leI (by omega) (by omega)) (fun c => absurd c (by omega)) (fun _ => ?_)
    rw [nI_1, nI_1, nI_clamp (n := i) (by omega)]
    have sc : ft st C (i + 1) = ft st C i + (if decide ((C &&& (st i ^^^ (-1))) = 0) = true then 1 else 0) := rfl
    refine Ok_chk.mpr ⟨inb_nI (by omega) (by decide), Ok_ite.mpr ⟨fun c => ih _ _ ?_, fun c => ih _ _ ?_⟩⟩
    · rw [sc, if_neg (fun q => c (of_decide_eq_true q)), Nat.add_zero]
      exact ⟨rfl, fun q => by obtain ⟨f, f1, f2⟩ := h2 q; exact ⟨f, by omega, f2⟩⟩
    · have c' := Decidable.not_not.mp c
      rw [sc, if_pos (decide_eq_true c')]
      exact ⟨rfl, fun _ => ⟨i, by omega, rfl, c'⟩⟩
def Frg (G H : Nat → Bool) (ins en : Int32) : Prop :=
  (ins = 0 ∧ ∃ a b, a < 9 ∧ b < 9 ∧ a ≠ b ∧ VH H a ∧ VH H b ∧ G (cd a b) = true ∧ H (cd a b) = false ∧ ∀ x, bt en x = true ↔ x = a ∨ x = b) ∨
  (¬ ins = 0 ∧ ∃ v, v < 9 ∧ ¬ VH H v ∧ (∀ y, bt ins y = true ↔ rc G H v y) ∧ (∀ c, bt en c = true ↔ VH H c ∧ ∃ y, rc G H v y ∧ G (cd y c) = true) ∧ ∃ a b, a ≠ b ∧ bt en a = true ∧ bt en b = true)
def Ws (G H : Nat → Bool) (st : Nat → Int32) (nr : Nat) (ins en rn ch : Int32) : Prop := ch = nI (ft st en nr) ∧ (∃ f, f < nr ∧ rn = nI f ∧ (en &&& (st f ^^^ (-1))) = 0) ∧ Frg G H ins en
def Cv (G H : Nat → Bool) (st : Nat → Int32) (nr : Nat) (en ch : Int32) (e : Nat) : Prop := ¬ en = 0 ∧ ∃ C m, (∀ c, bt C c = true ↔ En G H e c) ∧ ch = nI m ∧ m < 1000 ∧ m ≤ ft st C nr
theorem Frg_ne {G H : Nat → Bool} {ins en : Int32} (h : Frg G H ins en) : ¬ en = 0 := by
  intro q
  rcases h with ⟨_, a, b, _, _, _, _, _, _, _, h⟩ | ⟨_, v, _, _, _, _, a, b, _, h, _⟩
  · have := (h a).mpr (Or.inl rfl)
    rw [q, b_0] at this; cases this
  · rw [q, b_0] at h; cases h
/-- a piece is weighed -/
theorem weigh_go {G H : Nat → Bool} (N : Nat) (hN : 30 < N) {st : Nat → Int32} {nr : Nat} (hnr : nr ≤ 14) (ins en rn ch P C : Int32) (hF : Frg G H P C) (hW : en = 0 ∨ Ws G H st nr ins en rn ch) : Ok (f_X4_weigh N (nI nr) st ins en rn ch P C) (fun r => (r.1 = 0 ∧ ∀ k, k < nr → ∃ c, bt C c = true ∧ bt (st k) c = false) ∨ (r.1 = 1 ∧ Ws G H st nr r.2.1 r.2.2.1 r.2.2.2.1 r.2.2.2.2 ∧ (∀ e, Cv G H st nr en ch e → Cv G H st nr r.2.2.1 r.2.2.2.2 e) ∧ ∀ e, (∀ c, bt C c = true ↔ En G H e c) → Cv G H st nr r.2.2.1 r.2.2.2.2 e)) := by
  refine Ok_mono (X4_weigh N hN hnr ins en rn ch P C) (fun r hr => ?_)
  obtain ⟨h1, h2, h3, h4⟩ := hr
  have hf : ft st C nr ≤ nr := fb_ct_le _ _
  rcases Nat.eq_zero_or_pos (ft st C nr) with z | z
  · refine Or.inl ⟨h2 z, fun k hk => ?_⟩
    have := of_decide_eq_false (fb_ct_zero.mp z k hk)
    rw [fit_iff] at this
    refine Classical.byContradiction (fun q => this (fun i hi => ?_))
    cases c : bt (st k) i with
    | true => rfl
    | false => exact absurd ⟨i, hi, c⟩ q
  · refine Or.inr ⟨h1 z, ?_⟩
    by_cases c : en = 0 ∨ nI (ft st C nr) < ch
    · obtain ⟨g1, g2, g3, g4⟩ := h3 c
      obtain ⟨f, f1, f2, f3⟩ := g4 z
      rw [g1, g2, g3, f2]
      refine ⟨⟨rfl, ⟨f, f1, rfl, f3⟩, hF⟩, fun e ⟨c1, C', m, c2, c3, c4, c5⟩ => ⟨Frg_ne hF, C', ft st C nr, c2, rfl, by omega, ?_⟩, fun e he => ⟨Frg_ne hF, C, ft st C nr, he, rfl, by omega, Nat.le_refl _⟩⟩
      have := c.resolve_left c1
      rw [c3, nI_ltI (by omega) (by omega)] at this
      omega
    · have e2 := h4 c
      rw [e2]
      have hw := hW.resolve_left (fun q => c (Or.inl q))
      refine ⟨hw, fun e he => he, fun e he => ⟨fun q => c (Or.inl q), C, ft st en nr, he, hw.1, ?_, ?_⟩⟩
      · have : ft st en nr ≤ nr := fb_ct_le _ _
        omega
      · have : ft st en nr ≤ nr := fb_ct_le _ _
        have c2 : ¬ nI (ft st C nr) < ch := fun q => c (Or.inr q)
        rw [hw.1, nI_ltI (by omega) (by omega)] at c2
        omega
def SkI (rest sk : Nat → Int32) (pl : Int32) (st : Nat → Int32) (H : Nat → Bool) (nr : Nat) (rg : Nat → List Nat) : Prop :=
  Sy rest ∧ Dm (gx rest) H nr rg ∧ nr ≤ 14 ∧ Sk sk H ∧ (∀ x, bt pl x = true ↔ VH H x) ∧ ∀ k, k < nr → ∀ x, bt (st k) x = decide (x ∈ rg k)
section WEI
variable {rest sk st : Nat → Int32} {pl : Int32} {H : Nat → Bool} {nr : Nat} {rg : Nat → List Nat}
/-- no ring for a piece -/
theorem SkI_no (h : SkI rest sk pl st H nr rg) {C : Int32} {e a b : Nat} (he : gx rest e = true) (heH : H e = false) (ha : VH H a) (hi : inc a e = true) (hab : a ≠ b) (hC : ∀ c, bt C c = true ↔ En (gx rest) H e c) (hb : bt C b = true) (hn : ∀ k, k < nr → ∃ c, bt C c = true ∧ bt (st k) c = false) : ¬ Pl (gx rest) := by
  refine Dm_no h.2.1 he heH ha hi ((hC b).mp hb) hab (fun k hk => ?_)
  obtain ⟨c, c1, c2⟩ := hn k hk
  rw [h.2.2.2.2.2 k hk] at c2
  exact ⟨c, (hC c).mp c1, of_decide_eq_false c2⟩
theorem X4_wEdges (N : Nat) (hN : 30 < N) (h : SkI rest sk pl st H nr rg) (ins rn ch : Int32) : Ok (f_X4_weighEdges N rest sk pl (nI nr) st ins 0 rn ch) (fun r => (r.1 = 0 ∧ ¬ Pl (gx rest)) ∨ (r.1 = 1 ∧ (r.2.2.1 = 0 ∨ Ws (gx rest) H st nr r.2.1 r.2.2.1 r.2.2.2.1 r.2.2.2.2) ∧ ∀ a b, a < b → b < 9 → VH H a → VH H b → gx rest (cd a b) = true → H (cd a b) = false → Cv (gx rest) H st nr r.2.2.1 r.2.2.2.2 (cd a b))) := by
  obtain ⟨hS, hD, hnr, hSk, hpl, hst⟩ := h
  unfold f_X4_weighEdges
  have outer : ∀ (n a : Nat) (ins en rn ch : Int32), a ≤ 9 → 9 - a < n → (en = 0 ∨ Ws (gx rest) H st nr ins en rn ch) → (∀ a' b', a' < a → a' < b' → b' < 9 → VH H a' → VH H b' → gx rest (cd a' b') = true → H (cd a' b') = false → Cv (gx rest) H st nr en ch (cd a' b')) → Ok (f_X4_weighEdges_b2 N rest sk pl (nI nr) st n (nI a) ins en rn ch) (fun r => (r.1 = 0 ∧ ¬ Pl (gx rest)) ∨ (r.1 = 1 ∧ (r.2.2.1 = 0 ∨ Ws (gx rest) H st nr r.2.1 r.2.2.1 r.2.2.2.1 r.2.2.2.2) ∧ ∀ a b, a < b → b < 9 → VH H a → VH H b → gx rest (cd a b) = true → H (cd a b) = false → Cv (gx rest) H st nr r.2.2.1 r.2.2.2.2 (cd a b))) := by
    intro n
    induction n with
    | zero => intro a _ _ _ _ _ q; omega
    | succ n ih =>
      intro a ins en rn ch ha hm hW hC
      simp only [f_X4_weighEdges_b2]
      refine Ok_ife (nI_leI (a := 9) (b := a) (by omega) (by omega)) (fun c => ?_) (fun c => ?_)
      · exact Ok_some.mpr (Or.inr ⟨rfl, hW, fun a' b' q1 q2 => hC a' b' (by omega) q1 q2⟩)
      · -- the row of one node
        have inner : ∀ op : Int32, (∀ b, a < b → b < 9 → (bt op b = true ↔ VH H a ∧ VH H b ∧ gx rest (cd a b) = true ∧ H (cd a b) = false)) → Ok (f_X4_weighEdges_b43 N rest sk pl (nI nr) st (f_X4_weighEdges_b2 N rest sk pl (nI nr) st n) (nI a) op ins en rn ch) (fun r => (r.1 = 0 ∧ ¬ Pl (gx rest)) ∨ (r.1 = 1 ∧ (r.2.2.1 = 0 ∨ Ws (gx rest) H st nr r.2.1 r.2.2.1 r.2.2.2.1 r.2.2.2.2) ∧ ∀ a b, a < b → b < 9 → VH H a → VH H b → gx rest (cd a b) = true → H (cd a b) = false → Cv (gx rest) H st nr r.2.2.1 r.2.2.2.2 (cd a b))) := by
          intro op hop
          unfold f_X4_weighEdges_b43
          rw [nI_1]
          refine Ok_nm.mpr ?_
          have lp : ∀ (m b : Nat) (ins en rn ch : Int32), a < b → b ≤ 9 → 9 - b < m → (en = 0 ∨ Ws (gx rest) H st nr ins en rn ch) → (∀ a' b', a' < a ∨ (a' = a ∧ b' < b) → a' < b' → b' < 9 → VH H a' → VH H b' → gx rest (cd a' b') = true → H (cd a' b') = false → Cv (gx rest) H st nr en ch (cd a' b')) → Ok (f_X4_weighEdges_b48 N rest sk pl (nI nr) st (f_X4_weighEdges_b2 N rest sk pl (nI nr) st n) m (nI a) op (nI b) ins en rn ch) (fun r => (r.1 = 0 ∧ ¬ Pl (gx rest)) ∨ (r.1 = 1 ∧ (r.2.2.1 = 0 ∨ Ws (gx rest) H st nr r.2.1 r.2.2.1 r.2.2.2.1 r.2.2.2.2) ∧ ∀ a b, a < b → b < 9 → VH H a → VH H b → gx rest (cd a b) = true → H (cd a b) = false → Cv (gx rest) H st nr r.2.2.1 r.2.2.2.2 (cd a b))) := by
            intro m
            induction m with
            | zero => intro b _ _ _ _ _ _ q; omega
            | succ m ihm =>
              intro b ins en rn ch hab hb hm2 hW hC
              simp only [f_X4_weighEdges_b48, f_X4_weighEdges_b87, f_X4_weighEdges_b81]
              refine Ok_ife (nI_leI (a := 9) (b := b) (by omega) (by omega)) (fun c2 => ?_) (fun c2 => ?_)
              · rw [nI_1]
                exact ih (a + 1) ins en rn ch (by omega) (by omega) hW (fun a' b' q1 q2 q3 => hC a' b' (by omega) q2 q3)
              · rw [X7_contains N (by omega), nI_1, X7_bit, X7_bit]
                have b9 : b < 9 := by omega
                have up : ∀ (en' ch' : Int32), (∀ e, Cv (gx rest) H st nr en ch e → Cv (gx rest) H st nr en' ch' e) → (VH H a → VH H b → gx rest (cd a b) = true → H (cd a b) = false → Cv (gx rest) H st nr en' ch' (cd a b)) → (∀ a' b', a' < a ∨ (a' = a ∧ b' < b + 1) → a' < b' → b' < 9 → VH H a' → VH H b' → gx rest (cd a' b') = true → H (cd a' b') = false → Cv (gx rest) H st nr en' ch' (cd a' b')) := by
                  intro en' ch' k1 k2 a' b' q1 q2 q3 q4 q5 q6 q7
                  by_cases w : a' = a ∧ b' = b
                  · rw [w.1, w.2] at q6 q7 ⊢
                    exact k2 (by rw [← w.1]; exact q4) (by rw [← w.2]; exact q5) q6 q7
                  · exact k1 _ (hC a' b' (by omega) q2 q3 q4 q5 q6 q7)
                refine Ok_bd1.mpr (Ok_some.mpr (Ok_ife bI_0 (fun c3 => ?_) (fun c3 => ?_)))
                · refine ihm (b + 1) ins en rn ch (by omega) (by omega) (by omega) hW (up en ch (fun _ q => q) (fun v1 v2 v3 v4 => ?_))
                  rw [(hop b hab b9).mpr ⟨v1, v2, v3, v4⟩] at c3; cases c3
                · rw [Bool.not_eq_false] at c3
                  obtain ⟨v1, v2, v3, v4⟩ := (hop b hab b9).mp c3
                  have hbits : ∀ x, bt (((1 : Int32) <<< (nI a &&& 31)) ||| ((1 : Int32) <<< (nI b &&& 31))) x = true ↔ x = a ∨ x = b := fun x => by
                    rw [b_or, b_bit (by omega), b_bit (by omega), Bool.or_eq_true, decide_eq_true_eq, decide_eq_true_eq]
                  have hEn : ∀ x, bt (((1 : Int32) <<< (nI a &&& 31)) ||| ((1 : Int32) <<< (nI b &&& 31))) x = true ↔ En (gx rest) H (cd a b) x := fun x => by
                    rw [hbits]
                    have ic := inc_cd (u := a) (v := b) (by omega) b9
                    constructor
                    · rintro (q | q)
                      · rw [q]; exact ⟨v1, Or.inl (by rw [ic, decide_eq_true rfl, decide_eq_false (by omega)]; rfl)⟩
                      · rw [q]; exact ⟨v2, Or.inl (by rw [ic, decide_eq_true rfl, decide_eq_false (by omega)]; rfl)⟩
                    · intro q
                      have on : ∀ y, inc y (cd a b) = true → y = a ∨ y = b := fun y hy => by
                        rw [ic] at hy
                        by_cases w : y = a
                        · exact Or.inl w
                        · rw [decide_eq_false w, Bool.false_xor, decide_eq_true_eq] at hy
                          exact Or.inr hy
                      exact on x (En_edge (fun y hy => by
                        rcases on y hy with w | w
                        · rw [w]; exact v1
                        · rw [w]; exact v2) q)
                  refine Ok_bd1.mpr (Ok_some.mpr (Ok_bd1.mpr (Ok_some.mpr (Ok_bd1.mpr (Ok_mono (weigh_go N hN hnr ins en rn ch 0 _ (Or.inl ⟨rfl, a, b, by omega, b9, by omega, v1, v2, v3, v4, hbits⟩) hW) (fun r hr => ?_))))))
                  rcases hr with ⟨r1, r2⟩ | ⟨r1, r2, r3, r4⟩
                  · rw [r1, if_neg i00]
                    refine Ok_some.mpr (Or.inl ⟨rfl, ?_⟩)
                    exact SkI_no ⟨hS, hD, hnr, hSk, hpl, hst⟩ v3 v4 v1 (by rw [inc_cd (by omega) b9, decide_eq_true rfl, decide_eq_false (by omega)]; rfl) (by omega : a ≠ b) hEn ((hbits b).mpr (Or.inr rfl)) r2
                  · rw [r1, if_pos i10]
                    exact ihm (b + 1) _ _ _ _ (by omega) (by omega) (by omega) (Or.inr r2) (up _ _ r3 (fun _ _ _ _ => r4 _ hEn))
          exact lp N (a + 1) ins en rn ch (by omega) (by omega) (by omega) hW (fun a' b' q1 q2 => hC a' b' (by omega) q2)
        rw [X7_contains N (by omega), nI_clamp (n := a) (by omega)]
        refine Ok_bd1.mpr (Ok_some.mpr (Ok_ife bI_0 (fun c3 => inner 0 (fun b h1 h2 => ?_)) (fun c3 => Ok_chk.mpr ⟨inb_nI (by omega) (by decide), Ok_chk.mpr ⟨inb_nI (by omega) (by decide), inner _ (fun b h1 h2 => ?_)⟩⟩)))
        · rw [b_0]
          refine ⟨fun q => absurd q (by decide), fun q => ?_⟩
          rw [(hpl a).mpr q.1] at c3; cases c3
        · rw [Bool.not_eq_false] at c3
          rw [b_and, b_and, b_not _ (by omega), hSk a (by omega) b, decide_eq_true h2, decide_eq_false (by omega : ¬ a = b), ← gx_cd hS (by omega) h2 (by omega), Bool.and_eq_true, Bool.and_eq_true, hpl]
          simp only [Bool.not_false, Bool.and_self, Bool.true_and, Bool.not_eq_true']
          exact ⟨fun ⟨⟨q1, q2⟩, q3⟩ => ⟨(hpl a).mp c3, q2, q1, q3⟩, fun ⟨_, q2, q1, q3⟩ => ⟨⟨q1, q2⟩, q3⟩⟩
  exact outer N 0 ins 0 rn ch (by omega) (by omega) (Or.inl rfl) (fun a' b' q => by omega)
end WEI
