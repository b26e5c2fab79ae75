/-! ===== the reference's edges as a graph; what it reaches; its blocks ===== -/
noncomputable def gm (A B : Nat → Nat) (M : Int32) (e : Nat) : Bool := cb (∃ k, bt M k = true ∧ e = cd (A k) (B k))
theorem gm_t {A B : Nat → Nat} {M : Int32} {e : Nat} : gm A B M e = true ↔ ∃ k, bt M k = true ∧ e = cd (A k) (B k) := cb_t
def EE (ea eb : Nat → Int32) (A B : Nat → Nat) (M : Int32) : Prop := (∀ k, bt M k = true → k < 21 ∧ ea k = nI (A k) ∧ eb k = nI (B k) ∧ A k < 9 ∧ B k < 9 ∧ A k ≠ B k) ∧ ∀ k j, bt M k = true → bt M j = true → cd (A k) (B k) = cd (A j) (B j) → k = j
theorem EE_sub {ea eb : Nat → Int32} {A B : Nat → Nat} {M M' : Int32} (h : EE ea eb A B M) (hs : ∀ k, bt M' k = true → bt M k = true) : EE ea eb A B M' := ⟨fun k hk => h.1 k (hs k hk), fun k j hk hj => h.2 k j (hs k hk) (hs j hj)⟩
theorem cd_gw {a b : Nat} (ha : a < 9) (hb : b < 9) (hne : a ≠ b) : cd a b < 81 ∧ cd a b / 9 < cd a b % 9 := by
  unfold cd
  split <;> omega
theorem gm_GW {ea eb : Nat → Int32} {A B : Nat → Nat} {M : Int32} (h : EE ea eb A B M) : GW (gm A B M) := by
  intro e he
  obtain ⟨k, k1, k2⟩ := gm_t.mp he
  obtain ⟨_, _, _, a9, b9, ne⟩ := h.1 k k1
  rw [k2]
  exact cd_gw a9 b9 ne
theorem bits2 {a b : Nat} (ha : a < 9) (hb : b < 9) (x : Nat) : bt (((1 : Int32) <<< (nI a &&& 31)) ||| ((1 : Int32) <<< (nI b &&& 31))) x = true ↔ x = a ∨ x = b := by
  rw [b_or, b_bit (by omega), b_bit (by omega), Bool.or_eq_true, decide_eq_true_eq, decide_eq_true_eq]
theorem b_nz {x : Int32} : ¬ x = 0 ↔ ∃ i, bt x i = true := by
  rw [b_zero]
  constructor
  · intro h
    refine Classical.byContradiction (fun q => h (fun i _ => ?_))
    cases c : bt x i with
    | false => rfl
    | true => exact absurd ⟨i, c⟩ q
  · rintro ⟨i, hi⟩ h
    rcases Nat.lt_or_ge i 32 with q | q
    · rw [h i q] at hi; cases hi
    · rw [b_big q] at hi; cases hi
theorem b_31 {x : Int32} {b : Nat} (h : bt x b = true) : b < 32 := by
  rcases Nat.lt_or_ge b 32 with q | q
  · exact q
  · rw [b_big q] at h; cases h
theorem X8_low (N : Nat) (hN : 40 < N) {x : Int32} (hx : ¬ x = 0) : Ok (f_X8_lowest N x) (fun r => ∃ k, bt x k = true ∧ r = nI k) := by
  obtain ⟨b, hb⟩ := b_nz.mp hx
  have b32 := b_31 hb
  unfold f_X8_lowest
  have lp : ∀ n i, i ≤ b → b - i < n → Ok (f_X8_lowest_b2 N n x (nI i)) (fun r => ∃ k, bt x k = true ∧ r = nI k) := by
    intro n
    induction n with
    | zero => intro i _ h; omega
    | succ n ih =>
      intro i hi hm
      simp only [f_X8_lowest_b2]
      rw [X8_has N (by omega), nI_1]
      refine Ok_bd1.mpr (Ok_some.mpr ?_)
      cases c : bt x i with
      | true => rw [if_pos bT0]; exact Ok_some.mpr ⟨i, c, rfl⟩
      | false =>
        rw [if_neg (fun q => q bF0)]
        have hib : i < b := by
          rcases Nat.eq_or_lt_of_le hi with q | q
          · rw [q, hb] at c; cases c
          · exact q
        exact ih (i + 1) hib (by omega)
  exact lp N 0 (by omega) (by omega)
def Clm (A B : Nat → Nat) (M wo : Int32) (T : Nat → Prop) : Prop := ∀ k, bt M k = true → bt wo (A k) = false → bt wo (B k) = false → ((T (A k) → T (B k)) ∧ (T (B k) → T (A k)))
section RCH
variable {ea eb : Nat → Int32} {A B : Nat → Nat} {M : Int32}
theorem and_nz {a b : Nat} (ha : a < 9) (hb : b < 9) {x : Int32} : ¬ ((((1 : Int32) <<< (nI a &&& 31)) ||| ((1 : Int32) <<< (nI b &&& 31))) &&& x) = 0 ↔ bt x a = true ∨ bt x b = true := by
  rw [b_nz]
  constructor
  · rintro ⟨i, hi⟩
    rw [b_and, Bool.and_eq_true, bits2 ha hb] at hi
    rcases hi.1 with q | q
    · rw [← q]; exact Or.inl hi.2
    · rw [← q]; exact Or.inr hi.2
  · rintro (q | q)
    · exact ⟨a, by rw [b_and, q, (bits2 ha hb a).mpr (Or.inl rfl)]; rfl⟩
    · exact ⟨b, by rw [b_and, q, (bits2 ha hb b).mpr (Or.inr rfl)]; rfl⟩
theorem X8_reached (N : Nat) (hN : 100 < N) (hE : EE ea eb A B M) {F wo : Int32} (hF : ∀ x, bt F x = true → x < 9) : Ok (f_X8_reached N ea eb F M wo) (fun r => (∀ x, bt F x = true → bt r x = true) ∧ (∀ x, bt r x = true → x < 9) ∧ Clm A B M wo (fun x => bt r x = true) ∧ ∀ T : Nat → Prop, (∀ x, bt F x = true → T x) → Clm A B M wo T → ∀ x, bt r x = true → T x) := by
  unfold f_X8_reached
  have outer : ∀ (n : Nat) (set : Int32), (∀ x, bt F x = true → bt set x = true) → (∀ x, bt set x = true → x < 9) → (∀ T : Nat → Prop, (∀ x, bt F x = true → T x) → Clm A B M wo T → ∀ x, bt set x = true → T x) → 11 - fb_ct (bt set) 9 < n → Ok (f_X8_reached_b6 N ea eb n M wo set 1) (fun r => (∀ x, bt F x = true → bt r x = true) ∧ (∀ x, bt r x = true → x < 9) ∧ Clm A B M wo (fun x => bt r x = true) ∧ ∀ T : Nat → Prop, (∀ x, bt F x = true → T x) → Clm A B M wo T → ∀ x, bt r x = true → T x) := by
    intro n
    induction n with
    | zero => intro set _ _ _ h; omega
    | succ n ih =>
      intro set h1 h2 h3 hm
      have hc := fb_ct_le (bt set) 9
      simp only [f_X8_reached_b6]
      rw [if_neg (by decide)]
      refine lpU (fun m j s => f_X8_reached_b18 N ea eb (f_X8_reached_b6 N ea eb n) m M wo s set (nI j)) (fun j s => (∀ x, bt set x = true → bt s x = true) ∧ (∀ x, bt s x = true → x < 9) ∧ (∀ T : Nat → Prop, (∀ x, bt F x = true → T x) → Clm A B M wo T → ∀ x, bt s x = true → T x) ∧ ∀ k, k < j → bt M k = true → bt wo (A k) = false → bt wo (B k) = false → (bt set (A k) = true ∨ bt set (B k) = true) → bt s (A k) = true ∧ bt s (B k) = true) 21 ?_ ?_ N 0 _ (Nat.zero_le _) (by omega) ⟨fun x q => q, h2, h3, fun k q => by omega⟩
      · rintro m s ⟨g1, g2, g3, g4⟩
        simp only [f_X8_reached_b18, f_X8_reached_b91, f_X8_reached_b103]
        rw [show nI 21 = (21 : Int32) from rfl, if_pos (by decide)]
        refine Ok_ite.mpr ⟨fun c => ?_, fun c => ?_⟩
        · obtain ⟨n, rfl⟩ : ∃ k, n = k + 1 := ⟨n - 1, by omega⟩
          simp only [f_X8_reached_b6]
          rw [if_pos trivial]
          refine Ok_some.mpr ⟨fun x q => g1 x (h1 x q), g2, fun k k1 k2 k3 => ?_, g3⟩
          have kk := g4 k (hE.1 k k1).1 k1 k2 k3
          rw [c] at *
          exact ⟨fun q => (kk (Or.inl q)).2, fun q => (kk (Or.inr q)).1⟩
        · refine ih s (fun x q => g1 x (h1 x q)) g2 g3 ?_
          have : ∃ x, x < 9 ∧ bt set x = false ∧ bt s x = true := by
            refine Classical.byContradiction (fun q => c (b_ext (fun i _ => ?_)))
            cases w1 : bt s i with
            | true =>
              cases w2 : bt set i with
              | true => rfl
              | false => exact absurd ⟨i, g2 i w1, w2, w1⟩ q
            | false =>
              cases w2 : bt set i with
              | false => rfl
              | true => rw [g1 i w2] at w1; cases w1
          obtain ⟨x, x1, x2, x3⟩ := this
          have := ct_lt (p := bt set) (q := bt s) (n := 9) (fun j _ hj => g1 j hj) x1 x2 x3
          omega
      · rintro m j s hj ⟨g1, g2, g3, g4⟩ ih2
        simp only [f_X8_reached_b18, f_X8_reached_b57, f_X8_reached_b81, f_X8_reached_b82]
        refine Ok_ife (nI_leI (a := 21) (b := j) (by omega) (by omega)) (fun c => absurd c (by omega)) (fun _ => ?_)
        rw [X8_has N (by omega), nI_1, nI_clamp (n := j) (by omega)]
        have keep : (bt M j = true → bt wo (A j) = false → bt wo (B j) = false → (bt set (A j) = true ∨ bt set (B j) = true) → bt s (A j) = true ∧ bt s (B j) = true) → Ok (f_X8_reached_b18 N ea eb (f_X8_reached_b6 N ea eb n) m M wo (s ||| 0) set (nI (j + 1))) _ := fun hk => ih2 (s ||| 0) (by
          have e : s ||| 0 = s := b_ext (fun i _ => by rw [b_or, b_0, Bool.or_false])
          rw [e]
          refine ⟨g1, g2, g3, fun k k1 k2 k3 k4 k5 => ?_⟩
          rcases Nat.lt_or_ge k j with q | q
          · exact g4 k q k2 k3 k4 k5
          · rw [show k = j by omega] at k2 k3 k4 k5 ⊢
            exact hk k2 k3 k4 k5)
        refine Ok_bd1.mpr (Ok_some.mpr (Ok_ife bI_0 (fun c => ?_) (fun c => ?_)))
        · have z : ((0 : Int32) &&& s) = 0 := b_ext (fun i _ => by rw [b_and, b_0, Bool.false_and])
          rw [if_pos z]
          exact Ok_nm.mpr (keep (fun q => by rw [c] at q; cases q))
        · rw [Bool.not_eq_false] at c
          obtain ⟨_, e1, e2, a9, b9, ne⟩ := hE.1 j c
          rw [e1, e2]
          refine Ok_chk.mpr ⟨inb_nI (by omega) (by decide), Ok_chk.mpr ⟨inb_nI (by omega) (by decide), Ok_ite.mpr ⟨fun c2 => Ok_nm.mpr (keep (fun _ _ _ q => ?_)), fun c2 => Ok_ite.mpr ⟨fun c3 => Ok_nm.mpr (keep (fun _ q1 q2 _ => ?_)), fun c3 => Ok_nm.mpr (ih2 _ ?_)⟩⟩⟩⟩
          · have : bt s (A j) = true ∨ bt s (B j) = true := q.elim (fun w => Or.inl (g1 _ w)) (fun w => Or.inr (g1 _ w))
            exact absurd c2 ((and_nz a9 b9).mpr this)
          · rcases (and_nz a9 b9).mp c3 with w | w
            · rw [q1] at w; cases w
            · rw [q2] at w; cases w
          · have c2' := (and_nz a9 b9).mp c2
            have c3' : bt wo (A j) = false ∧ bt wo (B j) = false := by
              have := fun q => c3 ((and_nz a9 b9).mpr q)
              constructor
              · cases w : bt wo (A j) with
                | false => rfl
                | true => exact absurd (Or.inl w) this
              · cases w : bt wo (B j) with
                | false => rfl
                | true => exact absurd (Or.inr w) this
            have hb : ∀ x, bt (s ||| (((1 : Int32) <<< (nI (A j) &&& 31)) ||| ((1 : Int32) <<< (nI (B j) &&& 31)))) x = true ↔ bt s x = true ∨ x = A j ∨ x = B j := fun x => by
              rw [b_or, Bool.or_eq_true, bits2 a9 b9]
            refine ⟨fun x q => (hb x).mpr (Or.inl (g1 x q)), fun x q => ?_, fun T t1 t2 x q => ?_, fun k k1 k2 k3 k4 k5 => ?_⟩
            · rcases (hb x).mp q with w | w | w
              · exact g2 x w
              · rw [w]; exact a9
              · rw [w]; exact b9
            · have tt := t2 j c c3'.1 c3'.2
              have both : T (A j) ∧ T (B j) := c2'.elim (fun w => ⟨g3 T t1 t2 _ w, tt.1 (g3 T t1 t2 _ w)⟩) (fun w => ⟨tt.2 (g3 T t1 t2 _ w), g3 T t1 t2 _ w⟩)
              rcases (hb x).mp q with w | w | w
              · exact g3 T t1 t2 x w
              · rw [w]; exact both.1
              · rw [w]; exact both.2
            · rcases Nat.lt_or_ge k j with q | q
              · have := g4 k q k2 k3 k4 k5
                exact ⟨(hb _).mpr (Or.inl this.1), (hb _).mpr (Or.inl this.2)⟩
              · rw [show k = j by omega]
                exact ⟨(hb _).mpr (Or.inr (Or.inl rfl)), (hb _).mpr (Or.inr (Or.inr rfl))⟩
  exact outer N F (fun x q => q) hF (fun T t1 _ => t1) (by omega)
end RCH
