/-! ===== the reference's blocks ===== -/
def rn (A B : Nat → Nat) (M : Int32) (c x y : Nat) : Prop := ∀ T : Nat → Prop, T x → (∀ j, bt M j = true → A j ≠ c → B j ≠ c → ((T (A j) → T (B j)) ∧ (T (B j) → T (A j)))) → T y
def AI (A B : Nat → Nat) (M : Int32) (k i : Nat) : Prop := ∃ c x y, c < 9 ∧ x < 9 ∧ y < 9 ∧ c ≠ x ∧ c ≠ y ∧ cd (A k) (B k) = cd c x ∧ cd (A i) (B i) = cd c y ∧ rn A B M c x y
section BLK
variable {ea eb : Nat → Int32} {A B : Nat → Nat} {M : Int32}
theorem cd_oth {a b z : Nat} (hz : z = a ∨ z = b) : ∃ x, cd a b = cd z x ∧ (z = a ∧ x = b ∨ z = b ∧ x = a) := by
  rcases hz with q | q
  · exact ⟨b, by rw [q], Or.inl ⟨q, rfl⟩⟩
  · exact ⟨a, by rw [q, cd_comm], Or.inr ⟨q, rfl⟩⟩
theorem X8_areInOne (N : Nat) (hN : 100 < N) (hE : EE ea eb A B M) {k i : Nat} (hk : bt M k = true) (hi : bt M i = true) (hki : k ≠ i) : Ok (f_X8_areInOne N ea eb M (nI k) (nI i)) (fun r => (r = 1 ∧ AI A B M k i) ∨ (r = 0 ∧ ¬ AI A B M k i)) := by
  obtain ⟨k21, k1, k2, ak, bk, nk⟩ := hE.1 k hk
  obtain ⟨i21, i1, i2, ai, bi, ni⟩ := hE.1 i hi
  have hne : cd (A k) (B k) ≠ cd (A i) (B i) := fun q => hki (hE.2 k i hk hi q)
  unfold f_X8_areInOne nm
  dsimp only
  rw [nI_clamp (n := k) (by omega), nI_clamp (n := i) (by omega), k1, k2, i1, i2]
  have ik : inb (nI k) 21 = true := inb_nI k21 (by decide)
  have ii : inb (nI i) 21 = true := inb_nI i21 (by decide)
  refine Ok_chk.mpr ⟨ik, Ok_chk.mpr ⟨ik, Ok_chk.mpr ⟨ii, Ok_chk.mpr ⟨ii, ?_⟩⟩⟩⟩
  generalize hK : (((1 : Int32) <<< (nI (A k) &&& 31)) ||| ((1 : Int32) <<< (nI (B k) &&& 31))) = K
  generalize hI : (((1 : Int32) <<< (nI (A i) &&& 31)) ||| ((1 : Int32) <<< (nI (B i) &&& 31))) = I
  have bK : ∀ x, bt K x = true ↔ x = A k ∨ x = B k := fun x => by rw [← hK]; exact bits2 ak bk x
  have bI2 : ∀ x, bt I x = true ↔ x = A i ∨ x = B i := fun x => by rw [← hI]; exact bits2 ai bi x
  have inE : ∀ {a b c x : Nat}, a < 9 → b < 9 → c < 9 → x < 9 → cd a b = cd c x → c = a ∨ c = b := fun h1 h2 h3 h4 q => by
    rcases cd_inj h1 h2 h3 h4 q with w | w
    · exact Or.inl w.1.symm
    · exact Or.inr w.2.symm
  refine Ok_ite.mpr ⟨fun c => ?_, fun c => ?_⟩
  · obtain ⟨z, hz⟩ := b_nz.mp c
    rw [b_and, Bool.and_eq_true, bK, bI2] at hz
    obtain ⟨x, x1, x2⟩ := cd_oth hz.1
    obtain ⟨y, y1, y2⟩ := cd_oth hz.2
    have z9 : z < 9 := by rcases hz.1 with q | q <;> omega
    have x9 : x < 9 := by omega
    have y9 : y < 9 := by omega
    have zx : z ≠ x := by omega
    have zy : z ≠ y := by omega
    have xy : x ≠ y := fun q => hne (by rw [x1, y1, q])
    have bC : ∀ w, bt (K &&& I) w = true ↔ w = z := fun w => by
      rw [b_and, Bool.and_eq_true, bK, bI2]
      omega
    have bX : ∀ w, bt (K &&& ((K &&& I) ^^^ (-1))) w = true ↔ w = x := fun w => by
      constructor
      · intro q
        have w32 := b_31 q
        rw [b_and, Bool.and_eq_true, b_not _ w32, Bool.not_eq_true', bK] at q
        have : w ≠ z := fun e => by rw [(bC w).mpr e] at q; cases q.2
        omega
      · intro q
        rw [b_and, b_not _ (by omega), (bK w).mpr (by omega)]
        cases h : bt (K &&& I) w with
        | false => rfl
        | true => have := (bC w).mp h; omega
    have bY : ∀ w, bt (I &&& ((K &&& I) ^^^ (-1))) w = true ↔ w = y := fun w => by
      constructor
      · intro q
        have w32 := b_31 q
        rw [b_and, Bool.and_eq_true, b_not _ w32, Bool.not_eq_true', bI2] at q
        have : w ≠ z := fun e => by rw [(bC w).mpr e] at q; cases q.2
        omega
      · intro q
        rw [b_and, b_not _ (by omega), (bI2 w).mpr (by omega)]
        cases h : bt (K &&& I) w with
        | false => rfl
        | true => have := (bC w).mp h; omega
    refine Ok_chk.mpr ⟨ik, Ok_chk.mpr ⟨ik, Ok_chk.mpr ⟨ii, Ok_chk.mpr ⟨ii, Ok_bd1.mpr (Ok_mono (X8_reached N hN hE (fun w hw => by rw [(bX w).mp hw]; exact x9)) (fun r ⟨r1, r2, r3, r4⟩ => ?_))⟩⟩⟩⟩
    have wo : ∀ w, bt (K &&& I) w = false ↔ w ≠ z := fun w => by
      constructor
      · intro q e
        rw [(bC w).mpr e] at q; cases q
      · intro q
        cases h : bt (K &&& I) w with
        | false => rfl
        | true => exact absurd ((bC w).mp h) q
    have hr : bt r y = true ↔ AI A B M k i := by
      constructor
      · intro q
        refine ⟨z, x, y, z9, x9, y9, zx, zy, x1, y1, fun T t1 t2 => ?_⟩
        exact r4 T (fun w hw => by rw [(bX w).mp hw]; exact t1) (fun j j1 j2 j3 => t2 j j1 ((wo _).mp j2) ((wo _).mp j3)) y q
      · rintro ⟨c', x', y', c9', x9', y9', n1, n2, e1, e2, hrn⟩
        have h1 := inE ak bk c9' x9' e1
        have h2 := inE ai bi c9' y9' e2
        have ez : c' = z := (bC c').mp (by rw [b_and, (bK c').mpr h1, (bI2 c').mpr h2]; rfl)
        rw [ez] at e1 e2 n1 n2 hrn
        have ex : x' = x := by
          rcases cd_inj z9 x9' z9 x9 (e1.symm.trans x1) with w | w
          · exact w.2
          · omega
        have ey : y' = y := by
          rcases cd_inj z9 y9' z9 y9 (e2.symm.trans y1) with w | w
          · exact w.2
          · omega
        rw [ex, ey] at hrn
        exact hrn (fun w => bt r w = true) (r1 x ((bX x).mpr rfl)) (fun j j1 j2 j3 => r3 j j1 ((wo _).mpr j2) ((wo _).mpr j3))
    have hy : (r &&& (I &&& ((K &&& I) ^^^ (-1)))) = 0 ↔ ¬ bt r y = true := by
      rw [← Decidable.not_iff_not, b_nz, Decidable.not_not]
      constructor
      · rintro ⟨w, hw⟩
        rw [b_and, Bool.and_eq_true, bY] at hw
        rw [← hw.2]; exact hw.1
      · intro q
        exact ⟨y, by rw [b_and, q, (bY y).mpr rfl]; rfl⟩
    refine Ok_ite.mpr ⟨fun q => Ok_some.mpr (Or.inr ⟨rfl, fun w => (hy.mp q) (hr.mpr w)⟩), fun q => Ok_some.mpr (Or.inl ⟨rfl, hr.mp (Decidable.not_not.mp (fun w => q (hy.mpr w)))⟩)⟩
  · refine Ok_some.mpr (Or.inr ⟨rfl, ?_⟩)
    rintro ⟨c', x', y', c9', x9', y9', n1, n2, e1, e2, _⟩
    have h1 := inE ak bk c9' x9' e1
    have h2 := inE ai bi c9' y9' e2
    exact c (b_nz.mpr ⟨c', by rw [b_and, (bK c').mpr h1, (bI2 c').mpr h2]; rfl⟩)
def Bk (A B : Nat → Nat) (M : Int32) (e : Nat) (r : Int32) : Prop := bt r e = true ∧ (∀ k, bt r k = true → bt M k = true) ∧ (∀ k i, bt r k = true → bt M i = true → k ≠ i → AI A B M k i → bt r i = true) ∧ ∀ T : Nat → Prop, T e → (∀ k i, T k → bt M k = true → bt M i = true → k ≠ i → AI A B M k i → T i) → ∀ k, bt r k = true → T k
theorem X8_block (N : Nat) (hN : 100 < N) (hE : EE ea eb A B M) {e : Nat} (he : bt M e = true) : Ok (f_X8_block N ea eb M (nI e)) (Bk A B M e) := by
  have e21 := (hE.1 e he).1
  unfold f_X8_block
  refine Ok_nm.mpr ?_
  have outer : ∀ (n : Nat) (its : Int32), bt its e = true → (∀ k, bt its k = true → bt M k = true) → (∀ T : Nat → Prop, T e → (∀ k i, T k → bt M k = true → bt M i = true → k ≠ i → AI A B M k i → T i) → ∀ k, bt its k = true → T k) → 25 - fb_ct (bt its) 21 < n → Ok (f_X8_block_b7 N ea eb n M its 1) (Bk A B M e) := by
    intro n
    induction n with
    | zero => intro _ _ _ _ q; omega
    | succ n ih =>
      intro its h1 h2 h3 hm
      have hc := fb_ct_le (bt its) 21
      simp only [f_X8_block_b7]
      rw [if_neg (by decide)]
      refine lpU (fun m k s => f_X8_block_b18 N ea eb (f_X8_block_b7 N ea eb n) m M s its (nI k)) (fun k s => (∀ x, bt its x = true → bt s x = true) ∧ (∀ x, bt s x = true → bt M x = true) ∧ (∀ T : Nat → Prop, T e → (∀ k i, T k → bt M k = true → bt M i = true → k ≠ i → AI A B M k i → T i) → ∀ k, bt s k = true → T k) ∧ ∀ k', k' < k → bt its k' = true → ∀ i, bt M i = true → k' ≠ i → AI A B M k' i → bt s i = true) 21 ?_ ?_ N 0 _ (Nat.zero_le _) (by omega) ⟨fun x q => q, h2, h3, fun k' q => by omega⟩
      · rintro m s ⟨g1, g2, g3, g4⟩
        simp only [f_X8_block_b18, f_X8_block_b97, f_X8_block_b108]
        rw [show nI 21 = (21 : Int32) from rfl, if_pos (by decide)]
        refine Ok_ite.mpr ⟨fun c => ?_, fun c => ?_⟩
        · obtain ⟨n, rfl⟩ : ∃ k, n = k + 1 := ⟨n - 1, by omega⟩
          simp only [f_X8_block_b7]
          rw [if_pos trivial]
          rw [← c] at g4
          exact Ok_some.mpr ⟨g1 e h1, g2, fun k i k1 k2 k3 k4 => g4 k (hE.1 k (g2 k k1)).1 k1 i k2 k3 k4, g3⟩
        · refine ih s (g1 e h1) g2 g3 ?_
          have : ∃ x, x < 21 ∧ bt its x = false ∧ bt s x = true := by
            refine Classical.byContradiction (fun q => c (b_ext (fun i _ => ?_)))
            cases w1 : bt s i with
            | true =>
              cases w2 : bt its i with
              | true => rfl
              | false => exact absurd ⟨i, (hE.1 i (g2 i w1)).1, w2, w1⟩ q
            | false =>
              cases w2 : bt its i with
              | false => rfl
              | true => rw [g1 i w2] at w1; cases w1
          obtain ⟨x, x1, x2, x3⟩ := this
          have := ct_lt (p := bt its) (q := bt s) (n := 21) (fun j _ hj => g1 j hj) x1 x2 x3
          omega
      · rintro m k s hk ⟨g1, g2, g3, g4⟩ ih2
        simp only [f_X8_block_b18]
        refine Ok_ife (nI_leI (a := 21) (b := k) (by omega) (by omega)) (fun c => absurd c (by omega)) (fun _ => ?_)
        refine lpU (fun m2 i s => f_X8_block_b28 N ea eb (f_X8_block_b7 N ea eb n) (f_X8_block_b18 N ea eb (f_X8_block_b7 N ea eb n) m) m2 M s its (nI k) (nI i)) (fun i s => (∀ x, bt its x = true → bt s x = true) ∧ (∀ x, bt s x = true → bt M x = true) ∧ (∀ T : Nat → Prop, T e → (∀ k i, T k → bt M k = true → bt M i = true → k ≠ i → AI A B M k i → T i) → ∀ k, bt s k = true → T k) ∧ (∀ k', k' < k → bt its k' = true → ∀ i, bt M i = true → k' ≠ i → AI A B M k' i → bt s i = true) ∧ (bt its k = true → ∀ i', i' < i → bt M i' = true → k ≠ i' → AI A B M k i' → bt s i' = true)) 21 ?_ ?_ N 0 _ (Nat.zero_le _) (by omega) ⟨g1, g2, g3, g4, fun _ i' q => by omega⟩
        · rintro m2 s ⟨g1, g2, g3, g4, g5⟩
          simp only [f_X8_block_b28, f_X8_block_b91]
          rw [show nI 21 = (21 : Int32) from rfl, if_pos (by decide), nI_1]
          refine ih2 s ⟨g1, g2, g3, fun k' k1 k2 i i1 i2 i3 => ?_⟩
          rcases Nat.lt_or_ge k' k with q | q
          · exact g4 k' q k2 i i1 i2 i3
          · rw [show k' = k by omega] at k2 i2 i3
            exact g5 k2 i (hE.1 i i1).1 i1 i2 i3
        · rintro m2 i s hi ⟨g1, g2, g3, g4, g5⟩ ih3
          simp only [f_X8_block_b28, f_X8_block_b91, f_X8_block_b82, f_X8_block_b83]
          refine Ok_ife (nI_leI (a := 21) (b := i) (by omega) (by omega)) (fun c => absurd c (by omega)) (fun _ => ?_)
          rw [X8_has N (by omega), X8_has N (by omega), X8_has N (by omega), nI_1, nI_1]
          have keep : (bt its k = true → bt M i = true → k ≠ i → AI A B M k i → bt s i = true) → Ok (f_X8_block_b28 N ea eb (f_X8_block_b7 N ea eb n) (f_X8_block_b18 N ea eb (f_X8_block_b7 N ea eb n) m) m2 M (s ||| 0) its (nI k) (nI (i + 1))) (Bk A B M e) := fun hk => ih3 (s ||| 0) (by
            have e : s ||| 0 = s := b_ext (fun i _ => by rw [b_or, b_0, Bool.or_false])
            rw [e]
            refine ⟨g1, g2, g3, g4, fun q i' q1 q2 q3 q4 => ?_⟩
            rcases Nat.lt_or_ge i' i with w | w
            · exact g5 q i' w q2 q3 q4
            · rw [show i' = i by omega] at q2 q3 q4 ⊢
              exact hk q q2 q3 q4)
          refine Ok_bd1.mpr (Ok_some.mpr (Ok_ife bI_0 (fun c => ?_) (fun c => ?_)))
          · refine ih2 s ⟨g1, g2, g3, fun k' k1 k2 i i1 i2 i3 => ?_⟩
            rcases Nat.lt_or_ge k' k with q | q
            · exact g4 k' q k2 i i1 i2 i3
            · rw [show k' = k by omega] at k2
              rw [g1 k k2] at c; cases c
          · rw [Bool.not_eq_false] at c
            refine Ok_bd1.mpr (Ok_some.mpr (Ok_ife bI_0 (fun c2 => Ok_nm.mpr (keep (fun _ q => by rw [c2] at q; cases q))) (fun c2 => ?_)))
            rw [Bool.not_eq_false] at c2
            refine Ok_bd1.mpr (Ok_some.mpr ?_)
            cases c3 : bt s i with
            | true =>
              rw [if_pos bT0]
              exact Ok_nm.mpr (keep (fun _ _ _ _ => c3))
            | false =>
              rw [if_neg (fun q => q bF0)]
              have hki : k ≠ i := fun q => by rw [q, c3] at c; cases c
              refine Ok_bd1.mpr (Ok_mono (X8_areInOne N hN hE (g2 k c) c2 hki) (fun r hr => ?_))
              rcases hr with ⟨r1, r2⟩ | ⟨r1, r2⟩
              · rw [if_neg (by rw [r1]; exact i10)]
                refine Ok_nm.mpr (ih3 _ ?_)
                have hb : ∀ x, bt (s ||| ((1 : Int32) <<< (nI i &&& 31))) x = true ↔ bt s x = true ∨ x = i := fun x => by
                  rw [b_or, Bool.or_eq_true, b_bit (by omega), decide_eq_true_eq]
                refine ⟨fun x q => (hb x).mpr (Or.inl (g1 x q)), fun x q => ?_, fun T t1 t2 x q => ?_, fun k' k1 k2 j j1 j2 j3 => (hb j).mpr (Or.inl (g4 k' k1 k2 j j1 j2 j3)), fun q i' q1 q2 q3 q4 => (hb i').mpr ?_⟩
                · rcases (hb x).mp q with w | w
                  · exact g2 x w
                  · rw [w]; exact c2
                · rcases (hb x).mp q with w | w
                  · exact g3 T t1 t2 x w
                  · rw [w]; exact t2 k i (g3 T t1 t2 k c) (g2 k c) c2 hki r2
                · rcases Nat.lt_or_ge i' i with w | w
                  · exact Or.inl (g5 q i' w q2 q3 q4)
                  · exact Or.inr (by omega)
              · rw [if_pos r1]
                exact Ok_nm.mpr (keep (fun _ _ _ q => absurd q r2))
  have hb : ∀ x, bt ((1 : Int32) <<< (nI e &&& 31)) x = true ↔ x = e := fun x => by rw [b_bit (by omega), decide_eq_true_eq]
  exact outer N _ ((hb e).mpr rfl) (fun k q => by rw [(hb k).mp q]; exact he) (fun T t1 _ k q => by rw [(hb k).mp q]; exact t1) (by omega)
end BLK
