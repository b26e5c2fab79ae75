/-! ===== the reference looks through all pieces ===== -/
section PK2
variable {ea eb : Nat → Int32} {A B : Nat → Nat} {M r dr nd : Int32} {e0 e1 : Nat} {st : Nat → Int32} {nr : Nat} {rg : Nat → List Nat}
/-- what holds while a block is drawn -/
def DI (ea eb : Nat → Int32) (A B : Nat → Nat) (M r dr nd : Int32) (e0 e1 : Nat) (st : Nat → Int32) (nr : Nat) (rg : Nat → List Nat) : Prop :=
  EE ea eb A B M ∧ Bk A B M e0 r ∧ Dm (gm A B r) (gm A B dr) nr rg ∧ nr ≤ 14 ∧ (∀ k, bt dr k = true → bt r k = true) ∧ bt dr e1 = true ∧ (∀ x, bt nd x = true ↔ VH (gm A B dr) x) ∧ ∀ k, k < nr → ∀ x, bt (st k) x = decide (x ∈ rg k)
theorem DI_off (h : DI ea eb A B M r dr nd e0 e1 st nr rg) {k : Nat} (hk : bt r k = true) (hd : bt dr k = false) : gm A B dr (cd (A k) (B k)) = false := by
  cases c : gm A B dr (cd (A k) (B k)) with
  | false => rfl
  | true =>
    obtain ⟨j, j1, j2⟩ := gm_t.mp c
    have := h.1.2 k j (h.2.1.2.1 k hk) (h.2.1.2.1 j (h.2.2.2.2.1 j j1)) j2
    rw [this, j1] at hd; cases hd
/-- the part of a node that isn't drawn -/
theorem X8_part (N : Nat) (hN : 100 < N) (h : DI ea eb A B M r dr nd e0 e1 st nr rg) {v : Nat} (hv : v < 9) (hoff : ¬ VH (gm A B dr) v) : Ok (f_X8_reached N ea eb ((1 : Int32) <<< (nI v &&& 31)) r nd) (fun P => ∀ y, bt P y = true ↔ rc (gm A B r) (gm A B dr) v y) := by
  have hEr := EE_sub h.1 h.2.1.2.1
  have hnd := h.2.2.2.2.2.2.1
  have hF : ∀ x, bt ((1 : Int32) <<< (nI v &&& 31)) x = true ↔ x = v := fun x => by rw [b_bit (by omega), decide_eq_true_eq]
  have wo : ∀ x, bt nd x = false ↔ ¬ VH (gm A B dr) x := fun x => by
    rw [← hnd]
    cases bt nd x <;> simp
  refine Ok_mono (X8_reached N hN hEr (fun x hx => by rw [(hF x).mp hx]; exact hv)) (fun P ⟨p1, p2, p3, p4⟩ y => ?_)
  constructor
  · refine p4 (fun y => rc (gm A B r) (gm A B dr) v y) (fun x hx => by rw [(hF x).mp hx]; exact rc_self v) (fun k k1 k2 k3 => ?_) y
    obtain ⟨_, _, _, a9, b9, ne⟩ := hEr.1 k k1
    exact ⟨fun q => rc_step q b9 ne (gm_i k k1) ((wo _).mp k3), fun q => rc_step q a9 (Ne.symm ne) (by rw [cd_comm]; exact gm_i k k1) ((wo _).mp k2)⟩
  · intro hy
    refine (hy (fun y => bt P y = true ∧ ¬ VH (gm A B dr) y) ⟨p1 v ((hF v).mpr rfl), hoff⟩ ?_).1
    rintro u w ⟨u1, u2⟩ w9 huw hg hw
    refine ⟨?_, hw⟩
    obtain ⟨k, k1, k2⟩ := gm_t.mp hg
    obtain ⟨_, _, _, a9, b9, ne⟩ := hEr.1 k k1
    rcases cd_inj (p2 u u1) w9 a9 b9 k2 with q | q
    · have := (p3 k k1 ((wo _).mpr (by rw [← q.1]; exact u2)) ((wo _).mpr (by rw [← q.2]; exact hw))).1
      rw [← q.1, ← q.2] at this
      exact this u1
    · have := (p3 k k1 ((wo _).mpr (by rw [← q.2]; exact hw)) ((wo _).mpr (by rw [← q.1]; exact u2))).2
      rw [← q.1, ← q.2] at this
      exact this u1
theorem X8_picks (N : Nat) (hN : 100 < N) (h : DI ea eb A B M r dr nd e0 e1 st nr rg) (last bn bi bf : Int32) : Ok (f_X8_picks N ea eb st (nI nr) last bn bi bf r dr nd) (fun q => (q.2.2.2 = nI 1000 ∨ Bs (gm A B r) (gm A B dr) st nr q.2.1 q.2.2.1 q.2.2.2) ∧ ∀ k, bt r k = true → bt dr k = false → Cv (gm A B r) (gm A B dr) st nr q.2.1 q.2.2.2 (cd (A k) (B k))) := by
  have h' := h
  obtain ⟨hE, hB, hD, hnr, hsub, he1, hnd, hst⟩ := h'
  have hEr := EE_sub hE hB.2.1
  have hG := gm_GW hEr
  have r1 := hsub e1 he1
  unfold f_X8_picks
  refine Ok_nm.mpr ?_
  generalize hleft : r &&& (dr ^^^ (-1)) = left
  have bl : ∀ k, bt left k = true ↔ bt r k = true ∧ bt dr k = false := fun k => by
    rw [← hleft]
    constructor
    · intro q
      have := b_31 q
      rw [b_and, b_not _ this, Bool.and_eq_true, Bool.not_eq_true'] at q
      exact q
    · rintro ⟨q1, q2⟩
      rw [b_and, b_not _ (b_31 q1), q1, q2]; rfl
  have in9 : ∀ {x k : Nat}, bt r k = true → inc x (cd (A k) (B k)) = true → x = A k ∨ x = B k := fun {x k} hk hx => by
    obtain ⟨_, _, _, a9, b9, _⟩ := hEr.1 k hk
    rw [inc_cd a9 b9] at hx
    by_cases w : x = A k
    · exact Or.inl w
    · rw [decide_eq_false w, Bool.false_xor, decide_eq_true_eq] at hx
      exact Or.inr hx
  -- the nodes that aren't drawn
  have parts : ∀ (oth : Int32), (∀ x, bt oth x = true ↔ (∃ k, bt r k = true ∧ (x = A k ∨ x = B k)) ∧ ¬ VH (gm A B dr) x) → ∀ (n i : Nat) (last bn bi bf : Int32), i ≤ 9 → 9 - i < n → (bf = nI 1000 ∨ Bs (gm A B r) (gm A B dr) st nr bn bi bf) → (∀ k, bt r k = true → bt dr k = false → (VH (gm A B dr) (A k) ∧ VH (gm A B dr) (B k)) ∨ (A k < i ∧ ¬ VH (gm A B dr) (A k)) ∨ (B k < i ∧ ¬ VH (gm A B dr) (B k)) → Cv (gm A B r) (gm A B dr) st nr bn bf (cd (A k) (B k))) → Ok (f_X8_picks_b100 N ea eb st (nI nr) n r nd oth (nI i) last bn bi bf) (fun q => (q.2.2.2 = nI 1000 ∨ Bs (gm A B r) (gm A B dr) st nr q.2.1 q.2.2.1 q.2.2.2) ∧ ∀ k, bt r k = true → bt dr k = false → Cv (gm A B r) (gm A B dr) st nr q.2.1 q.2.2.2 (cd (A k) (B k))) := by
    intro oth ho n
    induction n with
    | zero => intro i _ _ _ _ _ q; omega
    | succ n ih =>
      intro i last bn bi bf hi hm hW hC
      simp only [f_X8_picks_b100, f_X8_picks_b211]
      refine Ok_ife (nI_leI (a := 9) (b := i) (by omega) (by omega)) (fun c => ?_) (fun c => ?_)
      · refine Ok_some.mpr ⟨hW, fun k k1 k2 => hC k k1 k2 ?_⟩
        obtain ⟨_, _, _, a9, b9, _⟩ := hEr.1 k k1
        by_cases c1 : VH (gm A B dr) (A k)
        · by_cases c2 : VH (gm A B dr) (B k)
          · exact Or.inl ⟨c1, c2⟩
          · exact Or.inr (Or.inr ⟨by omega, c2⟩)
        · exact Or.inr (Or.inl ⟨by omega, c1⟩)
      · rw [X8_has N (by omega), nI_1]
        have i9 : i < 9 := by omega
        refine Ok_bd1.mpr (Ok_some.mpr (Ok_ife bI_0 (fun c2 => ?_) (fun c2 => ?_)))
        · refine ih (i + 1) last bn bi bf (by omega) (by omega) hW (fun k k1 k2 k3 => hC k k1 k2 ?_)
          have no : ∀ x, (x = A k ∨ x = B k) → x = i → ¬ VH (gm A B dr) x → False := fun x q1 q2 q3 => by
            have := (ho x).mpr ⟨⟨k, k1, q1⟩, q3⟩
            rw [q2, c2] at this; cases this
          rcases k3 with q | ⟨q1, q2⟩ | ⟨q1, q2⟩
          · exact Or.inl q
          · exact Or.inr (Or.inl ⟨by
              have : A k ≠ i := fun w => no (A k) (Or.inl rfl) w q2
              omega, q2⟩)
          · exact Or.inr (Or.inr ⟨by
              have : B k ≠ i := fun w => no (B k) (Or.inr rfl) w q2
              omega, q2⟩)
        · rw [Bool.not_eq_false] at c2
          obtain ⟨⟨k0, k01, k02⟩, hoff⟩ := (ho i).mp c2
          refine Ok_bd1.mpr (Ok_mono (X8_part N hN h i9 hoff) (fun P hP => ?_))
          -- the nodes at which the part hangs
          refine lpU (fun m j T => f_X8_picks_b135 N ea eb st (nI nr) (f_X8_picks_b100 N ea eb st (nI nr) n) m r nd oth (nI i) P T (nI j) last bn bi bf) (fun j T => ∀ c, bt T c = true ↔ VH (gm A B dr) c ∧ ∃ k, k < j ∧ bt r k = true ∧ (bt P (A k) = true ∨ bt P (B k) = true) ∧ (c = A k ∨ c = B k)) 21 ?_ ?_ N 0 _ (Nat.zero_le _) (by omega) (fun c => by rw [b_0]; exact ⟨fun q => absurd q (by decide), fun ⟨_, k, q, _⟩ => by omega⟩)
          · intro m T hT
            simp only [f_X8_picks_b135, f_X8_picks_b203, f_X8_picks_b211]
            rw [show nI 21 = (21 : Int32) from rfl, if_pos (by decide), nI_1]
            have hC2 : ∀ c, bt T c = true ↔ VH (gm A B dr) c ∧ ∃ y, rc (gm A B r) (gm A B dr) i y ∧ gm A B r (cd y c) = true := by
              intro c
              rw [hT]
              constructor
              · rintro ⟨q1, k, q2, q3, q4, q5⟩
                refine ⟨q1, ?_⟩
                have off : ∀ z, bt P z = true → z ≠ c := fun z hz w => rc_off hoff ((hP z).mp hz) (by rw [w]; exact q1)
                rcases q4 with w | w
                · have : c = B k := q5.resolve_left (fun z => off _ w z.symm)
                  exact ⟨A k, (hP _).mp w, by rw [this]; exact gm_i k q3⟩
                · have : c = A k := q5.resolve_right (fun z => off _ w z.symm)
                  exact ⟨B k, (hP _).mp w, by rw [this, cd_comm]; exact gm_i k q3⟩
              · rintro ⟨q1, y, q2, q3⟩
                obtain ⟨k, k1, k2⟩ := gm_t.mp q3
                obtain ⟨k21, _, _, a9, b9, _⟩ := hEr.1 k k1
                have y9 := rc_lt i9 q2
                have c9 := VH_lt hD.2.1 q1
                refine ⟨q1, k, k21, k1, ?_⟩
                rcases cd_inj y9 c9 a9 b9 k2 with w | w
                · exact ⟨Or.inl (by rw [← w.1]; exact (hP y).mpr q2), Or.inr w.2⟩
                · exact ⟨Or.inr (by rw [← w.1]; exact (hP y).mpr q2), Or.inl w.2⟩
            have pne : ¬ P = 0 := b_nz.mpr ⟨i, (hP i).mpr (rc_self i)⟩
            have kin : inc i (cd (A k0) (B k0)) = true := by
              obtain ⟨_, _, _, a9, b9, ne⟩ := hEr.1 k0 k01
              rw [inc_cd a9 b9]
              rcases k02 with w | w
              · rw [decide_eq_true w, decide_eq_false (fun z => ne (w.symm.trans z))]; rfl
              · rw [decide_eq_true w, decide_eq_false (fun z => ne (z.symm.trans w))]; rfl
            obtain ⟨a, b, hab, ta, tb⟩ := Bk_two hE hB hD.2.2.1 r1 (gm_i e1 he1) i9 hoff k01 kin
            refine Ok_bd1.mpr (Ok_mono (X8_offers N hN hnr last bn bi bf T P (Or.inr ⟨pne, i, i9, hoff, hP, hC2, a, b, hab, (hC2 a).mpr ta, (hC2 b).mpr tb⟩) hW) (fun q ⟨g1, g2, g3⟩ => ?_))
            refine ih (i + 1) _ _ _ _ (by omega) (by omega) (Or.inr g1) (fun k k1 k2 k3 => ?_)
            have here : inc i (cd (A k) (B k)) = true → Cv (gm A B r) (gm A B dr) st nr q.2.1 q.2.2.2 (cd (A k) (B k)) := fun w => g3 _ (fun c => by rw [hC2, En_part hG i9 hoff (rc_self i) (gm_i k k1) w])
            obtain ⟨_, _, _, a9, b9, ne⟩ := hEr.1 k k1
            rcases k3 with w | ⟨w1, w2⟩ | ⟨w1, w2⟩
            · exact g2 _ (hC k k1 k2 (Or.inl w))
            · by_cases z : A k = i
              · exact here (by rw [inc_cd a9 b9, decide_eq_true z.symm, decide_eq_false (fun y => ne (z.trans y))]; rfl)
              · exact g2 _ (hC k k1 k2 (Or.inr (Or.inl ⟨by omega, w2⟩)))
            · by_cases z : B k = i
              · exact here (by rw [inc_cd a9 b9, decide_eq_true z.symm, decide_eq_false (fun y => ne (y.symm.trans z.symm))]; rfl)
              · exact g2 _ (hC k k1 k2 (Or.inr (Or.inr ⟨by omega, w2⟩)))
          · intro m j T hj hT ih2
            simp only [f_X8_picks_b135, f_X8_picks_b174, f_X8_picks_b194]
            refine Ok_ife (nI_leI (a := 21) (b := j) (by omega) (by omega)) (fun c => absurd c (by omega)) (fun _ => ?_)
            rw [X8_has N (by omega), nI_1, nI_clamp (n := j) (by omega)]
            have keep : ¬ (bt r j = true ∧ (bt P (A j) = true ∨ bt P (B j) = true)) → ∀ c, bt (T ||| 0) c = true ↔ VH (gm A B dr) c ∧ ∃ k, k < j + 1 ∧ bt r k = true ∧ (bt P (A k) = true ∨ bt P (B k) = true) ∧ (c = A k ∨ c = B k) := fun hk c => by
              rw [or_0, hT]
              refine and_congr_right (fun _ => ⟨fun ⟨k, q1, q2⟩ => ⟨k, by omega, q2⟩, fun ⟨k, q1, q2, q3, q4⟩ => ⟨k, ?_, q2, q3, q4⟩⟩)
              have : k ≠ j := fun w => hk (by rw [← w]; exact ⟨q2, q3⟩)
              omega
            refine Ok_bd1.mpr (Ok_some.mpr (Ok_ife bI_0 (fun c3 => ?_) (fun c3 => ?_)))
            · rw [and_0, if_pos rfl]
              exact Ok_nm.mpr (ih2 _ (keep (fun q => by rw [c3] at q; cases q.1)))
            · rw [Bool.not_eq_false] at c3
              obtain ⟨_, e1', e2', a9, b9, _⟩ := hEr.1 j c3
              rw [e1', e2']
              refine Ok_chk.mpr ⟨inb_nI hj (by decide), Ok_chk.mpr ⟨inb_nI hj (by decide), Ok_ite.mpr ⟨fun c4 => Ok_nm.mpr (ih2 _ (keep (fun q => ((and_nz a9 b9).mpr q.2) c4))), fun c4 => Ok_nm.mpr (ih2 _ (fun c => ?_))⟩⟩⟩
              have hp := (and_nz a9 b9).mp c4
              rw [b_or, Bool.or_eq_true, hT, b_and, Bool.and_eq_true, bits2 a9 b9, hnd]
              constructor
              · rintro (⟨q1, k, q2, q3⟩ | ⟨q1, q2⟩)
                · exact ⟨q1, k, by omega, q3⟩
                · exact ⟨q2, j, by omega, c3, hp, q1⟩
              · rintro ⟨q1, k, q2, q3, q4, q5⟩
                rcases Nat.lt_or_ge k j with w | w
                · exact Or.inl ⟨q1, k, w, q3, q4, q5⟩
                · rw [show k = j by omega] at q5
                  exact Or.inr ⟨q5, q1⟩
  -- the edges between drawn nodes
  have edges : ∀ (n j : Nat) (last bn bi bf : Int32), j ≤ 21 → 21 - j < n → (bf = nI 1000 ∨ Bs (gm A B r) (gm A B dr) st nr bn bi bf) → (∀ k, k < j → bt r k = true → bt dr k = false → VH (gm A B dr) (A k) → VH (gm A B dr) (B k) → Cv (gm A B r) (gm A B dr) st nr bn bf (cd (A k) (B k))) → Ok (f_X8_picks_b17 N ea eb st (nI nr) n r nd left (nI j) last bn bi bf) (fun q => (q.2.2.2 = nI 1000 ∨ Bs (gm A B r) (gm A B dr) st nr q.2.1 q.2.2.1 q.2.2.2) ∧ ∀ k, bt r k = true → bt dr k = false → Cv (gm A B r) (gm A B dr) st nr q.2.1 q.2.2.2 (cd (A k) (B k))) := by
    intro n
    induction n with
    | zero => intro j _ _ _ _ _ q; omega
    | succ n ih =>
      intro j last bn bi bf hj hm hW hC
      simp only [f_X8_picks_b17, f_X8_picks_b57, f_X8_picks_b80]
      refine Ok_ife (nI_leI (a := 21) (b := j) (by omega) (by omega)) (fun c => ?_) (fun c => ?_)
      · unfold f_X8_picks_b86
        refine Ok_bd1.mpr (Ok_mono (X8_nodesOfE N hN hEr) (fun o ho => Ok_nm.mpr ?_))
        refine parts _ (fun x => ?_) N 0 last bn bi bf (by omega) (by omega) hW (fun k k1 k2 k3 => ?_)
        · constructor
          · intro q
            have := b_31 q
            rw [b_and, b_not _ this, Bool.and_eq_true, Bool.not_eq_true', ho] at q
            exact ⟨q.1, fun w => by rw [(hnd x).mpr w] at q; cases q.2⟩
          · rintro ⟨q1, q2⟩
            have x9 : x < 9 := by
              obtain ⟨k, k1, k2⟩ := q1
              obtain ⟨_, _, _, a9, b9, _⟩ := hEr.1 k k1
              omega
            rw [b_and, b_not _ (by omega), (ho x).mpr q1]
            cases w : bt nd x with
            | false => rfl
            | true => exact absurd ((hnd x).mp w) q2
        · rcases k3 with w | w | w
          · exact hC k (by have := (hEr.1 k k1).1; omega) k1 k2 w.1 w.2
          · omega
          · omega
      · rw [X8_has N (by omega), nI_1, nI_clamp (n := j) (by omega)]
        have up : (bt r j = true → bt dr j = false → VH (gm A B dr) (A j) → VH (gm A B dr) (B j) → False) → ∀ k, k < j + 1 → bt r k = true → bt dr k = false → VH (gm A B dr) (A k) → VH (gm A B dr) (B k) → Cv (gm A B r) (gm A B dr) st nr bn bf (cd (A k) (B k)) := fun hk k q1 q2 q3 q4 q5 => by
          rcases Nat.lt_or_ge k j with w | w
          · exact hC k w q2 q3 q4 q5
          · rw [show k = j by omega] at q2 q3 q4 q5
            exact (hk q2 q3 q4 q5).elim
        refine Ok_bd1.mpr (Ok_some.mpr (Ok_ife bI_0 (fun c2 => ?_) (fun c2 => ?_)))
        · simp only [if_true]
          exact ih (j + 1) last bn bi bf (by omega) (by omega) hW (up (fun q1 q2 _ _ => by rw [(bl j).mpr ⟨q1, q2⟩] at c2; cases c2))
        · rw [Bool.not_eq_false] at c2
          obtain ⟨jr, jd⟩ := (bl j).mp c2
          obtain ⟨j21, e1', e2', a9, b9, ne⟩ := hEr.1 j jr
          rw [e1', e2']
          generalize hK : (((1 : Int32) <<< (nI (A j) &&& 31)) ||| ((1 : Int32) <<< (nI (B j) &&& 31))) = K
          have bK : ∀ x, bt K x = true ↔ x = A j ∨ x = B j := fun x => by rw [← hK]; exact bits2 a9 b9 x
          have kne : ¬ K = 0 := b_nz.mpr ⟨A j, (bK _).mpr (Or.inl rfl)⟩
          rw [if_neg kne]
          have kf : (K &&& (nd ^^^ (-1))) = 0 ↔ VH (gm A B dr) (A j) ∧ VH (gm A B dr) (B j) := by
            rw [fit_iff]
            constructor
            · intro q
              exact ⟨(hnd _).mp (q _ ((bK _).mpr (Or.inl rfl))), (hnd _).mp (q _ ((bK _).mpr (Or.inr rfl)))⟩
            · rintro ⟨q1, q2⟩ x hx
              rcases (bK x).mp hx with w | w
              · rw [w]; exact (hnd _).mpr q1
              · rw [w]; exact (hnd _).mpr q2
          refine Ok_chk.mpr ⟨inb_nI j21 (by decide), Ok_chk.mpr ⟨inb_nI j21 (by decide), Ok_ite.mpr ⟨fun c3 => ?_, fun c3 => ?_⟩⟩⟩
          · exact ih (j + 1) last bn bi bf (by omega) (by omega) hW (up (fun _ _ q1 q2 => c3 (kf.mpr ⟨q1, q2⟩)))
          · obtain ⟨va, vb⟩ := kf.mp (Decidable.not_not.mp c3)
            refine Ok_bd1.mpr (Ok_mono (X8_offers N hN hnr last bn bi bf K 0 (Or.inl ⟨rfl, A j, B j, a9, b9, ne, va, vb, gm_i j jr, DI_off h jr jd, bK⟩) hW) (fun q ⟨g1, g2, g3⟩ => ?_))
            refine ih (j + 1) _ _ _ _ (by omega) (by omega) (Or.inr g1) (fun k q1 q2 q3 q4 q5 => ?_)
            rcases Nat.lt_or_ge k j with w | w
            · exact g2 _ (hC k w q2 q3 q4 q5)
            · rw [show k = j by omega]
              refine g3 _ (fun c => ?_)
              rw [bK]
              constructor
              · rintro (z | z)
                · rw [z]; exact ⟨va, Or.inl (by rw [inc_cd a9 b9, decide_eq_true rfl, decide_eq_false ne]; rfl)⟩
                · rw [z]; exact ⟨vb, Or.inl (by rw [inc_cd a9 b9, decide_eq_true rfl, decide_eq_false (Ne.symm ne)]; rfl)⟩
              · intro z
                exact in9 jr (En_edge (fun y hy => by
                  rcases in9 jr hy with y1 | y1
                  · rw [y1]; exact va
                  · rw [y1]; exact vb) z)
  exact edges N 0 last bn bi _ (by omega) (by omega) (Or.inl rfl) (fun k q => by omega)
end PK2
