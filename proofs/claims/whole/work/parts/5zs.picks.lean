/-! ===== the reference picks a piece ===== -/
theorem X8_fitting (N : Nat) (hN : 100 < N) {st : Nat → Int32} {nr : Nat} (hnr : nr ≤ 14) (last C : Int32) : Ok (f_X8_fitting N st (nI nr) last C) (fun r => r.1 = nI (ft st C nr) ∧ (0 < ft st C nr → ∃ f, f < nr ∧ r.2 = nI f ∧ (C &&& (st f ^^^ (-1))) = 0)) := by
  unfold f_X8_fitting
  refine lpU2 (fun n i x y => f_X8_fitting_b4 N st (nI nr) n C x (nI i) y) (fun i x y => x = nI (ft st C i) ∧ (0 < ft st C i → ∃ f, f < i ∧ y = nI f ∧ (C &&& (st f ^^^ (-1))) = 0)) nr ?_ ?_ N 0 _ _ (Nat.zero_le _) (by omega) ⟨rfl, fun h => absurd h (Nat.lt_irrefl 0)⟩
  · rintro n x y ⟨rfl, h2⟩
    simp only [f_X8_fitting_b4]
    exact Ok_ife (nI_leI (by omega) (by omega)) (fun _ => Ok_some.mpr ⟨rfl, h2⟩) (fun c => absurd (Nat.le_refl _) c)
  · rintro n i x y hi ⟨rfl, h2⟩ ih
    have hf : ft st C i ≤ i := fb_ct_le _ _
    simp only [f_X8_fitting_b4, f_X8_fitting_b30, f_X8_fitting_b43, f_X8_fitting_b59]
    refine Ok_ife (nI_leI (by omega) (by omega)) (fun c => absurd c (by omega)) (fun _ => ?_)
    rw [nI_1, nI_1, nI_clamp (n := i) (by omega)]
    have sc : ft st C (i + 1) = ft st C i + (if decide ((C &&& (st i ^^^ (-1))) = 0) = true then 1 else 0) := rfl
    refine Ok_chk.mpr ⟨inb_nI (by omega) (by decide), Ok_ite.mpr ⟨fun c => ?_, fun c => ?_⟩⟩
    · simp only [if_true]
      refine Ok_nm.mpr (ih _ _ ?_)
      rw [sc, if_neg (fun q => c (of_decide_eq_true q)), Nat.add_zero]
      refine ⟨?_, fun q => by obtain ⟨f, f1, f2⟩ := h2 q; exact ⟨f, by omega, f2⟩⟩
      show nI (ft st C i) + nI 0 = _
      rw [nI_add]; rfl
    · have c' := Decidable.not_not.mp c
      rw [if_neg i10]
      refine Ok_nm.mpr ?_
      rw [if_neg i10]
      refine ih _ _ ?_
      rw [sc, if_pos (decide_eq_true c')]
      exact ⟨rfl, fun _ => ⟨i, by omega, rfl, c'⟩⟩
def Bs (G H : Nat → Bool) (st : Nat → Int32) (nr : Nat) (bn bi bf : Int32) : Prop := bf = nI (ft st bn nr) ∧ Frg G H bi bn
theorem X8_offers {G H : Nat → Bool} (N : Nat) (hN : 100 < N) {st : Nat → Int32} {nr : Nat} (hnr : nr ≤ 14) (last bn bi bf C P : Int32) (hF : Frg G H P C) (hW : bf = nI 1000 ∨ Bs G H st nr bn bi bf) : Ok (f_X8_offers N st (nI nr) last bn bi bf C P) (fun r => Bs G H st nr r.2.1 r.2.2.1 r.2.2.2 ∧ (∀ e, Cv G H st nr bn bf e → Cv G H st nr r.2.1 r.2.2.2 e) ∧ ∀ e, (∀ c, bt C c = true ↔ En G H e c) → Cv G H st nr r.2.1 r.2.2.2 e) := by
  unfold f_X8_offers
  refine Ok_bd1.mpr (Ok_mono (X8_fitting N hN hnr last C) (fun r ⟨r1, _⟩ => Ok_nm.mpr ?_))
  have hf : ft st C nr ≤ nr := fb_ct_le _ _
  simp only [f_X8_offers_b19, f_X8_offers_b35, f_X8_offers_b52, f_X8_offers_b69]
  rw [r1]
  refine Ok_ite.mpr ⟨fun c => ?_, fun c => ?_⟩
  · simp only [if_true]
    have hw : Bs G H st nr bn bi bf := by
      rcases hW with q | q
      · rw [q, nI_leI (by omega) (by omega)] at c; omega
      · exact q
    have hb : ft st bn nr ≤ nr := fb_ct_le _ _
    rw [hw.1, nI_leI (by omega) (by omega)] at c
    exact Ok_some.mpr ⟨hw, fun e he => he, fun e he => ⟨Frg_ne hw.2, C, ft st bn nr, he, hw.1, by omega, c⟩⟩
  · rw [if_neg i10, if_neg i10, if_neg i10]
    refine Ok_some.mpr ⟨⟨rfl, hF⟩, fun e ⟨c1, C', m, c2, c3, c4, c5⟩ => ⟨Frg_ne hF, C', ft st C nr, c2, rfl, by omega, ?_⟩, fun e he => ⟨Frg_ne hF, C, ft st C nr, he, rfl, by omega, Nat.le_refl _⟩⟩
    rw [c3, nI_leI (by omega) (by omega)] at c
    omega
section PCK
variable {ea eb : Nat → Int32} {A B : Nat → Nat} {M : Int32}
theorem or_0 (x : Int32) : x ||| 0 = x := b_ext (fun i _ => by rw [b_or, b_0, Bool.or_false])
theorem and_0 (x : Int32) : (0 : Int32) &&& x = 0 := b_ext (fun i _ => by rw [b_and, b_0, Bool.false_and])
theorem X8_nodesOfE (N : Nat) (hN : 100 < N) (hE : EE ea eb A B M) : Ok (f_X8_nodesOfEdges N ea eb M) (fun r => ∀ x, bt r x = true ↔ ∃ k, bt M k = true ∧ (x = A k ∨ x = B k)) := by
  unfold f_X8_nodesOfEdges
  refine lpU (fun n j s => f_X8_nodesOfEdges_b4 N ea eb n M s (nI j)) (fun j s => ∀ x, bt s x = true ↔ ∃ k, k < j ∧ bt M k = true ∧ (x = A k ∨ x = B k)) 21 ?_ ?_ N 0 _ (Nat.zero_le _) (by omega) (fun x => by rw [b_0]; exact ⟨fun q => absurd q (by decide), fun ⟨k, q, _⟩ => by omega⟩)
  · intro n s hs
    simp only [f_X8_nodesOfEdges_b4]
    rw [show nI 21 = (21 : Int32) from rfl, if_pos (by decide)]
    refine Ok_some.mpr (fun x => ?_)
    rw [hs]
    exact ⟨fun ⟨k, _, q2, q3⟩ => ⟨k, q2, q3⟩, fun ⟨k, q2, q3⟩ => ⟨k, (hE.1 k q2).1, q2, q3⟩⟩
  · intro n j s hj hs ih
    simp only [f_X8_nodesOfEdges_b4, f_X8_nodesOfEdges_b40]
    refine Ok_ife (nI_leI (a := 21) (b := j) (by omega) (by omega)) (fun c => absurd c (by omega)) (fun _ => ?_)
    rw [X8_has N (by omega), nI_1, nI_clamp (n := j) (by omega)]
    refine Ok_bd1.mpr (Ok_some.mpr (Ok_ife bI_0 (fun c => Ok_nm.mpr (ih _ (fun x => ?_))) (fun c => ?_)))
    · rw [or_0, hs]
      constructor
      · exact fun ⟨k, q1, q2⟩ => ⟨k, by omega, q2⟩
      · rintro ⟨k, q1, q2, q3⟩
        have : k ≠ j := fun w => by rw [w, c] at q2; cases q2
        exact ⟨k, by omega, q2, q3⟩
    · rw [Bool.not_eq_false] at c
      obtain ⟨_, e1, e2, a9, b9, _⟩ := hE.1 j c
      rw [e1, e2]
      refine Ok_chk.mpr ⟨inb_nI hj (by decide), Ok_chk.mpr ⟨inb_nI hj (by decide), Ok_nm.mpr (ih _ (fun x => ?_))⟩⟩
      rw [b_or, Bool.or_eq_true, bits2 a9 b9, hs]
      constructor
      · rintro (⟨k, q1, q2⟩ | q)
        · exact ⟨k, by omega, q2⟩
        · exact ⟨j, by omega, c, q⟩
      · rintro ⟨k, q1, q2, q3⟩
        rcases Nat.lt_or_ge k j with w | w
        · exact Or.inl ⟨k, w, q2, q3⟩
        · rw [show k = j by omega] at q3
          exact Or.inr q3
/-- the edges of the piece -/
theorem X8_own (N : Nat) (hN : 100 < N) (hE : EE ea eb A B M) (bn bi : Int32) : Ok (f_X8_ownEdges N ea eb bn bi M) (fun r => ∀ k, bt r k = true ↔ bt M k = true ∧ ((bi = 0 → ∀ x, bt bn x = true ↔ x = A k ∨ x = B k) ∧ (¬ bi = 0 → bt bi (A k) = true ∨ bt bi (B k) = true))) := by
  unfold f_X8_ownEdges
  refine lpU (fun n j s => f_X8_ownEdges_b4 N ea eb bn bi n M s (nI j)) (fun j s => ∀ k, bt s k = true ↔ k < j ∧ bt M k = true ∧ ((bi = 0 → ∀ x, bt bn x = true ↔ x = A k ∨ x = B k) ∧ (¬ bi = 0 → bt bi (A k) = true ∨ bt bi (B k) = true))) 21 ?_ ?_ N 0 _ (Nat.zero_le _) (by omega) (fun x => by rw [b_0]; exact ⟨fun q => absurd q (by decide), fun ⟨q, _⟩ => by omega⟩)
  · intro n s hs
    simp only [f_X8_ownEdges_b4]
    rw [show nI 21 = (21 : Int32) from rfl, if_pos (by decide)]
    refine Ok_some.mpr (fun k => ?_)
    rw [hs]
    exact ⟨fun ⟨_, q2, q3⟩ => ⟨q2, q3⟩, fun ⟨q2, q3⟩ => ⟨(hE.1 k q2).1, q2, q3⟩⟩
  · intro n j s hj hs ih
    simp only [f_X8_ownEdges_b4, f_X8_ownEdges_b39, f_X8_ownEdges_b80, f_X8_ownEdges_b99, f_X8_ownEdges_b100]
    refine Ok_ife (nI_leI (a := 21) (b := j) (by omega) (by omega)) (fun c => absurd c (by omega)) (fun _ => ?_)
    rw [X8_has N (by omega), nI_1, nI_clamp (n := j) (by omega)]
    have keep : ¬ (bt M j = true ∧ ((bi = 0 → ∀ x, bt bn x = true ↔ x = A j ∨ x = B j) ∧ (¬ bi = 0 → bt bi (A j) = true ∨ bt bi (B j) = true))) → Ok (nm (s ||| 0) fun x2 => f_X8_ownEdges_b4 N ea eb bn bi n M x2 (nI (j + 1))) (fun r => ∀ k, bt r k = true ↔ bt M k = true ∧ ((bi = 0 → ∀ x, bt bn x = true ↔ x = A k ∨ x = B k) ∧ (¬ bi = 0 → bt bi (A k) = true ∨ bt bi (B k) = true))) := fun hk => Ok_nm.mpr (ih _ (fun k => by
      rw [or_0, hs]
      constructor
      · exact fun ⟨q1, q2⟩ => ⟨by omega, q2⟩
      · rintro ⟨q1, q2⟩
        have : k ≠ j := fun w => hk (by rw [← w]; exact q2)
        exact ⟨by omega, q2⟩))
    have take : (bt M j = true ∧ ((bi = 0 → ∀ x, bt bn x = true ↔ x = A j ∨ x = B j) ∧ (¬ bi = 0 → bt bi (A j) = true ∨ bt bi (B j) = true))) → Ok (nm (s ||| ((1 : Int32) <<< (nI j &&& 31))) fun x2 => f_X8_ownEdges_b4 N ea eb bn bi n M x2 (nI (j + 1))) (fun r => ∀ k, bt r k = true ↔ bt M k = true ∧ ((bi = 0 → ∀ x, bt bn x = true ↔ x = A k ∨ x = B k) ∧ (¬ bi = 0 → bt bi (A k) = true ∨ bt bi (B k) = true))) := fun hk => Ok_nm.mpr (ih _ (fun k => by
      rw [b_or, Bool.or_eq_true, b_bit (by omega), decide_eq_true_eq, hs]
      constructor
      · rintro (⟨q1, q2⟩ | q)
        · exact ⟨by omega, q2⟩
        · rw [q]; exact ⟨by omega, hk⟩
      · rintro ⟨q1, q2⟩
        rcases Nat.lt_or_ge k j with w | w
        · exact Or.inl ⟨w, q2⟩
        · exact Or.inr (by omega)))
    refine Ok_bd1.mpr (Ok_some.mpr (Ok_ife bI_0 (fun c => ?_) (fun c => ?_)))
    · have kk := keep (fun q => by rw [c] at q; cases q.1)
      simp only [if_true]
      exact Ok_ite.mpr ⟨fun _ => Ok_ite.mpr ⟨fun _ => kk, fun _ => kk⟩, fun _ => Ok_ite.mpr ⟨fun _ => kk, fun _ => kk⟩⟩
    · rw [Bool.not_eq_false] at c
      obtain ⟨_, e1, e2, a9, b9, _⟩ := hE.1 j c
      rw [e1, e2]
      generalize hK : (((1 : Int32) <<< (nI (A j) &&& 31)) ||| ((1 : Int32) <<< (nI (B j) &&& 31))) = K
      have bK : ∀ x, bt K x = true ↔ x = A j ∨ x = B j := fun x => by rw [← hK]; exact bits2 a9 b9 x
      have kne : ¬ K = 0 := b_nz.mpr ⟨A j, (bK _).mpr (Or.inl rfl)⟩
      have kz : ¬ (K &&& bi) = 0 ↔ bt bi (A j) = true ∨ bt bi (B j) = true := by rw [← hK]; exact and_nz a9 b9
      simp only [if_true]
      rw [if_neg kne, if_neg i10]
      refine Ok_chk.mpr ⟨inb_nI hj (by decide), Ok_chk.mpr ⟨inb_nI hj (by decide), Ok_ite.mpr ⟨fun c2 => Ok_ite.mpr ⟨fun c3 => ?_, fun c3 => ?_⟩, fun c2 => Ok_ite.mpr ⟨fun c3 => ?_, fun c3 => ?_⟩⟩⟩⟩
      · exact keep (fun q => (kz.mpr (q.2.2 c2)) c3)
      · rw [if_neg kne]; exact take ⟨c, fun q => absurd q c2, fun _ => kz.mp c3⟩
      · refine keep (fun q => c3 (b_ext (fun i _ => ?_)))
        have h1 := q.2.1 (Decidable.not_not.mp c2) i
        rw [← bK] at h1
        cases w1 : bt K i <;> cases w2 : bt bn i <;> first | rfl | (rw [w1, w2] at h1; simp at h1)
      · rw [if_neg kne]; exact take ⟨c, fun _ x => by rw [← Decidable.not_not.mp c3]; exact bK x, fun q => absurd q c2⟩
end PCK
