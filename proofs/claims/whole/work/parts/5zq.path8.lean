/-! ===== the reference's paths and rings ===== -/
theorem wk_of : ∀ (s : List Nat) (a : Nat) (l : List Nat) {x y : Nat} {t : List Nat}, (a :: l).Nodup → (∀ z, z ∈ a :: l → z < 9) → a :: l = s ++ x :: y :: t → wk a l (cd x y) = true
  | [], a, l, x, y, t, hn, h9, e => by
    injection e with e1 e2
    subst e1 e2
    show (decide (cd a y = cd a y) ^^ wk y t (cd a y)) = true
    have hn' := List.nodup_cons.mp hn
    rw [cd_off (h9 a (by simp)) (h9 y (by simp)) (fun z hz => h9 z (List.mem_cons_of_mem _ hz)) hn'.1, decide_eq_true rfl]
    rfl
  | c :: s, a, l, x, y, t, hn, h9, e => by
    injection e with e1 e2
    have hn' := List.nodup_cons.mp hn
    cases l with
    | nil =>
      have e3 : ([] : List Nat) = s ++ x :: y :: t := e2
      simp at e3
    | cons b l' =>
      have ih := wk_of s b l' hn'.2 (fun z hz => h9 z (List.mem_cons_of_mem _ hz)) e2
      show (decide (cd x y = cd a b) ^^ wk b l' (cd x y)) = true
      have hx : x ∈ b :: l' := by rw [e2]; simp
      have hy : y ∈ b :: l' := by rw [e2]; simp
      rw [ih, decide_eq_false]
      · rfl
      · intro q
        rcases cd_inj (h9 x (List.mem_cons_of_mem _ hx)) (h9 y (List.mem_cons_of_mem _ hy)) (h9 a (by simp)) (h9 b (by simp)) q with w | w
        · exact hn'.1 (by rw [← w.1]; exact hx)
        · exact hn'.1 (by rw [← w.2]; exact hy)
theorem con_split {L : List Nat} {k : Nat} (h : k + 1 < L.length) : ∃ s t, L = s ++ L.getD k 0 :: L.getD (k + 1) 0 :: t := by
  refine ⟨L.take k, L.drop (k + 2), ?_⟩
  rw [← dr_cons (l := L) (i := k + 1) h, ← dr_cons (by omega), List.take_append_drop]
theorem split_con {L s t : List Nat} {x y : Nat} (h : L = s ++ x :: y :: t) : s.length + 1 < L.length ∧ L.getD s.length 0 = x ∧ L.getD (s.length + 1) 0 = y := by
  refine ⟨by rw [h]; simp, ?_, ?_⟩
  · rw [h, gD_r (Nat.le_refl _), Nat.sub_self]; rfl
  · rw [h, gD_r (by omega), show s.length + 1 - s.length = 1 by omega]; rfl
section PTH
variable {ea eb : Nat → Int32} {A B : Nat → Nat} {M : Int32}
theorem X8_edgesOf (N : Nat) (hN : 100 < N) (hE : EE ea eb A B M) {a : Nat} {l : List Nat} (hn : (a :: l).Nodup) (h9 : ∀ x, x ∈ a :: l → x < 9) {p : Nat → Int32} (hp : PA p (a :: l)) : Ok (f_X8_edgesOfPath N ea eb p (nI (a :: l).length) M) (fun r => ∀ k, bt r k = true ↔ bt M k = true ∧ wk a l (cd (A k) (B k)) = true) := by
  unfold f_X8_edgesOfPath
  have hl := nd_le 9 _ hn h9
  have l0 : 0 < (a :: l).length := by simp
  have lt9 : ∀ j, j < (a :: l).length → (a :: l).getD j 0 < 9 := fun j hj => h9 _ (gD_mem hj)
  have fin : ∀ k, (bt M k = true ∧ ∃ i, i + 1 < (a :: l).length ∧ cd (A k) (B k) = cd ((a :: l).getD i 0) ((a :: l).getD (i + 1) 0)) ↔ bt M k = true ∧ wk a l (cd (A k) (B k)) = true := by
    intro k
    constructor
    · rintro ⟨h1, i, h2, h3⟩
      obtain ⟨s, t, e⟩ := con_split h2
      exact ⟨h1, by rw [h3]; exact wk_of s a l hn h9 e⟩
    · rintro ⟨h1, h2⟩
      obtain ⟨s, u, v, t, e1, e2⟩ := wk_in l a h2
      obtain ⟨k1, k2, k3⟩ := split_con e1
      exact ⟨h1, s.length, k1, by rw [k2, k3]; exact e2⟩
  generalize hL : a :: l = L at *
  refine lpU (fun n i x => f_X8_edgesOfPath_b4 N ea eb p (nI L.length) n M x (nI i)) (fun i x => ∀ k, bt x k = true ↔ bt M k = true ∧ ∃ i', i' < i ∧ cd (A k) (B k) = cd (L.getD i' 0) (L.getD (i' + 1) 0)) (L.length - 1) ?_ ?_ N 0 _ (Nat.zero_le _) (by omega) (fun k => by rw [b_0]; exact ⟨fun q => absurd q (by decide), fun ⟨_, i', q, _⟩ => by omega⟩)
  · intro n x hx
    simp only [f_X8_edgesOfPath_b4]
    rw [nI_1]
    refine Ok_ife (nI_leI (by omega) (by omega)) (fun _ => Ok_some.mpr (fun k => ?_)) (fun c => absurd (by omega) c)
    rw [hx, ← fin]
    exact ⟨fun ⟨q1, i', q2, q3⟩ => ⟨q1, i', by omega, q3⟩, fun ⟨q1, i', q2, q3⟩ => ⟨q1, i', by omega, q3⟩⟩
  · intro n i x hi hx ih
    simp only [f_X8_edgesOfPath_b4]
    rw [nI_1]
    refine Ok_ife (nI_leI (by omega) (by omega)) (fun c => absurd c (by omega)) (fun _ => ?_)
    refine lpU (fun m j x => f_X8_edgesOfPath_b17 N ea eb p (nI L.length) (f_X8_edgesOfPath_b4 N ea eb p (nI L.length) n) m M x (nI i) (nI j)) (fun j x => ∀ k, bt x k = true ↔ bt M k = true ∧ ((∃ i', i' < i ∧ cd (A k) (B k) = cd (L.getD i' 0) (L.getD (i' + 1) 0)) ∨ (k < j ∧ cd (A k) (B k) = cd (L.getD i 0) (L.getD (i + 1) 0)))) 21 ?_ ?_ N 0 _ (Nat.zero_le _) (by omega) (fun k => by rw [hx]; exact ⟨fun q => ⟨q.1, Or.inl q.2⟩, fun q => ⟨q.1, q.2.resolve_right (fun w => by omega)⟩⟩)
    · intro m x hx
      simp only [f_X8_edgesOfPath_b17, f_X8_edgesOfPath_b130]
      rw [show nI 21 = (21 : Int32) from rfl, if_pos (by decide), nI_1]
      refine ih x (fun k => ?_)
      rw [hx]
      constructor
      · rintro ⟨q1, ⟨i', q2, q3⟩ | ⟨_, q3⟩⟩
        · exact ⟨q1, i', by omega, q3⟩
        · exact ⟨q1, i, by omega, q3⟩
      · rintro ⟨q1, i', q2, q3⟩
        rcases Nat.lt_or_ge i' i with w | w
        · exact ⟨q1, Or.inl ⟨i', w, q3⟩⟩
        · rw [show i' = i by omega] at q3
          exact ⟨q1, Or.inr ⟨(hE.1 k q1).1, q3⟩⟩
    · intro m j x hj hx ih2
      simp only [f_X8_edgesOfPath_b17, f_X8_edgesOfPath_b58, f_X8_edgesOfPath_b92, f_X8_edgesOfPath_b96, f_X8_edgesOfPath_b97, f_X8_edgesOfPath_b121, f_X8_edgesOfPath_b122]
      refine Ok_ife (nI_leI (a := 21) (b := j) (by omega) (by omega)) (fun c => absurd c (by omega)) (fun _ => ?_)
      rw [X8_has N (by omega), nI_1, nI_1, nI_clamp (n := j) (by omega), nI_clamp (n := i) (by omega), nI_clamp (n := i + 1) (by omega), hp i (by omega), hp (i + 1) (by omega), if_neg i10]
      have ij : inb (nI j) 21 = true := inb_nI hj (by decide)
      have ii : inb (nI i) 10 = true := inb_nI (by omega) (by decide)
      have ii1 : inb (nI (i + 1)) 10 = true := inb_nI (by omega) (by decide)
      have x9 := lt9 i (by omega)
      have y9 := lt9 (i + 1) (by omega)
      -- nothing is added
      have keep : (bt M j = true → ¬ cd (A j) (B j) = cd (L.getD i 0) (L.getD (i + 1) 0)) → Ok (f_X8_edgesOfPath_b17 N ea eb p (nI L.length) (f_X8_edgesOfPath_b4 N ea eb p (nI L.length) n) m M (x ||| 0) (nI i) (nI (j + 1))) _ := fun hk => ih2 (x ||| 0) (fun k => by
        rw [b_or, b_0, Bool.or_false, hx]
        refine and_congr_right (fun q1 => or_congr_right ?_)
        constructor
        · exact fun ⟨q2, q3⟩ => ⟨by omega, q3⟩
        · rintro ⟨q2, q3⟩
          refine ⟨?_, q3⟩
          have : k ≠ j := fun w => by rw [w] at q1 q3; exact hk q1 q3
          omega)
      have yes : (bt M j = true → cd (A j) (B j) = cd (L.getD i 0) (L.getD (i + 1) 0)) → Ok (bd1 (some (bI (bt M j))) fun r_10 => if r_10 = 0 then nm (x ||| 0) fun x2_12 => f_X8_edgesOfPath_b17 N ea eb p (nI L.length) (f_X8_edgesOfPath_b4 N ea eb p (nI L.length) n) m M x2_12 (nI i) (nI (j + 1)) else nm (x ||| ((1 : Int32) <<< (nI j &&& 31))) fun x2_12 => f_X8_edgesOfPath_b17 N ea eb p (nI L.length) (f_X8_edgesOfPath_b4 N ea eb p (nI L.length) n) m M x2_12 (nI i) (nI (j + 1))) (fun r => ∀ k, bt r k = true ↔ bt M k = true ∧ wk a l (cd (A k) (B k)) = true) := fun hk => by
        refine Ok_bd1.mpr (Ok_some.mpr (Ok_ife bI_0 (fun c => Ok_nm.mpr (keep (fun q => by rw [c] at q; cases q))) (fun c => Ok_nm.mpr (ih2 _ (fun k => ?_)))))
        rw [Bool.not_eq_false] at c
        rw [b_or, Bool.or_eq_true, b_bit (by omega), decide_eq_true_eq, hx]
        constructor
        · rintro (⟨q1, q2⟩ | q)
          · exact ⟨q1, q2.imp id (fun w => ⟨by omega, w.2⟩)⟩
          · rw [q]; exact ⟨c, Or.inr ⟨by omega, hk c⟩⟩
        · rintro ⟨q1, q2 | ⟨q2, q3⟩⟩
          · exact Or.inl ⟨q1, Or.inl q2⟩
          · rcases Nat.lt_or_ge k j with w | w
            · exact Or.inl ⟨q1, Or.inr ⟨w, q3⟩⟩
            · exact Or.inr (by omega)
      have E1 : bt M j = true → ∀ {x y : Nat}, x < 9 → y < 9 → ((ea j = nI x ↔ A j = x) ∧ (eb j = nI y ↔ B j = y)) := fun hM {x y} hx hy => by
        obtain ⟨_, e1, e2, a9, b9, _⟩ := hE.1 j hM
        rw [e1, e2]
        exact ⟨nI_eq (by omega) (by omega), nI_eq (by omega) (by omega)⟩
      have no2 : (bt M j = true → ¬ cd (A j) (B j) = cd (L.getD i 0) (L.getD (i + 1) 0)) → Ok (nm (x ||| 0) fun x2_12 => f_X8_edgesOfPath_b17 N ea eb p (nI L.length) (f_X8_edgesOfPath_b4 N ea eb p (nI L.length) n) m M x2_12 (nI i) (nI (j + 1))) (fun r => ∀ k, bt r k = true ↔ bt M k = true ∧ wk a l (cd (A k) (B k)) = true) := fun h => Ok_nm.mpr (keep h)
      simp only [if_true]
      -- the two ways round
      have second : (bt M j = true → ¬ (A j = L.getD i 0 ∧ B j = L.getD (i + 1) 0)) → Ok (chk (inb (nI j) 21) (chk (inb (nI i) 10) (if ¬ eb j = nI (L.getD i 0) then nm (x ||| 0) fun x2_12 => f_X8_edgesOfPath_b17 N ea eb p (nI L.length) (f_X8_edgesOfPath_b4 N ea eb p (nI L.length) n) m M x2_12 (nI i) (nI (j + 1)) else chk (inb (nI j) 21) (chk (inb (nI (i + 1)) 10) (if ¬ ea j = nI (L.getD (i + 1) 0) then nm (x ||| 0) fun x2_12 => f_X8_edgesOfPath_b17 N ea eb p (nI L.length) (f_X8_edgesOfPath_b4 N ea eb p (nI L.length) n) m M x2_12 (nI i) (nI (j + 1)) else bd1 (some (bI (bt M j))) fun r_10 => if r_10 = 0 then nm (x ||| 0) fun x2_12 => f_X8_edgesOfPath_b17 N ea eb p (nI L.length) (f_X8_edgesOfPath_b4 N ea eb p (nI L.length) n) m M x2_12 (nI i) (nI (j + 1)) else nm (x ||| ((1 : Int32) <<< (nI j &&& 31))) fun x2_12 => f_X8_edgesOfPath_b17 N ea eb p (nI L.length) (f_X8_edgesOfPath_b4 N ea eb p (nI L.length) n) m M x2_12 (nI i) (nI (j + 1))))))) (fun r => ∀ k, bt r k = true ↔ bt M k = true ∧ wk a l (cd (A k) (B k)) = true) := by
        intro hno
        refine Ok_chk.mpr ⟨ij, Ok_chk.mpr ⟨ii, Ok_ite.mpr ⟨fun c => no2 (fun hM q => ?_), fun c => Ok_chk.mpr ⟨ij, Ok_chk.mpr ⟨ii1, Ok_ite.mpr ⟨fun c2 => no2 (fun hM q => ?_), fun c2 => yes (fun hM => ?_)⟩⟩⟩⟩⟩⟩
        · obtain ⟨_, _, _, a9, b9, _⟩ := hE.1 j hM
          rcases cd_inj a9 b9 x9 y9 q with w | w
          · exact hno hM w
          · exact c ((E1 hM y9 x9).2.mpr w.2)
        · obtain ⟨_, _, _, a9, b9, _⟩ := hE.1 j hM
          rcases cd_inj a9 b9 x9 y9 q with w | w
          · exact hno hM w
          · exact c2 ((E1 hM y9 x9).1.mpr w.1)
        · have w1 := (E1 hM y9 x9).2.mp (Decidable.not_not.mp c)
          have w2 := (E1 hM y9 x9).1.mp (Decidable.not_not.mp c2)
          rw [w1, w2, cd_comm]
      refine Ok_chk.mpr ⟨ij, Ok_chk.mpr ⟨ii, Ok_ite.mpr ⟨fun c => second (fun hM q => c ((E1 hM x9 y9).1.mpr q.1)), fun c => Ok_chk.mpr ⟨ij, Ok_chk.mpr ⟨ii1, Ok_ite.mpr ⟨fun c2 => yes (fun hM => ?_), fun c2 => second (fun hM q => c2 ((E1 hM x9 y9).2.mpr q.2))⟩⟩⟩⟩⟩⟩
      rw [(E1 hM x9 y9).1.mp (Decidable.not_not.mp c), (E1 hM x9 y9).2.mp c2]
theorem X8_nodesOf (N : Nat) (hN : 30 < N) {l : List Nat} (hn : l.Nodup) (h9 : ∀ x, x ∈ l → x < 9) {p : Nat → Int32} (hp : PA p l) : Ok (f_X8_nodesOfPath N p (nI l.length)) (fun r => ∀ x, bt r x = true ↔ x ∈ l) := by
  unfold f_X8_nodesOfPath
  have hl := nd_le 9 _ hn h9
  refine lpU (fun n i x => f_X8_nodesOfPath_b4 N p (nI l.length) n x (nI i)) (fun i x => ∀ y, bt x y = true ↔ y ∈ l.take i) l.length ?_ ?_ N 0 _ (Nat.zero_le _) (by omega) (fun y => by rw [b_0, List.take_zero]; exact ⟨fun q => absurd q (by decide), fun q => absurd q List.not_mem_nil⟩)
  · intro n x hx
    simp only [f_X8_nodesOfPath_b4]
    refine Ok_ife (nI_leI (by omega) (by omega)) (fun _ => Ok_some.mpr (fun y => by rw [hx, List.take_length])) (fun c => absurd (Nat.le_refl _) c)
  · intro n i x hi hx ih
    simp only [f_X8_nodesOfPath_b4]
    refine Ok_ife (nI_leI (by omega) (by omega)) (fun c => absurd c (by omega)) (fun _ => ?_)
    have x9 := h9 _ (gD_mem hi)
    rw [nI_1, nI_clamp (n := i) (by omega), hp i hi]
    refine Ok_chk.mpr ⟨inb_nI (by omega) (by decide), Ok_nm.mpr (ih _ (fun y => ?_))⟩
    rw [b_or, Bool.or_eq_true, b_bit (by omega), decide_eq_true_eq, hx, tk_succ hi, List.mem_append, List.mem_singleton]
end PTH
