/-! ===== the next step keeps what can be drawn ===== -/
section NXT
variable {G H : Nat → Bool} {nr : Nat} {rg : Nat → List Nat} {F F' : Nat} {col : Nat → Nat} {T : Nat → Bool}
theorem Ex_swap (hG : GW G) (hI : Iv H nr rg) (hHG : Sb H G) (hE : Ex G H nr rg col) (h : Tw nr rg F F') (hT : TRule G H rg F F' T) (hR : CRule G H nr rg) : Ex G H nr rg (fun e => if T e = true then (if col e = F then F' else if col e = F' then F else col e) else col e) := by
  have hF := h.1
  have hF' := h.2.1
  have hne := h.2.2.1
  have sF : ∀ e, SF G H (fun e => if T e = true then (if col e = F then F' else if col e = F' then F else col e) else col e) F e = ((SF G H col F' e && T e) || (SF G H col F e && !T e)) := by
    intro e
    rw [Bool.eq_iff_iff, SF_t, Bool.or_eq_true, Bool.and_eq_true, Bool.and_eq_true, SF_t, SF_t, Bool.not_eq_true']
    cases t : T e with
    | true =>
      rw [if_pos rfl]
      by_cases c1 : col e = F
      · rw [if_pos c1]
        constructor
        · rintro ⟨_, _, q⟩; omega
        · rintro (⟨⟨_, _, q⟩, _⟩ | ⟨_, q⟩)
          · omega
          · cases q
      · rw [if_neg c1]
        by_cases c2 : col e = F'
        · rw [if_pos c2]
          exact ⟨fun q => Or.inl ⟨⟨q.1, q.2.1, c2⟩, rfl⟩, fun q => q.elim (fun w => ⟨w.1.1, w.1.2.1, rfl⟩) (fun w => by cases w.2)⟩
        · rw [if_neg c2]
          constructor
          · rintro ⟨_, _, q⟩; exact absurd q c1
          · rintro (⟨⟨_, _, q⟩, _⟩ | ⟨_, q⟩)
            · exact absurd q c2
            · cases q
    | false =>
      rw [if_neg Bool.false_ne_true]
      exact ⟨fun q => Or.inr ⟨q, rfl⟩, fun q => q.elim (fun w => by cases w.2) (fun w => w.1)⟩
  have sF' : ∀ e, SF G H (fun e => if T e = true then (if col e = F then F' else if col e = F' then F else col e) else col e) F' e = ((SF G H col F e && T e) || (SF G H col F' e && !T e)) := by
    intro e
    rw [Bool.eq_iff_iff, SF_t, Bool.or_eq_true, Bool.and_eq_true, Bool.and_eq_true, SF_t, SF_t, Bool.not_eq_true']
    cases t : T e with
    | true =>
      rw [if_pos rfl]
      by_cases c1 : col e = F
      · rw [if_pos c1]
        exact ⟨fun q => Or.inl ⟨⟨q.1, q.2.1, c1⟩, rfl⟩, fun q => q.elim (fun w => ⟨w.1.1, w.1.2.1, rfl⟩) (fun w => by cases w.2)⟩
      · rw [if_neg c1]
        by_cases c2 : col e = F'
        · rw [if_pos c2]
          constructor
          · rintro ⟨_, _, q⟩; exact absurd q hne
          · rintro (⟨⟨_, _, q⟩, _⟩ | ⟨_, q⟩)
            · exact absurd q c1
            · cases q
        · rw [if_neg c2]
          constructor
          · rintro ⟨_, _, q⟩; exact absurd q c2
          · rintro (⟨⟨_, _, q⟩, _⟩ | ⟨_, q⟩)
            · exact absurd q c1
            · cases q
    | false =>
      rw [if_neg Bool.false_ne_true]
      exact ⟨fun q => Or.inr ⟨q, rfl⟩, fun q => q.elim (fun w => by cases w.2) (fun w => w.1)⟩
  have sO : ∀ k, k ≠ F → k ≠ F' → ∀ e, SF G H (fun e => if T e = true then (if col e = F then F' else if col e = F' then F else col e) else col e) k e = SF G H col k e := by
    intro k k1 k2 e
    rw [Bool.eq_iff_iff, SF_t, SF_t]
    refine and_congr_right (fun _ => and_congr_right (fun _ => ?_))
    split
    · split
      · omega
      · split
        · omega
        · exact Iff.rfl
    · exact Iff.rfl
  refine ⟨fun e q1 q2 => ?_, fun k hk => ?_, fun X hX1 hX2 k hk => ?_⟩
  · have := hE.1 e q1 q2
    dsimp only
    split
    · split
      · exact hF'
      · split
        · exact hF
        · exact this
    · exact this
  · by_cases c1 : k = F
    · rw [c1]
      exact OS_cong (fun _ => rfl) (fun e => (sF e).symm) (half_OS hG hI hHG hE h hT hR)
    · by_cases c2 : k = F'
      · rw [c2]
        exact OS_cong (fun _ => rfl) (fun e => (sF' e).symm) (half_OS hG hI hHG hE (Tw_comm h) (TRule_comm hT) hR)
      · exact OS_cong (fun _ => rfl) (fun e => (sO k c1 c2 e).symm) (hE.2.1 k hk)
  · by_cases c1 : k = F
    · obtain ⟨Z, z1, z2, z3⟩ := half_Z hG hI hE h hT X hX1 hX2
      rw [c1]
      exact ⟨Z, z1, fun e he => by rw [sF]; exact z2 e he, fun e he => z3 e (by rw [← sF]; exact he)⟩
    · by_cases c2 : k = F'
      · obtain ⟨Z, z1, z2, z3⟩ := half_Z hG hI hE (Tw_comm h) (TRule_comm hT) X hX1 hX2
        rw [c2]
        exact ⟨Z, z1, fun e he => by rw [sF']; exact z2 e he, fun e he => z3 e (by rw [← sF']; exact he)⟩
      · obtain ⟨Z, z1, z2, z3⟩ := hE.2.2 X hX1 hX2 k hk
        exact ⟨Z, z1, fun e he => by rw [sO k c1 c2]; exact z2 e he, fun e he => z3 e (by rw [← sO k c1 c2]; exact he)⟩
/-- the edges of a path have the ends of its first edge -/
theorem En_path (hG : GW G) {b c : Nat} : ∀ (m : List Nat) (a : Nat), (a :: (m ++ [b])).Nodup → (∀ y, y ∈ a :: (m ++ [b]) → y < 9) → (∀ x, x ∈ m → ¬ VH H x) → (∀ e, wk a (m ++ [b]) e = true → G e = true) → ∃ e1, wk a (m ++ [b]) e1 = true ∧ inc a e1 = true ∧ ∀ e, wk a (m ++ [b]) e = true → En G H e c → En G H e1 c
  | [], a, hn, h9, _, hg => by
    have ha := h9 a (by simp)
    have hb := h9 b (by simp)
    have hab : a ≠ b := fun q => (List.nodup_cons.mp hn).1 (by rw [q]; simp)
    refine ⟨cd a b, ?_, ?_, fun e he q => ?_⟩
    · show (decide (cd a b = cd a b) ^^ false) = true
      rw [decide_eq_true rfl]; rfl
    · rw [inc_cd ha hb, decide_eq_true rfl, decide_eq_false hab]; rfl
    · change (decide (e = cd a b) ^^ false) = true at he
      rw [Bool.xor_false, decide_eq_true_eq] at he
      rw [← he]; exact q
  | d :: m, a, hn, h9, hm, hg => by
    have ha := h9 a (by simp)
    have hd := h9 d (by simp)
    have hn' := List.nodup_cons.mp hn
    have had : a ≠ d := fun q => hn'.1 (by rw [q]; simp)
    have h9' : ∀ y, y ∈ d :: (m ++ [b]) → y < 9 := fun y hy => h9 y (List.mem_cons_of_mem _ hy)
    have hoff : wk d (m ++ [b]) (cd a d) = false := cd_off ha hd h9' hn'.1
    have hall : ∀ e, wk a (d :: m ++ [b]) e = (decide (e = cd a d) ^^ wk d (m ++ [b]) e) := fun e => rfl
    have g0 : wk a (d :: m ++ [b]) (cd a d) = true := by rw [hall, hoff, decide_eq_true rfl]; rfl
    have gr : ∀ e, wk d (m ++ [b]) e = true → wk a (d :: m ++ [b]) e = true := by
      intro e he
      rw [hall, he, decide_eq_false (fun q => by rw [q, hoff] at he; cases he)]; rfl
    obtain ⟨e1, q1, q2, q3⟩ := En_path hG m d hn'.2 h9' (fun x hx => hm x (List.mem_cons_of_mem _ hx)) (fun e he => hg e (gr e he))
    refine ⟨cd a d, g0, ?_, fun e he q => ?_⟩
    · rw [inc_cd ha hd, decide_eq_true rfl, decide_eq_false had]; rfl
    · by_cases w : e = cd a d
      · rw [← w]; exact q
      · rw [hall, decide_eq_false w, Bool.false_xor] at he
        exact En_share hG (hg e1 (gr e1 q1)) (hg _ g0) q2 (by rw [inc_cd ha hd, decide_eq_true rfl, decide_eq_false (Ne.symm had)]; rfl) (hm d (by simp)) (q3 e he q)
theorem Ex_next (hG : GW G) (hI : Iv H nr rg) (hHG : Sb H G) {f a b : Nat} {s t m : List Nat} (hS : Sp H nr rg f a b s t m) (hP : ∀ e, wk a (m ++ [b]) e = true → G e = true) (hfit : ∀ e, wk a (m ++ [b]) e = true → ∀ c, En G H e c → c ∈ rg f) (hR : (∃ k, k < nr ∧ k ≠ f ∧ ∀ e, wk a (m ++ [b]) e = true → ∀ c, En G H e c → c ∈ rg k) → CRule G H nr rg) (hE : ∃ col, Ex G H nr rg col) : ∃ col', Ex G (xs H (wk a (m ++ [b]))) (nr + 1) (rgN nr rg f a b s t m) col' := by
  obtain ⟨col, hE⟩ := hE
  have hPP := Sp_P hI hS
  have hL := Sp_L hI hS
  have hf := hS.1
  have va : VH H a := hL.2.2.2 a ((hL.2.2.1 a).mpr (by simp))
  have vb : VH H b := hL.2.2.2 b ((hL.2.2.1 b).mpr (by simp))
  have hab : a ≠ b := fun q => (List.nodup_cons.mp hPP.1).1 (by rw [q]; simp)
  have hm : ∀ x, x ∈ m → ¬ VH H x := fun x hx => (hS.2.2.2.1 x hx).2
  have hPH : ∀ e, wk a (m ++ [b]) e = true → G e = true ∧ H e = false := fun e he => ⟨hP e he, Sp_off hI hS he⟩
  -- the first edge, and the last one
  obtain ⟨e1, p1, p2, _⟩ := En_path (c := 0) hG m a hPP.1 hPP.2 hm hP
  have pcol := path_col hI hHG hE hPP.1 hPP.2 va vb hm hPH p1
  have same : ∀ c e, wk a (m ++ [b]) e = true → En G H e c → En G H e1 c := by
    intro c e he q
    obtain ⟨e2, r1, r2, r3⟩ := En_path (c := c) hG m a hPP.1 hPP.2 hm hP
    have k := r3 e he q
    -- both are the path's edge at a
    have da : dg a (wk a (m ++ [b])) = true := by rw [dg_wk a (m ++ [b]) a hPP.2, lst_snoc, decide_eq_true rfl, decide_eq_false hab]; rfl
    by_cases w : e2 = e1
    · rw [← w]; exact k
    · rcases wk_inner m a hPP.1 hPP.2 r1 with ⟨w1, w2⟩ | ⟨x, w1, w2⟩
      · rcases wk_inner m a hPP.1 hPP.2 p1 with ⟨w3, w4⟩ | ⟨x, w3, _⟩
        · exact absurd (w2.trans w4.symm) w
        · rw [w1] at w3; cases w3
      · rcases wk_inner m a hPP.1 hPP.2 p1 with ⟨w3, _⟩ | ⟨y, w3, w4⟩
        · rw [w3] at w1; cases w1
        · -- e1 = cd a y, e2 = cd a x: the path has one edge at a
          cases m with
          | nil => cases w1
          | cons d m' =>
            have ha9 := hPP.2 a (by simp)
            have hd9 := hPP.2 d (by simp)
            have only : ∀ g, wk a (d :: m' ++ [b]) g = true → inc a g = true → g = cd a d := by
              intro g hg hi
              by_cases z : g = cd a d
              · exact z
              · change (decide (g = cd a d) ^^ wk d (m' ++ [b]) g) = true at hg
                rw [decide_eq_false z, Bool.false_xor, wk_off (l := m' ++ [b]) (a := d) (fun y hy => hPP.2 y (List.mem_cons_of_mem _ hy)) (List.nodup_cons.mp hPP.1).1 hi] at hg
                cases hg
            exact absurd ((only e2 r1 r2).trans (only e1 p1 p2).symm) w
  have e1b : En G H e1 b := by
    -- the last edge of the path has b as an end
    have db : dg b (wk a (m ++ [b])) = true := by rw [dg_wk b (m ++ [b]) a hPP.2, lst_snoc, decide_eq_true (rfl : b = b), decide_eq_false (Ne.symm hab)]; rfl
    obtain ⟨g, _, g1, g2⟩ := dg_ex db
    exact same b g g1 ⟨vb, Or.inl g2⟩
  by_cases c : col e1 = f
  · exact Ex_split hI hS hE (fun e he => ⟨hP e he, by rw [pcol e he, c]⟩)
  · have hk : col e1 < nr := hE.1 e1 (hPH e1 p1).1 (hPH e1 p1).2
    have ends : ∀ d, En G H e1 d → d ∈ rg (col e1) := by
      intro d hd
      by_cases w : d = a
      · rw [w]
        exact (col_frag hG hI hHG hE (hPH e1 p1).1 (hPH e1 p1).2 va p2 e1b hab).1
      · exact (col_frag hG hI hHG hE (hPH e1 p1).1 (hPH e1 p1).2 va p2 hd (Ne.symm w)).2
    have hCR := hR ⟨col e1, hk, c, fun e he d hd => ends d (same d e he hd)⟩
    have hTw : Tw nr rg (col e1) f := ⟨hk, hf, c, a, b, hab, ⟨ends a ⟨va, Or.inl p2⟩, hfit e1 p1 a ⟨va, Or.inl p2⟩⟩, ⟨ends b e1b, hfit e1 p1 b e1b⟩⟩
    have hT : TRule G H rg (col e1) f (fun e => cb (∀ a, En G H e a → a ∈ rg (col e1) ∧ a ∈ rg f)) := fun e _ _ => cb_t
    refine Ex_split hI hS (Ex_swap hG hI hHG hE hTw hT hCR) (fun e he => ⟨hP e he, ?_⟩)
    rw [if_pos (cb_t.mpr (fun d hd => ⟨ends d (same d e he hd), hfit e he d hd⟩)), pcol e he, if_pos rfl]
/-- where it can be drawn, a fragment with two ends has a ring -/
theorem Ex_fit (hG : GW G) (hI : Iv H nr rg) (hHG : Sb H G) (hE : ∃ col, Ex G H nr rg col) {e a b : Nat} (he : G e = true) (heH : H e = false) (ha : VH H a) (hi : inc a e = true) (hb : En G H e b) (hab : a ≠ b) : ∃ k, k < nr ∧ ∀ c, En G H e c → c ∈ rg k := by
  obtain ⟨col, hE⟩ := hE
  refine ⟨col e, hE.1 e he heH, fun c hc => ?_⟩
  by_cases w : c = a
  · rw [w]; exact (col_frag hG hI hHG hE he heH ha hi hb hab).1
  · exact (col_frag hG hI hHG hE he heH ha hi hc (Ne.symm w)).2
end NXT
