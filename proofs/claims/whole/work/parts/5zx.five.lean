/-! ===== the five calls on graphs ===== -/
abbrev bt1 (e : Nat) : Int32 := (1 : Int32) <<< (nI e &&& 31)
noncomputable def ob (A B : Nat → Nat) (M0 : Int32) : Nat → Int32
  | 0 => M0
  | e + 1 => if pm A B (ob A B M0 e &&& (bt1 e ^^^ (-1))) = true then ob A B M0 e else ob A B M0 e &&& (bt1 e ^^^ (-1))
theorem b_del {M : Int32} {e : Nat} (he : e < 32) (k : Nat) : bt (M &&& (bt1 e ^^^ (-1))) k = (bt M k && !decide (k = e)) := by
  rcases Nat.lt_or_ge k 32 with q | q
  · rw [b_and, b_not _ q, b_bit he]
  · rw [b_big q, b_big q]; rfl
theorem ob_sub {A B : Nat → Nat} {M0 : Int32} {k : Nat} : ∀ e, e ≤ 32 → bt (ob A B M0 e) k = true → bt M0 k = true
  | 0, _, h => h
  | e + 1, he, h => by
    unfold ob at h
    split at h
    · exact ob_sub e (by omega) h
    · rw [b_del (by omega), Bool.and_eq_true] at h
      exact ob_sub e (by omega) h.1
theorem ob_hi {A B : Nat → Nat} {M0 : Int32} {k : Nat} : ∀ e, e ≤ 32 → e ≤ k → bt (ob A B M0 e) k = bt M0 k
  | 0, _, _ => rfl
  | e + 1, he, h => by
    unfold ob
    split
    · exact ob_hi e (by omega) (by omega)
    · rw [b_del (by omega), ob_hi e (by omega) (by omega), decide_eq_false (by omega)]
      simp
section CL5
variable {G : Gr}
theorem X7_obL (hW : WF G) {lo hi : Nat → Int32} (h : ∀ e, e < (gE G).length → lo e = nI (gEnd G e).1 ∧ hi e = nI (gEnd G e).2) (N : Nat) (hN : 1000 < N) : ∀ (n e : Nat) (x1 : Int32) (lk : Nat → Int32) (rest sk : Nat → Int32) (pl rings : Int32) (ns ls st old path : Nat → Int32) (len : Int32) (queue org : Nat → Int32) (ins en rn ch : Int32), e ≤ (gE G).length → (gE G).length - e < n → LM lk (aG G) (bG G) (ob (aG G) (bG G) (mk (gE G).length) e) → (∀ j, bt x1 j = (bt (ob (aG G) (bG G) (mk (gE G).length) e) j && decide (j < e))) → Ok (f_X7_findObstruction_b31 N (nI (gE G).length) lo hi n x1 (nI e) lk rest sk pl rings ns ls st old path len queue org ins en rn ch) (fun r => r.1 = ob (aG G) (bG G) (mk (gE G).length) (gE G).length) := by
  have h20 := hW.2.2.1
  intro n
  induction n with
  | zero => intro e _ _ _ _ _ _ _ _ _ _ _ _ _ _ _ _ _ _ q; omega
  | succ n ih =>
    intro e x1 lk rest sk pl rings ns ls st old path len queue org ins en rn ch he hm hL hx
    simp only [f_X7_findObstruction_b31, f_X7_findObstruction_b113]
    refine Ok_ife (nI_leI (by omega) (by omega)) (fun c => ?_) (fun c => ?_)
    · refine Ok_some.mpr (b_ext (fun j _ => ?_))
      have ee : e = (gE G).length := by omega
      show bt x1 j = _
      rw [hx, ee]
      cases q : bt (ob (aG G) (bG G) (mk (gE G).length) (gE G).length) j with
      | false => rfl
      | true =>
        have := ob_sub _ (by omega) q
        rw [bt_mk (by omega)] at this
        rw [this]; rfl
    · have hlt : e < (gE G).length := by omega
      have ie : inb (nI e) 20 = true := inb_nI (by omega) (by decide)
      have hk : bt (mk (gE G).length) e = true := by rw [bt_mk (by omega)]; exact decide_eq_true hlt
      have hoe : bt (ob (aG G) (bG G) (mk (gE G).length) e) e = true := by rw [ob_hi e (by omega) (Nat.le_refl _)]; exact hk
      have hsub : ∀ j, bt (ob (aG G) (bG G) (mk (gE G).length) e) j = true → bt (mk (gE G).length) j = true := fun j => ob_sub e (by omega)
      have hM' : ∀ j, bt (ob (aG G) (bG G) (mk (gE G).length) e &&& (bt1 e ^^^ (-1))) j = (bt (ob (aG G) (bG G) (mk (gE G).length) e) j ^^ decide (j = e)) := fun j => by
        rw [b_del (by omega)]
        by_cases w : j = e
        · rw [w, hoe, decide_eq_true rfl]; rfl
        · rw [decide_eq_false w]; simp
      have hs' : ∀ j, bt (ob (aG G) (bG G) (mk (gE G).length) e &&& (bt1 e ^^^ (-1))) j = true → bt (mk (gE G).length) j = true := fun j hj => by
        rw [b_del (by omega), Bool.and_eq_true] at hj
        exact hsub j hj.1
      rw [nI_clamp (n := e) (by omega), (h e hlt).1, (h e hlt).2, nI_1, X7_bit]
      refine Ok_chk.mpr ⟨ie, Ok_chk.mpr ⟨ie, Ok_bd1.mpr (Ok_mono (LM_tog N (EE_c hW) hsub hL hk hM') (fun lk2 hL2 => ?_))⟩⟩
      refine Ok_bd1.mpr (Ok_mono (acc N hN (EE_sub (EE_c hW) hs') hL2 rest sk pl rings ns ls st old path len queue org ins en rn ch) (fun r hr => ?_))
      rw [hr]
      refine Ok_ife bI_0 (fun c2 => ?_) (fun c2 => ?_)
      · have eo : ob (aG G) (bG G) (mk (gE G).length) (e + 1) = ob (aG G) (bG G) (mk (gE G).length) e &&& (bt1 e ^^^ (-1)) := by
          show (if _ then _ else _) = _
          rw [if_neg (by rw [c2]; decide)]
        refine ih (e + 1) _ _ _ _ _ _ _ _ _ _ _ _ _ _ _ _ _ _ hlt (by omega) (by rw [eo]; exact hL2) (fun j => ?_)
        rw [hx, eo, b_del (by omega)]
        by_cases w : j = e
        · rw [w, decide_eq_true (rfl : e = e), decide_eq_false (Nat.lt_irrefl e)]; simp
        · rw [decide_eq_false w, show decide (j < e) = decide (j < e + 1) from decide_eq_decide.mpr (by omega)]; simp
      · rw [Bool.not_eq_false] at c2
        have eo : ob (aG G) (bG G) (mk (gE G).length) (e + 1) = ob (aG G) (bG G) (mk (gE G).length) e := by
          show (if _ then _ else _) = _
          rw [if_pos c2]
        refine Ok_chk.mpr ⟨ie, Ok_chk.mpr ⟨ie, Ok_bd1.mpr (Ok_mono (LM_tog N (EE_c hW) hs' hL2 hk (M' := ob (aG G) (bG G) (mk (gE G).length) e) (fun j => by rw [hM']; cases bt (ob (aG G) (bG G) (mk (gE G).length) e) j <;> cases decide (j = e) <;> rfl)) (fun lk3 hL3 => ?_))⟩⟩
        refine Ok_bd1.mpr (Ok_some.mpr (Ok_nm.mpr (ih (e + 1) _ _ _ _ _ _ _ _ _ _ _ _ _ _ _ _ _ _ hlt (by omega) (by rw [eo]; exact hL3) (fun j => ?_))))
        rw [b_or, hx, eo, b_bit (by omega)]
        by_cases w : j = e
        · rw [w, decide_eq_true (rfl : e = e), hoe, decide_eq_true (Nat.lt_succ_self e)]; simp
        · rw [decide_eq_false w, show decide (j < e) = decide (j < e + 1) from decide_eq_decide.mpr (by omega), Bool.or_false]
noncomputable def obs (G : Gr) : Int32 := if pm (aG G) (bG G) (mk (gE G).length) = true then 0 else ob (aG G) (bG G) (mk (gE G).length) (gE G).length
theorem X7_findOb (hW : WF G) {lo hi : Nat → Int32} (h : ∀ e, e < (gE G).length → lo e = nI (gEnd G e).1 ∧ hi e = nI (gEnd G e).2) (N : Nat) (hN : 1000 < N) (lk : Nat → Int32) (rest sk : Nat → Int32) (pl rings : Int32) (ns ls st old path : Nat → Int32) (len : Int32) (queue org : Nat → Int32) (ins en rn ch : Int32) : Ok (f_X7_findObstruction N (nI (gE G).length) lo hi lk rest sk pl rings ns ls st old path len queue org ins en rn ch) (fun r => r.1 = obs G) := by
  have h20 := hW.2.2.1
  unfold f_X7_findObstruction obs
  refine Ok_bd1.mpr (Ok_mono (LM_fill hW h N hN lk) (fun lk2 hL => ?_))
  refine Ok_bd1.mpr (Ok_mono (acc N hN (EE_c hW) hL rest sk pl rings ns ls st old path len queue org ins en rn ch) (fun r hr => ?_))
  rw [hr]
  refine Ok_ife bI_0 (fun c => ?_) (fun c => ?_)
  · rw [if_neg (by rw [c]; decide)]
    exact X7_obL hW h N hN N 0 0 lk2 _ _ _ _ _ _ _ _ _ _ _ _ _ _ _ _ (Nat.zero_le _) (by omega) hL (fun j => by rw [b_0, decide_eq_false (Nat.not_lt_zero j), Bool.and_false])
  · rw [Bool.not_eq_false] at c
    rw [if_pos c]
    exact Ok_some.mpr rfl
theorem X8_obstructed (hW : WF G) {s : Nat → Int32} (hM : RM G s) (N : Nat) (hN : 1000 < N) (ea eb : Nat → Int32) (org queue ns ls st : Nat → Int32) (rings : Int32) (path : Nat → Int32) (ps : Int32) (old : Nat → Int32) (last bn bi bf : Int32) : Ok (f_X8_obstructed N s ea eb org queue ns ls st rings path ps old last bn bi bf) (fun r => r.1 = obs G) := by
  have h20 := hW.2.2.1
  unfold f_X8_obstructed obs
  refine Ok_bd1.mpr (Ok_mono (X8_all hW hM N hN ea eb) (fun a ⟨a1, a2⟩ => Ok_nm.mpr ?_))
  rw [a1]
  refine Ok_bd1.mpr (Ok_mono (pla N hN a2 org queue ns ls st rings path ps old last bn bi bf) (fun r hr => ?_))
  rw [hr]
  refine Ok_ife bI_0 (fun c => ?_) (fun c => ?_)
  · rw [if_neg (by rw [c]; decide)]
    have lp : ∀ (n e : Nat) (ea eb : Nat → Int32) (org queue ns ls st : Nat → Int32) (rings : Int32) (path : Nat → Int32) (ps : Int32) (old : Nat → Int32) (last bn bi bf : Int32), EE ea eb (aG G) (bG G) (mk (gE G).length) → e ≤ (gE G).length → (gE G).length - e < n → Ok (f_X8_obstructed_b17 N s n (ob (aG G) (bG G) (mk (gE G).length) e) (nI e) ea eb org queue ns ls st rings path ps old last bn bi bf) (fun r => r.1 = ob (aG G) (bG G) (mk (gE G).length) (gE G).length) := by
      intro n
      induction n with
      | zero => intro e _ _ _ _ _ _ _ _ _ _ _ _ _ _ _ _ _ q; omega
      | succ n ih =>
        intro e ea eb org queue ns ls st rings path ps old last bn bi bf hE he hm
        simp only [f_X8_obstructed_b17, f_X8_obstructed_b52]
        rw [show (1 : Int32).toNatClampNeg = 1 from rfl, hM.2.1, nI_1]
        refine Ok_chk.mpr ⟨by decide, Ok_ife (nI_leI (by omega) (by omega)) (fun c2 => ?_) (fun c2 => ?_)⟩
        · refine Ok_some.mpr ?_
          show ob _ _ _ e = _
          rw [show e = (gE G).length by omega]
        · have hs' : ∀ j, bt (ob (aG G) (bG G) (mk (gE G).length) e &&& (bt1 e ^^^ (-1))) j = true → bt (mk (gE G).length) j = true := fun j hj => by
            rw [b_del (by omega), Bool.and_eq_true] at hj
            exact ob_sub e (by omega) hj.1
          refine Ok_bd1.mpr (Ok_mono (pla N hN (EE_sub hE hs') org queue ns ls st rings path ps old last bn bi bf) (fun r hr => ?_))
          rw [hr]
          refine Ok_ife bI_0 (fun c3 => ?_) (fun c3 => ?_)
          · have eo : ob (aG G) (bG G) (mk (gE G).length) (e + 1) = ob (aG G) (bG G) (mk (gE G).length) e &&& (bt1 e ^^^ (-1)) := by
              show (if _ then _ else _) = _
              rw [if_neg (by rw [c3]; decide)]
            rw [← eo]
            exact ih (e + 1) ea eb _ _ _ _ _ _ _ _ _ _ _ _ _ hE (by omega) (by omega)
          · rw [Bool.not_eq_false] at c3
            have eo : ob (aG G) (bG G) (mk (gE G).length) (e + 1) = ob (aG G) (bG G) (mk (gE G).length) e := by
              show (if _ then _ else _) = _
              rw [if_pos c3]
            rw [← eo]
            exact ih (e + 1) ea eb _ _ _ _ _ _ _ _ _ _ _ _ _ hE (by omega) (by omega)
    exact lp N 0 _ _ _ _ _ _ _ _ _ _ _ _ _ _ _ a2 (Nat.zero_le _) (by omega)
  · rw [Bool.not_eq_false] at c
    rw [if_pos c]
    exact Ok_some.mpr rfl
/-! guilty edges -/
noncomputable def glt (G : Gr) (e : Nat) : Bool := pm (aG G) (bG G) (mk (gE G).length &&& (bt1 e ^^^ (-1)))
noncomputable def gui (G : Gr) : Int32 := if pm (aG G) (bG G) (mk (gE G).length) = true then -9 else nI (fb_ct (glt G) (gE G).length)
theorem X7_guilty (hW : WF G) {lo hi : Nat → Int32} (h : ∀ e, e < (gE G).length → lo e = nI (gEnd G e).1 ∧ hi e = nI (gEnd G e).2) (N : Nat) (hN : 1000 < N) (lk : Nat → Int32) (rest sk : Nat → Int32) (pl rings : Int32) (ns ls st old path : Nat → Int32) (len : Int32) (queue org : Nat → Int32) (ins en rn ch : Int32) : Ok (f_X7_guiltyEdges N (nI (gE G).length) lo hi lk rest sk pl rings ns ls st old path len queue org ins en rn ch) (fun r => r.1 = gui G) := by
  have h20 := hW.2.2.1
  unfold f_X7_guiltyEdges gui
  refine Ok_bd1.mpr (Ok_mono (LM_fill hW h N hN lk) (fun lk2 hL => ?_))
  refine Ok_bd1.mpr (Ok_mono (acc N hN (EE_c hW) hL rest sk pl rings ns ls st old path len queue org ins en rn ch) (fun r hr => ?_))
  rw [hr]
  refine Ok_ife bI_0 (fun c => ?_) (fun c => ?_)
  · rw [if_neg (by rw [c]; decide)]
    have lp : ∀ (n e : Nat) (lk : Nat → Int32) (rest sk : Nat → Int32) (pl rings : Int32) (ns ls st old path : Nat → Int32) (len : Int32) (queue org : Nat → Int32) (ins en rn ch : Int32), e ≤ (gE G).length → (gE G).length - e < n → LM lk (aG G) (bG G) (mk (gE G).length) → Ok (f_X7_guiltyEdges_b32 N (nI (gE G).length) lo hi n (nI (fb_ct (glt G) e)) (nI e) lk rest sk pl rings ns ls st old path len queue org ins en rn ch) (fun r => r.1 = nI (fb_ct (glt G) (gE G).length)) := by
      intro n
      induction n with
      | zero => intro e _ _ _ _ _ _ _ _ _ _ _ _ _ _ _ _ _ _ q; omega
      | succ n ih =>
        intro e lk rest sk pl rings ns ls st old path len queue org ins en rn ch he hm hL
        simp only [f_X7_guiltyEdges_b32, f_X7_guiltyEdges_b85]
        refine Ok_ife (nI_leI (by omega) (by omega)) (fun c => ?_) (fun c => ?_)
        · refine Ok_some.mpr ?_
          show nI _ = nI _
          rw [show e = (gE G).length by omega]
        · have hlt : e < (gE G).length := by omega
          have ie : inb (nI e) 20 = true := inb_nI (by omega) (by decide)
          have hk : bt (mk (gE G).length) e = true := by rw [bt_mk (by omega)]; exact decide_eq_true hlt
          have hM' : ∀ j, bt (mk (gE G).length &&& (bt1 e ^^^ (-1))) j = (bt (mk (gE G).length) j ^^ decide (j = e)) := fun j => by
            rw [b_del (by omega)]
            by_cases w : j = e
            · rw [w, hk, decide_eq_true rfl]; rfl
            · rw [decide_eq_false w]; simp
          have hs' : ∀ j, bt (mk (gE G).length &&& (bt1 e ^^^ (-1))) j = true → bt (mk (gE G).length) j = true := fun j hj => by
            rw [b_del (by omega), Bool.and_eq_true] at hj
            exact hj.1
          rw [nI_clamp (n := e) (by omega), (h e hlt).1, (h e hlt).2, nI_1, nI_1]
          refine Ok_chk.mpr ⟨ie, Ok_chk.mpr ⟨ie, Ok_bd1.mpr (Ok_mono (LM_tog N (EE_c hW) (fun _ q => q) hL hk hM') (fun lk2 hL2 => ?_))⟩⟩
          refine Ok_bd1.mpr (Ok_mono (acc N hN (EE_sub (EE_c hW) hs') hL2 rest sk pl rings ns ls st old path len queue org ins en rn ch) (fun r hr => ?_))
          rw [hr]
          have back := LM_tog N (EE_c hW) hs' hL2 hk (M' := mk (gE G).length) (fun j => by rw [hM']; cases bt (mk (gE G).length) j <;> cases decide (j = e) <;> rfl)
          refine Ok_ife bI_0 (fun c2 => ?_) (fun c2 => ?_)
          · refine Ok_chk.mpr ⟨ie, Ok_chk.mpr ⟨ie, Ok_bd1.mpr (Ok_mono back (fun lk3 hL3 => ?_))⟩⟩
            have := ih (e + 1) lk3 r.2.1 r.2.2.1 r.2.2.2.1 r.2.2.2.2.1 r.2.2.2.2.2.1 r.2.2.2.2.2.2.1 r.2.2.2.2.2.2.2.1 r.2.2.2.2.2.2.2.2.1 r.2.2.2.2.2.2.2.2.2.1 r.2.2.2.2.2.2.2.2.2.2.1 r.2.2.2.2.2.2.2.2.2.2.2.1 r.2.2.2.2.2.2.2.2.2.2.2.2.1 r.2.2.2.2.2.2.2.2.2.2.2.2.2.1 r.2.2.2.2.2.2.2.2.2.2.2.2.2.2.1 r.2.2.2.2.2.2.2.2.2.2.2.2.2.2.2.1 r.2.2.2.2.2.2.2.2.2.2.2.2.2.2.2.2 hlt (by omega) hL3
            rw [fb_ct_succ, if_neg (by show ¬ glt G e = true; unfold glt; rw [c2]; decide), Nat.add_zero] at this
            exact this
          · rw [Bool.not_eq_false] at c2
            refine Ok_chk.mpr ⟨ie, Ok_chk.mpr ⟨ie, Ok_bd1.mpr (Ok_mono back (fun lk3 hL3 => ?_))⟩⟩
            have := ih (e + 1) lk3 r.2.1 r.2.2.1 r.2.2.2.1 r.2.2.2.2.1 r.2.2.2.2.2.1 r.2.2.2.2.2.2.1 r.2.2.2.2.2.2.2.1 r.2.2.2.2.2.2.2.2.1 r.2.2.2.2.2.2.2.2.2.1 r.2.2.2.2.2.2.2.2.2.2.1 r.2.2.2.2.2.2.2.2.2.2.2.1 r.2.2.2.2.2.2.2.2.2.2.2.2.1 r.2.2.2.2.2.2.2.2.2.2.2.2.2.1 r.2.2.2.2.2.2.2.2.2.2.2.2.2.2.1 r.2.2.2.2.2.2.2.2.2.2.2.2.2.2.2.1 r.2.2.2.2.2.2.2.2.2.2.2.2.2.2.2.2 hlt (by omega) hL3
            rw [fb_ct_succ, if_pos (show glt G e = true from c2)] at this
            exact this
    exact lp N 0 lk2 _ _ _ _ _ _ _ _ _ _ _ _ _ _ _ _ (Nat.zero_le _) (by omega) hL
  · rw [Bool.not_eq_false] at c
    rw [if_pos c]
    exact Ok_some.mpr rfl
theorem X8_guilty (hW : WF G) {s : Nat → Int32} (hM : RM G s) (N : Nat) (hN : 1000 < N) (ea eb : Nat → Int32) (org queue ns ls st : Nat → Int32) (rings : Int32) (path : Nat → Int32) (ps : Int32) (old : Nat → Int32) (last bn bi bf : Int32) : Ok (f_X8_guiltyEdges N s ea eb org queue ns ls st rings path ps old last bn bi bf) (fun r => r.1 = gui G) := by
  have h20 := hW.2.2.1
  unfold f_X8_guiltyEdges gui
  refine Ok_bd1.mpr (Ok_mono (X8_all hW hM N hN ea eb) (fun a ⟨a1, a2⟩ => Ok_nm.mpr ?_))
  rw [a1]
  refine Ok_bd1.mpr (Ok_mono (pla N hN a2 org queue ns ls st rings path ps old last bn bi bf) (fun r hr => ?_))
  rw [hr]
  refine Ok_ife bI_0 (fun c => ?_) (fun c => ?_)
  · rw [if_neg (by rw [c]; decide)]
    have lp : ∀ (n e : Nat) (ea eb : Nat → Int32) (org queue ns ls st : Nat → Int32) (rings : Int32) (path : Nat → Int32) (ps : Int32) (old : Nat → Int32) (last bn bi bf : Int32), EE ea eb (aG G) (bG G) (mk (gE G).length) → e ≤ (gE G).length → (gE G).length - e < n → Ok (f_X8_guiltyEdges_b20 N s n (mk (gE G).length) (nI (fb_ct (glt G) e)) (nI e) ea eb org queue ns ls st rings path ps old last bn bi bf) (fun r => r.1 = nI (fb_ct (glt G) (gE G).length)) := by
      intro n
      induction n with
      | zero => intro e _ _ _ _ _ _ _ _ _ _ _ _ _ _ _ _ _ q; omega
      | succ n ih =>
        intro e ea eb org queue ns ls st rings path ps old last bn bi bf hE he hm
        simp only [f_X8_guiltyEdges_b20, f_X8_guiltyEdges_b50]
        rw [show (1 : Int32).toNatClampNeg = 1 from rfl, hM.2.1, nI_1]
        refine Ok_chk.mpr ⟨by decide, Ok_ife (nI_leI (by omega) (by omega)) (fun c2 => ?_) (fun c2 => ?_)⟩
        · refine Ok_some.mpr ?_
          show nI _ = nI _
          rw [show e = (gE G).length by omega]
        · have hs' : ∀ j, bt (mk (gE G).length &&& (bt1 e ^^^ (-1))) j = true → bt (mk (gE G).length) j = true := fun j hj => by
            rw [b_del (by omega), Bool.and_eq_true] at hj
            exact hj.1
          refine Ok_bd1.mpr (Ok_mono (pla N hN (EE_sub hE hs') org queue ns ls st rings path ps old last bn bi bf) (fun r hr => ?_))
          rw [hr]
          refine Ok_ife bI_0 (fun c3 => Ok_nm.mpr ?_) (fun c3 => Ok_nm.mpr ?_)
          · have := ih (e + 1) ea eb r.2.1 r.2.2.1 r.2.2.2.1 r.2.2.2.2.1 r.2.2.2.2.2.1 r.2.2.2.2.2.2.1 r.2.2.2.2.2.2.2.1 r.2.2.2.2.2.2.2.2.1 r.2.2.2.2.2.2.2.2.2.1 r.2.2.2.2.2.2.2.2.2.2.1 r.2.2.2.2.2.2.2.2.2.2.2.1 r.2.2.2.2.2.2.2.2.2.2.2.2.1 r.2.2.2.2.2.2.2.2.2.2.2.2.2 hE (by omega) (by omega)
            rw [fb_ct_succ, if_neg (by show ¬ glt G e = true; unfold glt; rw [c3]; decide), Nat.add_zero] at this
            rw [show nI (fb_ct (glt G) e) + 0 = nI (fb_ct (glt G) e) from nI_add _ 0]
            exact this
          · rw [Bool.not_eq_false] at c3
            have := ih (e + 1) ea eb r.2.1 r.2.2.1 r.2.2.2.1 r.2.2.2.2.1 r.2.2.2.2.2.1 r.2.2.2.2.2.2.1 r.2.2.2.2.2.2.2.1 r.2.2.2.2.2.2.2.2.1 r.2.2.2.2.2.2.2.2.2.1 r.2.2.2.2.2.2.2.2.2.2.1 r.2.2.2.2.2.2.2.2.2.2.2.1 r.2.2.2.2.2.2.2.2.2.2.2.2.1 r.2.2.2.2.2.2.2.2.2.2.2.2.2 hE (by omega) (by omega)
            rw [fb_ct_succ, if_pos (show glt G e = true from c3)] at this
            rw [nI_1]
            exact this
    exact lp N 0 _ _ _ _ _ _ _ _ _ _ _ _ _ _ _ a2 (Nat.zero_le _) (by omega)
  · rw [Bool.not_eq_false] at c
    rw [if_pos c]
    exact Ok_some.mpr rfl
end CL5
