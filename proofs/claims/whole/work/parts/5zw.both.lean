/-! ===== class and reference test the same graphs ===== -/
noncomputable def pm (A B : Nat → Nat) (M : Int32) : Bool := cb (Pl (gm A B M))
def LM (lk : Nat → Int32) (A B : Nat → Nat) (M : Int32) : Prop := ∀ u, u < 9 → ∀ v, bt (lk u) v = true ↔ ∃ k, bt M k = true ∧ Ev A B k u v
def cA (A : Nat → Nat) : Nat → Int32 := fun k => nI (A k)
section BTH
variable {A B : Nat → Nat} {M : Int32}
theorem EE_can {ea eb : Nat → Int32} (h : EE ea eb A B M) : EE (cA A) (cA B) A B M := ⟨fun k hk => by
  obtain ⟨h1, _, _, h4⟩ := h.1 k hk
  exact ⟨h1, rfl, rfl, h4⟩, h.2⟩
theorem LM_gx {lk : Nat → Int32} (hE : EE (cA A) (cA B) A B M) (h : LM lk A B M) : Sy lk ∧ gx lk = gm A B M ∧ fb_ct (gx lk) 81 ≤ 21 := by
  have hS : Sy lk := by
    intro u hu v hv
    obtain ⟨k, k1, k2⟩ := (h u hu v).mp hv
    obtain ⟨_, _, _, a9, b9, ne⟩ := hE.1 k k1
    unfold Ev at k2
    have v9 : v < 9 := by omega
    refine ⟨v9, by omega, (h v v9 u).mpr ⟨k, k1, ?_⟩⟩
    unfold Ev
    omega
  have e : gx lk = gm A B M := by
    funext e
    refine (gx_ext (gm_GW hE) (fun u w huw hw => ?_) e).symm
    cases c : bt (lk u) w with
    | true =>
      obtain ⟨k, k1, k2⟩ := (h u (by omega) w).mp c
      refine gm_t.mpr ⟨k, k1, ?_⟩
      rcases k2 with q | q
      · rw [q.1, q.2]
      · rw [q.1, q.2, cd_comm]
    | false =>
      cases d : gm A B M (cd u w) with
      | false => rfl
      | true =>
        obtain ⟨k, k1, k2⟩ := gm_t.mp d
        obtain ⟨_, _, _, a9, b9, ne⟩ := hE.1 k k1
        have : Ev A B k u w := by
          unfold Ev
          rcases cd_inj (by omega) hw a9 b9 k2 with q | q <;> omega
        rw [(h u (by omega) w).mpr ⟨k, k1, this⟩] at c; cases c
  refine ⟨hS, e, ?_⟩
  have := ct_up (p := gx lk) (n := 81) ((List.range 21).map (fun k => cd (A k) (B k))) (fun x _ hx => by
    rw [e] at hx
    obtain ⟨k, k1, k2⟩ := gm_t.mp hx
    exact List.mem_map.mpr ⟨k, List.mem_range.mpr (hE.1 k k1).1, k2.symm⟩)
  rw [List.length_map, List.length_range] at this
  exact this
theorem acc (N : Nat) (hN : 1000 < N) {lk : Nat → Int32} (hE : EE (cA A) (cA B) A B M) (h : LM lk A B M) (rest sk : Nat → Int32) (pl rings : Int32) (ns ls st old path : Nat → Int32) (len : Int32) (queue org : Nat → Int32) (ins en rn ch : Int32) :
    Ok (f_X4_accepts N lk rest sk pl rings ns ls st old path len queue org ins en rn ch) (fun r => r.1 = bI (pm A B M)) := by
  obtain ⟨h1, h2, h3⟩ := LM_gx hE h
  refine Ok_mono (X4_accepts N (by omega) h1 h3 rest sk pl rings ns ls st old path len queue org ins en rn ch) (fun r hr => ?_)
  rw [h2] at hr
  unfold pm
  rcases hr with ⟨r1, r2⟩ | ⟨r1, r2⟩
  · rw [r1, cb_t.mpr r2]; rfl
  · rw [r1, cb_f.mpr r2]; rfl
theorem pla (N : Nat) (hN : 1000 < N) {ea eb : Nat → Int32} (hE : EE ea eb A B M) (org queue ns ls st : Nat → Int32) (rings : Int32) (path : Nat → Int32) (ps : Int32) (old : Nat → Int32) (last bn bi bf : Int32) :
    Ok (f_X8_planar N ea eb org queue ns ls st rings path ps old last bn bi bf M) (fun q => q.1 = bI (pm A B M)) := by
  refine Ok_mono (X8_planar N (by omega) hE org queue ns ls st rings path ps old last bn bi bf) (fun r hr => ?_)
  unfold pm
  rcases hr with ⟨r1, r2⟩ | ⟨r1, r2⟩
  · rw [r1, cb_t.mpr r2]; rfl
  · rw [r1, cb_f.mpr r2]; rfl
theorem LM_tog (N : Nat) {lk : Nat → Int32} {M0 M' : Int32} (hE : EE (cA A) (cA B) A B M0) (hs : ∀ j, bt M j = true → bt M0 j = true) (h : LM lk A B M) {k : Nat} (hk : bt M0 k = true) (hM' : ∀ j, bt M' j = (bt M j ^^ decide (j = k))) : Ok (f_X7_toggleLink N lk (nI (A k)) (nI (B k))) (fun r => LM r A B M') := by
  obtain ⟨_, _, _, a9, b9, ne⟩ := hE.1 k hk
  refine Ok_mono (X7_toggle N lk a9 b9 ne) (fun r hr u hu v => ?_)
  rw [hr]
  by_cases c : Ev A B k u v
  · have e1 : (decide (u = A k ∧ v = B k) || decide (u = B k ∧ v = A k)) = true := by
      unfold Ev at c
      rw [Bool.or_eq_true, decide_eq_true_eq, decide_eq_true_eq]
      omega
    have uniq : ∀ j, bt M0 j = true → Ev A B j u v → j = k := fun j hj hv => by
      refine hE.2 j k hj hk ?_
      unfold Ev at c hv
      rcases c with q | q <;> rcases hv with w | w
      · rw [q.1, q.2, w.1, w.2]
      · rw [q.1, q.2, w.1, w.2, cd_comm]
      · rw [q.1, q.2, w.1, w.2, cd_comm]
      · rw [q.1, q.2, w.1, w.2]
    have e2 : bt (lk u) v = bt M k := by
      cases d : bt M k with
      | true => exact (h u hu v).mpr ⟨k, d, c⟩
      | false =>
        cases d2 : bt (lk u) v with
        | false => rfl
        | true =>
          obtain ⟨j, j1, j2⟩ := (h u hu v).mp d2
          rw [uniq j (hs j j1) j2, d] at j1; cases j1
    rw [e1, e2]
    have e3 := hM' k
    rw [decide_eq_true rfl] at e3
    constructor
    · intro q
      exact ⟨k, by rw [e3]; exact q, c⟩
    · rintro ⟨j, j1, j2⟩
      have : bt M0 j = true := by
        rw [hM'] at j1
        by_cases w : j = k
        · rw [w]; exact hk
        · rw [decide_eq_false w, Bool.xor_false] at j1; exact hs j j1
      rw [uniq j this j2, e3] at j1
      exact j1
  · have e1 : (decide (u = A k ∧ v = B k) || decide (u = B k ∧ v = A k)) = false := by
      unfold Ev at c
      rw [Bool.or_eq_false_iff, decide_eq_false_iff_not, decide_eq_false_iff_not]
      omega
    rw [e1, Bool.xor_false, h u hu v]
    constructor
    · rintro ⟨j, j1, j2⟩
      refine ⟨j, ?_, j2⟩
      rw [hM', j1, decide_eq_false (fun w => c (by rw [← w]; exact j2))]; rfl
    · rintro ⟨j, j1, j2⟩
      refine ⟨j, ?_, j2⟩
      rw [hM', decide_eq_false (fun w => c (by rw [← w]; exact j2)), Bool.xor_false] at j1
      exact j1
end BTH
/-! the graph's own edges -/
def aG (G : Gr) : Nat → Nat := fun k => (gEnd G k).1
def bG (G : Gr) : Nat → Nat := fun k => (gEnd G k).2
def mk (n : Nat) : Int32 := ((1 : Int32) <<< (nI n &&& 31)) - 1
theorem bt_mk {n : Nat} (hn : n ≤ 21) (k : Nat) : bt (mk n) k = decide (k < n) := by
  rcases Nat.lt_or_ge k 32 with h | h
  · exact (by decide +kernel : ∀ n, n < 22 → ∀ k, k < 32 → bt (mk n) k = decide (k < n)) n (by omega) k h
  · rw [b_big h, decide_eq_false (by omega)]
section OWN
variable {G : Gr} (hW : WF G)
theorem EE_G (hW : WF G) {ea eb : Nat → Int32} (h : ∀ k, k < (gE G).length → ea k = nI (aG G k) ∧ eb k = nI (bG G k)) : EE ea eb (aG G) (bG G) (mk (gE G).length) := by
  have h20 := hW.2.2.1
  have h9 := hW.2.1
  constructor
  · intro k hk
    rw [bt_mk (by omega), decide_eq_true_eq] at hk
    have e := WF_end hW hk
    refine ⟨by omega, (h k hk).1, (h k hk).2, ?_, ?_, ?_⟩
    · show (gEnd G k).1 < 9; omega
    · show (gEnd G k).2 < 9; omega
    · show (gEnd G k).1 ≠ (gEnd G k).2; omega
  · intro k j hk hj e
    rw [bt_mk (by omega), decide_eq_true_eq] at hk hj
    have ek := WF_end hW hk
    have ej := WF_end hW hj
    refine WF_one hW hk hj (Prod.ext ?_ ?_)
    · rcases cd_inj (by show (gEnd G k).1 < 9; omega) (by show (gEnd G k).2 < 9; omega) (by show (gEnd G j).1 < 9; omega) (by show (gEnd G j).2 < 9; omega) e with w | w
      · exact w.1
      · have w1 : (gEnd G k).1 = (gEnd G j).2 := w.1
        have w2 : (gEnd G k).2 = (gEnd G j).1 := w.2
        omega
    · rcases cd_inj (by show (gEnd G k).1 < 9; omega) (by show (gEnd G k).2 < 9; omega) (by show (gEnd G j).1 < 9; omega) (by show (gEnd G j).2 < 9; omega) e with w | w
      · exact w.2
      · have w1 : (gEnd G k).1 = (gEnd G j).2 := w.1
        have w2 : (gEnd G k).2 = (gEnd G j).1 := w.2
        omega
theorem EE_c (hW : WF G) : EE (cA (aG G)) (cA (bG G)) (aG G) (bG G) (mk (gE G).length) := EE_G hW (fun _ _ => ⟨rfl, rfl⟩)
theorem LM_fill (hW : WF G) {lo hi : Nat → Int32} (h : Ends G lo hi) (N : Nat) (hN : 1000 < N) (a : Nat → Int32) : Ok (f_X1_fillLinks N (nI (gE G).length) lo hi a) (fun r => LM r (aG G) (bG G) (mk (gE G).length)) := by
  have h20 := hW.2.2.1
  refine Ok_mono (X1_fillLinks hW h N (by omega) a) (fun r hr u hu v => ?_)
  rw [hr u hu v]
  constructor
  · rintro ⟨e, e1, e2⟩
    refine ⟨e, by rw [bt_mk (by omega)]; exact decide_eq_true e1, ?_⟩
    unfold Ev aG bG
    rcases e2 with q | q
    · rw [q]; exact Or.inl ⟨rfl, rfl⟩
    · rw [q]; exact Or.inr ⟨rfl, rfl⟩
  · rintro ⟨k, k1, k2⟩
    rw [bt_mk (by omega), decide_eq_true_eq] at k1
    refine ⟨k, k1, ?_⟩
    unfold Ev aG bG at k2
    rcases k2 with q | q
    · exact Or.inl (Prod.ext q.1 q.2)
    · exact Or.inr (Prod.ext q.2 q.1)
theorem X8_lays (hW : WF G) {s : Nat → Int32} (hM : RM G s) (N : Nat) (hN : 1000 < N) (ea eb : Nat → Int32) (p q : Int32) : Ok (f_X8_laysEnds N s ea eb p q) (fun r => (∀ k, k < (gE G).length → r.1 k = nI (aG G k) ∧ r.2 k = nI (bG G k)) ∧ r.1 (gE G).length = p ∧ r.2 (gE G).length = q) := by
  have h20 := hW.2.2.1
  unfold f_X8_laysEnds
  refine lpU2 (fun n i x y => f_X8_laysEnds_b2 N s n p q (nI i) x y) (fun i x y => ∀ k, k < i → x k = nI (aG G k) ∧ y k = nI (bG G k)) (gE G).length ?_ ?_ N 0 _ _ (Nat.zero_le _) (by omega) (fun k hk => by omega)
  · intro n x y hI
    simp only [f_X8_laysEnds_b2, f_X8_laysEnds_b47]
    rw [show (1 : Int32).toNatClampNeg = 1 from rfl, hM.2.1, nI_clamp (n := (gE G).length) (by omega)]
    refine Ok_chk.mpr ⟨by decide, Ok_ife (nI_leI (by omega) (by omega)) (fun _ => ?_) (fun c => absurd (Nat.le_refl _) c)⟩
    refine Ok_chk.mpr ⟨by decide, Ok_chk.mpr ⟨inb_nI (by omega) (by decide), Ok_chk.mpr ⟨by decide, Ok_chk.mpr ⟨inb_nI (by omega) (by decide), Ok_some.mpr ⟨fun k hk => ?_, pk_us, pk_us⟩⟩⟩⟩⟩
    show upd x (gE G).length p k = _ ∧ upd y (gE G).length q k = _
    rw [pk_un (by omega), pk_un (by omega)]
    exact hI k hk
  · intro n i x y hi hI ih
    simp only [f_X8_laysEnds_b2]
    rw [show (1 : Int32).toNatClampNeg = 1 from rfl, hM.2.1, nI_clamp (n := i) (by omega), show 3 + nI i = nI (3 + i) from nI_add 3 i, show 23 + nI i = nI (23 + i) from nI_add 23 i, nI_clamp (n := 3 + i) (by omega), nI_clamp (n := 23 + i) (by omega), (hM.2.2.2.1 i hi).1, (hM.2.2.2.1 i hi).2, nI_1]
    refine Ok_chk.mpr ⟨by decide, Ok_ife (nI_leI (by omega) (by omega)) (fun c => absurd c (by omega)) (fun _ => ?_)⟩
    refine Ok_chk.mpr ⟨inb_nI (by omega) (by decide), Ok_chk.mpr ⟨inb_nI (by omega) (by decide), Ok_chk.mpr ⟨inb_nI (by omega) (by decide), Ok_chk.mpr ⟨inb_nI (by omega) (by decide), ih _ _ (fun k hk => ?_)⟩⟩⟩⟩
    rw [upd_at, upd_at]
    by_cases c : k = i
    · rw [if_pos c, if_pos c, c]; exact ⟨rfl, rfl⟩
    · rw [if_neg c, if_neg c]; exact hI k (by omega)
theorem X8_all (hW : WF G) {s : Nat → Int32} (hM : RM G s) (N : Nat) (hN : 1000 < N) (ea eb : Nat → Int32) : Ok (f_X8_allEdges N s ea eb) (fun r => r.1 = mk (gE G).length ∧ EE r.2.1 r.2.2 (aG G) (bG G) (mk (gE G).length)) := by
  unfold f_X8_allEdges
  refine Ok_bd1.mpr (Ok_mono (X8_lays hW hM N hN ea eb 0 0) (fun r hr => ?_))
  rw [show (1 : Int32).toNatClampNeg = 1 from rfl, hM.2.1]
  exact Ok_chk.mpr ⟨by decide, Ok_some.mpr ⟨rfl, EE_G hW hr.1⟩⟩
end OWN
