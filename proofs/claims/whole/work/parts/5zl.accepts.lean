/-! ===== the class's test ===== -/
theorem cs_three {G : Nat → Bool} (hG : GW G) {l : List Nat} (hC : Cy l) (hs : Sb (cs l) G) : 3 ≤ fb_ct (cs l) 81 := by
  obtain ⟨a, b, t, rfl⟩ : ∃ a b t, l = a :: b :: t := by
    match l, hC.2.1 with
    | a :: b :: t, _ => exact ⟨a, b, t, rfl⟩
  have hab : a ≠ b := fun q => (List.nodup_cons.mp hC.1).1 (by rw [q]; exact List.mem_cons_self)
  obtain ⟨e1, e2, n1, c1, c2, i1, i2, _⟩ := cs_two hC (x := a) List.mem_cons_self
  obtain ⟨e3, e4, n2, c3, c4, i3, i4, _⟩ := cs_two hC (x := b) (by simp)
  have lt : ∀ e, cs (a :: b :: t) e = true → e < 81 := fun e he => cs_lt hC.2.2 he
  have third : ∃ e, cs (a :: b :: t) e = true ∧ e ≠ e1 ∧ e ≠ e2 := by
    refine Classical.byContradiction (fun hn => ?_)
    have k : ∀ e, cs (a :: b :: t) e = true → e = e1 ∨ e = e2 := fun e he => Classical.byContradiction (fun q => hn ⟨e, he, fun w => q (Or.inl w), fun w => q (Or.inr w)⟩)
    have both : inc b e1 = true ∧ inc b e2 = true := by
      rcases k e3 c3 with q | q <;> rcases k e4 c4 with w | w
      · exact absurd (q.trans w.symm) n2
      · rw [← q, ← w]; exact ⟨i3, i4⟩
      · rw [← q, ← w]; exact ⟨i4, i3⟩
      · exact absurd (q.trans w.symm) n2
    exact n1 ((GW_two hG (hs e1 c1) i1 both.1 hab).1.trans (GW_two hG (hs e2 c2) i2 both.2 hab).1.symm)
  obtain ⟨e, k1, k2, k3⟩ := third
  exact ct_list (p := cs (a :: b :: t)) (n := 81) (l := [e1, e2, e]) (by simp [n1, Ne.symm k2, Ne.symm k3]) (fun y hy => by
    simp only [List.mem_cons, List.not_mem_nil, or_false] at hy
    rcases hy with z | z | z
    · rw [z]; exact ⟨lt e1 c1, c1⟩
    · rw [z]; exact ⟨lt e2 c2, c2⟩
    · rw [z]; exact ⟨lt e k1, k1⟩)
theorem gx_cg {r r' : Nat → Int32} (h : ∀ u, u < 9 → r u = r' u) : gx r = gx r' := by
  funext e
  unfold gx
  by_cases c : e < 81
  · rw [h (e / 9) (by omega)]
  · rw [decide_eq_false c]; rfl
theorem Sy_cg {r r' : Nat → Int32} (h : ∀ u, u < 9 → r u = r' u) (hS : Sy r) : Sy r' := by
  intro u hu v hv
  rw [← h u hu] at hv
  have s := hS u hu v hv
  exact ⟨s.1, s.2.1, by rw [← h v s.1]; exact s.2.2⟩
/-- the sketch is taken away -/
theorem cut_sk {rest sk r : Nat → Int32} {H : Nat → Bool} (hS : Sy rest) (hk : Sk sk H) (hr : ∀ u, u < 9 → r u = rest u &&& (sk u ^^^ (-1))) : Sy r ∧ ∀ e, (gx rest e && !H e) = gx r e := by
  have lt32 : ∀ {x : Int32} {b : Nat}, bt x b = true → b < 32 := fun {x b} h => by
    rcases Nat.lt_or_ge b 32 with q | q
    · exact q
    · rw [b_big q] at h; cases h
  have hb : ∀ u v, u < 9 → v < 32 → bt (r u) v = (bt (rest u) v && !bt (sk u) v) := fun u v hu hv => by rw [hr u hu, b_and, b_not _ hv]
  refine ⟨fun u hu v hv => ?_, gx_ext (fun e he => gx_GW rest e (by rw [Bool.and_eq_true] at he; exact he.1)) (fun u w huw hw => ?_)⟩
  · have v32 := lt32 hv
    rw [hb u v hu v32, Bool.and_eq_true, Bool.not_eq_true'] at hv
    have s := hS u hu v hv.1
    refine ⟨s.1, s.2.1, ?_⟩
    rw [hb v u s.1 (by omega), s.2.2, Bool.true_and, Bool.not_eq_true', hk v s.1 u, cd_comm, decide_eq_true hu, decide_eq_false s.2.1]
    have := hv.2
    rw [hk u hu v, decide_eq_true s.1, decide_eq_false (Ne.symm s.2.1)] at this
    exact this
  · rw [gx_lt huw hw, hb u w (by omega) (by omega), hk u (by omega) w, decide_eq_true hw, decide_eq_false (by omega)]
    rfl
theorem X4_acceptL (N : Nat) (hN : 100 < N) (near : Nat → Int32) {G0 : Prop} : ∀ (n i : Nat) (rest sk : Nat → Int32) (pl rings : Int32) (ns ls st old path : Nat → Int32) (len : Int32) (queue org : Nat → Int32) (ins en rn ch : Int32), Sy rest → (G0 ↔ Pl (gx rest)) → fb_ct (gx rest) 81 + 3 * i ≤ 21 → 10 - i < n →
    Ok (f_X4_accepts_b14 N near n (nI i) rest sk pl rings ns ls st old path len queue org ins en rn ch) (fun r => (r.1 = 1 ∧ G0) ∨ (r.1 = 0 ∧ ¬ G0)) := by
  intro n
  induction n with
  | zero => intro i; omega
  | succ n ih =>
    intro i rest sk pl rings ns ls st old path len queue org ins en rn ch hS hG hc hm
    simp only [f_X4_accepts_b14]
    refine Ok_ife (nI_leI (a := 9) (b := i) (by omega) (by omega)) (fun c => absurd c (by omega)) (fun _ => ?_)
    refine Ok_bd1.mpr (Ok_mono (X4_reduce N hN hS) (fun r ⟨r1, r2, r3⟩ => ?_))
    rw [X4_count N hN r1]
    have hb : sj (dgr r) 9 ≤ 20 * 9 := sj_le 9 (fun u _ => fb_ct_le _ _)
    refine Ok_bd1.mpr (Ok_some.mpr (Ok_ife (nI_ltI (b := 9) (by omega) (by omega)) (fun c => ?_) (fun c => ?_)))
    · exact Ok_some.mpr (Or.inl ⟨rfl, hG.mpr (r2.1.mpr (few_x r1 r3 c))⟩)
    · have hne : ∃ u, u < 9 ∧ ¬ r u = 0 := by
        refine Classical.byContradiction (fun q => c ?_)
        have : sj (dgr r) 9 ≤ 0 * 9 := sj_le 9 (fun u hu => by
          have z : r u = 0 := Classical.byContradiction (fun w => q ⟨u, hu, w⟩)
          unfold dgr
          rw [z, fb_ct_zero.mpr (fun k _ => b_0 k)]
          exact Nat.le_refl 0)
        omega
      refine Ok_bd1.mpr (Ok_mono (X4_findCycle N (by omega) r1 r3 hne path len) (fun y ⟨y1, l, y2, y3, y4, y5⟩ => ?_))
      rw [if_pos y1, y5]
      refine Ok_bd1.mpr (Ok_mono (X4_sketch N (by omega) r1 y2 y3 y4 sk pl rings ns ls st old queue org ins en rn ch) (fun z hz => ?_))
      rcases hz with ⟨z1, z2⟩ | ⟨z1, H', z2, z3, z4, z5⟩
      · rw [if_neg (fun q => q z1)]
        exact Ok_some.mpr (Or.inr ⟨rfl, fun q => z2 (r2.1.mp (hG.mp q))⟩)
      · rw [if_pos (by rw [z1]; exact i10)]
        refine lpU (fun m j x => f_X4_accepts_b53 N near (f_X4_accepts_b14 N near n) m (nI i) (nI j) x z.2.1 z.2.2.1 z.2.2.2.1 z.2.2.2.2.1 z.2.2.2.2.2.1 z.2.2.2.2.2.2.1 z.2.2.2.2.2.2.2.1 z.2.2.2.2.2.2.2.2.1 z.2.2.2.2.2.2.2.2.2.1 z.2.2.2.2.2.2.2.2.2.2.1 z.2.2.2.2.2.2.2.2.2.2.2.1 z.2.2.2.2.2.2.2.2.2.2.2.2.1 z.2.2.2.2.2.2.2.2.2.2.2.2.2.1 z.2.2.2.2.2.2.2.2.2.2.2.2.2.2.1 z.2.2.2.2.2.2.2.2.2.2.2.2.2.2.2) (fun j x => ∀ u, u < 9 → x u = if u < j then r u &&& (z.2.1 u ^^^ (-1)) else r u) 9 ?_ ?_ N 0 _ (Nat.zero_le _) (by omega) (fun u _ => by rw [if_neg (by omega)])
        · intro m x hx
          simp only [f_X4_accepts_b53, f_X4_accepts_b82]
          rw [show nI 9 = (9 : Int32) from rfl, if_pos (by decide), nI_1]
          have k := cut_sk (r := x) r1 z2 (fun u hu => by rw [hx u hu, if_pos hu])
          refine ih (i + 1) x z.2.1 _ _ _ _ _ _ _ _ _ _ _ _ _ _ k.1 ?_ ?_ (by omega)
          · refine hG.trans (r2.1.trans (z5.trans ⟨Pl_cong k.2, Pl_cong (fun e => (k.2 e).symm)⟩))
          · have c1 : fb_ct (gx x) 81 = fb_ct (fun e => gx r e && !H' e) 81 := fb_ct_cong (fun e _ => (k.2 e).symm)
            have c2 : fb_ct (cs l) 81 ≤ fb_ct (fun e => gx r e && H' e) 81 := fb_ct_sub (fun e _ he => by
              show (gx r e && H' e) = true
              rw [y3 e he, z3 e he]; rfl)
            have c3 := fb_ct_or (p := fun e => gx r e && H' e) (q := fun e => gx r e && !H' e) (n := 81) (fun e _ ⟨w1, w2⟩ => by
              rw [Bool.and_eq_true] at w1 w2
              rw [w1.2] at w2; cases w2.2)
            have c4 : fb_ct (fun e => (gx r e && H' e) || (gx r e && !H' e)) 81 = fb_ct (gx r) 81 := fb_ct_cong (fun e _ => by cases gx r e <;> cases H' e <;> rfl)
            have c5 := cs_three (gx_GW r) y2 y3
            have c6 := r2.2
            omega
        · intro m j x hj hx ih2
          simp only [f_X4_accepts_b53]
          refine Ok_ife (nI_leI (a := 9) (b := j) (by omega) (by omega)) (fun c => absurd c (by omega)) (fun _ => ?_)
          rw [nI_1, nI_clamp (n := j) (by omega)]
          have ij : inb (nI j) 9 = true := inb_nI hj (by decide)
          refine Ok_chk.mpr ⟨ij, Ok_chk.mpr ⟨ij, Ok_chk.mpr ⟨ij, ih2 _ (fun u hu => ?_)⟩⟩⟩
          rw [upd_at]
          by_cases c : u = j
          · rw [if_pos c, c, if_pos (by omega), hx j hj, if_neg (by omega)]
          · rw [if_neg c, hx u hu]
            by_cases c2 : u < j
            · rw [if_pos c2, if_pos (by omega)]
            · rw [if_neg c2, if_neg (by omega)]
theorem X4_accepts (N : Nat) (hN : 100 < N) {near : Nat → Int32} (hS : Sy near) (hc : fb_ct (gx near) 81 ≤ 21) (rest sk : Nat → Int32) (pl rings : Int32) (ns ls st old path : Nat → Int32) (len : Int32) (queue org : Nat → Int32) (ins en rn ch : Int32) :
    Ok (f_X4_accepts N near rest sk pl rings ns ls st old path len queue org ins en rn ch) (fun r => (r.1 = 1 ∧ Pl (gx near)) ∨ (r.1 = 0 ∧ ¬ Pl (gx near))) := by
  unfold f_X4_accepts
  have e : ∀ u, u < 9 → near u = va_cpy near rest (0 : Int32).toNatClampNeg (0 : Int32).toNatClampNeg (9 : Int32).toNatClampNeg u := fun u hu => (cpy0 hu).symm
  have eg := gx_cg e
  refine Ok_chk.mpr ⟨by decide, X4_acceptL N hN near N 0 _ sk pl rings ns ls st old path len queue org ins en rn ch (Sy_cg e hS) (by rw [eg]) (by rw [← eg]; omega) (by omega)⟩
theorem pig : ∀ (l1 l2 : List Nat), l1.Nodup → (∀ x, x ∈ l1 → x ∈ l2) → l1.length ≤ l2.length
  | [], _, _, _ => Nat.zero_le _
  | a :: t, l2, hn, h => by
    have hn' := List.nodup_cons.mp hn
    have ha := h a List.mem_cons_self
    have := pig t (l2.erase a) hn'.2 (fun x hx => (List.mem_erase_of_ne (fun q => hn'.1 (by rw [← q]; exact hx))).mpr (h x (List.mem_cons_of_mem _ hx)))
    rw [List.length_erase_of_mem ha] at this
    have : 0 < l2.length := List.length_pos_of_mem ha
    rw [List.length_cons]
    omega
theorem ct_up {p : Nat → Bool} {n : Nat} (l : List Nat) (h : ∀ x, x < n → p x = true → x ∈ l) : fb_ct p n ≤ l.length := by
  rw [← ct_len]
  refine pig _ l (List.Nodup.sublist List.filter_sublist List.nodup_range) (fun x hx => ?_)
  have q := List.mem_filter.mp hx
  exact h x (List.mem_range.mp q.1) q.2
