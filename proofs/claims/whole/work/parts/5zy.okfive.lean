/-! ===== branching; the five calls ===== -/
theorem ct_fil (p : Nat → Bool) : ∀ l : List Nat, fb_ct (fun j => p (l.getD j 0)) l.length = (l.filter p).length
  | [] => rfl
  | a :: t => by
    rw [List.length_cons, Nat.add_comm, fb_ct_split]
    have e1 : fb_ct (fun j => p ((a :: t).getD j 0)) 1 = if p a = true then 1 else 0 := by
      show 0 + (if p ((a :: t).getD 0 0) = true then 1 else 0) = _
      rw [Nat.zero_add]; rfl
    have e2 : fb_ct (fun k => p ((a :: t).getD (1 + k) 0)) t.length = fb_ct (fun j => p (t.getD j 0)) t.length := fb_ct_cong (fun k _ => by rw [Nat.add_comm, List.getD_cons_succ])
    rw [e1, e2, ct_fil p t]
    cases c : p a with
    | true => rw [List.filter_cons_of_pos c, List.length_cons, if_pos rfl, Nat.add_comm]
    | false => rw [List.filter_cons_of_neg (by rw [c]; decide), if_neg (by decide), Nat.zero_add]
theorem ct_rot {p : Nat → Bool} {l : List Nat} {E : Nat} (hn : l.Nodup) (hl : ∀ x, x ∈ l → x < E) : fb_ct (fun j => p (l.getD j 0)) l.length = fb_ct (fun e => p e && decide (e ∈ l)) E := by
  rw [ct_fil, ← ct_len]
  refine Nat.le_antisymm (pig _ _ (List.Nodup.sublist List.filter_sublist hn) (fun x hx => ?_)) (pig _ _ (List.Nodup.sublist List.filter_sublist List.nodup_range) (fun x hx => ?_))
  · have q := List.mem_filter.mp hx
    exact List.mem_filter.mpr ⟨List.mem_range.mpr (hl x q.1), by rw [q.2, decide_eq_true q.1]; rfl⟩
  · have q := List.mem_filter.mp hx
    rw [Bool.and_eq_true, decide_eq_true_eq] at q
    exact List.mem_filter.mpr ⟨q.2.2, q.2.1⟩
def cnt (G : Gr) (S : Int32) (v : Nat) : Nat := fb_ct (fun e => bt S e && decide (e ∈ gR G v)) (gE G).length
section BRN
variable {G : Gr}
theorem X7_cntAt (hW : WF G) {de tu : Nat → Int32} (hd : ∀ v, v < 9 → de v = nI (gR G v).length) (h : ∀ v k, v < 9 → k < (gR G v).length → tu (8 * v + k) = nI ((gR G v).getD k 0)) (N : Nat) (hN : 1000 < N) {v : Nat} (hv : v < 9) (S : Int32) : f_X7_countEdgesAt N de tu (nI v) S = some (nI (cnt G S v)) := by
  have h20 := hW.2.2.1
  have h8 := WF_deg hW v
  have hlt : ∀ x, x ∈ gR G v → x < (gE G).length := fun x hx => ((hW.2.2.2.2.2.2.1 v x).mp hx).1
  refine Ok_of ?_
  unfold f_X7_countEdgesAt
  refine lpU (fun n i x => f_X7_countEdgesAt_b5 N de tu n (nI v) S x (nI i)) (fun i x => x = nI (fb_ct (fun j => bt S ((gR G v).getD j 0)) i)) (gR G v).length ?_ ?_ N 0 _ (Nat.zero_le _) (by omega) rfl
  · rintro n x rfl
    simp only [f_X7_countEdgesAt_b5]
    rw [nI_clamp (n := v) (by omega), hd v hv]
    refine Ok_chk.mpr ⟨inb_nI hv (by decide), Ok_ife (nI_leI (by omega) (by omega)) (fun _ => Ok_some.mpr ?_) (fun c => absurd (Nat.le_refl _) c)⟩
    unfold cnt
    rw [ct_rot (hW.2.2.2.2.2.1 v) hlt]
  · rintro n i x hi rfl ih
    simp only [f_X7_countEdgesAt_b5, f_X7_countEdgesAt_b39]
    have e20 := hlt _ (gD_mem hi)
    rw [nI_clamp (n := v) (by omega), hd v hv, X1_edgeAt hW h N v i hv hi, nI_1, nI_1]
    refine Ok_chk.mpr ⟨inb_nI hv (by decide), Ok_ife (nI_leI (by omega) (by omega)) (fun c => absurd c (by omega)) (fun _ => Ok_bd1.mpr (Ok_some.mpr ?_))⟩
    rw [X7_contains N (by omega)]
    refine Ok_bd1.mpr (Ok_some.mpr (Ok_ife bI_0 (fun c => ih _ ?_) (fun c => ih _ ?_)))
    · rw [fb_ct_succ, if_neg (by rw [c]; decide), Nat.add_zero]
    · rw [Bool.not_eq_false] at c
      rw [fb_ct_succ, if_pos c]
def Brc (G : Gr) (S r : Int32) : Prop := ∀ u, bt r u = decide (u < gN G ∧ 3 ≤ cnt G S u)
theorem Brc_one {S r r' : Int32} (h : Brc G S r) (h' : Brc G S r') : r' = r := b_ext (fun i _ => by rw [h, h'])
theorem cnt_le (hW : WF G) (S : Int32) (v : Nat) : cnt G S v ≤ 20 := by
  have h20 := hW.2.2.1
  have : cnt G S v ≤ (gE G).length := fb_ct_le _ _
  omega
theorem X7_branch (hW : WF G) {g : TG} (hX : RX G g) (N : Nat) (hN : 1000 < N) (lk : Nat → Int32) (rest sk : Nat → Int32) (pl rings : Int32) (ns ls st old path : Nat → Int32) (len : Int32) (queue org : Nat → Int32) (ins en rn ch : Int32) : Ok (f_X7_branching N g.1 g.2.1 g.2.2.2.1 g.2.2.2.2.1 g.2.2.2.2.2.1 g.2.2.2.2.2.2 lk rest sk pl rings ns ls st old path len queue org ins en rn ch) (fun r => Brc G (obs G) r.1) := by
  have h9 := hW.2.1
  obtain ⟨x1, x2, x3, x4, x5, x6⟩ := hX
  unfold f_X7_branching
  rw [x1, x2]
  refine Ok_bd1.mpr (Ok_mono (X7_findOb hW x4 N hN lk rest sk pl rings ns ls st old path len queue org ins en rn ch) (fun r hr => Ok_nm.mpr ?_))
  rw [hr]
  have lp : ∀ (n v : Nat) (y : Int32) (lk : Nat → Int32) (rest sk : Nat → Int32) (pl rings : Int32) (ns ls st old path : Nat → Int32) (len : Int32) (queue org : Nat → Int32) (ins en rn ch : Int32), v ≤ gN G → gN G - v < n → (∀ u, bt y u = decide (u < v ∧ 3 ≤ cnt G (obs G) u)) → Ok (f_X7_branching_b9 N (nI (gN G)) (nI (gE G).length) g.2.2.2.1 g.2.2.2.2.1 g.2.2.2.2.2.1 g.2.2.2.2.2.2 n (obs G) y (nI v) lk rest sk pl rings ns ls st old path len queue org ins en rn ch) (fun r => Brc G (obs G) r.1) := by
    intro n
    induction n with
    | zero => intro v _ _ _ _ _ _ _ _ _ _ _ _ _ _ _ _ _ _ _ q; omega
    | succ n ih =>
      intro v y lk rest sk pl rings ns ls st old path len queue org ins en rn ch hv hm hy
      simp only [f_X7_branching_b9, f_X7_branching_b37]
      refine Ok_ife (nI_leI (by omega) (by omega)) (fun c => ?_) (fun c => ?_)
      · refine Ok_some.mpr (fun u => ?_)
        show bt y u = _
        rw [hy, show v = gN G by omega]
      · have cl := cnt_le hW (obs G) v
        rw [X7_cntAt hW x5 x6 N hN (by omega : v < 9) (obs G), nI_1, X7_bit]
        refine Ok_bd1.mpr (Ok_some.mpr (Ok_ife (nI_ltI (b := 3) (by omega) (by omega)) (fun c2 => ?_) (fun c2 => ?_)))
        · refine ih (v + 1) y lk _ _ _ _ _ _ _ _ _ _ _ _ _ _ _ _ (by omega) (by omega) (fun u => ?_)
          rw [hy]
          refine decide_eq_decide.mpr ⟨fun q => ⟨by omega, q.2⟩, fun q => ⟨?_, q.2⟩⟩
          have : u ≠ v := fun w => by rw [w] at q; omega
          omega
        · refine Ok_bd1.mpr (Ok_some.mpr (Ok_nm.mpr (ih (v + 1) _ lk _ _ _ _ _ _ _ _ _ _ _ _ _ _ _ _ (by omega) (by omega) (fun u => ?_))))
          rw [b_or, hy, b_bit (by omega), ← Bool.decide_or]
          refine decide_eq_decide.mpr ⟨?_, ?_⟩
          · rintro (q | q)
            · exact ⟨by omega, q.2⟩
            · rw [q]; exact ⟨by omega, by omega⟩
          · rintro ⟨q1, q2⟩
            rcases Nat.lt_or_ge u v with w | w
            · exact Or.inl ⟨w, q2⟩
            · exact Or.inr (by omega)
  exact lp N 0 0 _ _ _ _ _ _ _ _ _ _ _ _ _ _ _ _ _ (Nat.zero_le _) (by omega) (fun u => by rw [b_0, decide_eq_false (by omega)])
theorem X8_branch (hW : WF G) {s : Nat → Int32} (hM : RM G s) (N : Nat) (hN : 1000 < N) (ea eb : Nat → Int32) (org queue ns ls st : Nat → Int32) (rings : Int32) (path : Nat → Int32) (ps : Int32) (old : Nat → Int32) (last bn bi bf : Int32) : Ok (f_X8_branching N s ea eb org queue ns ls st rings path ps old last bn bi bf) (fun r => Brc G (obs G) r.1) := by
  have h9 := hW.2.1
  have h20 := hW.2.2.1
  unfold f_X8_branching
  refine Ok_bd1.mpr (Ok_mono (X8_obstructed hW hM N hN ea eb org queue ns ls st rings path ps old last bn bi bf) (fun r hr => Ok_nm.mpr ?_))
  rw [hr]
  have lp : ∀ (n v : Nat) (y : Int32) (ea eb : Nat → Int32) (org queue ns ls st : Nat → Int32) (rings : Int32) (path : Nat → Int32) (ps : Int32) (old : Nat → Int32) (last bn bi bf : Int32), v ≤ gN G → gN G - v < n → (∀ u, bt y u = decide (u < v ∧ 3 ≤ cnt G (obs G) u)) → Ok (f_X8_branching_b9 N s n (obs G) y (nI v) ea eb org queue ns ls st rings path ps old last bn bi bf) (fun r => Brc G (obs G) r.1) := by
    intro n
    induction n with
    | zero => intro v _ _ _ _ _ _ _ _ _ _ _ _ _ _ _ _ _ q; omega
    | succ n ih =>
      intro v y ea eb org queue ns ls st rings path ps old last bn bi bf hv hm hy
      simp only [f_X8_branching_b9]
      rw [show (0 : Int32).toNatClampNeg = 0 from rfl, hM.1]
      refine Ok_chk.mpr ⟨by decide, Ok_ife (nI_leI (by omega) (by omega)) (fun c => ?_) (fun c => ?_)⟩
      · refine Ok_some.mpr (fun u => ?_)
        show bt y u = _
        rw [hy, show v = gN G by omega]
      · refine lpU (fun k i z => f_X8_branching_b25 N s (f_X8_branching_b9 N s n) k (obs G) y (nI v) z (nI i) ea eb org queue ns ls st rings path ps old last bn bi bf) (fun i z => z = nI (fb_ct (fun e => bt (obs G) e && decide (e ∈ gR G v)) i)) (gE G).length ?_ ?_ N 0 _ (Nat.zero_le _) (by omega) rfl
        · rintro k z rfl
          simp only [f_X8_branching_b25, f_X8_branching_b71, f_X8_branching_b85]
          have cl := cnt_le hW (obs G) v
          rw [show (1 : Int32).toNatClampNeg = 1 from rfl, hM.2.1, nI_1]
          refine Ok_chk.mpr ⟨by decide, Ok_ife (nI_leI (by omega) (by omega)) (fun _ => ?_) (fun c => absurd (Nat.le_refl _) c)⟩
          show Ok (if nI (cnt G (obs G) v) ≤ 2 then _ else _) _
          refine Ok_ife (nI_leI (b := 2) (by omega) (by omega)) (fun c2 => Ok_nm.mpr (ih (v + 1) _ ea eb _ _ _ _ _ _ _ _ _ _ _ _ _ (by omega) (by omega) (fun u => ?_))) (fun c2 => Ok_nm.mpr (ih (v + 1) _ ea eb _ _ _ _ _ _ _ _ _ _ _ _ _ (by omega) (by omega) (fun u => ?_)))
          · rw [or_0, hy]
            refine decide_eq_decide.mpr ⟨fun q => ⟨by omega, q.2⟩, fun q => ⟨?_, q.2⟩⟩
            have : u ≠ v := fun w => by rw [w] at q; omega
            omega
          · rw [b_or, hy, b_bit (by omega), ← Bool.decide_or]
            refine decide_eq_decide.mpr ⟨?_, ?_⟩
            · rintro (q | q)
              · exact ⟨by omega, q.2⟩
              · rw [q]; exact ⟨by omega, by omega⟩
            · rintro ⟨q1, q2⟩
              rcases Nat.lt_or_ge u v with w | w
              · exact Or.inl ⟨w, q2⟩
              · exact Or.inr (by omega)
        · rintro k i z hi rfl ih2
          simp only [f_X8_branching_b25, f_X8_branching_b61, f_X8_branching_b62]
          rw [show (1 : Int32).toNatClampNeg = 1 from rfl, hM.2.1, nI_1, X8_has N (by omega), X8_isAt h20 hM.2.1 hM.2.2.2.1 N (nI i) (nI v), atI_nI hW hi (by omega)]
          have mem : decide ((gEnd G i).1 = v ∨ (gEnd G i).2 = v) = decide (i ∈ gR G v) := decide_eq_decide.mpr ⟨fun q => (hW.2.2.2.2.2.2.1 v i).mpr ⟨hi, q⟩, fun q => ((hW.2.2.2.2.2.2.1 v i).mp q).2⟩
          rw [mem]
          have keep : (bt (obs G) i && decide (i ∈ gR G v)) = false → nI (fb_ct (fun e => bt (obs G) e && decide (e ∈ gR G v)) i) + 0 = nI (fb_ct (fun e => bt (obs G) e && decide (e ∈ gR G v)) (i + 1)) := fun q => by
            rw [fb_ct_succ, if_neg (by rw [q]; decide)]
            exact nI_add _ 0
          refine Ok_chk.mpr ⟨by decide, Ok_ife (nI_leI (by omega) (by omega)) (fun c => absurd c (by omega)) (fun _ => Ok_bd1.mpr (Ok_some.mpr (Ok_ife bI_0 (fun c2 => Ok_nm.mpr (ih2 _ (keep (by rw [c2]; rfl)))) (fun c2 => Ok_bd1.mpr (Ok_some.mpr (Ok_ife bI_0 (fun c3 => Ok_nm.mpr (ih2 _ (keep (by rw [c3, Bool.and_false])))) (fun c3 => Ok_nm.mpr (ih2 _ ?_))))))))⟩
          rw [Bool.not_eq_false] at c2 c3
          rw [fb_ct_succ, if_pos (by rw [c2, c3]; rfl), nI_1]
  exact lp N 0 0 _ _ _ _ _ _ _ _ _ _ _ _ _ _ _ (Nat.zero_le _) (by omega) (fun u => by rw [b_0, decide_eq_false (by omega)])
end BRN
section OK5
variable (N : Nat) (hN : 1000 < N)
theorem ok_isPlanar (N : Nat) (hN : 1000 < N) : OK_isPlanar Inv N := by
  intro x m hi
  have hi2 := hi
  obtain ⟨G, n, hs, l, cs, hS, hX, hF, hH, hT, hM, hHM, hTM⟩ := hi
  have hW := hS.1
  refine OK_mk ?_
  unfold f_X7_isPlanar f_X8_isPlanar
  rw [hX.2.1]
  refine Ok_bd1.mpr (Ok_mono (LM_fill hW hX.2.2.2.1 N hN _) (fun lk hL => Ok_bd1.mpr (Ok_mono (acc N hN (EE_c hW) hL _ _ _ _ _ _ _ _ _ _ _ _ _ _ _ _) (fun r hr => Ok_sw.mpr (Ok_bd1.mpr (Ok_mono (X8_all hW hM N hN _ _) (fun a ⟨a1, a2⟩ => ?_)))))))
  rw [a1]
  refine Ok_bd1.mpr (Ok_mono (pla N hN a2 _ _ _ _ _ _ _ _ _ _ _ _ _) (fun q hq => Ok_sw.mpr ?_))
  rw [hr, hq]
  refine Ok_ife bI_0 (fun c => ?_) (fun c => ?_)
  · rw [c, if_pos bF0]
    exact Ok_some.mpr (Ok_some.mpr (OK_end rfl ⟨G, n, hs, l, cs, hS, hX, hF, hH, hT, hM, hHM, hTM⟩))
  · rw [Bool.not_eq_false] at c
    rw [c, if_neg bT0]
    exact Ok_some.mpr (Ok_some.mpr (OK_end rfl ⟨G, n, hs, l, cs, hS, hX, hF, hH, hT, hM, hHM, hTM⟩))
theorem ok_obstruction (N : Nat) (hN : 1000 < N) : OK_obstruction Inv N := by
  intro x m hi
  obtain ⟨G, n, hs, l, cs, hS, hX, hF, hH, hT, hM, hHM, hTM⟩ := hi
  have hW := hS.1
  refine OK_mk ?_
  unfold f_X7_obstruction f_X8_obstruction
  rw [hX.2.1]
  refine Ok_bd1.mpr (Ok_mono (X7_findOb hW hX.2.2.2.1 N hN _ _ _ _ _ _ _ _ _ _ _ _ _ _ _ _ _) (fun r hr => Ok_some.mpr (Ok_bd1.mpr (Ok_mono (X8_obstructed hW hM N hN _ _ _ _ _ _ _ _ _ _ _ _ _ _ _) (fun q hq => Ok_some.mpr ?_)))))
  exact OK_end (by rw [hr, hq]) ⟨G, n, hs, l, cs, hS, hX, hF, hH, hT, hM, hHM, hTM⟩
theorem ok_branching (N : Nat) (hN : 1000 < N) : OK_branching Inv N := by
  intro x m hi
  obtain ⟨G, n, hs, l, cs, hS, hX, hF, hH, hT, hM, hHM, hTM⟩ := hi
  have hW := hS.1
  refine OK_mk (Ok_mono (X7_branch hW hX N hN _ _ _ _ _ _ _ _ _ _ _ _ _ _ _ _ _) (fun r hr => Ok_mono (X8_branch hW hM N hN _ _ _ _ _ _ _ _ _ _ _ _ _ _ _) (fun q hq => ?_)))
  exact OK_end (Brc_one hr hq) ⟨G, n, hs, l, cs, hS, hX, hF, hH, hT, hM, hHM, hTM⟩
theorem ok_guiltyEdges (N : Nat) (hN : 1000 < N) : OK_guiltyEdges Inv N := by
  intro x m hi
  obtain ⟨G, n, hs, l, cs, hS, hX, hF, hH, hT, hM, hHM, hTM⟩ := hi
  have hW := hS.1
  have e2 := hX.2.1
  refine OK_mk ?_
  rw [e2]
  refine Ok_mono (X7_guilty hW hX.2.2.2.1 N hN _ _ _ _ _ _ _ _ _ _ _ _ _ _ _ _ _) (fun r hr => Ok_mono (X8_guilty hW hM N hN _ _ _ _ _ _ _ _ _ _ _ _ _ _ _) (fun q hq => ?_))
  exact OK_end (by rw [hr, hq]) ⟨G, n, hs, l, cs, hS, hX, hF, hH, hT, hM, hHM, hTM⟩
theorem ok_canAdd (N : Nat) (hN : 1000 < N) : OK_canAdd Inv N := by
  intro x m p1 p2 hi
  have hi2 := hi
  obtain ⟨G, n, hs, l, cs, hS, hX, hF, hH, hT, hM, hHM, hTM⟩ := hi
  have hW := hS.1
  have h9 := hW.2.1
  have h20 := hW.2.2.1
  refine OK_mk ?_
  unfold f_X7_canAdd f_X8_canAdd
  rw [hX.1, X7_areTwoNodes N _ (by omega), X8_areNodes N _ (by omega) m.1 hM.1]
  refine Ok_bd1.mpr (Ok_some.mpr (Ok_sw.mpr (Ok_bd1.mpr (Ok_some.mpr (Ok_sw.mpr ?_)))))
  cases hb : twoI (gN G) p1 p2 with
  | false =>
    rw [if_neg (fun q => q bF0), if_neg (fun q => q bF0)]
    exact Ok_some.mpr (Ok_some.mpr (OK_end rfl hi2))
  | true =>
    rw [if_pos bT0, if_pos bT0]
    unfold twoI at hb
    rw [Bool.and_eq_true, Bool.and_eq_true, decide_eq_true_eq] at hb
    obtain ⟨a, ha, rfl⟩ := inb_of hb.1 (by omega)
    obtain ⟨b, hb2, rfl⟩ := inb_of hb.2.1 (by omega)
    have hab : a ≠ b := fun q => hb.2.2 (by rw [q])
    rw [hX.2.1]
    refine Ok_bd1.mpr (Ok_mono (X1_areJoined hW hX.2.2.2.1 N a b (by omega) (by omega) (by omega)) (fun r hr => Ok_sw.mpr (Ok_bd1.mpr (Ok_mono (X8_between hW hM.2.1 hM.2.2.2.1 N a b (by omega) (by omega) (by omega) hab) (fun q hq => Ok_sw.mpr ?_)))))
    by_cases hj : joined G a b
    · have r1 : ¬ r = 0 := by
        rcases hr with w | w
        · rw [w.1]; exact i10
        · exact absurd hj w.2
      have q1 : ¬ q = -9 := by
        rcases hq with w | w
        · exact w.1
        · exact absurd hj w.2
      rw [if_neg r1, if_neg q1]
      exact Ok_some.mpr (Ok_some.mpr (OK_end rfl hi2))
    · have r1 : r = 0 := by
        rcases hr with w | w
        · exact absurd w.2 hj
        · exact w.1
      have q1 : q = -9 := by
        rcases hq with w | w
        · exact absurd w.2 hj
        · exact w.1
      rw [if_pos r1, if_pos q1]
      -- the graph with one edge more
      let A : Nat → Nat := fun k => if k = (gE G).length then a else aG G k
      let B : Nat → Nat := fun k => if k = (gE G).length then b else bG G k
      have Al : ∀ k, k < (gE G).length → A k = aG G k ∧ B k = bG G k := fun k hk => ⟨if_neg (by omega), if_neg (by omega)⟩
      have AE : A (gE G).length = a := if_pos rfl
      have BE : B (gE G).length = b := if_pos rfl
      have hEc := EE_c hW
      have key : ∀ k, k < (gE G).length → cd (aG G k) (bG G k) ≠ cd a b := fun k hk e => hj ⟨k, hk, by
        have we := WF_end hW hk
        have w1 : aG G k = (gEnd G k).1 := rfl
        have w2 : bG G k = (gEnd G k).2 := rfl
        refine decide_eq_true (Prod.ext ?_ ?_)
        · show (gEnd G k).1 = if b < a then b else a
          rcases cd_inj (by omega) (by omega) (by omega) (by omega) e with w | w
          · rw [if_neg (by omega)]; omega
          · rw [if_pos (by omega)]; omega
        · show (gEnd G k).2 = if a < b then b else a
          rcases cd_inj (by omega) (by omega) (by omega) (by omega) e with w | w
          · rw [if_pos (by omega)]; omega
          · rw [if_neg (by omega)]; omega⟩
      have hE1 : ∀ ea eb : Nat → Int32, (∀ k, k < (gE G).length → ea k = nI (aG G k) ∧ eb k = nI (bG G k)) → ea (gE G).length = nI a → eb (gE G).length = nI b → EE ea eb A B (mk ((gE G).length + 1)) := by
        intro ea eb h1 h2 h3
        have hG := EE_G hW h1
        constructor
        · intro k hk
          rw [bt_mk (by omega), decide_eq_true_eq] at hk
          by_cases c : k = (gE G).length
          · rw [c, AE, BE]
            exact ⟨by omega, h2, h3, by omega, by omega, hab⟩
          · have hk2 : k < (gE G).length := by omega
            rw [(Al k hk2).1, (Al k hk2).2]
            exact hG.1 k (by rw [bt_mk (by omega)]; exact decide_eq_true hk2)
        · intro k j hk hj2 e
          rw [bt_mk (by omega), decide_eq_true_eq] at hk hj2
          by_cases c : k = (gE G).length <;> by_cases d : j = (gE G).length
          · omega
          · have hj3 : j < (gE G).length := by omega
            rw [c, AE, BE, (Al j hj3).1, (Al j hj3).2] at e
            exact absurd e.symm (key j hj3)
          · have hk2 : k < (gE G).length := by omega
            rw [d, AE, BE, (Al k hk2).1, (Al k hk2).2] at e
            exact absurd e (key k hk2)
          · have hk2 : k < (gE G).length := by omega
            have hj3 : j < (gE G).length := by omega
            rw [(Al k hk2).1, (Al k hk2).2, (Al j hj3).1, (Al j hj3).2] at e
            exact hG.2 k j (by rw [bt_mk (by omega)]; exact decide_eq_true hk2) (by rw [bt_mk (by omega)]; exact decide_eq_true hj3) e
      have hEA : EE (cA A) (cA B) A B (mk ((gE G).length + 1)) := hE1 (cA A) (cA B) (fun k hk => by
        show nI (A k) = _ ∧ nI (B k) = _
        rw [(Al k hk).1, (Al k hk).2]; exact ⟨rfl, rfl⟩) (by show nI (A _) = _; rw [AE]) (by show nI (B _) = _; rw [BE])
      refine Ok_bd1.mpr (Ok_mono (LM_fill hW hX.2.2.2.1 N hN _) (fun lk hL => ?_))
      have hL1 : LM lk A B (mk (gE G).length) := fun u hu v => by
        rw [hL u hu v]
        constructor
        · rintro ⟨k, k1, k2⟩
          have hk := k1
          rw [bt_mk (by omega), decide_eq_true_eq] at hk
          refine ⟨k, k1, ?_⟩
          unfold Ev
          rw [(Al k hk).1, (Al k hk).2]; exact k2
        · rintro ⟨k, k1, k2⟩
          have hk := k1
          rw [bt_mk (by omega), decide_eq_true_eq] at hk
          refine ⟨k, k1, ?_⟩
          unfold Ev at k2
          rw [(Al k hk).1, (Al k hk).2] at k2; exact k2
      have tog := LM_tog N (M := mk (gE G).length) (M' := mk ((gE G).length + 1)) hEA (fun j hj2 => by
        rw [bt_mk (by omega), decide_eq_true_eq] at hj2 ⊢
        omega) hL1 (k := (gE G).length) (by rw [bt_mk (by omega)]; exact decide_eq_true (by omega)) (fun j => by
        rw [bt_mk (by omega), bt_mk (by omega)]
        by_cases w : j = (gE G).length
        · rw [w, decide_eq_true (Nat.lt_succ_self _), decide_eq_false (Nat.lt_irrefl _), decide_eq_true rfl]; rfl
        · rw [decide_eq_false w, Bool.xor_false]
          exact decide_eq_decide.mpr (by omega))
      rw [AE, BE] at tog
      refine Ok_bd1.mpr (Ok_mono tog (fun lk2 hL2 => Ok_bd1.mpr (Ok_mono (acc N hN hEA hL2 _ _ _ _ _ _ _ _ _ _ _ _ _ _ _ _) (fun r2 hr2 => Ok_sw.mpr (Ok_bd1.mpr (Ok_mono (X8_lays hW hM N hN _ _ (nI a) (nI b)) (fun e8 he8 => ?_)))))))
      rw [show (1 : Int32).toNatClampNeg = 1 from rfl, hM.2.1, nI_1]
      refine Ok_chk.mpr ⟨by decide, ?_⟩
      refine Ok_bd1.mpr (Ok_mono (pla N hN (hE1 e8.1 e8.2 he8.1 he8.2.1 he8.2.2) _ _ _ _ _ _ _ _ _ _ _ _ _) (fun q8 hq8 => Ok_sw.mpr ?_))
      rw [hr2, hq8]
      refine Ok_ife bI_0 (fun c => ?_) (fun c => ?_)
      · rw [c, if_pos bF0]
        exact Ok_some.mpr (Ok_some.mpr (OK_end rfl ⟨G, n, hs, l, cs, hS, hX, hF, hH, hT, hM, hHM, hTM⟩))
      · rw [Bool.not_eq_false] at c
        rw [c, if_neg bT0]
        exact Ok_some.mpr (Ok_some.mpr (OK_end rfl ⟨G, n, hs, l, cs, hS, hX, hF, hH, hT, hM, hHM, hTM⟩))
end OK5
