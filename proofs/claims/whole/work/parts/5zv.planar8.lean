/-! ===== the reference's test ===== -/
theorem b_511 {i : Nat} (h : i < 9) : bt 511 i = true := (by decide +kernel : ∀ i, i < 9 → bt 511 i = true) i h
section PL8
variable {ea eb : Nat → Int32} {A B : Nat → Nat} {M r : Int32} {e0 : Nat}
theorem X8_canDraw (N : Nat) (hN : 100 < N) (hEE : EE ea eb A B M) (hB : Bk A B M e0 r) (org queue ns ls st : Nat → Int32) (rings : Int32) (path : Nat → Int32) (ps : Int32) (old : Nat → Int32) (last bn bi bf : Int32) :
    Ok (f_X8_canDraw N ea eb org queue ns ls st rings path ps old last bn bi bf r) (fun q => (q.1 = 1 ∧ Pl (gm A B r)) ∨ (q.1 = 0 ∧ ¬ Pl (gm A B r))) := by
  have hEr := EE_sub hEE hB.2.1
  unfold f_X8_canDraw
  refine Ok_bd1.mpr (Ok_mono (X8_low N (by omega) (b_nz.mpr ⟨e0, hB.1⟩)) (fun k0 ⟨e1, he1, hk0⟩ => ?_))
  obtain ⟨e21, x1, x2, a9, b9, ne⟩ := hEr.1 e1 he1
  rw [hk0, nI_clamp (n := e1) (by omega), x1, x2]
  have ie : inb (nI e1) 21 = true := inb_nI e21 (by decide)
  generalize hoth : r &&& (((1 : Int32) <<< (nI e1 &&& 31)) ^^^ (-1)) = oth
  have bo : ∀ k, bt oth k = true ↔ bt r k = true ∧ k ≠ e1 := fun k => by
    rw [← hoth]
    constructor
    · intro z
      have := b_31 z
      rw [b_and, b_not _ this, b_bit (by omega), Bool.and_eq_true, Bool.not_eq_true', decide_eq_false_iff_not] at z
      exact z
    · rintro ⟨z1, z2⟩
      rw [b_and, b_not _ (b_31 z1), b_bit (by omega), z1, decide_eq_false z2]; rfl
  have hEo : EE ea eb A B oth := EE_sub hEr (fun k hk => ((bo k).mp hk).1)
  have bG : ∀ g, bt ((1 : Int32) <<< (nI (B e1) &&& 31)) g = true ↔ g = B e1 := fun g => by rw [b_bit (by omega), decide_eq_true_eq]
  refine Ok_chk.mpr ⟨ie, Ok_chk.mpr ⟨ie, Ok_bd1.mpr (Ok_mono (X8_finds N (by omega) hEo 511 ((1 : Int32) <<< (nI (B e1) &&& 31)) a9 org queue) (fun w hw => Ok_nm.mpr ?_))⟩⟩
  rcases hw with ⟨w1, S, S1, S2, S3⟩ | ⟨g, l, w1, g9, w2, gs, w3, w4, w5, w6⟩
  · rw [if_neg (fun z => z w1)]
    refine Ok_some.mpr (Or.inl ⟨rfl, ?_⟩)
    have cl : ∀ k, bt r k = true → k ≠ e1 → (S (A k) ↔ S (B k)) := fun k k1 k2 => by
      obtain ⟨_, _, _, ak, bk, _⟩ := hEr.1 k k1
      constructor
      · intro z
        exact (S3 (A k) (B k) k ((bo k).mpr ⟨k1, k2⟩) (Or.inl ⟨rfl, rfl⟩) z).resolve_right (fun y => by rw [b_511 bk] at y; cases y.1)
      · intro z
        exact (S3 (B k) (A k) k ((bo k).mpr ⟨k1, k2⟩) (Or.inr ⟨rfl, rfl⟩) z).resolve_right (fun y => by rw [b_511 ak] at y; cases y.1)
    refine Bk_bridge hEE hB he1 (D := fun z => cb (S z)) (fun k k1 k2 => ?_) ?_
    · show cb (S (A k)) = cb (S (B k))
      rw [propext (cl k k1 k2)]
    · show cb (S (A e1)) ≠ cb (S (B e1))
      rw [cb_t.mpr S1]
      intro z
      rcases S2 (B e1) (cb_t.mp z.symm) with y | y
      · exact ne y.symm
      · rw [(bG _).mpr rfl] at y; cases y.2
  · have eg := (bG g).mp w2
    rw [w1, if_pos (nI_m9 (by omega))]
    have pn : (g :: (l ++ [A e1])).Nodup := by
      rw [← List.cons_append]
      refine List.nodup_append.mpr ⟨w4, by simp, fun x hx y hy z => ?_⟩
      rw [List.mem_singleton] at hy
      rcases List.mem_cons.mp hx with k | k
      · exact gs (k.symm.trans (z.trans hy))
      · exact (w5 x k).2.1 (z.trans hy)
    have p9 : ∀ x, x ∈ g :: (l ++ [A e1]) → x < 9 := fun x hx => by
      rcases List.mem_cons.mp hx with k | k
      · rw [k]; exact g9
      · rcases List.mem_append.mp k with k | k
        · exact (w5 x k).1
        · rw [List.mem_singleton] at k; rw [k]; exact a9
    have pl := nd_le 9 _ pn p9
    have el : (g :: (l ++ [A e1])).length = l.length + 2 := by simp
    have ecl : cd (A e1) (B e1) = cd (A e1) g := by rw [eg]
    have off : gm A B oth (cd (A e1) g) = false := by
      cases c : gm A B oth (cd (A e1) g) with
      | false => rfl
      | true =>
        obtain ⟨k, k1, k2⟩ := gm_t.mp c
        exact absurd (hEr.2 k e1 ((bo k).mp k1).1 he1 (k2.symm.trans ecl.symm)) ((bo k).mp k1).2
    have lne : l ≠ [] := fun z => by
      rw [z] at w6
      rw [cd_comm, w6 [] g (A e1) [] rfl] at off; cases off
    have hC : Cy (g :: (l ++ [A e1])) := ⟨pn, by
      rw [el]
      have := List.length_pos_iff.mpr lne
      omega, p9⟩
    have lkr : Lk (gm A B r) (g :: (l ++ [A e1])) := fun a1 x y t e => by
      obtain ⟨k, k1, k2⟩ := gm_t.mp (w6 a1 x y t e)
      exact gm_t.mpr ⟨k, ((bo k).mp k1).1, k2⟩
    have hsb : Sb (cs (g :: (l ++ [A e1]))) (gm A B r) := fun e he => by
      have := Lk_snoc (a := g :: l) (w := A e1) (u := g) (by rw [List.cons_append]; exact lkr) (by rw [← ecl]; exact gm_i e1 he1)
      exact Lk_wk (a := g) (l := (l ++ [A e1]) ++ [g]) (by rw [List.cons_append, List.cons_append] at this; exact this) he
    have tk := X8_take N (org := w.2.1) a9 l g N [] path w3 (fun z => by
      rcases List.mem_cons.mp z with k | k
      · exact gs k.symm
      · exact (w5 _ k).2.1 rfl) (fun x hx => by
      rcases List.mem_cons.mp hx with k | k
      · rw [k]; exact g9
      · exact (w5 x k).1) (fun j hj => absurd hj (Nat.not_lt_zero j)) (by show 0 + l.length + 2 ≤ 10; omega) (by omega)
    unfold f_X8_takesPath
    refine Ok_chk.mpr ⟨ie, Ok_bd1.mpr (Ok_mono tk (fun p ⟨p1, p2⟩ => ?_))⟩
    have p1' : PA p.1 (g :: (l ++ [A e1])) := p1
    have p2' : p.2 = nI (g :: (l ++ [A e1])).length := p2
    rw [p2']
    refine Ok_bd1.mpr (Ok_mono (X8_edgesOf N hN hEr pn p9 p1') (fun ed hed => Ok_nm.mpr ?_))
    refine Ok_bd1.mpr (Ok_mono (X8_nodesOf N (by omega) pn p9 p1') (fun no hno => ?_))
    generalize hdr : ed ||| ((1 : Int32) <<< (nI e1 &&& 31)) = dr
    have bd : ∀ k, bt dr k = true ↔ (bt r k = true ∧ wk g (l ++ [A e1]) (cd (A k) (B k)) = true) ∨ k = e1 := fun k => by
      rw [← hdr, b_or, Bool.or_eq_true, hed, b_bit (by omega), decide_eq_true_eq]
    have hH : gm A B dr = cs (g :: (l ++ [A e1])) := by
      funext e
      show gm A B dr e = wk g ((l ++ [A e1]) ++ [g]) e
      rw [wk_app, lst_snoc]
      show _ = (wk g (l ++ [A e1]) e ^^ (decide (e = cd (A e1) g) ^^ false))
      rw [Bool.xor_false]
      by_cases c : e = cd (A e1) g
      · have z : wk g (l ++ [A e1]) e = false := by
          cases y : wk g (l ++ [A e1]) e with
          | false => rfl
          | true =>
            have := Lk_wk w6 y
            rw [c, off] at this; cases this
        rw [z, decide_eq_true c, c, ← ecl]
        exact gm_t.mpr ⟨e1, (bd e1).mpr (Or.inr rfl), rfl⟩
      · rw [decide_eq_false c, Bool.xor_false]
        cases y : wk g (l ++ [A e1]) e with
        | true =>
          obtain ⟨k, k1, k2⟩ := gm_t.mp (Lk_wk lkr y)
          rw [k2] at y
          exact gm_t.mpr ⟨k, (bd k).mpr (Or.inl ⟨k1, y⟩), k2⟩
        | false =>
          cases x : gm A B dr e with
          | false => rfl
          | true =>
            obtain ⟨k, k1, k2⟩ := gm_t.mp x
            rcases (bd k).mp k1 with z | z
            · rw [k2, z.2] at y; cases y
            · rw [z, ecl] at k2; exact absurd k2 c
    have hD0 := Dm_start (gm_GW hEr) hC hsb
    have hE0 := Eu_start hC
    rw [← hH] at hD0 hE0
    have hnd : ∀ x, bt no x = true ↔ VH (gm A B dr) x := fun x => by rw [hno, hH, VH_cs hC]
    have hsubd : ∀ k, bt dr k = true → bt r k = true := fun k hk => by
      rcases (bd k).mp hk with z | z
      · exact z.1
      · rw [z]; exact he1
    -- the two rings
    have rin : ∀ (n i : Nat) (ns ls st : Nat → Int32), i ≤ 2 → 2 - i < n → (∀ k, k < i → RR 10 ns ls st k (g :: (l ++ [A e1]))) → Ok (f_X8_canDraw_b78 N ea eb n r dr no (nI i) w.2.1 w.2.2 ns ls st 2 p.1 (nI (g :: (l ++ [A e1])).length) old last bn bi bf) (fun q => (q.1 = 1 ∧ Pl (gm A B r)) ∨ (q.1 = 0 ∧ ¬ Pl (gm A B r))) := by
      intro n
      induction n with
      | zero => intro i _ _ _ _ z; omega
      | succ n ih =>
        intro i ns ls st hi hm hR
        simp only [f_X8_canDraw_b78]
        refine Ok_ife (nI_leI (a := 2) (b := i) (by omega) (by omega)) (fun c => ?_) (fun c => ?_)
        · have e2 : i = 2 := by omega
          rw [e2] at hR
          exact X8_drawL N hN N dr no 2 (fun _ => g :: (l ++ [A e1])) _ _ ns ls st _ _ old last bn bi bf ⟨hEE, hB, hD0, by decide, hsubd, (bd e1).mpr (Or.inr rfl), hnd, fun k hk x => (hR k hk).2.2 x⟩ hE0 hR (by omega)
        · refine Ok_bd1.mpr (Ok_mono (X8_begins N ns ls st (k := i) (by omega)) (fun b ⟨b1, b2⟩ => ?_))
          have lp : ∀ (m j : Nat) (ns' ls' st' : Nat → Int32), j ≤ (g :: (l ++ [A e1])).length → (g :: (l ++ [A e1])).length - j < m → RR 10 ns' ls' st' i ((g :: (l ++ [A e1])).take j) → (∀ k, k < i → RR 10 ns' ls' st' k (g :: (l ++ [A e1]))) → Ok (f_X8_canDraw_b93 N ea eb (f_X8_canDraw_b78 N ea eb n) m r dr no (nI i) (nI j) w.2.1 w.2.2 ns' ls' st' 2 p.1 (nI (g :: (l ++ [A e1])).length) old last bn bi bf) (fun q => (q.1 = 1 ∧ Pl (gm A B r)) ∨ (q.1 = 0 ∧ ¬ Pl (gm A B r))) := by
            intro m
            induction m with
            | zero => intro j _ _ _ _ z; omega
            | succ m ihm =>
              intro j ns' ls' st' hj hmm h1 h2
              simp only [f_X8_canDraw_b93, f_X8_canDraw_b121]
              refine Ok_ife (nI_leI (by omega) (by omega)) (fun c2 => ?_) (fun c2 => ?_)
              · rw [nI_1]
                rw [List.take_of_length_le c2] at h1
                refine ih (i + 1) ns' ls' st' (by omega) (by omega) (fun k hk => ?_)
                rcases Nat.lt_or_ge k i with y | y
                · exact h2 k y
                · rw [show k = i by omega]; exact h1
              · have hj2 : j < (g :: (l ++ [A e1])).length := by omega
                have x9 := p9 _ (gD_mem hj2)
                rw [nI_1, nI_clamp (n := j) (by omega), p1' j hj2]
                refine Ok_chk.mpr ⟨inb_nI (by omega) (by decide), Ok_bd1.mpr (Ok_mono (X8_adds N (by omega) h1 (by rw [List.length_take]; omega) x9) (fun z ⟨z1, z2⟩ => ?_))⟩
                rw [← tk_succ hj2] at z1
                exact ihm (j + 1) z.1 z.2.1 z.2.2 (by omega) (by omega) z1 (fun k hk => z2 k _ (by omega) (by omega) (h2 k hk))
          exact lp N 0 ns b.1 b.2 (Nat.zero_le _) (by omega) (by rw [List.take_zero]; exact b1) (fun k hk => b2 k _ (by omega) (by omega) (hR k hk))
    exact rin N 0 ns ls st (by omega) (by omega) (fun k hk => by omega)
theorem X8_planar (N : Nat) (hN : 100 < N) (hE : EE ea eb A B M) (org queue ns ls st : Nat → Int32) (rings : Int32) (path : Nat → Int32) (ps : Int32) (old : Nat → Int32) (last bn bi bf : Int32) :
    Ok (f_X8_planar N ea eb org queue ns ls st rings path ps old last bn bi bf M) (fun q => (q.1 = 1 ∧ Pl (gm A B M)) ∨ (q.1 = 0 ∧ ¬ Pl (gm A B M))) := by
  unfold f_X8_planar
  have lp : ∀ (n : Nat) (left x3 : Int32) (org queue ns ls st : Nat → Int32) (rings : Int32) (path : Nat → Int32) (ps : Int32) (old : Nat → Int32) (last bn bi bf : Int32), (∀ k, bt left k = true → bt M k = true) → ((x3 = 1 ∧ (Pl (gm A B left) → Pl (gm A B M))) ∨ (x3 = 0 ∧ ¬ Pl (gm A B M))) → fb_ct (bt left) 21 < n → Ok (f_X8_planar_b4 N ea eb n M left x3 org queue ns ls st rings path ps old last bn bi bf) (fun q => (q.1 = 1 ∧ Pl (gm A B M)) ∨ (q.1 = 0 ∧ ¬ Pl (gm A B M))) := by
    intro n
    induction n with
    | zero => intro _ _ _ _ _ _ _ _ _ _ _ _ _ _ _ _ _ z; omega
    | succ n ih =>
      intro left x3 org queue ns ls st rings path ps old last bn bi bf hs hx hm
      simp only [f_X8_planar_b4]
      have isb : isB x3 = true := by rcases hx with z | z <;> rw [z.1] <;> decide
      refine Ok_ite.mpr ⟨fun c => Ok_chk.mpr ⟨isb, Ok_some.mpr ?_⟩, fun c => Ok_ite.mpr ⟨fun c2 => Ok_chk.mpr ⟨isb, Ok_some.mpr ?_⟩, fun c2 => ?_⟩⟩
      · rcases hx with z | z
        · refine Or.inl ⟨z.1, z.2 (Pl_no (fun X h1 _ e => ?_))⟩
          cases y : X e with
          | false => rfl
          | true =>
            obtain ⟨k, k1, _⟩ := gm_t.mp (h1 e y)
            rw [c, b_0] at k1; cases k1
        · exact Or.inr z
      · rcases hx with z | z
        · rw [z.1] at c2; exact absurd c2 i10
        · exact Or.inr z
      · have hx1 : x3 = 1 ∧ (Pl (gm A B left) → Pl (gm A B M)) := hx.resolve_right (fun z => c2 z.1)
        refine Ok_bd1.mpr (Ok_mono (X8_low N (by omega) c) (fun k0 ⟨e, e1, e2⟩ => ?_))
        rw [e2]
        have eM := hs e e1
        refine Ok_bd1.mpr (Ok_mono (X8_block N hN hE eM) (fun r hB => ?_))
        refine Ok_bd1.mpr (Ok_mono (X8_canDraw N hN hE hB org queue ns ls st rings path ps old last bn bi bf) (fun q hq => Ok_nm.mpr (Ok_nm.mpr ?_)))
        generalize hl : left &&& (r ^^^ (-1)) = left'
        have bl : ∀ k, bt left' k = true ↔ bt left k = true ∧ bt r k = false := fun k => by
          rw [← hl]
          constructor
          · intro z
            have := b_31 z
            rw [b_and, b_not _ this, Bool.and_eq_true, Bool.not_eq_true'] at z
            exact z
          · rintro ⟨z1, z2⟩
            rw [b_and, b_not _ (b_31 z1), z1, z2]; rfl
        have hlt : fb_ct (bt left') 21 < fb_ct (bt left) 21 := ct_lt (fun j _ hj => ((bl j).mp hj).1) (hE.1 e eM).1 (by
          cases z : bt left' e with
          | false => rfl
          | true => have := ((bl e).mp z).2; rw [hB.1] at this; cases this) e1
        refine ih left' q.1 _ _ _ _ _ _ _ _ _ _ _ _ _ (fun k hk => hs k ((bl k).mp hk).1) ?_ (by omega)
        rcases hq with ⟨q1, q2⟩ | ⟨q1, q2⟩
        · refine Or.inl ⟨q1, fun hp => hx1.2 ?_⟩
          have lM : ∀ e, gm A B left e = true → gm A B M e = true := fun e he => by
            obtain ⟨k, k1, k2⟩ := gm_t.mp he
            exact gm_t.mpr ⟨k, hs k k1, k2⟩
          refine Pl_sum (A := fun e => gm A B left e && gm A B r e) (fun e he => by rw [Bool.and_eq_true] at he; exact he.1) (fun X h1 h2 => ?_) (Pl_del (fun e he => by rw [Bool.and_eq_true] at he; exact he.2) q2) (Pl_cong (fun e => ?_) hp)
          · refine ev_cong (fun e => ?_) (Bk_sep hE hB (fun e he => lM e (h1 e he)) h2)
            show (X e && gm A B r e) = (X e && (gm A B left e && gm A B r e))
            cases y : X e with
            | false => rfl
            | true => rw [h1 e y]; rfl
          · show gm A B left' e = (gm A B left e && !(gm A B left e && gm A B r e))
            cases y : gm A B left e with
            | false =>
              cases z : gm A B left' e with
              | false => rfl
              | true =>
                obtain ⟨k, k1, k2⟩ := gm_t.mp z
                rw [gm_t.mpr ⟨k, ((bl k).mp k1).1, k2⟩] at y; cases y
            | true =>
              obtain ⟨k, k1, k2⟩ := gm_t.mp y
              rw [Bool.true_and, Bool.true_and]
              cases z : gm A B r e with
              | true =>
                cases x : gm A B left' e with
                | false => rfl
                | true =>
                  obtain ⟨k', k3, k4⟩ := gm_t.mp x
                  obtain ⟨k'', k5, k6⟩ := gm_t.mp z
                  have := hE.2 k' k'' (hs k' ((bl k').mp k3).1) (hB.2.1 k'' k5) (k4.symm.trans k6)
                  have y2 := ((bl k').mp k3).2
                  rw [this, k5] at y2; cases y2
              | false =>
                refine gm_t.mpr ⟨k, (bl k).mpr ⟨k1, ?_⟩, k2⟩
                cases x : bt r k with
                | false => rfl
                | true => rw [gm_t.mpr ⟨k, x, k2⟩] at z; cases z
        · refine Or.inr ⟨q1, fun hp => q2 (Pl_del (fun e he => ?_) hp)⟩
          obtain ⟨k, k1, k2⟩ := gm_t.mp he
          exact gm_t.mpr ⟨k, hB.2.1 k k1, k2⟩
  have := fb_ct_le (bt M) 21
  exact lp N M 1 org queue ns ls st rings path ps old last bn bi bf (fun k z => z) (Or.inl ⟨rfl, id⟩) (by omega)
end PL8
