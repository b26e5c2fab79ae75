/-! ===== one step of drawing, as both do it ===== -/
theorem Frg_off {G H : Nat → Bool} {ins en : Int32} (hF : Frg G H ins en) {x : Nat} (hx : bt ins x = true) : x < 9 ∧ ¬ VH H x := by
  rcases hF with ⟨h0, _⟩ | ⟨_, v, v9, vo, hi, _⟩
  · rw [h0, b_0] at hx; cases hx
  · exact ⟨rc_lt v9 ((hi x).mp hx), rc_off vo ((hi x).mp hx)⟩
theorem Frg_VH {G H : Nat → Bool} {ins en : Int32} (hF : Frg G H ins en) {x : Nat} (hx : bt en x = true) : VH H x := by
  rcases hF with ⟨_, a, b, _, _, _, va, vb, _, _, h⟩ | ⟨_, v, _, _, _, h, _⟩
  · rcases (h x).mp hx with q | q <;> rw [q] <;> assumption
  · exact ((h x).mp hx).1
/-- the ends of an edge of a piece are the piece's -/
theorem Frg_En {G H : Nat → Bool} (hG : GW G) {ins en : Int32} (hF : Frg G H ins en) {a b : Nat} {m : List Nat} (hab : a ≠ b) (ha : bt en a = true) (hb : bt en b = true) (hn : (a :: (m ++ [b])).Nodup) (h9 : ∀ y, y ∈ a :: (m ++ [b]) → y < 9) (hmi : ∀ x, x ∈ m → bt ins x = true) (hP : ∀ e, wk a (m ++ [b]) e = true → G e = true) (hmn : ¬ ins = 0 → m ≠ []) {e : Nat} (he : wk a (m ++ [b]) e = true) (c : Nat) : En G H e c ↔ bt en c = true := by
  have a9 := h9 a (by simp)
  have b9 := h9 b (by simp)
  rcases wk_inner m a hn h9 he with ⟨q1, q2⟩ | ⟨x, x1, x2⟩
  · rcases hF with ⟨h0, a', b', a1, b1, hab', va, vb, hg, hh, h⟩ | ⟨h0, _⟩
    · have on : ∀ y, inc y e = true ↔ y = a ∨ y = b := fun y => by
        rw [q2, inc_cd a9 b9]
        by_cases w : y = a
        · rw [decide_eq_true w, decide_eq_false (fun z => hab (w.symm.trans z))]; exact ⟨fun _ => Or.inl w, fun _ => rfl⟩
        · rw [decide_eq_false w, Bool.false_xor, decide_eq_true_eq]; exact ⟨Or.inr, fun z => z.resolve_left w⟩
      have va' : VH H a := Frg_VH (Or.inl ⟨h0, a', b', a1, b1, hab', va, vb, hg, hh, h⟩) ha
      have vb' : VH H b := Frg_VH (Or.inl ⟨h0, a', b', a1, b1, hab', va, vb, hg, hh, h⟩) hb
      have key : bt en c = true ↔ c = a ∨ c = b := by
        rw [h]
        have k1 := (h a).mp ha
        have k2 := (h b).mp hb
        omega
      rw [key]
      constructor
      · intro z
        exact (on c).mp (En_edge (fun y hy => by
          rcases (on y).mp hy with w | w
          · rw [w]; exact va'
          · rw [w]; exact vb') z)
      · rintro (z | z)
        · rw [z]; exact ⟨va', Or.inl ((on a).mpr (Or.inl rfl))⟩
        · rw [z]; exact ⟨vb', Or.inl ((on b).mpr (Or.inr rfl))⟩
    · exact absurd q1 (hmn h0)
  · rcases hF with ⟨h0, _⟩ | ⟨_, v, v9, vo, hi, hen, _⟩
    · have := hmi x x1
      rw [h0, b_0] at this; cases this
    · rw [hen, En_part hG v9 vo ((hi x).mp (hmi x x1)) (hP e he) x2]
theorem Dm_go {G H : Nat → Bool} {nr : Nat} {rg : Nat → List Nat} (hD : Dm G H nr rg) (hE : Eu H nr rg) {ins en : Int32} (hF : Frg G H ins en) {f : Nat} (hf : f < nr) (hfit : ∀ c, bt en c = true → c ∈ rg f) (hR : (∃ k, k < nr ∧ k ≠ f ∧ ∀ c, bt en c = true → c ∈ rg k) → CRule G H nr rg) {a b : Nat} {m : List Nat} (hab : a ≠ b) (ha : bt en a = true) (hb : bt en b = true) (hm : m.Nodup) (hmi : ∀ x, x ∈ m → bt ins x = true) (hL : Lk G (a :: (m ++ [b]))) (hmn : ¬ ins = 0 → m ≠ []) :
    ∃ u v s t, rg f = u ++ a :: v ∧ v ++ u = s ++ b :: t ∧ Sp H nr rg f a b s t m ∧ Dm G (xs H (wk a (m ++ [b]))) (nr + 1) (rgN nr rg f a b s t m) ∧ Eu (xs H (wk a (m ++ [b]))) (nr + 1) (rgN nr rg f a b s t m) := by
  obtain ⟨u, v, e1⟩ := List.append_of_mem (hfit a ha)
  have hb2 : b ∈ v ++ u := by
    have := hfit b hb
    rw [e1] at this
    rcases List.mem_append.mp this with q | q
    · exact List.mem_append_right _ q
    · rcases List.mem_cons.mp q with q | q
      · exact absurd q.symm hab
      · exact List.mem_append_left _ q
  obtain ⟨s, t, e2⟩ := List.append_of_mem hb2
  have hS : Sp H nr rg f a b s t m := by
    refine ⟨hf, ⟨u, a :: v, e1, by rw [List.cons_append, e2]⟩, hm, fun x hx => Frg_off hF (hmi x hx), fun q => ?_⟩
    rcases hF with ⟨h0, a', b', a1, b1, hab', va, vb, hg, hh, h⟩ | ⟨h0, _⟩
    · rcases (h a).mp ha with w1 | w1 <;> rcases (h b).mp hb with w2 | w2
      · exact absurd (w1.trans w2.symm) hab
      · rw [w1, w2]; exact hh
      · rw [w1, w2, cd_comm]; exact hh
      · exact absurd (w1.trans w2.symm) hab
    · exact absurd q (hmn h0)
  have hP : ∀ e, wk a (m ++ [b]) e = true → G e = true := fun e he => Lk_wk hL he
  obtain ⟨hn, h9⟩ := Sp_P hD.2.1 hS
  have key := fun {e : Nat} (he : wk a (m ++ [b]) e = true) (c : Nat) => Frg_En hD.1 hF hab ha hb hn h9 hmi hP hmn he c
  refine ⟨u, v, s, t, e1, e2, hS, Dm_step hD hS hP (fun e he c hc => hfit c ((key he c).mp hc)) (fun ⟨k, k1, k2, k3⟩ => hR ⟨k, k1, k2, fun c hc => ?_⟩), Eu_step hD.2.1 hS hE⟩
  obtain ⟨e1, g1, _, _⟩ := En_path (H := H) (c := a) hD.1 m a hn h9 (fun x hx => (Frg_off hF (hmi x hx)).2) hP
  exact k3 e1 g1 c ((key g1 c).mpr hc)
/-- where the chosen piece has two rings, every piece has -/
theorem Cv_rule {G H : Nat → Bool} {nr : Nat} {rg : Nat → List Nat} {st : Nat → Int32} (hst : ∀ k, k < nr → ∀ x, bt (st k) x = decide (x ∈ rg k)) {en ch : Int32} (hch : ch = nI (ft st en nr)) (hnr : nr < 1000) {f : Nat} (hf : f < nr) (hfit : ∀ c, bt en c = true → c ∈ rg f) (hC : ∀ e, G e = true → H e = false → (∃ a b, a ≠ b ∧ En G H e a ∧ En G H e b) → Cv G H st nr en ch e) (hk : ∃ k, k < nr ∧ k ≠ f ∧ ∀ c, bt en c = true → c ∈ rg k) : CRule G H nr rg := by
  obtain ⟨k, k1, k2, k3⟩ := hk
  have fits : ∀ {C : Int32} {j : Nat}, j < nr → ((C &&& (st j ^^^ (-1))) = 0 ↔ ∀ c, bt C c = true → c ∈ rg j) := fun {C j} hj => by
    rw [fit_iff]
    exact ⟨fun q c hc => by have := q c hc; rw [hst j hj] at this; exact of_decide_eq_true this, fun q c hc => by rw [hst j hj]; exact decide_eq_true (q c hc)⟩
  have two : 2 ≤ ft st en nr := by
    have := ct_list (p := fun j => decide ((en &&& (st j ^^^ (-1))) = 0)) (n := nr) (l := [f, k]) (by simp [Ne.symm k2]) (fun y hy => by
      simp only [List.mem_cons, List.not_mem_nil, or_false] at hy
      rcases hy with z | z
      · rw [z]; exact ⟨hf, decide_eq_true ((fits hf).mpr hfit)⟩
      · rw [z]; exact ⟨k1, decide_eq_true ((fits k1).mpr k3)⟩)
    exact this
  intro e he heH a b hab ha hb
  obtain ⟨_, C, m, c1, c2, c3, c4⟩ := hC e he heH ⟨a, b, hab, ha, hb⟩
  have hle : ft st en nr ≤ nr := fb_ct_le _ _
  have em : m = ft st en nr := (nI_eq (by omega) (by omega)).mp (c2.symm.trans hch)
  obtain ⟨j1, j2, w1, w2, w3, w4, w5⟩ := ct_two (p := fun j => decide ((C &&& (st j ^^^ (-1))) = 0)) (n := nr) (by show 2 ≤ ft st C nr; omega)
  refine ⟨j1, j2, w2, w3, w1, fun c hc => ⟨(fits w2).mp (of_decide_eq_true w4) c ((c1 c).mpr hc), (fits w3).mp (of_decide_eq_true w5) c ((c1 c).mpr hc)⟩⟩
theorem VH_xs {H : Nat → Bool} {nr : Nat} {rg : Nat → List Nat} {f a b : Nat} {s t m : List Nat} (hI : Iv H nr rg) (hS : Sp H nr rg f a b s t m) (x : Nat) : VH (xs H (wk a (m ++ [b]))) x ↔ VH H x ∨ x ∈ a :: (m ++ [b]) := by
  rw [Sp_VH hI hS]
  have L := Sp_L hI hS
  constructor
  · rintro (q | q)
    · exact Or.inl q
    · exact Or.inr (List.mem_cons_of_mem _ (List.mem_append_left _ q))
  · rintro (q | q)
    · exact Or.inl q
    · rcases List.mem_cons.mp q with q | q
      · rw [q]; exact Or.inl (L.2.2.2 a ((L.2.2.1 a).mpr List.mem_cons_self))
      · rcases List.mem_append.mp q with q | q
        · exact Or.inr q
        · rw [List.mem_singleton] at q
          rw [q]; exact Or.inl (L.2.2.2 b ((L.2.2.1 b).mpr (by simp)))
/-! ===== the class sketches a block ===== -/
theorem Frg_en {rest : Nat → Int32} {H : Nat → Bool} (hVH : ∀ x, VH H x → x < 9) {ins en : Int32} (hF : Frg (gx rest) H ins en) : (∀ c, bt en c = true → c < 9) ∧ ∃ a b, a ≠ b ∧ bt en a = true ∧ bt en b = true := by
  rcases hF with ⟨_, a, b, a1, b1, hab, _, _, _, _, h⟩ | ⟨_, v, _, _, _, h, h2⟩
  · refine ⟨fun c hc => ?_, a, b, hab, (h a).mpr (Or.inl rfl), (h b).mpr (Or.inr rfl)⟩
    rcases (h c).mp hc with q | q <;> rw [q] <;> assumption
  · exact ⟨fun c hc => hVH c ((h c).mp hc).1, h2⟩
theorem X4_sketchL (N : Nat) (hN : 30 < N) {rest : Nat → Int32} : ∀ (n : Nat) (H : Nat → Bool) (nr : Nat) (rg : Nat → List Nat) (sk : Nat → Int32) (pl : Int32) (ns ls st old path : Nat → Int32) (len : Int32) (queue org : Nat → Int32) (ins en rn ch : Int32), SkI rest sk pl st H nr rg → Eu H nr rg → (∀ k, k < nr → RR 9 ns ls st k (rg k)) → 15 - nr < n →
    Ok (f_X4_sketchBlock_b9 N rest n (nI nr) sk pl (nI nr) ns ls st old path len queue org ins en rn ch) (fun r => (r.1 = 0 ∧ ¬ Pl (gx rest)) ∨ (r.1 = 1 ∧ ∃ H', Sk r.2.1 H' ∧ Sb H H' ∧ Sb H' (gx rest) ∧ (Pl (gx rest) ↔ Pl (fun e => gx rest e && !H' e)))) := by
  intro n
  induction n with
  | zero => intro _ nr; omega
  | succ n ih =>
    intro H nr rg sk pl ns ls st old path len queue org ins en rn ch hI hE hRR hm
    have hI' := hI
    obtain ⟨hS, hD, hnr, hSk, hpl, hst⟩ := hI'
    simp only [f_X4_sketchBlock_b9]
    refine Ok_ife (nI_leI (a := 15) (b := nr) (by omega) (by omega)) (fun c => absurd c (by omega)) (fun _ => ?_)
    refine Ok_bd1.mpr (Ok_mono (X4_wEdges N hN hI ins rn ch) (fun g hg => ?_))
    rcases hg with ⟨g1, g2⟩ | ⟨g1, g2, g3⟩
    · rw [if_pos g1]
      exact Ok_some.mpr (Or.inl ⟨rfl, g2⟩)
    rw [if_neg (by rw [g1]; exact i10)]
    refine Ok_bd1.mpr (Ok_mono (X4_choose N hN hI g2 g3) (fun r hr => ?_))
    rcases hr with ⟨r1, r2⟩ | ⟨r1, r2, r3⟩
    · rw [if_neg (fun q => q r1)]
      exact Ok_some.mpr (Or.inl ⟨rfl, r2⟩)
    · rw [if_pos (by rw [r1]; exact i10)]
      have en9 : ∀ b, bt r.2.2.1 b = true → b < 20 := fun b hb => by
        rcases r2 with q | ⟨_, _, hF⟩
        · rw [q, b_0] at hb; cases hb
        · have := (Frg_en (fun x hx => VH_lt hD.2.1 hx) hF).1 b hb
          omega
      rw [J6_bit20 N en9]
      refine Ok_bd1.mpr (Ok_some.mpr (Ok_ife (nI_leI (a := 2) (by omega) (by have := fb_ct_le (bt r.2.2.1) 20; omega)) (fun c0 => ?_) (fun c0 => ?_)))
      · have c : ¬ r.2.2.1 = 0 := fun q => by
          have : fb_ct (bt r.2.2.1) 20 = 0 := fb_ct_zero.mpr (fun k _ => by rw [q, b_0])
          omega
        obtain ⟨w1, ⟨f, f1, f2, f3⟩, hF⟩ := r2.resolve_left c
        have hfit : ∀ x, bt r.2.2.1 x = true → x ∈ rg f := fun x hx => by
          have := fit_iff.mp f3 x hx
          rw [hst f f1] at this
          exact of_decide_eq_true this
        refine Ok_bd1.mpr (Ok_mono (X4_findPath N hN hS (fun x hx => VH_lt hD.2.1 hx) hF path len queue org) (fun p hp => ?_))
        obtain ⟨a, b, m, p1, p2, p3, p4, p5, p6, p7, p8, p9⟩ := hp
        obtain ⟨u, v, s, t, e1, e2, hSp, hD2, hE2⟩ := Dm_go hD hE hF f1 hfit (fun hk => Cv_rule hst w1 (by omega) f1 hfit r3 hk) p3 p4 p5 p6 p7 p8 p9
        have hC := Sp_Cy hD.2.1 hSp
        obtain ⟨pn, pl9⟩ := Sp_P hD.2.1 hSp
        rw [p2, f2]
        refine Ok_bd1.mpr (Ok_mono (X4_split N hN p1 ns ls st old hD.2.1.1 hRR f1 hnr e1 e2 hC.1 hC.2) (fun q hq => ?_))
        have el : m.length + 2 = (m ++ [b]).length + 1 := by rw [List.length_append]; rfl
        rw [el]
        refine Ok_bd1.mpr (Ok_mono (X4_draw N hN pn pl9 p1 hSk pl) (fun d hd => ?_))
        rw [nI_1, hq.1]
        have le2 := Eu_le hD2.2.1 hE2
        refine Ok_mono (ih (xs H (wk a (m ++ [b]))) (nr + 1) (rgN nr rg f a b s t m) d.1 d.2 q.2.1 q.2.2.1 q.2.2.2.1 q.2.2.2.2 p.1 _ p.2.2.1 p.2.2.2 r.2.1 r.2.2.1 _ r.2.2.2.2 ⟨hS, hD2, le2, hd.1, fun x => ?_, fun k hk x => (hq.2 k hk).2.2 x⟩ hE2 hq.2 (by omega)) (fun z hz => ?_)
        · rw [hd.2, Bool.or_eq_true, decide_eq_true_eq, hpl, VH_xs hD.2.1 hSp]
        · rcases hz with z1 | ⟨z1, H', z2, z3, z4, z5⟩
          · exact Or.inl z1
          · refine Or.inr ⟨z1, H', z2, fun e he => z3 e ?_, z4, z5⟩
            show (H e ^^ wk a (m ++ [b]) e) = true
            cases w : wk a (m ++ [b]) e with
            | false => rw [he]; rfl
            | true => rw [Sp_off hD.2.1 hSp w] at he; cases he
      · have c : r.2.2.1 = 0 := by
          rcases r2 with q | ⟨_, _, hF⟩
          · exact q
          · obtain ⟨a, b, w1, w2, w3⟩ := (Frg_en (fun x hx => VH_lt hD.2.1 hx) hF).2
            have := ct_list (p := bt r.2.2.1) (n := 20) (l := [a, b]) (by simp [w1]) (fun y hy => by
              simp only [List.mem_cons, List.not_mem_nil, or_false] at hy
              rcases hy with z | z
              · rw [z]; exact ⟨en9 a w2, w2⟩
              · rw [z]; exact ⟨en9 b w3, w3⟩)
            exact absurd this c0
        refine Ok_some.mpr (Or.inr ⟨rfl, H, hSk, fun e he => he, hD.2.2.1, Dm_end hD (fun e he heH a b ha hb => ?_)⟩)
        refine Classical.byContradiction (fun q => ?_)
        exact (r3 e he heH ⟨a, b, q, ha, hb⟩).1 c
theorem X4_sketch (N : Nat) (hN : 30 < N) {rest : Nat → Int32} (hS : Sy rest) {l : List Nat} (hC : Cy l) (hs : Sb (cs l) (gx rest)) {p : Nat → Int32} (hp : PA p l) (sk : Nat → Int32) (pl rings : Int32) (ns ls st old : Nat → Int32) (queue org : Nat → Int32) (ins en rn ch : Int32) :
    Ok (f_X4_sketchBlock N rest sk pl rings ns ls st old p (nI l.length) queue org ins en rn ch) (fun r => (r.1 = 0 ∧ ¬ Pl (gx rest)) ∨ (r.1 = 1 ∧ ∃ H', Sk r.2.1 H' ∧ Sb (cs l) H' ∧ Sb H' (gx rest) ∧ (Pl (gx rest) ↔ Pl (fun e => gx rest e && !H' e)))) := by
  unfold f_X4_sketchBlock
  refine Ok_bd1.mpr (Ok_mono (X4_start N hN hC hp sk pl rings ns ls st) (fun r hr => Ok_nm.mpr ?_))
  obtain ⟨h1, h2, h3, h4⟩ := hr
  rw [h3]
  exact X4_sketchL N hN N (cs l) 2 (fun _ => l) r.1 r.2.1 _ _ _ old p _ queue org ins en rn ch ⟨hS, Dm_start (gx_GW rest) hC hs, by decide, h1, fun x => by rw [h2, VH_cs hC, decide_eq_true_eq], fun k hk x => (h4 k hk).2.2 x⟩ (Eu_start hC) h4 (by omega)
