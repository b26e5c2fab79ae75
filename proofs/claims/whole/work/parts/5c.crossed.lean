/-! ===== crossed ===== -/
theorem lpV {σ β : Type} {Q : β → Prop} (F : Nat → Nat → σ → Option β) (I : Nat → σ → Prop) (m : Nat) (hx : ∀ n s, I m s → Ok (F (n + 1) m s) Q) (hs : ∀ n i s, 0 < n → i < m → I i s → (∀ s', I (i + 1) s' → Ok (F n (i + 1) s') Q) → Ok (F (n + 1) i s) Q) : ∀ n i s, i ≤ m → m - i < n → I i s → Ok (F n i s) Q := by
  intro n
  induction n with
  | zero => intro i s _ h; omega
  | succ n ih =>
    intro i s h1 h2 h3
    rcases Nat.eq_or_lt_of_le h1 with rfl | h4
    · exact hx n s h3
    · exact hs n i s (by omega) h4 h3 (fun s' h5 => ih (i + 1) s' h4 (by omega) h5)
section CROSSED
variable {G : Gr} {b : Nat}
theorem X8_cross1 (hW : WF G) {s : Nat → Int32} (hR : RM G s) {fo fs : Nat → Int32} {nf : Int32} (hb : RF G fo fs nf) (N : Nat) (hN : 100 < N) {far : Nat → Int32} (hL : LK G b far) {P : Nat → Prop} {lf : Nat} (hlf : lf < 20) (hP : PF G b P lf) {now : Int64} (hnow : ∀ f, bl now f = true ↔ P f) (x3 x8 : Int32)
    (k110 : Int32 → Int32 → Int64 → Int32 → Int32 → (Nat → Int32) → (Nat → Int32) → Int32 → (Nat → Int32) → Option (Int32 × (Nat → Int32) × (Nat → Int32) × Int32 × (Nat → Int32))) (Q : Int32 × (Nat → Int32) × (Nat → Int32) × Int32 × (Nat → Int32) → Prop)
    (hQ : ∀ th : Int64, (∀ f, bl th f = true ↔ cn G b P lf f) → Ok (k110 x3 (nI lf) th (nI (ce G b P lf)) (x8 + 1) fo fs nf far) Q) :
    Ok (f_X8_crossed_b129 N s k110 N x3 (nI lf) now (-9) x8 0 0 fo fs nf far) Q := by
  have h20 := hW.2.2.1
  have hnf := nF_20 hW
  have hP2 : ∀ f, P f → f < nF G := fun f hf => rch_lt hW (hP.1 f hf).1
  have hnow40 : ∀ f, bl now f = true → f < 40 := fun f hf => by have := hP2 f ((hnow f).mp hf); omega
  have hfar : ∀ f, f < nF G → (far f = nI lf ↔ rch G b f ∧ dst G b f = lf) := by
    intro f hf
    obtain ⟨l1, l2⟩ := hL f hf
    by_cases c : rch G b f
    · have := dst_le hW c
      rw [l1 c, nI_eq (by omega) (by omega)]
      exact ⟨fun q => ⟨c, q⟩, fun q => q.2⟩
    · rw [l2 c, nI_eq (by omega) (by omega)]
      exact ⟨fun q => by omega, fun q => absurd q.1 c⟩
  have z0 : (0 : Int64) ||| 0 = 0 := by decide
  refine lpV (σ := Unit) (fun n i _ => f_X8_crossed_b129 N s k110 n x3 (nI lf) now (-9) x8 0 (nI i) fo fs nf far) (fun i _ => ∀ e, e < i → ¬ gd G b P lf e) (gE G).length ?_ ?_ N 0 () (Nat.zero_le _) (by omega) (fun e he => absurd he (Nat.not_lt_zero e))
  · intro n _ hI
    obtain ⟨⟨c1, c2⟩, -⟩ := ce_sp hW hP
    exact absurd c2 (hI _ c1)
  · intro n i _ hn0 hi hI ih
    have hd0 : 2 * i < 2 * (gE G).length := by omega
    have hd1 : 2 * i + 1 < 2 * (gE G).length := by omega
    have l0 := lab_lt hW hd0
    have l1 := lab_lt hW hd1
    have hnle : ¬ nI (gE G).length ≤ nI i := by rw [nI_leI (by omega) (by omega)]; omega
    have t0 := l_test hnow40 (k := lab G (2 * i)) (by omega)
    have t1 := l_test hnow40 (k := lab G (2 * i + 1)) (by omega)
    have u0 := hfar _ l0
    have u1 := hfar _ l1
    have i0 : inb (nI (lab G (2 * i))) 40 = true := inb_nI (by omega) (by decide)
    have i1 : inb (nI (lab G (2 * i + 1))) 40 = true := inb_nI (by omega) (by decide)
    simp only [f_X8_crossed_b129]
    rw [show (1 : Int32).toNatClampNeg = 1 from rfl, hR.2.1, if_neg hnle, if_neg (fun q => q trivial : ¬ ¬ True), two_nI, nI_1, nI_clamp (n := 2 * i) (by omega), nI_clamp (n := 2 * i + 1) (by omega), hb.1 _ hd0, hb.1 _ hd1]
    refine Ok_chk.mpr ⟨by decide, Ok_chk.mpr ⟨inb_nI (by omega) (by decide), Ok_nm.mpr (Ok_chk.mpr ⟨inb_nI (by omega) (by decide), Ok_nm.mpr ?_⟩)⟩⟩
    rw [nI_clamp (n := lab G (2 * i + 1)) (by omega)]
    -- behind the test of both sides
    have go : ∀ y1 : Int64, (y1 = 0 ∧ ¬ (P (lab G (2 * i)) ∧ rch G b (lab G (2 * i + 1)) ∧ dst G b (lab G (2 * i + 1)) = lf)) ∨ ((∀ f, bl y1 f = true ↔ f = lab G (2 * i + 1)) ∧ P (lab G (2 * i)) ∧ rch G b (lab G (2 * i + 1)) ∧ dst G b (lab G (2 * i + 1)) = lf) →
        Ok (f_X8_crossed_b205 N s k110 (f_X8_crossed_b129 N s k110 n) x3 (nI lf) now x8 (nI i) (nI (lab G (2 * i))) (nI (lab G (2 * i + 1))) 0 y1 fo fs nf far) Q := by
      intro y1 hy
      have fin : ∀ th : Int64, th ≠ 0 → gd G b P lf i → (∀ f, bl th f = true ↔ cn G b P lf f) → ∀ y0 y1, y0 ||| y1 = th → Ok (f_X8_crossed_b242 N s k110 (f_X8_crossed_b129 N s k110 n) x3 (nI lf) now x8 (nI i) y0 y1 fo fs nf far) Q := by
        intro th hne hg hth y0 y1 e
        unfold f_X8_crossed_b242
        refine Ok_nm.mpr ?_
        rw [e, if_neg (fun q => hne ((lg_cmp0 _ _).mp q))]
        unfold f_X8_crossed_b259
        obtain ⟨n, rfl⟩ : ∃ q, n = q + 1 := ⟨n - 1, by omega⟩
        have hce : i = ce G b P lf := ce_un hW hP hi hg (fun j hj => hI j hj)
        have h267 : Ok (f_X8_crossed_b267 N s k110 x3 (nI lf) (nI i) x8 th fo fs nf far) Q := by
          unfold f_X8_crossed_b267
          rw [hce]
          exact hQ th hth
        have hne9 : ¬ nI i = -9 := nI_m9 (by omega)
        simp only [f_X8_crossed_b129]
        rw [show (1 : Int32).toNatClampNeg = 1 from rfl, if_pos hne9]
        exact Ok_chk.mpr ⟨by decide, Ok_ite.mpr ⟨fun _ => h267, fun _ => h267⟩⟩
      have none : ¬ gd G b P lf i → ∀ y0 y1 : Int64, y0 ||| y1 = 0 → Ok (f_X8_crossed_b242 N s k110 (f_X8_crossed_b129 N s k110 n) x3 (nI lf) now x8 (nI i) y0 y1 fo fs nf far) Q := by
        intro hg y0 y1 e
        unfold f_X8_crossed_b242
        refine Ok_nm.mpr ?_
        rw [e, if_pos ((lg_cmp0 _ _).mpr rfl)]
        unfold f_X8_crossed_b259
        rw [nI_1]
        refine ih () (fun e he => ?_)
        rcases Nat.lt_or_ge e i with q | q
        · exact hI e q
        · obtain rfl : e = i := by omega
          exact hg
      have ne0 : ∀ (z : Int64) (f : Nat), bl z f = true → z ≠ 0 := fun z f q q2 => by rw [q2, l_0] at q; cases q
      have zor : ∀ z : Int64, 0 ||| z = z := fun z => l_ext (fun j _ => by rw [l_or, l_0, Bool.false_or])
      have orz : ∀ z : Int64, z ||| 0 = z := fun z => l_ext (fun j _ => by rw [l_or, l_0, Bool.or_false])
      have t1' := t1
      unfold f_X8_crossed_b205
      refine Ok_nm.mpr ?_
      rw [zor]
      unfold f_X8_crossed_b241
      rcases hy with ⟨rfl, hno⟩ | ⟨hy, hyes⟩
      · by_cases c1 : P (lab G (2 * i + 1))
        · rw [if_neg (fun q => q (t1.mpr ((hnow _).mpr c1))), nI_clamp (n := lab G (2 * i)) (by omega)]
          refine Ok_chk.mpr ⟨i0, ?_⟩
          by_cases c2 : rch G b (lab G (2 * i)) ∧ dst G b (lab G (2 * i)) = lf
          · rw [if_neg (fun q => q (u0.mpr c2))]
            have hg : gd G b P lf i := Or.inr ⟨c1, c2.1, c2.2⟩
            have hce : i = ce G b P lf := ce_un hW hP hi hg (fun j hj => hI j hj)
            refine fin _ (ne0 _ (lab G (2 * i)) (by rw [l_bit (by omega)]; exact decide_eq_true rfl)) hg (fun f => ?_) _ _ (zor _)
            rw [l_bit (by omega), decide_eq_true_eq, cn_dir hW hP (d := 2 * i + 1) (by rw [← hce]; omega) c1 (by rw [op_21]; exact c2.1) (by rw [op_21]; exact c2.2) f, op_21]
          · rw [if_pos (fun q => c2 (u0.mp q))]
            refine none (fun q => ?_) _ _ (zor _)
            rcases q with q | q
            · exact hno q
            · exact c2 q.2
        · rw [if_pos (fun q => c1 ((hnow _).mp (t1.mp q)))]
          refine none (fun q => ?_) _ _ (zor _)
          rcases q with q | q
          · exact hno q
          · exact c1 q.1
      · have hg : gd G b P lf i := Or.inl hyes
        have hce : i = ce G b P lf := ce_un hW hP hi hg (fun j hj => hI j hj)
        have hth : ∀ f, bl y1 f = true ↔ cn G b P lf f := by
          intro f
          rw [hy f, cn_dir hW hP (d := 2 * i) (by rw [← hce]; omega) hyes.1 (by rw [op_2]; exact hyes.2.1) (by rw [op_2]; exact hyes.2.2) f, op_2]
        have hne : y1 ≠ 0 := ne0 _ (lab G (2 * i + 1)) ((hy _).mpr rfl)
        have hd := (hP.1 _ hyes.1).2
        by_cases c1 : P (lab G (2 * i + 1))
        · have := (hP.1 _ c1).2
          have := hyes.2.2
          omega
        · rw [if_pos (fun q => c1 ((hnow _).mp (t1.mp q)))]
          exact fin y1 hne hg hth _ _ (orz _)
    by_cases c0 : P (lab G (2 * i))
    · rw [if_neg (fun q => q (t0.mpr ((hnow _).mpr c0)))]
      refine Ok_chk.mpr ⟨i1, ?_⟩
      by_cases c2 : rch G b (lab G (2 * i + 1)) ∧ dst G b (lab G (2 * i + 1)) = lf
      · rw [if_neg (fun q => q (u1.mpr c2))]
        refine go _ (Or.inr ⟨fun f => ?_, c0, c2⟩)
        rw [l_bit (by omega), decide_eq_true_eq]
      · rw [if_pos (fun q => c2 (u1.mp q))]
        unfold f_X8_crossed_b204
        exact go 0 (Or.inl ⟨rfl, fun q => c2 q.2⟩)
    · rw [if_pos (fun q => c0 ((hnow _).mp (t0.mp q)))]
      unfold f_X8_crossed_b204
      exact go 0 (Or.inl ⟨rfl, fun q => c0 q.1⟩)
theorem X8_crossing (hW : WF G) {s : Nat → Int32} (hR : RM G s) {fo fs : Nat → Int32} {nf : Int32} (hb : RF G fo fs nf) (N : Nat) (hN : 100 < N) {far : Nat → Int32} (hL : LK G b far) {a c k : Nat} (ha : a < 9) (hC : Cst G a b c) (hk : k < c) : Ok (f_X8_crossed_b50 N s N (nI a) (nI k) (nI c) 0 0 fo fs nf far) (fun r => r.1 = nI (ce G b (CS G a b c k) (c - k - 1)) ∧ r.2 = (fo, fs, nf, far)) := by
  have h20 := hW.2.2.1
  have hnf := nF_20 hW
  have e3 := hb.2.2
  have hc20 : c ≤ 20 := by
    obtain ⟨f, _, _, f3, f4⟩ := hC.2
    have := dst_le hW f3
    omega
  refine lpU (fun n i x => f_X8_crossed_b50 N s n (nI a) (nI k) (nI c) x (nI i) fo fs nf far) (fun i x => ∀ f, bl x f = true ↔ f < i ∧ NS G f a ∧ rch G b f ∧ dst G b f = c) (nF G) ?_ ?_ N 0 0 (Nat.zero_le _) (by omega) (fun f => by rw [l_0]; exact ⟨fun q => absurd q (by decide), fun q => absurd q.1 (Nat.not_lt_zero f)⟩)
  · intro n x hI
    have hle : nf ≤ nI (nF G) := by rw [e3]; exact nI_le (Nat.le_refl _) (by omega)
    simp only [f_X8_crossed_b50, f_X8_crossed_b103]
    rw [if_pos hle]
    refine lpU2 (fun n i x y => f_X8_crossed_b110 N s n (nI k) (nI (c - i)) x y (nI i) fo fs nf far) (fun i x y => (∀ f, bl x f = true ↔ CS G a b c i f) ∧ (0 < i → y = nI (ce G b (CS G a b c (i - 1)) (c - i)))) (k + 1) ?_ ?_ N 0 x (-9) (Nat.zero_le _) (by omega) ⟨hI, fun q => absurd q (by decide)⟩
    · rintro n x y ⟨h1, h2⟩
      simp only [f_X8_crossed_b110]
      rw [if_pos (nI_lt (by omega) (by omega))]
      refine Ok_some.mpr ⟨?_, rfl⟩
      have := h2 (by omega)
      rw [Nat.add_sub_cancel, show c - (k + 1) = c - k - 1 from by omega] at this
      exact this
    · rintro n i x y hi ⟨h1, h2⟩ ih
      simp only [f_X8_crossed_b110]
      rw [if_neg (nI_nlt (by omega) (by omega)), nI_m1 (by omega)]
      refine Ok_nm.mpr (X8_cross1 hW hR hb N hN hL (by omega) (CS_PF hW hC i (by omega)) h1 _ _ _ _ (fun th hth => ?_))
      rw [nI_1]
      have := ih th (nI (ce G b (CS G a b c i) (c - i - 1))) ⟨hth, fun _ => by rw [Nat.add_sub_cancel, show c - (i + 1) = c - i - 1 from by omega]⟩
      rw [show c - (i + 1) = c - i - 1 from by omega] at this
      exact this
  · intro n i x hi hI ih
    have hnle : ¬ nf ≤ nI i := by rw [e3, nI_leI (by omega) (by omega)]; omega
    obtain ⟨l1, l2⟩ := hL i hi
    have hs := ns_sp hW i a
    simp only [f_X8_crossed_b50, f_X8_crossed_b93, f_X8_crossed_b94]
    rw [if_neg hnle, X8_nodesOn hW hR hb.1 N hN (by omega)]
    refine Ok_bd1.mpr (Ok_some.mpr ?_)
    rw [X8_has N (by omega), nI_clamp (by omega), nI_1]
    have orz : ∀ z : Int64, z ||| 0 = z := fun z => l_ext (fun j _ => by rw [l_or, l_0, Bool.or_false])
    have skip : ¬ (NS G i a ∧ rch G b i ∧ dst G b i = c) → ∀ f, bl x f = true ↔ f < i + 1 ∧ NS G f a ∧ rch G b f ∧ dst G b f = c := by
      intro hno f
      rw [hI f]
      constructor
      · rintro ⟨q1, q2⟩; exact ⟨by omega, q2⟩
      · rintro ⟨q1, q2⟩
        rcases Nat.lt_or_ge f i with q | q
        · exact ⟨q, q2⟩
        · obtain rfl : f = i := by omega
          exact absurd q2 hno
    refine Ok_bd1.mpr (Ok_some.mpr (Ok_ife bI_0 (fun c1 => Ok_nm.mpr ?_) (fun c1 => Ok_chk.mpr ⟨inb_nI (by omega) (by decide), ?_⟩)))
    · rw [orz]
      refine ih _ (skip (fun q => ?_))
      rw [hs.mpr q.1] at c1; cases c1
    · rw [Bool.not_eq_false] at c1
      have hna := hs.mp c1
      have hfc : far i = nI c ↔ rch G b i ∧ dst G b i = c := by
        by_cases cr : rch G b i
        · have := dst_le hW cr
          rw [l1 cr, nI_eq (by omega) (by omega)]
          exact ⟨fun q => ⟨cr, q⟩, fun q => q.2⟩
        · rw [l2 cr, nI_eq (by omega) (by omega)]
          exact ⟨fun q => by omega, fun q => absurd q.1 cr⟩
      by_cases c2 : rch G b i ∧ dst G b i = c
      · rw [if_neg (fun q => q (hfc.mpr c2))]
        refine Ok_nm.mpr (ih _ (fun f => ?_))
        rw [l_or, Bool.or_eq_true, hI f, l_bit (by omega), decide_eq_true_eq]
        constructor
        · rintro (⟨q1, q2⟩ | q)
          · exact ⟨by omega, q2⟩
          · rw [q]; exact ⟨by omega, hna, c2⟩
        · rintro ⟨q1, q2⟩
          rcases Nat.lt_or_ge f i with q | q
          · exact Or.inl ⟨q, q2⟩
          · exact Or.inr (by omega)
      · rw [if_pos (fun q => c2 (hfc.mp q))]
        refine Ok_nm.mpr ?_
        rw [orz]
        exact ih _ (skip (fun q => c2 q.2))
theorem ok_crossed (N : Nat) (hN : 1000 < N) : OK_crossed Inv N := by
  intro x m p1 p2 p3 hi
  have hi2 := hi
  obtain ⟨G, n, hs, l, cs, hS, hX, hF, hH, hT, hM, hHM, hTM⟩ := hi
  have hW := hS.1
  have h9 := hW.2.1
  have hnf := nF_20 hW
  have x2 := hX.2.1
  refine OK_mk ?_
  unfold f_X7_crossed f_X8_crossed
  rw [show f_X7_areTwoNodes N x.1.1 p1 p2 = some (bI (twoI (gN G) p1 p2)) from by rw [hX.1]; exact X7_areTwoNodes N _ (by omega) p1 p2, X8_areNodes N _ (by omega) m.1 hM.1]
  refine Ok_bd1.mpr (Ok_some.mpr (Ok_sw.mpr (Ok_bd1.mpr (Ok_some.mpr (Ok_sw.mpr ?_)))))
  rcases twoI_cases (n := gN G) (by omega) p1 p2 with hp | ⟨hp, a, b, ha, hb, hab, rfl, rfl⟩
  · rw [hp, if_pos bF0, if_pos bF0]
    exact Ok_some.mpr (Ok_some.mpr (OK_end rfl hi2))
  · rw [hp, if_neg bT0, if_neg bT0]
    by_cases c0 : 0 ≤ p3
    · rw [if_pos c0, if_pos c0]
      obtain ⟨k, hk, rfl⟩ := nI_of (i_nlt.mpr c0)
      refine Ok_bd1.mpr (Ok_mono (X7_canInsert hW hX hF N (by omega) (by omega) (by omega)) (fun r3 h3 => Ok_sw.mpr (Ok_bd1.mpr (Ok_mono (X8_isRefused hW hM N (by omega) _ _ _ (by omega) (by omega) hab) ?_))))
      rintro ⟨q3, fo, fs, nf⟩ ⟨g3, g4⟩
      dsimp only at g3 g4 ⊢
      rcases h3 with ⟨rfl, c1⟩ | ⟨rfl, c1⟩
      · rcases g4 with ⟨rfl, _⟩ | ⟨_, c2⟩
        · rw [if_pos rfl, if_pos i10, x2]
          refine Ok_bd1.mpr (Ok_mono (X8_costOf hW hM g3 N (by omega) ha hb hab _) (fun q5 g5 => Ok_nm.mpr (Ok_sw.mpr (Ok_bd1.mpr (Ok_mono (X6_find hW hF N (by omega) ha hb hab _ _ _) (fun r5 h5 => ?_))))))
          rcases g5 with ⟨a1, a2, c, a3, a4⟩ | ⟨a1, a4⟩
          · rcases h5 with ⟨b1, e, b3, b4, b5⟩ | ⟨b1, b4⟩
            · obtain rfl : c = e := Cst_un a3 b3
              have hc20 : c ≤ 20 := by
                obtain ⟨f, _, _, f3, f4⟩ := a3.2
                have := dst_le hW f3
                omega
              by_cases ck : k < c
              · rw [if_neg (by rw [b4, nI_leI (by omega) hk]; omega), if_pos (by rw [a4, nI_ltI hk (by omega)]; exact ck), a4]
                refine Ok_chk.mpr ⟨inb_nI (by omega) (by decide), Ok_some.mpr (Ok_nm.mpr (Ok_mono (X8_crossing hW hM g3 N (by omega) a2 (by omega) a3 ck) (fun q6 g6 => ?_)))⟩
                refine OK_end ?_ ⟨G, n, hs, l, cs, hS, hX, hF, hH, hT, hM, hHM, hTM⟩
                show q6.1 = r5.2.1 (nI k).toNatClampNeg
                rw [g6.1, nI_clamp (by omega), b5 k ck]
              · rw [if_pos (by rw [b4, nI_leI (by omega) hk]; omega), if_neg (by rw [a4, nI_ltI hk (by omega)]; exact ck)]
                exact Ok_some.mpr (Ok_some.mpr (OK_end rfl ⟨G, n, hs, l, cs, hS, hX, hF, hH, hT, hM, hHM, hTM⟩))
            · exact absurd a1 b1
          · rcases h5 with ⟨b1, _⟩ | ⟨b1, b4⟩
            · exact absurd b1 a1
            · rw [if_pos (by rw [b4]; exact nI_pos' hk), if_neg (by rw [a4]; exact nI_pos hk)]
              exact Ok_some.mpr (Ok_some.mpr (OK_end rfl ⟨G, n, hs, l, cs, hS, hX, hF, hH, hT, hM, hHM, hTM⟩))
        · exact absurd c1 c2
      · rcases g4 with ⟨_, c2⟩ | ⟨rfl, c2⟩
        · exact absurd c2 c1
        · rw [if_neg i10, if_neg i00]
          exact Ok_some.mpr (Ok_some.mpr (OK_end rfl ⟨G, n, hs, l, cs, hS, hX, hF, hH, hT, hM, hHM, hTM⟩))
    · rw [if_neg c0, if_neg c0]
      exact Ok_some.mpr (Ok_some.mpr (OK_end rfl hi2))
end CROSSED
