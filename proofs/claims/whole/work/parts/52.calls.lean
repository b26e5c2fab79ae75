/-! ===== calls that change the drawing ===== -/
theorem psh_St {G : Gr} {n : Nat} {hs : Nat → Gr} (h : St G n hs) : pshN n ≤ 6 ∧ ∀ k, k < pshN n → WF (pshG n hs G k) ∧ GO (pshG n hs G k) := by
  obtain ⟨h1, h2, h3, h4⟩ := h
  unfold pshN pshG
  by_cases c : n = 6
  · rw [if_pos c, if_pos c]
    refine ⟨by omega, fun k hk => ?_⟩
    by_cases c2 : k = 5
    · rw [if_pos c2]; exact ⟨h1, h2⟩
    · rw [if_neg c2]; exact h4 (k + 1) (by omega)
  · rw [if_neg c, if_neg c]
    refine ⟨by omega, fun k hk => ?_⟩
    by_cases c2 : k = n
    · rw [if_pos c2]; exact ⟨h1, h2⟩
    · rw [if_neg c2]; exact h4 k (by omega)
theorem St_psh {G G2 : Gr} {n : Nat} {hs : Nat → Gr} (h : St G n hs) (hW : WF G2) (hO : GO G2) : St G2 (pshN n) (pshG n hs G) := ⟨hW, hO, (psh_St h).1, (psh_St h).2⟩
def gOut (G : Gr) (f : Nat) : Gr := (gN G, gE G, gR G, f)
theorem it_out (G : Gr) (f k d : Nat) : it (gOut G f) k d = it G k d := by
  induction k with
  | zero => rfl
  | succ k ih =>
    show nx (gOut G f) (it (gOut G f) k d) = nx G (it G k d)
    rw [ih]
    rfl
theorem mn_out (G : Gr) (f d : Nat) : mn (gOut G f) d = mn G d := by
  obtain ⟨⟨k, h1⟩, h2⟩ := mn_sp (gOut G f) d
  obtain ⟨⟨j, h3⟩, h4⟩ := mn_sp G d
  refine Nat.le_antisymm ?_ ?_
  · have := h2 j
    rw [it_out, h3] at this
    exact this
  · have := h4 k
    rw [← it_out G f, h1] at this
    exact this
theorem isMn_out (G : Gr) (f : Nat) : isMn (gOut G f) = isMn G := by
  funext c
  unfold isMn
  rw [mn_out]
theorem nF_out (G : Gr) (f : Nat) : nF (gOut G f) = nF G := by
  unfold nF
  rw [isMn_out]
  rfl
theorem lab_out (G : Gr) (f d : Nat) : lab (gOut G f) d = lab G d := by
  unfold lab
  rw [isMn_out, mn_out]
theorem fst_out (G : Gr) (f c : Nat) : fst0 (gOut G f) c = fst0 G c := by
  unfold fst0
  rw [isMn_out]
  rfl
theorem per_out (G : Gr) (f d : Nat) : per (gOut G f) d = per G d := by
  unfold per
  congr 1
  funext p
  simp only [it_out]
theorem cp_out (G : Gr) (f v : Nat) : cp (gOut G f) v = cp G v := rfl
theorem tw_out (G : Gr) (f : Nat) : ∀ i, tw (gOut G f) i = tw G i
  | 0 => rfl
  | i + 1 => by
    show tw (gOut G f) i + _ = tw G i + _
    rw [tw_out G f i]
    rfl
theorem FR_out {G : Gr} {t : TF} (f : Nat) (h : FR G t) : FR (gOut G f) t := by
  obtain ⟨h1, h2, h3, h4, h5, h6, h7, h8, h9⟩ := h
  refine ⟨by rw [nF_out]; exact h1, h2, ?_, h4, fun d hd => by rw [lab_out]; exact h5 d hd, fun c hc => by rw [nF_out] at hc; rw [fst_out]; exact h6 c hc, fun c hc => by rw [nF_out] at hc; rw [fst_out, per_out]; exact h7 c hc, fun c hc b => ?_, h9⟩
  · rw [h3]
    unfold genI
    rw [nF_out, tw_out]
    rfl
  · rw [nF_out] at hc
    rw [h8 c hc b]
    constructor
    · rintro ⟨d, q1, q2, q3⟩; exact ⟨d, q1, by rw [lab_out]; exact q2, q3⟩
    · rintro ⟨d, q1, q2, q3⟩; exact ⟨d, q1, by rw [lab_out] at q2; exact q2, q3⟩
section CALLS2
variable (N : Nat)
theorem ok_setNodes (hN : 1000 < N) : OK_setNodes Inv N := by
  intro x m p1 hi
  have hi2 := hi
  obtain ⟨G, n, hs, l, cs, hS, hX, hF, hH, hT, hM, hHM, hTM⟩ := hi
  have hW := hS.1
  refine OK_mk ?_
  unfold f_X7_setNodes f_X8_setNodes
  rw [X8_inI]
  refine Ok_sw.mpr (Ok_bd1.mpr (Ok_some.mpr (Ok_sw.mpr ?_)))
  by_cases c : p1 < 2
  · rw [if_pos c, if_pos c, if_neg i00]
    exact Ok_some.mpr (Ok_some.mpr (OK_end rfl hi2))
  · rw [if_neg c, if_neg c]
    by_cases c2 : p1 ≤ 9
    · rw [if_pos c2, if_neg (i_nlt.mpr c2), if_pos i10]
      obtain ⟨k, hk, rfl⟩ := nI_of (x := p1) (fun q => c (by
        rw [Int32.lt_iff_toInt_lt] at q ⊢
        rw [show (0 : Int32).toInt = 0 from by decide] at q
        rw [show (2 : Int32).toInt = 2 from by decide]
        omega))
      have k1 : 2 ≤ k := by
        have := mt (nI_ltI (b := 2) hk (by decide)).mpr c
        omega
      have k2 : k ≤ 9 := (nI_leI (b := 9) hk (by decide)).mp c2
      have hW2 := WF_new k1 k2
      refine Ok_bd1.mpr (Ok_mono (X2_save hW hX hS.2.2.1 hH N) (fun r3 h3 => Ok_bd1.mpr (Ok_mono (RX_new N k x.1) (fun r5 h5 => Ok_bd1.mpr (Ok_mono (X7_settle hW2 h5 N (by omega) x.2.2.1 _) (fun r7 h7 => Ok_some.mpr ?_))))))
      refine Ok_bd1.mpr (Ok_mono (X8_notes hW hM hS.2.2.1 hHM (fun k hk => (hS.2.2.2 k hk).1) N hN) (fun q3 g3 => Ok_chk.mpr ⟨by decide, Ok_nm.mpr (Ok_bd1.mpr (Ok_mono (X8_empties N hN k m.1) (fun q6 g6 => Ok_some.mpr ?_)))⟩))
      refine OK_end ?_ ⟨gNew k, pshN n, pshG n hs G, l, cs, St_psh hS hW2 (Or.inl rfl), ?_, h7.1, h3, hT, g6, g3, hTM⟩
      · show m.1 0 = x.1.1
        rw [hM.1, hX.1]
      · obtain ⟨a1, a2, a3, a4, a5, a6⟩ := h5
        exact ⟨a1, a2, h7.2, a4, a5, a6⟩
    · rw [if_neg c2, if_pos (i_nle.mp c2), if_neg i00]
      exact Ok_some.mpr (Ok_some.mpr (OK_end rfl hi2))
theorem ok_removeEdge (hN : 1000 < N) : OK_removeEdge Inv N := by
  intro x m p1 hi
  have hi2 := hi
  obtain ⟨G, n, hs, l, cs, hS, hX, hF, hH, hT, hM, hHM, hTM⟩ := hi
  have hW := hS.1
  have h20 := hW.2.2.1
  refine OK_mk ?_
  have x2 := hX.2.1
  unfold f_X7_removeEdge f_X8_removeEdge
  rw [show f_X1_hasEdge N x.1.2.1 p1 = some (bI (inb p1 (gE G).length)) from by rw [x2]; exact X1_hasEdge N _ (by omega) p1, X8_isEdge N _ (by omega) m.1 hM.2.1]
  refine Ok_bd1.mpr (Ok_some.mpr (Ok_sw.mpr (Ok_bd1.mpr (Ok_some.mpr (Ok_sw.mpr ?_)))))
  cases hb : inb p1 (gE G).length with
  | false =>
    rw [if_neg (fun q => q bF0), if_neg (fun q => q bF0)]
    exact Ok_some.mpr (Ok_some.mpr (OK_end rfl hi2))
  | true =>
    obtain ⟨e, he, rfl⟩ := inb_of hb (by omega)
    have hW2 := WF_del hW he
    rw [if_pos bT0, if_pos bT0]
    refine Ok_bd1.mpr (Ok_mono (X2_save hW hX hS.2.2.1 hH N) (fun r3 h3 => Ok_bd1.mpr (Ok_mono (X1_removeAt hW he hX N (by omega)) (fun r5 h5 => Ok_bd1.mpr (Ok_mono (X7_settle hW2 h5 N (by omega) x.2.2.1 _) (fun r7 h7 => Ok_some.mpr ?_))))))
    refine Ok_bd1.mpr (Ok_mono (X8_notes hW hM hS.2.2.1 hHM (fun k hk => (hS.2.2.2 k hk).1) N hN) (fun q3 g3 => Ok_mono (X8_remove hW he hM q3.1 q3.2 N (by omega)) (fun q6 g6 => ?_)))
    obtain ⟨y1, y2, y3, y4⟩ := g6
    refine OK_end ?_ ⟨gDel G e, pshN n, pshG n hs G, l, cs, St_psh hS hW2 (Or.inl rfl), ?_, h7.1, h3, hT, y2, by rw [y3, y4]; exact g3, hTM⟩
    · rw [y1]
      have := h5.2.1
      rw [gDel_len he] at this
      exact this.symm
    · obtain ⟨a1, a2, a3, a4, a5, a6⟩ := h5
      exact ⟨a1, a2, h7.2, a4, a5, a6⟩
theorem ok_mirror (hN : 1000 < N) : OK_mirror Inv N := by
  intro x m hi
  obtain ⟨G, n, hs, l, cs, hS, hX, hF, hH, hT, hM, hHM, hTM⟩ := hi
  have hW := hS.1
  have hW2 := WF_mir hW
  refine OK_mk ?_
  unfold f_X7_mirror f_X8_mirror
  refine Ok_bd1.mpr (Ok_mono (X2_save hW hX hS.2.2.1 hH N) (fun r3 h3 => Ok_bd1.mpr (Ok_mono (X1_reverseAll hW hX N (by omega)) (fun r5 h5 => Ok_bd1.mpr (Ok_mono (X7_settle hW2 h5 N (by omega) x.2.2.1 _) (fun r7 h7 => Ok_some.mpr ?_))))))
  refine Ok_bd1.mpr (Ok_mono (X8_notes hW hM hS.2.2.1 hHM (fun k hk => (hS.2.2.2 k hk).1) N hN) (fun q3 g3 => ?_))
  refine X8_revAll hW hM N (by omega) q3.1 q3.2 _ _ _ _ (fun t ht => ?_)
  unfold f_X8_mirror_b99
  refine Ok_chk.mpr ⟨by decide, Ok_bd1.mpr (Ok_mono (X8_walks hW2 ht N (by omega) _ _ _) (fun b hb => Ok_some.mpr ?_))⟩
  refine OK_end ?_ ⟨gMir G, pshN n, pshG n hs G, l, cs, St_psh hS hW2 (Or.inl rfl), ?_, h7.1, h3, hT, ht, g3, hTM⟩
  · have e1 := h7.1.1
    have e2 := hb.2.2
    dsimp only at e1
    rw [e1, e2]
  · obtain ⟨a1, a2, a3, a4, a5, a6⟩ := h5
    exact ⟨a1, a2, h7.2, a4, a5, a6⟩
theorem ok_setOuter (hN : 1000 < N) : OK_setOuter Inv N := by
  intro x m p1 hi
  have hi2 := hi
  obtain ⟨G, n, hs, l, cs, hS, hX, hF, hH, hT, hM, hHM, hTM⟩ := hi
  have hW := hS.1
  have h20 := hW.2.2.1
  have hnf : nF G ≤ 2 * (gE G).length := ct_le G _
  refine OK_mk ?_
  unfold f_X7_setOuter f_X8_setOuter
  have hex : f_X0_exists N x.2.2.1.1 p1 = some (bI (inb p1 (nF G))) := by rw [hF.1]; exact tst_in (by omega)
  rw [hex]
  refine Ok_bd1.mpr (Ok_some.mpr (Ok_sw.mpr (Ok_bd1.mpr (Ok_mono (X8_walks hW hM N (by omega) _ _ _) ?_))))
  rintro ⟨fo, fs, nf⟩ hb
  dsimp only at hb ⊢
  rw [hb.2.2, X8_in0 N _ (by omega)]
  refine Ok_bd1.mpr (Ok_some.mpr (Ok_sw.mpr ?_))
  cases hp : inb p1 (nF G) with
  | false =>
    rw [if_neg (fun q => q bF0), if_neg (fun q => q bF0)]
    exact Ok_some.mpr (Ok_some.mpr (OK_end rfl ⟨G, n, hs, l, cs, hS, hX, hF, hH, hT, hM, hHM, hTM⟩))
  | true =>
    obtain ⟨f, hf, rfl⟩ := inb_of hp (by omega)
    rw [if_pos bT0, if_pos bT0]
    refine Ok_bd1.mpr (Ok_mono (X2_save hW hX hS.2.2.1 hH N) (fun r3 h3 => Ok_some.mpr ?_))
    refine Ok_bd1.mpr (Ok_mono (X8_notes hW hM hS.2.2.1 hHM (fun k hk => (hS.2.2.2 k hk).1) N hN) (fun q3 g3 => Ok_chk.mpr ⟨by decide, Ok_nm.mpr (Ok_chk.mpr ⟨by decide, Ok_some.mpr ?_⟩)⟩))
    have hW2 : WF (gOut G f) := by
      obtain ⟨h1, h2, h3, h4, h5, h6, h7, h8⟩ := hW
      exact ⟨h1, h2, h3, h4, h5, h6, h7, (by show f < 100; omega)⟩
    refine OK_end ?_ ⟨gOut G f, pshN n, pshG n hs G, l, cs, St_psh hS hW2 (Or.inr (by rw [nF_out]; exact hf)), ?_, FR_out f hF, h3, hT, ?_, g3, hTM⟩
    · show m.1 2 = x.1.2.2.1
      rw [hM.2.2.1, hX.2.2.1]
    · obtain ⟨a1, a2, a3, a4, a5, a6⟩ := hX
      exact ⟨a1, a2, rfl, a4, a5, a6⟩
    · obtain ⟨a1, a2, a3, a4, a5, a6⟩ := hM
      refine ⟨?_, ?_, ?_, fun e he => ?_, fun v hv => ?_, fun v k hv hk => ?_⟩
      · show upd m.1 2 (nI f) 0 = _
        rw [pk_un (by decide)]; exact a1
      · show upd m.1 2 (nI f) 1 = _
        rw [pk_un (by decide)]; exact a2
      · show upd m.1 2 (nI f) 2 = _
        rw [pk_us]; rfl
      · show upd m.1 2 (nI f) (3 + e) = _ ∧ upd m.1 2 (nI f) (23 + e) = _
        rw [pk_un (by omega), pk_un (by omega)]; exact a4 e he
      · show upd m.1 2 (nI f) (43 + v) = _
        rw [pk_un (by omega)]; exact a5 v hv
      · show upd m.1 2 (nI f) (52 + 8 * v + k) = _
        rw [pk_un (by omega)]; exact a6 v k hv hk
theorem ok_undo (hN : 1000 < N) : OK_undo Inv N := by
  intro x m hi
  have hi2 := hi
  obtain ⟨G, n, hs, l, cs, hS, hX, hF, hH, hT, hM, hHM, hTM⟩ := hi
  have hW := hS.1
  have hn := hS.2.2.1
  refine OK_mk ?_
  rcases Nat.eq_zero_or_pos n with h0 | h0
  · unfold f_X7_undo f_X8_undo
    rw [if_neg (by rw [hH.1, h0]; exact fun q => q rfl), if_neg (by rw [hHM.1, h0]; exact fun q => q rfl)]
    exact Ok_some.mpr (Ok_some.mpr (OK_end rfl hi2))
  · have hk := hS.2.2.2 (n - 1) (by omega)
    unfold f_X7_undo
    rw [if_pos (by rw [hH.1]; exact nI_ne0 h0 (by omega))]
    refine Ok_bd1.mpr (Ok_mono (X2_restore h0 hn hH hk.1 N x.1) (fun r2 h2 => Ok_bd1.mpr (Ok_mono (X0_trace hk.1 h2.1 N (by omega) x.2.2.1) (fun r4 h4 => Ok_some.mpr ?_))))
    refine Ok_mono (X8_undoL h0 hn hHM hk.1 N hN m.1) (fun b hb => ?_)
    refine OK_end ?_ ⟨hs (n - 1), n - 1, hs, l, cs, ⟨hk.1, hk.2, by omega, fun k hk => hS.2.2.2 k (by omega)⟩, h2.1, h4, ⟨h2.2, fun k hk => hH.2 k (by omega)⟩, hT, hb.2.1, ⟨hb.2.2, fun k hk => hHM.2 k (by omega)⟩, hTM⟩
    rw [hb.1]
    exact h2.2.symm
end CALLS2
