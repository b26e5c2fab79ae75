/-! ===== addEdge, addInFace ===== -/
section ADDC
variable (N : Nat) {G : Gr}
theorem X7_join (hN : 1000 < N) {n : Nat} {hs : Nat → Gr} (hS : St G n hs) {g : TG} (hX : RX G g) {t : TF} {h : TH} (hH : HX n hs h) {a b ka kb : Nat} (ha : a < gN G) (hb : b < gN G) (hab : a ≠ b) (hj : ¬ joined G a b) (hka : ka ≤ (gR G a).length) (hkb : kb ≤ (gR G b).length) :
    Ok (f_X7_join N t.1 t.2.1 t.2.2.1 t.2.2.2.1 t.2.2.2.2.1 t.2.2.2.2.2.1 t.2.2.2.2.2.2.1 t.2.2.2.2.2.2.2.1 t.2.2.2.2.2.2.2.2 g.1 g.2.1 g.2.2.1 g.2.2.2.1 g.2.2.2.2.1 g.2.2.2.2.2.1 g.2.2.2.2.2.2 h.1 h.2.1 h.2.2.1 h.2.2.2.1 h.2.2.2.2.1 h.2.2.2.2.2.1 h.2.2.2.2.2.2.1 h.2.2.2.2.2.2.2 (nI a) (nI b) (nI ka) (nI kb))
      (fun r => ((gE G).length = 20 ∧ r = (-3, t.1, t.2.1, t.2.2.1, t.2.2.2.1, t.2.2.2.2.1, t.2.2.2.2.2.1, t.2.2.2.2.2.2.1, t.2.2.2.2.2.2.2.1, t.2.2.2.2.2.2.2.2, g.2.1, g.2.2.1, g.2.2.2.1, g.2.2.2.2.1, g.2.2.2.2.2.1, g.2.2.2.2.2.2, h)) ∨ ((gE G).length < 20 ∧ r.1 = nI (gE G).length ∧ FR (gAdd G a b ka kb) (r.2.1, r.2.2.1, r.2.2.2.1, r.2.2.2.2.1, r.2.2.2.2.2.1, r.2.2.2.2.2.2.1, r.2.2.2.2.2.2.2.1, r.2.2.2.2.2.2.2.2.1, r.2.2.2.2.2.2.2.2.2.1) ∧ RX (gAdd G a b ka kb) (g.1, r.2.2.2.2.2.2.2.2.2.2.1, r.2.2.2.2.2.2.2.2.2.2.2.1, r.2.2.2.2.2.2.2.2.2.2.2.2.1, r.2.2.2.2.2.2.2.2.2.2.2.2.2.1, r.2.2.2.2.2.2.2.2.2.2.2.2.2.2.1, r.2.2.2.2.2.2.2.2.2.2.2.2.2.2.2.1) ∧ HX (pshN n) (pshG n hs G) r.2.2.2.2.2.2.2.2.2.2.2.2.2.2.2.2)) := by
  have hW := hS.1
  have h20 := hW.2.2.1
  have x2 := hX.2.1
  unfold f_X7_join
  by_cases c : (gE G).length < 20
  · rw [if_pos (by rw [x2]; exact (nI_ltI (b := 20) (by omega) (by omega)).mpr c)]
    have hW2 : WF (gAdd G a b ka kb) := WF_add hW c ha hb hab hj
    refine Ok_bd1.mpr (Ok_mono (X2_save hW hX hS.2.2.1 hH N) (fun r2 h2 => Ok_bd1.mpr (Ok_mono (X1_connect hW c ha hb hab hj hka hkb hX N (by omega)) (fun r4 h4 => Ok_nm.mpr (Ok_bd1.mpr (Ok_mono (X7_settle hW2 h4.2 N (by omega) t _) (fun r7 h7 => Ok_some.mpr (Or.inr ⟨c, h4.1, h7.1, ?_, h2⟩))))))))
    obtain ⟨a1, a2, a3, a4, a5, a6⟩ := h4.2
    exact ⟨a1, a2, h7.2, a4, a5, a6⟩
  · rw [if_neg (by rw [x2, show (20 : Int32) = nI 20 from rfl, nI_ltI (by omega) (by omega)]; exact c)]
    exact Ok_some.mpr (Or.inl ⟨by omega, rfl⟩)
/-- an edge behind which one may stand at v: -1, or an edge at v; k is the place behind it -/
def Bh (G : Gr) (v : Nat) (p : Int32) (k : Nat) : Prop := (p = -1 ∧ k = 0) ∨ (∃ e, e ∈ gR G v ∧ p = nI e ∧ k = plc (gR G v) e + 1)
theorem nI_m1ne {e : Nat} (he : e < 2 ^ 31) : ¬ nI e = -1 := by
  intro q
  have := congrArg Int32.toInt q
  rw [nI_toInt he, show (-1 : Int32).toInt = -1 from by decide] at this
  omega
theorem Bh_le {v k : Nat} {p : Int32} (h : Bh G v p k) : k ≤ (gR G v).length := by
  rcases h with ⟨-, h⟩ | ⟨e, h1, -, h⟩
  · omega
  · have := plc_lt h1
    omega
theorem Bh_cases (hW : WF G) {v : Nat} (hv : v < gN G) (p : Int32) : (∃ k, Bh G v p k) ∨ (¬ p = -1 ∧ atI G p (nI v) = false) := by
  by_cases c : p = -1
  · exact Or.inl ⟨0, Or.inl ⟨c, rfl⟩⟩
  · cases hb : atI G p (nI v) with
    | false => exact Or.inr ⟨c, rfl⟩
    | true =>
      obtain ⟨e, h1, h2⟩ := at_mem hW hv hb
      exact Or.inl ⟨_, Or.inr ⟨e, h1, h2, rfl⟩⟩
theorem Bh_at (hW : WF G) {v k : Nat} (hv : v < gN G) {p : Int32} (h : Bh G v p k) (hp : ¬ p = -1) : atI G p (nI v) = true := by
  have h9 := hW.2.1
  rcases h with ⟨h, -⟩ | ⟨e, h1, rfl, -⟩
  · exact absurd h hp
  · have h2 := (hW.2.2.2.2.2.2.1 v e).mp h1
    rw [atI_nI hW h2.1 (by omega)]
    exact decide_eq_true h2.2
theorem X7_may (hW : WF G) {g : TG} (hX : RX G g) {v : Nat} (hv : v < gN G) (p : Int32) : ((∃ k, Bh G v p k) → f_X7_mayStandBehind N g.2.1 g.2.2.2.1 g.2.2.2.2.1 (nI v) p = some 1) ∧ ((¬ p = -1 ∧ atI G p (nI v) = false) → f_X7_mayStandBehind N g.2.1 g.2.2.2.1 g.2.2.2.2.1 (nI v) p = some 0) := by
  have h20 := hW.2.2.1
  have x2 := hX.2.1
  have x4 := hX.2.2.2.1
  unfold f_X7_mayStandBehind f_X7_mayStandBehind_b17
  rw [show f_X1_isEnd N g.2.1 g.2.2.2.1 g.2.2.2.2.1 p (nI v) = some (bI (atI G p (nI v))) from by rw [x2]; exact X1_isEnd h20 x4 N p (nI v)]
  constructor
  · rintro ⟨k, hk⟩
    by_cases c : p = -1
    · rw [if_pos c]
    · rw [if_neg c, Bh_at hW hv hk c]
      rfl
  · rintro ⟨c, h⟩
    rw [if_neg c, h]
    rfl
theorem X7_slot (hW : WF G) {g : TG} (hX : RX G g) (hN : 1000 < N) {v k : Nat} (hv : v < gN G) {p : Int32} (h : Bh G v p k) : Ok (f_X1_slotOf N g.2.2.2.2.2.1 g.2.2.2.2.2.2 (nI v) p) (fun r => r + 1 = nI k) := by
  have h9 := hW.2.1
  rcases h with ⟨rfl, rfl⟩ | ⟨e, h1, rfl, rfl⟩
  · rw [X1_slotNo hW hX.2.2.2.2.1 hX.2.2.2.2.2 N v (by omega) (by omega)]
    exact Ok_some.mpr (by decide)
  · rw [X1_slotOf hW hX.2.2.2.2.1 hX.2.2.2.2.2 N v e (by omega) (by omega) h1]
    exact Ok_some.mpr (nI_1 _)
theorem X8_ae93 (hW : WF G) {s : Nat → Int32} (hM : RM G s) (hN : 1000 < N) {b kb : Nat} (hb : b < gN G) {p : Int32} (h : Bh G b p kb) (y1 y2 y3 : Int32) (pa : Nat → Int32) (ps : Int32) : f_X8_addEdge_b93 N (nI b) p y1 y2 y3 s pa ps = f_X8_addEdge_b112 N y1 y2 y3 (nI kb) s pa ps := by
  have h9 := hW.2.1
  have h20 := hW.2.2.1
  unfold f_X8_addEdge_b93
  rcases h with ⟨rfl, rfl⟩ | ⟨e, h1, rfl, rfl⟩
  · rw [if_neg (fun q => q rfl)]
    rfl
  · have h2 := (rot_lt hW h1).1
    rw [if_pos (nI_m1ne (by omega)), X8_place hW hM.2.2.2.2.2 N b e (by omega) (by omega) h1]
    show f_X8_addEdge_b112 N y1 y2 y3 (nI _ + 1) s pa ps = _
    rw [nI_1]
theorem X8_ae41 (hN : 1000 < N) {n : Nat} {hs : Nat → Gr} (hS : St G n hs) {s past : Nat → Int32} {ps : Int32} (hM : RM G s) (hHM : HM n hs past ps) {a b ka kb : Nat} (ha : a < gN G) (hb : b < gN G) (hab : a ≠ b) {p q : Int32} (hp : Bh G a p ka) (hq : Bh G b q kb) :
    Ok (f_X8_addEdge_b41 N (nI a) (nI b) p q s past ps) (fun r => (joined G a b ∧ r = (-2, s, past, ps)) ∨ (¬ joined G a b ∧ (gE G).length = 20 ∧ r = (-3, s, past, ps)) ∨ (¬ joined G a b ∧ (gE G).length < 20 ∧ r.1 = nI (gE G).length ∧ RM (gAdd G a b ka kb) r.2.1 ∧ HM (pshN n) (pshG n hs G) r.2.2.1 r.2.2.2)) := by
  have hW := hS.1
  have h9 := hW.2.1
  have h20 := hW.2.2.1
  unfold f_X8_addEdge_b41
  refine Ok_bd1.mpr (Ok_mono (X8_between hW hM.2.1 hM.2.2.2.1 N a b (by omega) (by omega) (by omega) hab) ?_)
  rintro r9 (⟨h1, h2⟩ | ⟨h1, h2⟩)
  · rw [if_neg h1]
    exact Ok_some.mpr (Or.inl ⟨h2, rfl⟩)
  · rw [if_pos h1, show (1 : Int32).toNatClampNeg = 1 from rfl, hM.2.1]
    refine Ok_chk.mpr ⟨by decide, ?_⟩
    by_cases c : (gE G).length = 20
    · rw [if_neg (by rw [c]; decide)]
      exact Ok_some.mpr (Or.inr (Or.inl ⟨h2, c, rfl⟩))
    · have c20 : ¬ nI (gE G).length = 20 := fun q => c ((nI_eq (b := 20) (by omega) (by omega)).mp q)
      rw [if_pos c20]
      refine Ok_bd1.mpr (Ok_mono (X8_notes hW hM hS.2.2.1 hHM (fun k hk => (hS.2.2.2 k hk).1) N hN) (fun q3 g3 => ?_))
      have fin : ∀ y, y = nI ka → Ok (f_X8_addEdge_b93 N (nI b) q (nI a) (nI b) y s q3.1 q3.2) (fun r => (joined G a b ∧ r = (-2, s, past, ps)) ∨ (¬ joined G a b ∧ (gE G).length = 20 ∧ r = (-3, s, past, ps)) ∨ (¬ joined G a b ∧ (gE G).length < 20 ∧ r.1 = nI (gE G).length ∧ RM (gAdd G a b ka kb) r.2.1 ∧ HM (pshN n) (pshG n hs G) r.2.2.1 r.2.2.2)) := by
        rintro y rfl
        rw [X8_ae93 N hW hM hN hb hq]
        unfold f_X8_addEdge_b112
        refine Ok_bd1.mpr (Ok_mono (X8_joins hW (by omega) ha hb hab h2 (Bh_le hp) (Bh_le hq) hM N (by omega)) (fun q6 g6 => Ok_some.mpr (Or.inr (Or.inr ⟨h2, by omega, g6.1, g6.2, g3⟩))))
      rcases hp with ⟨rfl, rfl⟩ | ⟨e, he, rfl, rfl⟩
      · rw [if_neg (fun q => q rfl)]
        exact fin _ rfl
      · have h2 := (rot_lt hW he).1
        rw [if_pos (nI_m1ne (by omega)), X8_place hW hM.2.2.2.2.2 N a e (by omega) (by omega) he]
        exact Ok_bd1.mpr (Ok_some.mpr (fin _ (nI_1 _)))
theorem ok_addEdge (hN : 1000 < N) : OK_addEdge Inv N := by
  intro x m p1 p2 p3 p4 hi
  have hi2 := hi
  obtain ⟨G, n, hs, l, cs, hS, hX, hF, hH, hT, hM, hHM, hTM⟩ := hi
  have hW := hS.1
  have h9 := hW.2.1
  have h20 := hW.2.2.1
  have x1 := hX.1
  have x2 := hX.2.1
  have x4 := hX.2.2.2.1
  refine OK_mk ?_
  unfold f_X7_addEdge f_X8_addEdge
  rw [show f_X7_areTwoNodes N x.1.1 p1 p2 = some (bI (twoI (gN G) p1 p2)) from by rw [hX.1]; exact X7_areTwoNodes N _ (by omega) p1 p2, X8_areNodes N _ (by omega) m.1 hM.1]
  refine Ok_bd1.mpr (Ok_some.mpr (Ok_sw.mpr (Ok_bd1.mpr (Ok_some.mpr (Ok_sw.mpr ?_)))))
  rcases twoI_cases (n := gN G) (by omega) p1 p2 with hp | ⟨hp, a, b, ha, hb, hab, rfl, rfl⟩
  · rw [hp, if_pos bF0, if_pos bF0]
    exact Ok_some.mpr (Ok_some.mpr (OK_end rfl hi2))
  · rw [hp, if_neg bT0, if_neg bT0]
    have hisA : ∀ q v, f_X8_isAt N m.1 q v = some (bI (atI G q v)) := fun q v => X8_isAt h20 hM.2.1 hM.2.2.2.1 N q v
    rcases Bh_cases hW ha p3 with ⟨ka, hka⟩ | hno
    · rw [(X7_may N hW hX ha p3).1 ⟨ka, hka⟩]
      refine Ok_bd1.mpr (Ok_some.mpr ?_)
      rw [if_neg i10]
      have e1 : (if p3 = -1 then f_X8_addEdge_b23 N (nI a) (nI b) p3 p4 m.1 m.2.1 m.2.2.1 else bd1 (f_X8_isAt N m.1 p3 (nI a)) fun r_4 => if r_4 = 0 then some (-1, m.1, m.2.1, m.2.2.1) else f_X8_addEdge_b23 N (nI a) (nI b) p3 p4 m.1 m.2.1 m.2.2.1) = f_X8_addEdge_b23 N (nI a) (nI b) p3 p4 m.1 m.2.1 m.2.2.1 := by
        by_cases c : p3 = -1
        · rw [if_pos c]
        · rw [if_neg c, hisA, Bh_at hW ha hka c]
          rfl
      rw [e1]
      unfold f_X8_addEdge_b23
      rcases Bh_cases hW hb p4 with ⟨kb, hkb⟩ | hno
      · rw [(X7_may N hW hX hb p4).1 ⟨kb, hkb⟩]
        refine Ok_bd1.mpr (Ok_some.mpr ?_)
        rw [if_pos i10]
        have e2 : (if p4 = -1 then f_X8_addEdge_b41 N (nI a) (nI b) p3 p4 m.1 m.2.1 m.2.2.1 else bd1 (f_X8_isAt N m.1 p4 (nI b)) fun r_7 => if ¬ r_7 = 0 then f_X8_addEdge_b41 N (nI a) (nI b) p3 p4 m.1 m.2.1 m.2.2.1 else some (-1, m.1, m.2.1, m.2.2.1)) = f_X8_addEdge_b41 N (nI a) (nI b) p3 p4 m.1 m.2.1 m.2.2.1 := by
          by_cases c : p4 = -1
          · rw [if_pos c]
          · rw [if_neg c, hisA, Bh_at hW hb hkb c]
            rfl
        rw [e2]
        refine Ok_sw.mpr (Ok_mono (X8_ae41 N hN hS hM hHM ha hb hab hka hkb) (fun q hq => ?_))
        refine Ok_bd1.mpr (Ok_mono (show Ok (f_X1_areJoined N x.1.2.1 x.1.2.2.2.1 x.1.2.2.2.2.1 (nI a) (nI b)) (fun r => (r = 1 ∧ joined G a b) ∨ (r = 0 ∧ ¬ joined G a b)) from by rw [x2]; exact X1_areJoined hW x4 N a b (by omega) (by omega) (by omega)) ?_)
        rintro r7 (⟨rfl, hj⟩ | ⟨rfl, hj⟩)
        · rw [if_neg i10]
          rcases hq with ⟨_, rfl⟩ | ⟨hj2, _⟩ | ⟨hj2, _⟩
          · exact Ok_some.mpr (OK_end rfl hi2)
          · exact absurd hj hj2
          · exact absurd hj hj2
        · rw [if_pos rfl]
          refine Ok_bd1.mpr (Ok_mono (X7_slot N hW hX hN ha hka) (fun r9 h9 => Ok_bd1.mpr (Ok_mono (X7_slot N hW hX hN hb hkb) (fun r10 h10 => ?_))))
          rw [h9, h10]
          refine Ok_bd1.mpr (Ok_mono (X7_join N hN hS hX hH ha hb hab hj (Bh_le hka) (Bh_le hkb)) (fun r hr => Ok_some.mpr ?_))
          rcases hr with ⟨c, rfl⟩ | ⟨c, y1, y2, y3, y4⟩
          · rcases hq with ⟨hj2, _⟩ | ⟨_, _, rfl⟩ | ⟨_, c2, _⟩
            · exact absurd hj2 hj
            · exact OK_end rfl hi2
            · omega
          · rcases hq with ⟨hj2, _⟩ | ⟨_, c2, _⟩ | ⟨_, _, z1, z2, z3⟩
            · exact absurd hj2 hj
            · omega
            · exact OK_end (by rw [z1]; exact y1.symm) ⟨gAdd G a b ka kb, pshN n, pshG n hs G, l, cs, St_psh hS (WF_add hW c ha hb hab hj) (Or.inl rfl), y3, y2, y4, hT, z2, z3, hTM⟩
      · rw [(X7_may N hW hX hb p4).2 hno, if_neg hno.1, hisA, hno.2]
        refine Ok_bd1.mpr (Ok_some.mpr ?_)
        rw [if_neg i00]
        refine Ok_some.mpr (Ok_bd1.mpr (Ok_some.mpr ?_))
        rw [if_neg (fun q => q bF0)]
        exact Ok_some.mpr (OK_end rfl hi2)
    · rw [(X7_may N hW hX ha p3).2 hno, if_neg hno.1, hisA, hno.2]
      refine Ok_bd1.mpr (Ok_some.mpr ?_)
      rw [if_pos rfl]
      refine Ok_some.mpr (Ok_bd1.mpr (Ok_some.mpr ?_))
      rw [if_pos bF0]
      exact Ok_some.mpr (OK_end rfl hi2)
theorem ok_addInFace (hN : 1000 < N) : OK_addInFace Inv N := by
  intro x m p1 p2 p3 hi
  obtain ⟨G, n, hs, l, cs, hS, hX, hF, hH, hT, hM, hHM, hTM⟩ := hi
  have hW := hS.1
  have h9 := hW.2.1
  have h20 := hW.2.2.1
  have hnf := nF_le hW
  have x2 := hX.2.1
  have x4 := hX.2.2.2.1
  refine OK_mk ?_
  unfold f_X7_addInFace f_X8_addInFace
  refine Ok_sw.mpr (Ok_bd1.mpr (Ok_mono (X8_walks hW hM N (by omega) _ _ _) ?_))
  rintro ⟨fo, fs, nf⟩ hbb
  dsimp only at hbb ⊢
  rw [show f_X7_areTwoNodes N x.1.1 p1 p2 = some (bI (twoI (gN G) p1 p2)) from by rw [hX.1]; exact X7_areTwoNodes N _ (by omega) p1 p2, X8_areNodes N _ (by omega) m.1 hM.1, X0_exists hW hF, show f_X8_in N p3 0 (nf - 1) = some (bI (inb p3 (nF G))) from by rw [hbb.2.2]; exact X8_in0 N _ (by omega) p3]
  refine Ok_bd1.mpr (Ok_some.mpr (Ok_sw.mpr (Ok_bd1.mpr (Ok_some.mpr ?_))))
  have hsame : Inv x (m.1, m.2.1, m.2.2.1, m.2.2.2.1, m.2.2.2.2.1, fo, fs, nf, m.2.2.2.2.2.2.2.2) := ⟨G, n, hs, l, cs, hS, hX, hF, hH, hT, hM, hHM, hTM⟩
  rcases twoI_cases (n := gN G) (by omega) p1 p2 with hp | ⟨hp, a, b, ha, hb, hab, rfl, rfl⟩
  · rw [hp, if_pos bF0, if_pos bF0]
    exact Ok_some.mpr (Ok_some.mpr (OK_end rfl hsame))
  · rw [hp, if_neg bT0, if_neg bT0]
    refine Ok_bd1.mpr (Ok_some.mpr (Ok_sw.mpr (Ok_bd1.mpr (Ok_some.mpr ?_))))
    cases hp3 : inb p3 (nF G) with
    | false =>
      rw [if_neg (fun q => q bF0), if_neg (fun q => q bF0)]
      exact Ok_some.mpr (Ok_some.mpr (OK_end rfl hsame))
    | true =>
      obtain ⟨f, hf, rfl⟩ := inb_of hp3 (by omega)
      rw [if_pos bT0, if_pos bT0, X8_nodesOn hW hM hbb.1 N (by omega) (by omega), X0_holds hW hF N hf (by omega), X0_holds hW hF N hf (by omega)]
      refine Ok_bd1.mpr (Ok_some.mpr (Ok_bd1.mpr (Ok_mono (X8_between hW hM.2.1 hM.2.2.2.1 N a b (by omega) (by omega) (by omega) hab) (fun r7 h7 => Ok_sw.mpr ?_))))
      refine Ok_bd1.mpr (Ok_mono (show Ok (f_X1_areJoined N x.1.2.1 x.1.2.2.2.1 x.1.2.2.2.2.1 (nI a) (nI b)) (fun r => (r = 1 ∧ joined G a b) ∨ (r = 0 ∧ ¬ joined G a b)) from by rw [x2]; exact X1_areJoined hW x4 N a b (by omega) (by omega) (by omega)) ?_)
      rintro r5 (⟨rfl, hj⟩ | ⟨rfl, hj⟩)
      · rcases h7 with ⟨q1, q2⟩ | ⟨q1, q2⟩
        · rw [if_pos i10, if_pos q1]
          exact Ok_some.mpr (Ok_some.mpr (OK_end rfl hsame))
        · exact absurd hj q2
      · rcases h7 with ⟨q1, q2⟩ | ⟨q1, q2⟩
        · exact absurd q2 hj
        · rw [if_neg i00, if_neg (fun q => q q1), b_two (by omega) (by omega)]
          refine Ok_bd1.mpr (Ok_some.mpr ?_)
          cases ha1 : bt (nsI G f) a with
          | false =>
            rw [if_pos bF0, Bool.false_and, if_neg (fun q => q bF0)]
            exact Ok_some.mpr (Ok_some.mpr (OK_end rfl hsame))
          | true =>
            rw [if_neg bT0, Bool.true_and]
            refine Ok_bd1.mpr (Ok_some.mpr ?_)
            cases hb1 : bt (nsI G f) b with
            | false =>
              rw [if_neg (fun q => q bF0), if_neg (fun q => q bF0)]
              exact Ok_some.mpr (Ok_some.mpr (OK_end rfl hsame))
            | true =>
              rw [if_pos bT0, if_pos bT0]
              have na := (ns_sp hW f a).mp ha1
              have nb := (ns_sp hW f b).mp hb1
              have h0 := (fst_sp hf).1
              have ea : it G (fl G f a) (fst0 G f) / 2 ∈ gR G a := by
                have := tl_at hW (it_lt hW h0 (fl G f a))
                rw [(fl_sp hW hf na).1.1] at this
                exact this
              have eb : it G (fl G f b) (fst0 G f) / 2 ∈ gR G b := by
                have := tl_at hW (it_lt hW h0 (fl G f b))
                rw [(fl_sp hW hf nb).1.1] at this
                exact this
              have pa := plc_lt ea
              have pb := plc_lt eb
              rw [X0_leave hW hF x4 N (by omega) hf (by omega) na, X0_leave hW hF x4 N (by omega) hf (by omega) nb]
              refine Ok_bd1.mpr (Ok_some.mpr ?_)
              rw [X1_slotOf hW hX.2.2.2.2.1 hX.2.2.2.2.2 N a _ (by omega) (by omega) ea]
              refine Ok_bd1.mpr (Ok_some.mpr (Ok_bd1.mpr (Ok_some.mpr ?_)))
              rw [X1_slotOf hW hX.2.2.2.2.1 hX.2.2.2.2.2 N b _ (by omega) (by omega) eb]
              refine Ok_bd1.mpr (Ok_some.mpr (Ok_bd1.mpr (Ok_mono (X7_join N hN hS hX hH ha hb hab hj (by omega) (by omega)) (fun r hr => Ok_some.mpr (Ok_chk.mpr ⟨by decide, ?_⟩)))))
              rw [show (1 : Int32).toNatClampNeg = 1 from rfl, hM.2.1]
              rcases hr with ⟨c, rfl⟩ | ⟨c, y1, y2, y3, y4⟩
              · rw [if_neg (by rw [c]; decide)]
                exact Ok_some.mpr (OK_end rfl hsame)
              · have c20 : ¬ nI (gE G).length = 20 := fun q => absurd ((nI_eq (b := 20) (by omega) (by omega)).mp q) (by omega)
                rw [if_pos c20]
                rw [X8_corner hW hM hbb.2.1 N (by omega) hf (by omega) na, X8_corner hW hM hbb.2.1 N (by omega) hf (by omega) nb]
                refine Ok_bd1.mpr (Ok_mono (X8_notes hW hM hS.2.2.1 hHM (fun k hk => (hS.2.2.2 k hk).1) N hN) (fun q3 g3 => Ok_bd1.mpr (Ok_some.mpr (Ok_bd1.mpr (Ok_some.mpr (Ok_bd1.mpr (Ok_mono (X8_joins hW c ha hb hab hj (by omega) (by omega) hM N (by omega)) (fun q6 g6 => Ok_some.mpr ?_))))))))
                exact OK_end (by rw [g6.1]; exact y1.symm) ⟨gAdd G a b _ _, pshN n, pshG n hs G, l, cs, St_psh hS (WF_add hW c ha hb hab hj) (Or.inl rfl), y3, y2, y4, hT, g6.2, g3, hTM⟩
end ADDC
