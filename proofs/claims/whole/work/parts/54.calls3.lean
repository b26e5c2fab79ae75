/-! ===== walk, faceOf, commonFace, swap ===== -/
def Srch (p : Nat → Prop) (n : Nat) (r : Int32) : Prop := (∃ f, f < n ∧ p f ∧ (∀ j, j < f → ¬ p j) ∧ r = nI f) ∨ ((∀ j, j < n → ¬ p j) ∧ r = -9)
theorem Srch_un {p : Nat → Prop} {n : Nat} {r q : Int32} (h : Srch p n r) (h2 : Srch p n q) : r = q := by
  rcases h with ⟨f, a1, a2, a3, rfl⟩ | ⟨a1, rfl⟩
  · rcases h2 with ⟨g, b1, b2, b3, rfl⟩ | ⟨b1, rfl⟩
    · rcases Nat.lt_trichotomy f g with q | q | q
      · exact absurd a2 (b3 f q)
      · rw [q]
      · exact absurd b2 (a3 g q)
    · exact absurd a2 (b1 f a1)
  · rcases h2 with ⟨g, b1, b2, b3, rfl⟩ | ⟨b1, rfl⟩
    · exact absurd b2 (a1 g b1)
    · rfl
theorem twoI_cases {n : Nat} (hn : n < 2 ^ 31) (p q : Int32) : twoI n p q = false ∨ (twoI n p q = true ∧ ∃ a b, a < n ∧ b < n ∧ a ≠ b ∧ p = nI a ∧ q = nI b) := by
  unfold twoI
  cases h1 : inb p n with
  | false => exact Or.inl rfl
  | true =>
    cases h2 : inb q n with
    | false => exact Or.inl rfl
    | true =>
      obtain ⟨a, ha, rfl⟩ := inb_of h1 hn
      obtain ⟨b, hb, rfl⟩ := inb_of h2 hn
      by_cases c : nI a = nI b
      · refine Or.inl ?_
        rw [decide_eq_false (fun q => q c)]; rfl
      · refine Or.inr ⟨by rw [decide_eq_true c]; rfl, a, b, ha, hb, fun q => c (by rw [q]), rfl, rfl⟩
section CALLS3
variable (N : Nat)
theorem ok_walk (hN : 1000 < N) : OK_walk Inv N := by
  intro x m p1 p2 hi
  obtain ⟨G, n, hs, l, cs, hS, hX, hF, hH, hT, hM, hHM, hTM⟩ := hi
  have hW := hS.1
  have hnf := nF_le hW
  refine OK_mk ?_
  unfold f_X7_walk f_X8_walk
  rw [X0_exists hW hF]
  refine Ok_bd1.mpr (Ok_some.mpr (Ok_sw.mpr (Ok_bd1.mpr (Ok_mono (X8_walks hW hM N (by omega) _ _ _) ?_))))
  rintro ⟨fo, fs, nf⟩ hb
  dsimp only at hb ⊢
  have hend : ∀ (r : Int32), Ok (some r) (fun a => Ok (some (r, fo, fs, nf)) (fun b => ∃ (ρ : Int32) (x2 : XS) (m2 : MS), some (a, x) = some (ρ, x2) ∧ some (b.1, (m.1, m.2.1, m.2.2.1, m.2.2.2.1, m.2.2.2.2.1, b.2.1, b.2.2.1, b.2.2.2, m.2.2.2.2.2.2.2.2)) = some (ρ, m2) ∧ Inv x2 m2)) := fun r => Ok_some.mpr (Ok_some.mpr (OK_end rfl ⟨G, n, hs, l, cs, hS, hX, hF, hH, hT, hM, hHM, hTM⟩))
  rw [hb.2.2, X8_in0 N _ (by omega)]
  refine Ok_bd1.mpr (Ok_some.mpr (Ok_sw.mpr ?_))
  rw [← hb.2.2]
  cases hp : inb p1 (nF G) with
  | false =>
    rw [if_pos bF0, if_pos bF0]
    exact hend (-1)
  | true =>
    obtain ⟨f, hf, rfl⟩ := inb_of hp (by omega)
    rw [if_neg bT0, if_neg bT0]
    by_cases c : 0 ≤ p2
    · rw [if_pos c, if_pos c]
      obtain ⟨k, hk, rfl⟩ := nI_of (i_nlt.mpr c)
      have h0 := (fst_sp hf).1
      have hpl := per_le hW h0
      have h20 := hW.2.2.1
      rw [nI_clamp (by omega), hF.2.2.2.2.2.2.1 f hf, X8_lengthOf hW hM hb.1 N (by omega) hf]
      refine Ok_chk.mpr ⟨inb_nI (by omega) (by decide), Ok_sw.mpr (Ok_bd1.mpr (Ok_some.mpr (Ok_sw.mpr ?_)))⟩
      by_cases c2 : per G (fst0 G f) ≤ k
      · rw [if_pos ((nI_leI (by omega) hk).mpr c2), if_neg (by rw [nI_ltI hk (by omega)]; omega)]
        exact hend (-9)
      · rw [if_neg (by rw [nI_leI (by omega) hk]; exact c2), if_pos ((nI_ltI hk (by omega)).mpr (by omega)), X0_directedAt hW hF N (by omega) hf (by omega), hb.2.1 f hf]
        refine Ok_bd1.mpr (Ok_some.mpr (Ok_some.mpr (Ok_chk.mpr ⟨inb_nI (by omega) (by decide), Ok_nm.mpr ?_⟩)))
        refine lpU (σ := Unit) (fun n j _ => f_X8_walk_b46 N m.1 n (nI k) (nI (it G j (fst0 G f))) (nI j) fo fs nf) (fun _ _ => True) k ?_ ?_ N 0 () (Nat.zero_le _) (by omega) trivial
        · intro n1 _ _
          simp only [f_X8_walk_b46]
          refine Ok_ife (nI_leI (by omega) (by omega)) (fun _ => Ok_some.mpr ?_) (fun c => absurd (Nat.le_refl _) c)
          exact OK_end rfl ⟨G, n, hs, l, cs, hS, hX, hF, hH, hT, hM, hHM, hTM⟩
        · intro n1 j _ hj _ ih
          simp only [f_X8_walk_b46]
          rw [X8_follows hW hM N (by omega) (it_lt hW h0 j), nI_1]
          exact Ok_ife (nI_leI (by omega) (by omega)) (fun c => absurd c (by omega)) (fun _ => Ok_bd1.mpr (Ok_some.mpr (ih () trivial)))
    · rw [if_neg c, if_neg c]
      exact hend (-1)
theorem ok_faceOf (hN : 1000 < N) : OK_faceOf Inv N := by
  intro x m p1 hi
  obtain ⟨G, n, hs, l, cs, hS, hX, hF, hH, hT, hM, hHM, hTM⟩ := hi
  have hW := hS.1
  have h20 := hW.2.2.1
  have x2 := hX.2.1
  refine OK_mk ?_
  unfold f_X7_faceOf f_X8_faceOf
  rw [show f_X1_hasDirected N x.1.2.1 p1 = some (bI (inb p1 (2 * (gE G).length))) from by rw [x2]; exact X1_hasDirected N _ (by omega) p1]
  refine Ok_bd1.mpr (Ok_some.mpr (Ok_sw.mpr (Ok_chk.mpr ⟨by decide, ?_⟩)))
  rw [show (1 : Int32).toNatClampNeg = 1 from rfl, hM.2.1, two_nI, X8_in0 N _ (by omega)]
  refine Ok_bd1.mpr (Ok_some.mpr (Ok_sw.mpr ?_))
  cases hp : inb p1 (2 * (gE G).length) with
  | false =>
    rw [if_pos bF0, if_neg (fun q => q bF0)]
    exact Ok_some.mpr (Ok_some.mpr (OK_end rfl ⟨G, n, hs, l, cs, hS, hX, hF, hH, hT, hM, hHM, hTM⟩))
  | true =>
    obtain ⟨d, hd, rfl⟩ := inb_of hp (by omega)
    rw [if_neg bT0, if_pos bT0, nI_clamp (by omega), hF.2.2.2.2.1 d hd]
    refine Ok_chk.mpr ⟨inb_nI (by omega) (by decide), Ok_some.mpr (Ok_bd1.mpr (Ok_mono (X8_walks hW hM N (by omega) _ _ _) (fun b hb => Ok_chk.mpr ⟨inb_nI (by omega) (by decide), Ok_some.mpr ?_⟩)))⟩
    exact OK_end (hb.1 d hd) ⟨G, n, hs, l, cs, hS, hX, hF, hH, hT, hM, hHM, hTM⟩
theorem ok_commonFace (hN : 1000 < N) : OK_commonFace Inv N := by
  intro x m p1 p2 hi
  obtain ⟨G, n, hs, l, cs, hS, hX, hF, hH, hT, hM, hHM, hTM⟩ := hi
  have hW := hS.1
  have h9 := hW.2.1
  have hnf := nF_le hW
  refine OK_mk ?_
  unfold f_X7_commonFace f_X8_commonFace
  rw [show f_X7_areTwoNodes N x.1.1 p1 p2 = some (bI (twoI (gN G) p1 p2)) from by rw [hX.1]; exact X7_areTwoNodes N _ (by omega) p1 p2, X8_areNodes N _ (by omega) m.1 hM.1]
  refine Ok_bd1.mpr (Ok_some.mpr (Ok_sw.mpr (Ok_bd1.mpr (Ok_some.mpr (Ok_sw.mpr ?_)))))
  rcases twoI_cases (n := gN G) (by omega) p1 p2 with hp | ⟨hp, a, b, ha, hb, hab, rfl, rfl⟩
  · rw [hp, if_neg (fun q => q bF0), if_neg (fun q => q bF0)]
    exact Ok_some.mpr (Ok_some.mpr (OK_end rfl ⟨G, n, hs, l, cs, hS, hX, hF, hH, hT, hM, hHM, hTM⟩))
  · rw [hp, if_pos bT0, if_pos bT0]
    have key1 : Ok (f_X7_commonFace_b13 N x.2.2.1.1 x.2.2.1.2.2.2.2.2.2.2.1 x.1.1 N (nI a) (nI b) 0) (fun r => Srch (fun f => bt (nsI G f) a = true ∧ bt (nsI G f) b = true) (nF G) r) := by
      refine lpU (σ := Unit) (fun n1 i _ => f_X7_commonFace_b13 N x.2.2.1.1 x.2.2.1.2.2.2.2.2.2.2.1 x.1.1 n1 (nI a) (nI b) (nI i)) (fun i _ => ∀ j, j < i → ¬ (bt (nsI G j) a = true ∧ bt (nsI G j) b = true)) (nF G) ?_ ?_ N 0 () (Nat.zero_le _) (by omega) (fun j hj => absurd hj (Nat.not_lt_zero j))
      · intro n1 _ hI
        simp only [f_X7_commonFace_b13]
        rw [hF.1]
        exact Ok_ife (nI_leI (by omega) (by omega)) (fun _ => Ok_some.mpr (Or.inr ⟨hI, rfl⟩)) (fun c => absurd (Nat.le_refl _) c)
      · intro n1 i _ hi hI ih
        simp only [f_X7_commonFace_b13, f_X7_commonFace_b50]
        rw [X0_holds hW hF N hi (by omega), X0_holds hW hF N hi (by omega), nI_1, hF.1] at *
        refine Ok_ife (nI_leI (by omega) (by omega)) (fun c => absurd c (by omega)) (fun _ => Ok_bd1.mpr (Ok_some.mpr (Ok_ife bI_0 (fun c => ih () (fun j hj => ?_)) (fun c => Ok_bd1.mpr (Ok_some.mpr (Ok_ife bI_0 (fun c2 => ih () (fun j hj => ?_)) (fun c2 => Ok_some.mpr ?_))))))) 
        · rcases Nat.lt_or_ge j i with q | q
          · exact hI j q
          · obtain rfl : j = i := by omega
            rintro ⟨q1, q2⟩
            rw [c] at q1; cases q1
        · rcases Nat.lt_or_ge j i with q | q
          · exact hI j q
          · obtain rfl : j = i := by omega
            rintro ⟨q1, q2⟩
            rw [c2] at q2; cases q2
        · rw [Bool.not_eq_false] at c c2
          exact Or.inl ⟨i, hi, ⟨c, c2⟩, hI, rfl⟩
    refine Ok_mono key1 (fun r hr => Ok_bd1.mpr (Ok_mono (X8_walks hW hM N (by omega) _ _ _) ?_))
    rintro ⟨fo, fs, nf⟩ hbb
    dsimp only at hbb ⊢
    refine lpU (σ := Unit) (fun n1 i _ => f_X8_commonFace_b17 N m.1 n1 (nI a) (nI b) (nI i) fo fs nf) (fun i _ => ∀ j, j < i → ¬ (bt (nsI G j) a = true ∧ bt (nsI G j) b = true)) (nF G) ?_ ?_ N 0 () (Nat.zero_le _) (by omega) (fun j hj => absurd hj (Nat.not_lt_zero j))
    · intro n1 _ hI
      simp only [f_X8_commonFace_b17]
      rw [hbb.2.2]
      refine Ok_ife (nI_leI (by omega) (by omega)) (fun _ => Ok_some.mpr ?_) (fun c => absurd (Nat.le_refl _) c)
      exact OK_end (Srch_un (Or.inr ⟨hI, rfl⟩) hr) ⟨G, n, hs, l, cs, hS, hX, hF, hH, hT, hM, hHM, hTM⟩
    · intro n1 i _ hi hI ih
      simp only [f_X8_commonFace_b17]
      rw [hbb.2.2, X8_nodesOn hW hM hbb.1 N (by omega) (by omega), nI_1]
      rw [hbb.2.2] at ih
      refine Ok_ife (nI_leI (by omega) (by omega)) (fun c => absurd c (by omega)) (fun _ => Ok_bd1.mpr (Ok_some.mpr (Ok_bd1.mpr (Ok_some.mpr ?_))))
      rw [b_two (by omega) (by omega)]
      cases hc : (bt (nsI G i) a && bt (nsI G i) b) with
      | false =>
        rw [if_pos (by decide)]
        refine ih () (fun j hj => ?_)
        rcases Nat.lt_or_ge j i with q | q
        · exact hI j q
        · obtain rfl : j = i := by omega
          rintro ⟨q1, q2⟩
          rw [q1, q2] at hc; cases hc
      | true =>
        rw [if_neg (by decide)]
        rw [Bool.and_eq_true] at hc
        refine Ok_some.mpr ?_
        exact OK_end (Srch_un (Or.inl ⟨i, hi, hc, hI, rfl⟩) hr) ⟨G, n, hs, l, cs, hS, hX, hF, hH, hT, hM, hHM, hTM⟩
theorem at_mem {G : Gr} (hW : WF G) {p : Int32} {v : Nat} (hv : v < gN G) (h : atI G p (nI v) = true) : ∃ e, e ∈ gR G v ∧ p = nI e := by
  have h20 := hW.2.2.1
  have h9 := hW.2.1
  unfold atI at h
  rw [Bool.and_eq_true] at h
  obtain ⟨e, he, rfl⟩ := inb_of h.1 (by omega)
  have we := WF_end hW he
  have h2 := of_decide_eq_true h.2
  rw [nI_clamp (by omega), nI_inj (by omega) (by omega), nI_inj (by omega) (by omega)] at h2
  exact ⟨e, (hW.2.2.2.2.2.2.1 v e).mpr ⟨he, h2⟩, rfl⟩
theorem ok_swap (hN : 1000 < N) : OK_swap Inv N := by
  intro x m p1 p2 p3 hi
  have hi2 := hi
  obtain ⟨G, n, hs, l, cs, hS, hX, hF, hH, hT, hM, hHM, hTM⟩ := hi
  have hW := hS.1
  have h9 := hW.2.1
  have h20 := hW.2.2.1
  have x1 := hX.1
  have x2 := hX.2.1
  have x4 := hX.2.2.2.1
  refine OK_mk ?_
  unfold f_X7_swap f_X8_swap
  rw [show f_X1_hasNode N x.1.1 p1 = some (bI (inb p1 (gN G))) from by rw [x1]; exact X1_hasNode N _ (by omega) p1, X8_isNode N _ (by omega) m.1 hM.1]
  rw [show f_X1_isEnd N x.1.2.1 x.1.2.2.2.1 x.1.2.2.2.2.1 p2 p1 = some (bI (atI G p2 p1)) from by rw [x2]; exact X1_isEnd h20 x4 N p2 p1, X8_isAt h20 hM.2.1 hM.2.2.2.1 N p2 p1]
  rw [show f_X1_isEnd N x.1.2.1 x.1.2.2.2.1 x.1.2.2.2.2.1 p3 p1 = some (bI (atI G p3 p1)) from by rw [x2]; exact X1_isEnd h20 x4 N p3 p1, X8_isAt h20 hM.2.1 hM.2.2.2.1 N p3 p1]
  refine Ok_bd1.mpr (Ok_some.mpr (Ok_sw.mpr (Ok_bd1.mpr (Ok_some.mpr (Ok_sw.mpr ?_)))))
  cases hb : inb p1 (gN G) with
  | false =>
    rw [if_pos bF0, if_pos bF0]
    exact Ok_some.mpr (Ok_some.mpr (OK_end rfl hi2))
  | true =>
    obtain ⟨v, hv, rfl⟩ := inb_of hb (by omega)
    rw [if_neg bT0, if_neg bT0]
    refine Ok_bd1.mpr (Ok_some.mpr (Ok_sw.mpr (Ok_bd1.mpr (Ok_some.mpr (Ok_sw.mpr ?_)))))
    cases hb2 : atI G p2 (nI v) with
    | false =>
      rw [if_pos bF0, if_pos bF0]
      exact Ok_some.mpr (Ok_some.mpr (OK_end rfl hi2))
    | true =>
      rw [if_neg bT0, if_neg bT0]
      refine Ok_bd1.mpr (Ok_some.mpr (Ok_sw.mpr (Ok_bd1.mpr (Ok_some.mpr (Ok_sw.mpr ?_)))))
      cases hb3 : atI G p3 (nI v) with
      | false =>
        rw [if_neg (fun q => q bF0), if_neg (fun q => q bF0)]
        exact Ok_some.mpr (Ok_some.mpr (OK_end rfl hi2))
      | true =>
        rw [if_pos bT0, if_pos bT0]
        obtain ⟨f, hf, rfl⟩ := at_mem hW hv hb2
        obtain ⟨s, hs2, rfl⟩ := at_mem hW hv hb3
        have hW2 := WF_swap hW hf hs2
        refine Ok_bd1.mpr (Ok_mono (X2_save hW hX hS.2.2.1 hH N) (fun r3 h3 => Ok_bd1.mpr (Ok_mono (X1_exchange hW hf hs2 hX N (by omega)) (fun r5 h5 => Ok_bd1.mpr (Ok_mono (X7_settle hW2 h5 N (by omega) x.2.2.1 _) (fun r7 h7 => ?_))))))
        have e8 : (52 + 8 * nI v) = nI (52 + 8 * v) := by rw [show (8 : Int32) = nI 8 from rfl, show (52 : Int32) = nI 52 from rfl, pk_mul, nI_add]
        have p1 := plc_lt hf
        have p2 := plc_lt hs2
        have h8 := WF_deg hW v
        have hRM := X8_swapRM hW hf hs2 hM
        rw [X8_place hW hM.2.2.2.2.2 N v f (by omega) (by omega) hf, X8_place hW hM.2.2.2.2.2 N v s (by omega) (by omega) hs2]
        refine Ok_sw.mpr (Ok_bd1.mpr (Ok_mono (X8_notes hW hM hS.2.2.1 hHM (fun k hk => (hS.2.2.2 k hk).1) N hN) (fun q3 g3 => Ok_bd1.mpr (Ok_some.mpr (Ok_bd1.mpr (Ok_some.mpr ?_))))))
        rw [e8, nI_add, nI_add, nI_clamp (by omega), nI_clamp (by omega), show (2 : Int32).toNatClampNeg = 2 from rfl]
        refine Ok_chk.mpr ⟨inb_nI (by omega) (by decide), Ok_chk.mpr ⟨inb_nI (by omega) (by decide), Ok_chk.mpr ⟨by decide, Ok_bd1.mpr (Ok_mono (X8_genus hW2 hRM N (by omega) _ _ _) (fun q7 g7 => Ok_sw.mpr ?_))⟩⟩⟩
        have e1 : r7.2.2.1 = genI (gSwap G v f s) := h7.1.2.2.1
        have e2 := g7.1
        have hRX : RX (gSwap G v f s) (x.1.1, x.1.2.1, r7.2.2.2.2.2.2.2.2.2, x.1.2.2.2.1, x.1.2.2.2.2.1, x.1.2.2.2.2.2.1, r5) := by
          obtain ⟨a1, a2, a3, a4, a5, a6⟩ := h5
          exact ⟨a1, a2, h7.2, a4, a5, a6⟩
        by_cases c : genI (gSwap G v f s) = 0
        · rw [if_neg (fun q => q (by rw [e1]; exact c)), if_neg (fun q => q (by rw [e2]; exact c))]
          exact Ok_some.mpr (Ok_some.mpr (OK_end rfl ⟨gSwap G v f s, pshN n, pshG n hs G, l, cs, St_psh hS hW2 (Or.inl rfl), hRX, h7.1, h3, hT, hRM, g3, hTM⟩))
        · rw [if_pos (by rw [e1]; exact c), if_pos (by rw [e2]; exact c)]
          exact Ok_some.mpr (Ok_some.mpr (OK_end rfl ⟨gSwap G v f s, pshN n, pshG n hs G, l, cs, St_psh hS hW2 (Or.inl rfl), hRX, h7.1, h3, hT, hRM, g3, hTM⟩))
end CALLS3
