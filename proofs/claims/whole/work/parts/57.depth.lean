/-! ===== depth ===== -/
theorem b_one {x : Int32} {k : Nat} (hk : k < 32) : ((x >>> (nI k &&& 31)) &&& 1) = bI (bt x k) := by
  refine b_ext (fun i hi => ?_)
  rw [b_and, b_1, b_sshr k hk x hi]
  by_cases c : i = 0
  · subst c
    rw [if_pos (by omega), Nat.add_zero, decide_eq_true rfl, Bool.and_true]
    cases bt x k <;> decide
  · rw [decide_eq_false c, Bool.and_false]
    cases bt x k with
    | false => rw [show bI false = 0 from rfl, b_0]
    | true => rw [show bI true = 1 from rfl, b_1, decide_eq_false c]
theorem X8_has (N : Nat) {x : Int32} {k : Nat} (hk : k < 32) : f_X8_has N x (nI k) = some (bI (bt x k)) := by
  unfold f_X8_has
  rw [b_one hk]
  cases bt x k <;> rfl
def wdP (G : Gr) (x : Int32) (n b : Nat) : Prop := bt x b = true ∨ ∃ f, f < n ∧ (∃ c, NS G f c ∧ bt x c = true) ∧ NS G f b
noncomputable def wd (G : Gr) (x : Int32) : Int32 := stS (wdP G x (nF G))
noncomputable def dS (G : Gr) : Nat → Int32
  | 0 => if nF G = 0 then 0 else nsI G (gO G)
  | k + 1 => wd G (dS G k)
section DEPTH
variable {G : Gr}
theorem wd_sp (hW : WF G) (x : Int32) (b : Nat) : bt (wd G x) b = true ↔ wdP G x (nF G) b := by
  unfold wd
  rw [stS_sp]
  refine ⟨fun q => q.2, fun q => ⟨?_, q⟩⟩
  rcases q with q | ⟨f, _, _, q⟩
  · rcases Nat.lt_or_ge b 32 with h | h
    · exact h
    · rw [b_big h] at q; cases q
  · have := NS_lt hW q
    have := hW.2.1
    omega
theorem ns_and (hW : WF G) (f : Nat) (x : Int32) : (nsI G f &&& x) = 0 ↔ ¬ ∃ c, NS G f c ∧ bt x c = true := by
  rw [b_zero]
  constructor
  · rintro h ⟨c, h1, h2⟩
    have h3 := NS_lt hW h1
    have h9 := hW.2.1
    have := h c (by omega)
    rw [b_and, (ns_sp hW f c).mpr h1, h2] at this
    cases this
  · intro h i _
    rw [b_and]
    cases h1 : bt (nsI G f) i with
    | false => rfl
    | true =>
      cases h2 : bt x i with
      | false => rfl
      | true => exact absurd ⟨i, (ns_sp hW f i).mp h1, h2⟩ h
theorem wd_skip {x : Int32} {i b : Nat} (c : ¬ ∃ c, NS G i c ∧ bt x c = true) : wdP G x (i + 1) b ↔ wdP G x i b := by
  constructor
  · rintro (q | ⟨f, q1, q2, q3⟩)
    · exact Or.inl q
    · rcases Nat.lt_or_ge f i with q | q
      · exact Or.inr ⟨f, q, q2, q3⟩
      · obtain rfl : f = i := by omega
        exact absurd q2 c
  · rintro (q | ⟨f, q1, q2, q3⟩)
    · exact Or.inl q
    · exact Or.inr ⟨f, by omega, q2, q3⟩
theorem wd_take {x : Int32} {i b : Nat} (c : ∃ c, NS G i c ∧ bt x c = true) : wdP G x (i + 1) b ↔ wdP G x i b ∨ NS G i b := by
  constructor
  · rintro (q | ⟨f, q1, q2, q3⟩)
    · exact Or.inl (Or.inl q)
    · rcases Nat.lt_or_ge f i with q | q
      · exact Or.inl (Or.inr ⟨f, q, q2, q3⟩)
      · obtain rfl : f = i := by omega
        exact Or.inr q3
  · rintro ((q | ⟨f, q1, q2, q3⟩) | q)
    · exact Or.inl q
    · exact Or.inr ⟨f, by omega, q2, q3⟩
    · exact Or.inr ⟨i, by omega, c, q⟩
theorem wd_0 {x : Int32} {b : Nat} : wdP G x 0 b ↔ bt x b = true := ⟨fun q => q.elim id (fun ⟨f, q, _⟩ => absurd q (Nat.not_lt_zero f)), Or.inl⟩
theorem X0_widen (hW : WF G) {t : TF} (hF : FR G t) (N : Nat) (hN : 100 < N) (x : Int32) : f_X0_widen N t.1 t.2.2.2.2.2.2.2.1 x = some (wd G x) := by
  have hnf := nF_le hW
  refine Ok_of ?_
  unfold f_X0_widen
  rw [hF.1]
  refine lpU (fun n i y => f_X0_widen_b4 N (nI (nF G)) t.2.2.2.2.2.2.2.1 n x y (nI i)) (fun i y => ∀ b, bt y b = true ↔ wdP G x i b) (nF G) ?_ ?_ N 0 x (Nat.zero_le _) (by omega) (fun b => wd_0.symm)
  · intro n y hI
    simp only [f_X0_widen_b4]
    exact Ok_ife (nI_leI (by omega) (by omega)) (fun _ => Ok_some.mpr (b_ext2 (fun b _ => by rw [hI b, wd_sp hW]))) (fun c => absurd (Nat.le_refl _) c)
  · intro n i y hi hI ih
    simp only [f_X0_widen_b4, f_X0_widen_b32]
    rw [nI_clamp (by omega), FR_ns hF hi, nI_1]
    refine Ok_ife (nI_leI (by omega) (by omega)) (fun c => absurd c (by omega)) (fun _ => Ok_chk.mpr ⟨inb_nI (by omega) (by decide), Ok_ife (ns_and hW i x) (fun c => ih _ (fun b => ?_)) (fun c => Ok_chk.mpr ⟨inb_nI (by omega) (by decide), Ok_nm.mpr (ih _ (fun b => ?_))⟩)⟩)
    · rw [wd_skip c]; exact hI b
    · rw [b_or, Bool.or_eq_true, hI b, ns_sp hW, wd_take (Classical.not_not.mp c)]
theorem X8_widen (hW : WF G) {s : Nat → Int32} (hR : RM G s) {fo fs : Nat → Int32} {nf : Int32} (hb : RF G fo fs nf) (N : Nat) (hN : 100 < N) (x x1 : Int32) (j : Nat)
    (k38 : Int32 → Int32 → Int32 → (Nat → Int32) → (Nat → Int32) → Int32 → Option (Int32 × (Nat → Int32) × (Nat → Int32) × Int32)) (Q : Int32 × (Nat → Int32) × (Nat → Int32) × Int32 → Prop)
    (hk : Ok (k38 x1 (wd G x) (nI (j + 1)) fo fs nf) Q) : Ok (f_X8_depth_b64 N s k38 N x1 x (nI j) x 0 fo fs nf) Q := by
  have hnf := nF_le hW
  refine lpU (fun n i y => f_X8_depth_b64 N s k38 n x1 x (nI j) y (nI i) fo fs nf) (fun i y => ∀ b, bt y b = true ↔ wdP G x i b) (nF G) ?_ ?_ N 0 x (Nat.zero_le _) (by omega) (fun b => wd_0.symm)
  · intro n y hI
    simp only [f_X8_depth_b64, f_X8_depth_b105]
    rw [hb.2.2, nI_1]
    refine Ok_ife (nI_leI (by omega) (by omega)) (fun _ => ?_) (fun c => absurd (Nat.le_refl _) c)
    rw [show y = wd G x from b_ext2 (fun b _ => by rw [hI b, wd_sp hW]), ← hb.2.2]
    exact hk
  · intro n i y hi hI ih
    simp only [f_X8_depth_b64, f_X8_depth_b96]
    rw [X8_nodesOn hW hR hb.1 N hN (by omega), nI_1, hb.2.2]
    rw [hb.2.2] at ih
    refine Ok_ife (nI_leI (by omega) (by omega)) (fun c => absurd c (by omega)) (fun _ => Ok_bd1.mpr (Ok_some.mpr (Ok_ife (ns_and hW i x) (fun c => Ok_nm.mpr (ih _ (fun b => ?_))) (fun c => Ok_bd1.mpr (Ok_some.mpr (Ok_nm.mpr (ih _ (fun b => ?_))))))))
    · rw [b_or, b_0, Bool.or_false, wd_skip c]; exact hI b
    · rw [b_or, Bool.or_eq_true, hI b, ns_sp hW, wd_take (Classical.not_not.mp c)]
theorem dS_lt (hW : WF G) : ∀ k b, bt (dS G k) b = true → b < gN G
  | 0, b, h => by
    unfold dS at h
    split at h
    · rw [b_0] at h; cases h
    · exact NS_lt hW ((ns_sp hW _ b).mp h)
  | k + 1, b, h => by
    rcases (wd_sp hW _ b).mp h with q | ⟨f, _, _, q⟩
    · exact dS_lt hW k b q
    · exact NS_lt hW q
theorem dS_up (hW : WF G) {k b : Nat} (h : bt (dS G k) b = true) : bt (dS G (k + 1)) b = true := (wd_sp hW _ b).mpr (Or.inl h)
theorem dS_stay {j : Nat} (h : dS G (j + 1) = dS G j) : ∀ i, dS G (j + i) = dS G j
  | 0 => rfl
  | i + 1 => by
    show wd G (dS G (j + i)) = dS G j
    rw [dS_stay h i]
    exact h
theorem dS_big (hW : WF G) (hO : GO G) {k v : Nat} (h1 : bt (dS G k) v = true) (h2 : ∀ j, j < k → ¬ bt (dS G j) v = true) : k < gN G := by
  have key : ∀ j, j ≤ k → j + 1 ≤ fb_ct (bt (dS G j)) (gN G) := by
    intro j
    induction j with
    | zero =>
      intro _
      have hne : nF G ≠ 0 := by
        intro q
        have : ∀ i b, bt (dS G i) b = false := by
          intro i
          induction i with
          | zero => intro b; unfold dS; rw [if_pos q]; exact b_0 b
          | succ i ih =>
            intro b
            cases hb : bt (dS G (i + 1)) b with
            | false => rfl
            | true =>
              rcases (wd_sp hW _ b).mp hb with q2 | ⟨f, q2, _⟩
              · rw [ih b] at q2; cases q2
              · omega
        rw [this k v] at h1; cases h1
      have hf : gO G < nF G := by rcases hO with q | q <;> omega
      have h0 := (fst_sp hf).1
      have hn : NS G (gO G) (tl G (fst0 G (gO G))) := ⟨_, h0, (lab_fst hW hf h0).mpr (fst_mn hf), rfl⟩
      have : 0 < fb_ct (bt (dS G 0)) (gN G) := fb_ct_pos.mpr ⟨_, tl_lt hW h0, by
        unfold dS
        rw [if_neg hne]
        exact (ns_sp hW _ _).mpr hn⟩
      omega
    | succ j ih =>
      intro hj
      have h3 := ih (by omega)
      have hne : dS G (j + 1) ≠ dS G j := by
        intro q
        have := dS_stay q (k - j)
        rw [show j + (k - j) = k from by omega] at this
        rw [this] at h1
        exact h2 j (by omega) h1
      have : ∃ b, b < gN G ∧ bt (dS G j) b = false ∧ bt (dS G (j + 1)) b = true := by
        refine Classical.byContradiction (fun q => hne (b_ext (fun b hb => ?_)))
        cases hx : bt (dS G j) b with
        | true => exact dS_up hW hx
        | false =>
          cases hy : bt (dS G (j + 1)) b with
          | false => rfl
          | true => exact absurd ⟨b, dS_lt hW _ b hy, hx, hy⟩ q
      obtain ⟨b, b1, b2, b3⟩ := this
      have := ct_lt (p := bt (dS G j)) (q := bt (dS G (j + 1))) (n := gN G) (fun i _ hi => dS_up hW hi) b1 b2 b3
      omega
  have := key k (Nat.le_refl k)
  have := fb_ct_le (bt (dS G k)) (gN G)
  omega
theorem ok_depth (N : Nat) (hN : 1000 < N) : OK_depth Inv N := by
  intro x m p1 hi
  have hi2 := hi
  obtain ⟨G, n, hs, l, cs, hS, hX, hF, hH, hT, hM, hHM, hTM⟩ := hi
  have hW := hS.1
  have hO := hS.2.1
  have h9 := hW.2.1
  have hnf := nF_le hW
  refine OK_mk ?_
  unfold f_X7_depth f_X8_depth
  rw [show f_X1_hasNode N x.1.1 p1 = some (bI (inb p1 (gN G))) from by rw [hX.1]; exact X1_hasNode N _ (by omega) p1, X8_isNode N _ (by omega) m.1 hM.1]
  refine Ok_bd1.mpr (Ok_some.mpr (Ok_sw.mpr (Ok_bd1.mpr (Ok_some.mpr (Ok_sw.mpr ?_)))))
  cases hb : inb p1 (gN G) with
  | false =>
    rw [if_neg (fun q => q bF0), if_neg (fun q => q bF0)]
    exact Ok_some.mpr (Ok_some.mpr (OK_end rfl hi2))
  | true =>
    obtain ⟨v, hv, rfl⟩ := inb_of hb (by omega)
    rw [if_pos bT0, if_pos bT0, X0_exists hW hF]
    have key1 : Ok (f_X7_depth_b49 N x.2.2.1.1 x.2.2.1.2.2.2.2.2.2.2.1 x.1.1 x.1.2.2.1 (nI v) (dS G 0)) (fun r => Srch (fun k => bt (dS G k) v = true) 9 r) := by
      unfold f_X7_depth_b49
      refine lpU (fun n1 i y => f_X7_depth_b52 N x.2.2.1.1 x.2.2.1.2.2.2.2.2.2.2.1 x.1.1 x.1.2.2.1 n1 (nI v) y (nI i)) (fun i y => y = dS G i ∧ ∀ j, j < i → ¬ bt (dS G j) v = true) 9 ?_ ?_ N 0 _ (Nat.zero_le _) (by omega) ⟨rfl, fun j hj => absurd hj (Nat.not_lt_zero j)⟩
      · rintro n1 y ⟨rfl, hI⟩
        simp only [f_X7_depth_b52]
        rw [show nI 9 = (9 : Int32) from rfl, if_pos (by decide)]
        exact Ok_some.mpr (Or.inr ⟨hI, rfl⟩)
      · rintro n1 i y hi ⟨rfl, hI⟩ ih
        simp only [f_X7_depth_b52]
        rw [X7_contains N (by omega), X0_widen hW hF N (by omega), nI_1]
        refine Ok_ife (nI_leI (a := 9) (b := i) (by omega) (by omega)) (fun c => absurd c (by omega)) (fun _ => Ok_bd1.mpr (Ok_some.mpr (Ok_ife bI_0 (fun c => Ok_bd1.mpr (Ok_some.mpr (ih _ ⟨rfl, fun j hj => ?_⟩))) (fun c => Ok_some.mpr ?_))))
        · rcases Nat.lt_or_ge j i with q | q
          · exact hI j q
          · obtain rfl : j = i := by omega
            rw [c]; decide
        · rw [Bool.not_eq_false] at c
          exact Or.inl ⟨i, hi, c, hI, rfl⟩
    have key2 : ∀ fo fs nf, RF G fo fs nf → Ok (f_X8_depth_b35 N m.1 (nI v) (dS G 0) fo fs nf) (fun r => Srch (fun k => bt (dS G k) v = true) (gN G) r.1 ∧ r.2 = (fo, fs, nf)) := by
      intro fo fs nf hbb
      unfold f_X8_depth_b35
      refine lpU (fun n1 i y => f_X8_depth_b38 N m.1 n1 (nI v) y (nI i) fo fs nf) (fun i y => y = dS G i ∧ ∀ j, j < i → ¬ bt (dS G j) v = true) (gN G) ?_ ?_ N 0 _ (Nat.zero_le _) (by omega) ⟨rfl, fun j hj => absurd hj (Nat.not_lt_zero j)⟩
      · rintro n1 y ⟨rfl, hI⟩
        simp only [f_X8_depth_b38]
        rw [show (0 : Int32).toNatClampNeg = 0 from rfl, hM.1]
        exact Ok_chk.mpr ⟨by decide, Ok_ife (nI_leI (by omega) (by omega)) (fun _ => Ok_some.mpr ⟨Or.inr ⟨hI, rfl⟩, rfl⟩) (fun c => absurd (Nat.le_refl _) c)⟩
      · rintro n1 i y hi ⟨rfl, hI⟩ ih
        simp only [f_X8_depth_b38]
        rw [show (0 : Int32).toNatClampNeg = 0 from rfl, hM.1, X8_has N (by omega)]
        refine Ok_chk.mpr ⟨by decide, Ok_ife (nI_leI (by omega) (by omega)) (fun c => absurd c (by omega)) (fun _ => Ok_bd1.mpr (Ok_some.mpr (Ok_ife bI_0 (fun c => ?_) (fun c => Ok_some.mpr ?_))))⟩
        · refine X8_widen hW hM hbb N (by omega) _ _ _ _ _ (ih _ ⟨rfl, fun j hj => ?_⟩)
          rcases Nat.lt_or_ge j i with q | q
          · exact hI j q
          · obtain rfl : j = i := by omega
            rw [c]; decide
        · rw [Bool.not_eq_false] at c
          exact ⟨Or.inl ⟨i, hi, c, hI, rfl⟩, rfl⟩
    have s0 : bI (inb x.1.2.2.1 (nF G)) = 0 ↔ nF G = 0 := by
      rw [bI_0, hX.2.2.1]
      have hg : gO G < 100 := hW.2.2.2.2.2.2.2
      constructor
      · intro q
        rcases Nat.eq_zero_or_pos (nF G) with q2 | q2
        · exact q2
        · have hf : gO G < nF G := by rcases hO with q | q <;> omega
          rw [inb_nI hf (by omega)] at q; cases q
      · intro q
        rw [q]
        exact (inb_f (by decide)).mpr (Or.inr (nI_le (Nat.zero_le _) (by omega)))
    have key3 : Ok (bd1 (some (bI (inb x.1.2.2.1 (nF G)))) fun r_3 => if r_3 = 0 then f_X7_depth_b49 N x.2.2.1.1 x.2.2.1.2.2.2.2.2.2.2.1 x.1.1 x.1.2.2.1 (nI v) 0 else chk (inb x.1.2.2.1 40) (f_X7_depth_b49 N x.2.2.1.1 x.2.2.1.2.2.2.2.2.2.2.1 x.1.1 x.1.2.2.1 (nI v) (x.2.2.1.2.2.2.2.2.2.2.1 x.1.2.2.1.toNatClampNeg))) (fun r => Srch (fun k => bt (dS G k) v = true) 9 r) := by
      refine Ok_bd1.mpr (Ok_some.mpr (Ok_ife s0 (fun c => ?_) (fun c => ?_)))
      · rw [show (0 : Int32) = dS G 0 from by unfold dS; rw [if_pos c]]
        exact key1
      · have hf : gO G < nF G := by rcases hO with q | q <;> omega
        have x3 := hX.2.2.1
        rw [show x.1.2.2.1.toNatClampNeg = gO G from by rw [x3]; exact nI_clamp (by omega), FR_ns hF hf, show nsI G (gO G) = dS G 0 from by unfold dS; rw [if_neg c]]
        exact Ok_chk.mpr ⟨by rw [x3]; exact inb_nI (by omega) (by decide), key1⟩
    refine Ok_mono key3 (fun r hr => Ok_bd1.mpr (Ok_mono (X8_walks hW hM N (by omega) _ _ _) ?_))
    rintro ⟨fo, fs, nf⟩ hbb
    dsimp only at hbb ⊢
    have fin : ∀ q : Int32 × (Nat → Int32) × (Nat → Int32) × Int32, Srch (fun k => bt (dS G k) v = true) (gN G) q.1 ∧ q.2 = (fo, fs, nf) → q.1 = r := by
      intro q hq
      refine Srch_un hq.1 ?_
      rcases hr with ⟨k, a1, a2, a3, a4⟩ | ⟨a1, a2⟩
      · exact Or.inl ⟨k, dS_big hW hO a2 a3, a2, a3, a4⟩
      · exact Or.inr ⟨fun j hj => a1 j (by omega), a2⟩
    have hz : nf = 0 ↔ nF G = 0 := by
      rw [hbb.2.2]
      exact nI_eq (b := 0) (by omega) (by omega)
    by_cases c : nF G = 0
    · rw [if_neg (fun q => q (hz.mpr c)), show (0 : Int32) = dS G 0 from by unfold dS; rw [if_pos c]]
      exact Ok_mono (key2 fo fs nf hbb) (fun q hq => OK_end (fin q hq) ⟨G, n, hs, l, cs, hS, hX, hF, hH, hT, hM, hHM, hTM⟩)
    · have hf : gO G < nF G := by rcases hO with q | q <;> omega
      rw [if_pos (fun q => c (hz.mp q)), show (2 : Int32).toNatClampNeg = 2 from rfl, hM.2.2.1, X8_nodesOn hW hM hbb.1 N (by omega) (by omega), show nsI G (gO G) = dS G 0 from by unfold dS; rw [if_neg c]]
      exact Ok_chk.mpr ⟨by decide, Ok_bd1.mpr (Ok_some.mpr (Ok_mono (key2 fo fs nf hbb) (fun q hq => OK_end (fin q hq) ⟨G, n, hs, l, cs, hS, hX, hF, hH, hT, hM, hHM, hTM⟩)))⟩
end DEPTH
