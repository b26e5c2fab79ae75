/-! ===== the faces, as class and reference find them ===== -/
/-- whose face is known: the directed edges of faces whose smallest one is below i -/
def FOw (G : Gr) (i : Nat) (no : Int32) (ow : Nat → Int32) : Prop := ∀ d, d < 2 * (gE G).length → ow d = if mn G d < i then nI (lab G d) else no
section TRACE
variable {G : Gr}
theorem ct_le (G : Gr) (i : Nat) : fb_ct (isMn G) i ≤ i := fb_ct_le _ _
theorem FOw_skip (hW : WF G) {i : Nat} {no : Int32} {ow : Nat → Int32} (h : FOw G i no ow) (hi : mn G i < i) : FOw G (i + 1) no ow := by
  intro d hd
  rw [h d hd]
  by_cases c : mn G d < i
  · rw [if_pos c, if_pos (by omega)]
  · rw [if_neg c, if_neg]
    intro q
    have h1 : mn G d = i := by omega
    have h2 := mn_mn hW hd
    rw [h1] at h2
    omega
/-- after the walk from s -/
theorem FOw_walk (hW : WF G) {s : Nat} (hs : s < 2 * (gE G).length) (hm : mn G s = s) {no : Int32} {ow ow2 : Nat → Int32} (h : FOw G s no ow) (h2 : ∀ d, d < 2 * (gE G).length → ow2 d = if (∃ j, j < per G s ∧ it G j s = d) then nI (fb_ct (isMn G) s) else ow d) : FOw G (s + 1) no ow2 := by
  intro d hd
  rw [h2 d hd]
  by_cases c : ∃ j, j < per G s ∧ it G j s = d
  · obtain ⟨j, hj, rfl⟩ := c
    have h3 := mn_it hW hs j
    rw [if_pos ⟨j, hj, rfl⟩, if_pos (by omega)]
    unfold lab
    rw [h3, hm]
  · rw [if_neg c, h d hd]
    by_cases c2 : mn G d < s
    · rw [if_pos c2, if_pos (by omega)]
    · rw [if_neg c2, if_neg]
      intro q
      exact c (mn_orb hW hs hd (by omega))
theorem X0_walk (hW : WF G) {lo hi nxA : Nat → Int32} (h : Ends G lo hi) (hx : ∀ d, d < 2 * (gE G).length → nxA d = nI (nx G d)) {s : Nat} (hs : s < 2 * (gE G).length) (hm : mn G s = s) {ow fs ln ns : Nat → Int32} (ho : FOw G s (-1) ow) (N : Nat) (hN : 100 < N) :
    Ok (f_X0_walkFrom N (nI (fb_ct (isMn G) s)) nxA ow fs ln ns lo hi (nI s)) (fun r => r.1 = nI (fb_ct (isMn G) s + 1) ∧ FOw G (s + 1) (-1) r.2.1 ∧ r.2.2.1 = upd fs (fb_ct (isMn G) s) (nI s) ∧ r.2.2.2.1 = upd ln (fb_ct (isMn G) s) (nI (per G s)) ∧ (∀ b, bt (r.2.2.2.2 (fb_ct (isMn G) s)) b = true ↔ ∃ j, j < per G s ∧ tl G (it G j s) = b) ∧ ∀ f, f ≠ fb_ct (isMn G) s → r.2.2.2.2 f = ns f) := by
  have hm20 := hW.2.2.1
  have hn9 := hW.2.1
  have hc := ct_le G s
  have hpl := per_le hW hs
  obtain ⟨⟨pp, pe⟩, -⟩ := per_sp hW hs
  unfold f_X0_walkFrom
  generalize hcc : fb_ct (isMn G) s = c at *
  have hin : inb (nI c) 40 = true := inb_nI (by omega) (by decide)
  rw [nI_clamp (by omega)]
  refine Ok_chk.mpr ⟨hin, Ok_chk.mpr ⟨hin, Ok_chk.mpr ⟨hin, ?_⟩⟩⟩
  have hun : ∀ k, k < per G s → ow (it G k s) = -1 := by
    intro k hk
    rw [ho _ (it_lt hW hs k), mn_it hW hs, if_neg (by omega)]
  refine lpU3 (fun n k o l q => f_X0_walkFrom_b35 N nxA lo hi n (nI (it G k s)) (nI k) (nI c) o (upd fs c (nI s)) l q) (fun k o l q => k ≤ per G s ∧ (∀ d, d < 2 * (gE G).length → o d = if (∃ j, j < k ∧ it G j s = d) then nI c else ow d) ∧ l = upd ln c (nI k) ∧ (∀ b, bt (q c) b = true ↔ ∃ j, j < k ∧ tl G (it G j s) = b) ∧ ∀ f, f ≠ c → q f = ns f) (per G s) ?_ ?_ N 0 ow (upd ln c 0) (upd ns c 0) (Nat.zero_le _) (by omega) ⟨Nat.zero_le _, fun d hd => by rw [if_neg (fun ⟨j, q, _⟩ => Nat.not_lt_zero j q)], rfl, fun b => by rw [pk_us, b_0]; exact ⟨fun q => absurd q (by decide), fun ⟨j, q, _⟩ => absurd q (Nat.not_lt_zero j)⟩, fun f hf => pk_un hf⟩
  · rintro n o l q ⟨-, h1, h2, h3, h4⟩
    have fin : Ok (f_X0_walkFrom_b107 N nxA lo hi (nI c) o (upd fs c (nI s)) l q) (fun r => r.1 = nI (c + 1) ∧ FOw G (s + 1) (-1) r.2.1 ∧ r.2.2.1 = upd fs c (nI s) ∧ r.2.2.2.1 = upd ln c (nI (per G s)) ∧ (∀ b, bt (r.2.2.2.2 c) b = true ↔ ∃ j, j < per G s ∧ tl G (it G j s) = b) ∧ ∀ f, f ≠ c → r.2.2.2.2 f = ns f) := by
      refine Ok_some.mpr ⟨nI_1 c, FOw_walk hW hs hm ho (fun d hd => by show o d = _; rw [h1 d hd, hcc]), rfl, h2, h3, h4⟩
    have hos : o s = nI c := by rw [h1 s hs, if_pos ⟨0, pp, rfl⟩]
    simp only [f_X0_walkFrom_b35]
    refine Ok_ife (nI_leI (a := 40) (b := per G s) (by omega) (by omega)) (fun _ => fin) (fun _ => ?_)
    rw [pe, nI_clamp (by omega), hos, if_pos (nI_pos' (by omega))]
    exact Ok_chk.mpr ⟨inb_nI (by omega) (by decide), fin⟩
  · rintro n k o l q hk ⟨-, h1, h2, h3, h4⟩ ih
    have hik := it_lt hW hs k
    have hok : o (it G k s) = -1 := by
      rw [h1 _ hik, if_neg (fun ⟨j, q1, q2⟩ => it_dis hW hs q1 hk q2)]
      exact hun k hk
    have htl := tl_lt hW hik
    simp only [f_X0_walkFrom_b35]
    refine Ok_ife (nI_leI (a := 40) (b := k) (by omega) (by omega)) (fun c => absurd c (by omega)) (fun _ => ?_)
    rw [nI_clamp (by omega), nI_clamp (by omega), hok, if_neg (by decide), X1_tailOf hW h N hik, hx _ hik, nI_1]
    have hi2 : inb (nI (it G k s)) 40 = true := inb_nI (by omega) (by decide)
    refine Ok_chk.mpr ⟨hi2, Ok_chk.mpr ⟨hi2, Ok_chk.mpr ⟨hin, Ok_chk.mpr ⟨hin, Ok_chk.mpr ⟨hin, Ok_bd1.mpr (Ok_some.mpr (Ok_bd1.mpr (Ok_some.mpr (Ok_chk.mpr ⟨hin, Ok_chk.mpr ⟨hi2, Ok_nm.mpr ?_⟩⟩))))⟩⟩⟩⟩⟩
    refine ih _ _ _ ⟨by omega, fun d hd => ?_, ?_, fun b => ?_, fun f hf => ?_⟩
    · rw [upd_at, h1 d hd]
      by_cases e1 : d = it G k s
      · rw [if_pos e1, if_pos ⟨k, by omega, e1.symm⟩]
      · rw [if_neg e1]
        by_cases e2 : ∃ j, j < k ∧ it G j s = d
        · rw [if_pos e2, if_pos (by obtain ⟨j, q1, q2⟩ := e2; exact ⟨j, by omega, q2⟩)]
        · rw [if_neg e2, if_neg]
          rintro ⟨j, q1, q2⟩
          rcases Nat.lt_or_ge j k with q3 | q3
          · exact e2 ⟨j, q3, q2⟩
          · obtain rfl : j = k := by omega
            exact e1 q2.symm
    · rw [h2, pk_us, nI_1]
      funext x
      rw [upd_at, upd_at, upd_at]
      by_cases e1 : x = c
      · rw [if_pos e1, if_pos e1]
      · rw [if_neg e1, if_neg e1, if_neg e1]
    · rw [pk_us, b_or, b_bit (by omega), Bool.or_eq_true, h3 b, decide_eq_true_eq]
      constructor
      · rintro (⟨j, q1, q2⟩ | e1)
        · exact ⟨j, by omega, q2⟩
        · exact ⟨k, by omega, e1.symm⟩
      · rintro ⟨j, q1, q2⟩
        rcases Nat.lt_or_ge j k with q3 | q3
        · exact Or.inl ⟨j, q3, q2⟩
        · obtain rfl : j = k := by omega
          exact Or.inr q2.symm
    · rw [pk_un hf]
      exact h4 f hf
/-- the reference's walk from s -/
theorem X8_walk (hW : WF G) {t : Nat → Int32} (hR : RM G t) {s : Nat} (hs : s < 2 * (gE G).length) (hm : mn G s = s) {ow fs : Nat → Int32} (ho : FOw G s (-9) ow) (N : Nat) (hN : 100 < N)
    (k35 : Int32 → (Nat → Int32) → (Nat → Int32) → Int32 → Option ((Nat → Int32) × (Nat → Int32) × Int32)) (Q : (Nat → Int32) × (Nat → Int32) × Int32 → Prop)
    (hk : ∀ o, FOw G (s + 1) (-9) o → Ok (k35 (nI (s + 1)) o (upd fs (fb_ct (isMn G) s) (nI s)) (nI (fb_ct (isMn G) s + 1))) Q) :
    Ok (f_X8_walks_b60 N t k35 N (nI s) (nI s) ow fs (nI (fb_ct (isMn G) s))) Q := by
  have hm20 := hW.2.2.1
  have hc := ct_le G s
  have hpl := per_le hW hs
  obtain ⟨⟨pp, pe⟩, -⟩ := per_sp hW hs
  generalize hcc : fb_ct (isMn G) s = c at *
  have hun : ∀ k, k < per G s → ow (it G k s) = -9 := by
    intro k hk
    rw [ho _ (it_lt hW hs k), mn_it hW hs, if_neg (by omega)]
  refine lpU (fun n k o => f_X8_walks_b60 N t k35 n (nI s) (nI (it G k s)) o fs (nI c)) (fun k o => (∀ d, d < 2 * (gE G).length → o d = if (∃ j, j < k ∧ it G j s = d) then nI c else ow d)) (per G s) ?_ ?_ N 0 ow (Nat.zero_le _) (by omega) (fun d hd => by rw [if_neg (fun ⟨j, q, _⟩ => Nat.not_lt_zero j q)])
  · intro n o h1
    have h9 : ¬ nI c = -9 := by
      intro q
      have := congrArg Int32.toInt q
      rw [nI_toInt (by omega), show (-9 : Int32).toInt = -9 from by decide] at this
      omega
    have hos : o s = nI c := by rw [h1 s hs, if_pos ⟨0, pp, rfl⟩]
    simp only [f_X8_walks_b60, f_X8_walks_b90, f_X8_walks_b110]
    rw [pe, nI_clamp (by omega), hos, if_pos h9, nI_clamp (by omega), nI_1, nI_1]
    refine Ok_chk.mpr ⟨inb_nI (by omega) (by decide), Ok_chk.mpr ⟨inb_nI (by omega) (by decide), ?_⟩⟩
    exact hk o (FOw_walk hW hs hm ho (fun d hd => by rw [h1 d hd, hcc]))
  · intro n k o hk2 h1 ih
    have hik := it_lt hW hs k
    have hok : o (it G k s) = -9 := by
      rw [h1 _ hik, if_neg (fun ⟨j, q1, q2⟩ => it_dis hW hs q1 hk2 q2)]
      exact hun k hk2
    simp only [f_X8_walks_b60]
    rw [nI_clamp (by omega), hok, if_neg (fun q => q rfl), X8_follows hW hR N (by omega) hik]
    have hi2 : inb (nI (it G k s)) 40 = true := inb_nI (by omega) (by decide)
    refine Ok_chk.mpr ⟨hi2, Ok_chk.mpr ⟨hi2, Ok_bd1.mpr (Ok_some.mpr ?_)⟩⟩
    refine ih _ (fun d hd => ?_)
    rw [upd_at, h1 d hd]
    by_cases e1 : d = it G k s
    · rw [if_pos e1, if_pos ⟨k, by omega, e1.symm⟩]
    · rw [if_neg e1]
      by_cases e2 : ∃ j, j < k ∧ it G j s = d
      · rw [if_pos e2, if_pos (by obtain ⟨j, q1, q2⟩ := e2; exact ⟨j, by omega, q2⟩)]
      · rw [if_neg e2, if_neg]
        rintro ⟨j, q1, q2⟩
        rcases Nat.lt_or_ge j k with q3 | q3
        · exact e2 ⟨j, q3, q2⟩
        · obtain rfl : j = k := by omega
          exact e1 q2.symm
/-- what the reference holds behind walks() -/
def RF (G : Gr) (ow fs : Nat → Int32) (nf : Int32) : Prop := (∀ d, d < 2 * (gE G).length → ow d = nI (lab G d)) ∧ (∀ f, f < nF G → fs f = nI (fst0 G f)) ∧ nf = nI (nF G)
theorem mn_dec (hW : WF G) {i : Nat} (hi : i < 2 * (gE G).length) : mn G i < i ∨ mn G i = i := by
  have := mn_le G i
  omega
theorem ct_yes {i : Nat} (h : mn G i = i) : fb_ct (isMn G) (i + 1) = fb_ct (isMn G) i + 1 := by
  have h2 : isMn G i = true := decide_eq_true h
  rw [fb_ct_succ, if_pos h2]
theorem ct_no {i : Nat} (h : mn G i < i) : fb_ct (isMn G) (i + 1) = fb_ct (isMn G) i := by
  rw [fb_ct_succ, if_neg (by unfold isMn; rw [decide_eq_true_eq]; omega)]
  rfl
theorem ct_mono (G : Gr) {i j : Nat} (h : i ≤ j) : fb_ct (isMn G) i ≤ fb_ct (isMn G) j := fb_ct_mono _ h
theorem X8_walks (hW : WF G) {t : Nat → Int32} (hR : RM G t) (N : Nat) (hN : 100 < N) (fo fs : Nat → Int32) (nf : Int32) : Ok (f_X8_walks N t fo fs nf) (fun r => RF G r.1 r.2.1 r.2.2) := by
  have hm20 := hW.2.2.1
  have x2 := hR.2.1
  unfold f_X8_walks
  refine lpU (fun n i o => f_X8_walks_b2 N t n (nI i) o fs nf) (fun i o => ∀ d, d < i → o d = -9) (2 * (gE G).length) ?_ ?_ N 0 fo (Nat.zero_le _) (by omega) (fun d hd => absurd hd (Nat.not_lt_zero d))
  · intro n o hI
    simp only [f_X8_walks_b2, f_X8_walks_b28]
    rw [show (1 : Int32).toNatClampNeg = 1 from rfl, x2, two_nI]
    refine Ok_chk.mpr ⟨by decide, Ok_ife (nI_leI (by omega) (by omega)) (fun _ => ?_) (fun c => absurd (Nat.le_refl _) c)⟩
    refine lpU3 (fun n i o f c => f_X8_walks_b35 N t n (nI i) o f c) (fun i o f c => FOw G i (-9) o ∧ (∀ j, j < fb_ct (isMn G) i → f j = nI (fst0 G j)) ∧ c = nI (fb_ct (isMn G) i)) (2 * (gE G).length) ?_ ?_ N 0 o fs 0 (Nat.zero_le _) (by omega) ⟨fun d hd => by rw [if_neg (Nat.not_lt_zero _)]; exact hI d hd, fun j hj => absurd hj (Nat.not_lt_zero j), rfl⟩
    · rintro n o f c ⟨h1, h2, h3⟩
      simp only [f_X8_walks_b35]
      rw [show (1 : Int32).toNatClampNeg = 1 from rfl, x2, two_nI]
      refine Ok_chk.mpr ⟨by decide, Ok_ife (nI_leI (by omega) (by omega)) (fun _ => ?_) (fun c => absurd (Nat.le_refl _) c)⟩
      exact Ok_some.mpr ⟨fun d hd => by show o d = _; rw [h1 d hd, if_pos (mn_lt hW hd)], h2, h3⟩
    · rintro n i o f c hi ⟨h1, h2, h3⟩ ih
      simp only [f_X8_walks_b35]
      rw [show (1 : Int32).toNatClampNeg = 1 from rfl, x2, two_nI]
      refine Ok_chk.mpr ⟨by decide, Ok_ife (nI_leI (by omega) (by omega)) (fun c => absurd c (by omega)) (fun _ => ?_)⟩
      rw [nI_clamp (by omega), h1 i hi]
      refine Ok_chk.mpr ⟨inb_nI (by omega) (by decide), ?_⟩
      rcases mn_dec hW hi with q | q
      · have hl := lab_lt hW hi
        have : nF G ≤ 2 * (gE G).length := ct_le G _
        have h9 : ¬ nI (lab G i) = -9 := by
          intro q
          have := congrArg Int32.toInt q
          rw [nI_toInt (by omega), show (-9 : Int32).toInt = -9 from by decide] at this
          omega
        rw [if_pos q, if_pos h9]
        unfold f_X8_walks_b110
        rw [nI_1]
        exact ih _ _ _ ⟨FOw_skip hW h1 q, by rw [ct_no q]; exact h2, by rw [ct_no q]; exact h3⟩
      · rw [if_neg (by omega : ¬ mn G i < i), if_neg (fun q => q rfl), h3]
        refine X8_walk hW hR hi q h1 N hN _ _ ?_
        intro o2 ho2
        refine ih _ _ _ ⟨ho2, fun j hj => ?_, by rw [ct_yes q]⟩
        rw [ct_yes q] at hj
        rw [upd_at]
        by_cases e : j = fb_ct (isMn G) i
        · rw [if_pos e, e, fst_of hW hi q]
        · rw [if_neg e]
          exact h2 j (by omega)
  · intro n i o hi hI ih
    simp only [f_X8_walks_b2]
    rw [show (1 : Int32).toNatClampNeg = 1 from rfl, x2, two_nI]
    refine Ok_chk.mpr ⟨by decide, Ok_ife (nI_leI (by omega) (by omega)) (fun c => absurd c (by omega)) (fun _ => ?_)⟩
    rw [nI_clamp (by omega), nI_1]
    refine Ok_chk.mpr ⟨inb_nI (by omega) (by decide), ih _ (fun d hd => ?_)⟩
    rw [upd_at]
    by_cases e : d = i
    · rw [if_pos e]
    · rw [if_neg e]; exact hI d (by omega)
end TRACE
