/-! ===== how many components, and the genus ===== -/
noncomputable def repB (G : Gr) (v : Nat) : Bool := decide (∀ u, u < v → bt (cp G v) u = false)
noncomputable def csz (G : Gr) (v : Nat) : Nat := fb_ct (bt (cp G v)) 9
noncomputable def tw (G : Gr) : Nat → Int32
  | 0 => 0
  | i + 1 => tw G i + (if repB G i = true ∧ 0 < (gR G i).length then 2 - nI (csz G i) else 0)
noncomputable def nC (G : Gr) : Nat := fb_ct (repB G) (gN G)
noncomputable def genI (G : Gr) : Int32 := ((nI (gE G).length - nI (nF G)) + tw G (gN G)) / 2
section GENUS
variable {G : Gr}
theorem cp_9 (hW : WF G) {v : Nat} (hv : v < gN G) : ∀ b, bt (cp G v) b = true → b < 9 := by
  intro b hb
  have := conn_lt hW hv ((cp_sp hW hv b).mp hb)
  have := hW.2.1
  omega
theorem rep_iff (hW : WF G) {v : Nat} (hv : v < gN G) : repB G v = true ↔ ∀ u, u < v → ¬ conn G u v := by
  unfold repB
  rw [decide_eq_true_eq]
  constructor
  · intro h u hu q
    have := h u hu
    rw [(cp_sp hW hv u).mpr (conn_comm q)] at this
    cases this
  · intro h u hu
    cases hb : bt (cp G v) u with
    | false => rfl
    | true => exact absurd (conn_comm ((cp_sp hW hv u).mp hb)) (h u hu)
theorem near_0 (hW : WF G) {near : Nat → Int32} (hn : Near G near) {v : Nat} (hv : v < 9) : near v = 0 ↔ (gR G v).length = 0 := by
  have h9 := hW.2.1
  constructor
  · intro h
    rcases Nat.eq_zero_or_pos (gR G v).length with q | q
    · exact q
    · have h1 := (hW.2.2.2.2.2.2.1 v _).mp (getD_mem q)
      have we := WF_end hW h1.1
      have hno : ∀ b, ¬ adj G v b := fun b hb => by
        have := (hn v hv b).mpr hb
        rw [h, b_0] at this; cases this
      rcases h1.2 with q2 | q2
      · exact absurd ⟨_, h1.1, Or.inl (Prod.ext q2 rfl)⟩ (hno (gEnd G ((gR G v).getD 0 0)).2)
      · exact absurd ⟨_, h1.1, Or.inr (Prod.ext rfl q2)⟩ (hno (gEnd G ((gR G v).getD 0 0)).1)
  · intro h
    refine b_zero.mpr (fun b _ => ?_)
    cases hb : bt (near v) b with
    | false => rfl
    | true =>
      obtain ⟨e, h1, h2⟩ := (hn v hv b).mp hb
      have : e ∈ gR G v := (hW.2.2.2.2.2.2.1 v e).mpr ⟨h1, by
        rcases h2 with q | q
        · rw [q]; exact Or.inl rfl
        · rw [q]; exact Or.inr rfl⟩
      have h3 := plc_lt this
      omega
theorem X0_count (hW : WF G) {near : Nat → Int32} (hn : Near G near) (N : Nat) (hN : 100 < N) (c0 g0 : Int32) : f_X0_countComponents N (nI (nF G)) c0 g0 near (nI (gN G)) (nI (gE G).length) = some (nI (nC G), genI G) := by
  have h9 := hW.2.1
  refine Ok_of ?_
  unfold f_X0_countComponents
  refine Ok_nm.mpr ?_
  refine lpU3 (fun n i x se c => f_X0_countComponents_b20 N (nI (nF G)) near (nI (gN G)) (nI (gE G).length) n x se (nI i) c g0) (fun i x se c => x = (nI (gE G).length - nI (nF G)) + tw G i ∧ (∀ b, bt se b = true ↔ ∃ u, u < i ∧ conn G u b) ∧ c = nI (fb_ct (repB G) i)) (gN G) ?_ ?_ N 0 _ 0 0 (Nat.zero_le _) (by omega) ⟨(Int32.add_zero _).symm, fun b => by rw [b_0]; exact ⟨fun q => absurd q (by decide), fun ⟨u, q, _⟩ => absurd q (Nat.not_lt_zero u)⟩, rfl⟩
  · rintro n x se c ⟨rfl, h2, rfl⟩
    simp only [f_X0_countComponents_b20, f_X0_countComponents_b95]
    exact Ok_ife (nI_leI (by omega) (by omega)) (fun _ => Ok_some.mpr rfl) (fun c => absurd (Nat.le_refl _) c)
  · rintro n i x se c hi ⟨rfl, h2, rfl⟩ ih
    have hcp := cp_sp hW hi
    simp only [f_X0_countComponents_b20, f_X0_countComponents_b89, f_X0_countComponents_b87]
    refine Ok_ife (nI_leI (by omega) (by omega)) (fun c => absurd c (by omega)) (fun _ => ?_)
    rw [X7_contains N (by omega), (X7_comp hW hn N (by omega) i hi).1, nI_clamp (by omega), nI_1, nI_1]
    have hse : bt se i = true ↔ ¬ repB G i = true := by
      rw [h2 i, rep_iff hW hi]
      constructor
      · rintro ⟨u, q1, q2⟩ q
        exact q u q1 q2
      · intro q
        refine Classical.byContradiction (fun q2 => q (fun u hu hc => q2 ⟨u, hu, hc⟩))
    refine Ok_bd1.mpr (Ok_some.mpr ?_)
    by_cases c : bt se i = true
    · have hr : repB G i = false := by
        cases hb : repB G i with
        | false => rfl
        | true => exact absurd hb (hse.mp c)
      rw [if_pos (by rw [bI_0, c]; decide)]
      refine ih _ _ _ ⟨?_, fun b => ?_, ?_⟩
      · show _ = _ + (tw G i + _)
        rw [if_neg (by rw [hr]; exact fun q => absurd q.1 (by decide)), Int32.add_zero]
      · rw [h2 b]
        constructor
        · rintro ⟨u, q1, q2⟩; exact ⟨u, by omega, q2⟩
        · rintro ⟨u, q1, q2⟩
          rcases Nat.lt_or_ge u i with q | q
          · exact ⟨u, q, q2⟩
          · obtain rfl : u = i := by omega
            obtain ⟨w, w1, w2⟩ := (h2 u).mp c
            exact ⟨w, w1, conn_trans w2 q2⟩
      · rw [fb_ct_succ, hr]; rfl
    · have hr : repB G i = true := by
        cases hb : repB G i with
        | true => rfl
        | false => exact absurd (hse.mpr (by rw [hb]; decide)) c
      rw [if_neg (by rw [bI_0]; exact fun q => q (Bool.eq_false_iff.mpr c))]
      refine Ok_bd1.mpr (Ok_some.mpr (Ok_nm.mpr (Ok_chk.mpr ⟨inb_nI (by omega) (by decide), ?_⟩)))
      have hse2 : ∀ b, bt (se ||| cp G i) b = true ↔ ∃ u, u < i + 1 ∧ conn G u b := by
        intro b
        rw [b_or, Bool.or_eq_true, h2 b, hcp b]
        constructor
        · rintro (⟨u, q1, q2⟩ | q)
          · exact ⟨u, by omega, q2⟩
          · exact ⟨i, by omega, q⟩
        · rintro ⟨u, q1, q2⟩
          rcases Nat.lt_or_ge u i with q | q
          · exact Or.inl ⟨u, q, q2⟩
          · obtain rfl : u = i := by omega
            exact Or.inr q2
      by_cases c2 : near i = 0
      · rw [if_neg (fun q => q c2)]
        refine Ok_nm.mpr (ih _ _ _ ⟨?_, hse2, ?_⟩)
        · show _ = _ + (tw G i + _)
          rw [if_neg (by have := (near_0 hW hn (by omega)).mp c2; omega), Int32.add_zero, Int32.add_zero]
        · rw [fb_ct_succ, hr]; rfl
      · rw [if_pos c2, J6_bitCount N (cp_9 hW hi)]
        refine Ok_bd1.mpr (Ok_some.mpr (Ok_nm.mpr (ih _ _ _ ⟨?_, hse2, ?_⟩)))
        · show _ = _ + (tw G i + _)
          rw [if_pos ⟨hr, by have := mt (near_0 hW hn (v := i) (by omega)).mpr c2; omega⟩, Int32.add_assoc]
          rfl
        · rw [fb_ct_succ, hr]; rfl
theorem b_mask : ∀ v, v < 9 → ∀ i, i < 32 → bt (((1 : Int32) <<< (nI v &&& 31)) - 1) i = decide (i < v) := by decide +kernel
theorem rep_mask (hW : WF G) {v : Nat} (hv : v < gN G) : (cp G v &&& (((1 : Int32) <<< (nI v &&& 31)) - 1)) = 0 ↔ repB G v = true := by
  have h9 := hW.2.1
  rw [b_zero]
  unfold repB
  rw [decide_eq_true_eq]
  constructor
  · intro h u hu
    have := h u (by omega)
    rw [b_and, b_mask v (by omega) u (by omega), decide_eq_true hu, Bool.and_true] at this
    exact this
  · intro h i hi
    rw [b_and, b_mask v (by omega) i hi]
    by_cases c : i < v
    · rw [h i c, Bool.false_and]
    · rw [decide_eq_false c, Bool.and_false]
theorem X8_components (hW : WF G) {s : Nat → Int32} (hR : RM G s) (N : Nat) (hN : 100 < N) : f_X8_components N s = some (nI (nC G)) := by
  have h9 := hW.2.1
  refine Ok_of ?_
  unfold f_X8_components
  refine lpU (fun n i c => f_X8_components_b4 N s n c (nI i)) (fun i c => c = nI (fb_ct (repB G) i)) (gN G) ?_ ?_ N 0 0 (Nat.zero_le _) (by omega) rfl
  · rintro n c rfl
    simp only [f_X8_components_b4]
    rw [show (0 : Int32).toNatClampNeg = 0 from rfl, hR.1]
    exact Ok_chk.mpr ⟨by decide, Ok_ife (nI_leI (by omega) (by omega)) (fun _ => Ok_some.mpr rfl) (fun c => absurd (Nat.le_refl _) c)⟩
  · rintro n i c hi rfl ih
    simp only [f_X8_components_b4, f_X8_components_b34]
    rw [show (0 : Int32).toNatClampNeg = 0 from rfl, hR.1, X8_component hW hR N (by omega) hi, nI_1, nI_1]
    refine Ok_chk.mpr ⟨by decide, Ok_ife (nI_leI (by omega) (by omega)) (fun c => absurd c (by omega)) (fun _ => Ok_bd1.mpr (Ok_some.mpr ?_))⟩
    by_cases c : repB G i = true
    · rw [if_neg (fun q => q ((rep_mask hW hi).mpr c))]
      refine Ok_nm.mpr (ih _ ?_)
      rw [fb_ct_succ, c]; rfl
    · rw [if_pos (fun q => c ((rep_mask hW hi).mp q))]
      refine Ok_nm.mpr (ih _ ?_)
      rw [fb_ct_succ, Bool.eq_false_iff.mpr c]
      exact Int32.add_zero _
theorem X8_genus (hW : WF G) {s : Nat → Int32} (hR : RM G s) (N : Nat) (hN : 100 < N) (fo fs : Nat → Int32) (nf : Int32) : Ok (f_X8_genus N s fo fs nf) (fun r => r.1 = genI G ∧ RF G r.2.1 r.2.2.1 r.2.2.2) := by
  have h9 := hW.2.1
  unfold f_X8_genus
  refine Ok_bd1.mpr (Ok_mono (X8_walks hW hR N hN fo fs nf) ?_)
  rintro ⟨fo, fs, nf⟩ hF
  dsimp only at hF ⊢
  refine lpU (fun n i x => f_X8_genus_b8 N s n x (nI i) fo fs nf) (fun i x => x = tw G i) (gN G) ?_ ?_ N 0 0 (Nat.zero_le _) (by omega) rfl
  · rintro n x rfl
    simp only [f_X8_genus_b8, f_X8_genus_b62]
    rw [show (0 : Int32).toNatClampNeg = 0 from rfl, show (1 : Int32).toNatClampNeg = 1 from rfl, hR.1, hR.2.1]
    refine Ok_chk.mpr ⟨by decide, Ok_ife (nI_leI (by omega) (by omega)) (fun _ => Ok_chk.mpr ⟨by decide, Ok_some.mpr ⟨?_, hF⟩⟩) (fun c => absurd (Nat.le_refl _) c)⟩
    dsimp only
    unfold genI
    rw [hF.2.2, Int32.sub_eq_add_neg, Int32.sub_eq_add_neg, Int32.add_assoc, Int32.add_comm]
  · rintro n i x hi rfl ih
    have e43 : (43 + nI i) = nI (43 + i) := nI_add 43 _
    simp only [f_X8_genus_b8, f_X8_genus_b56]
    rw [show (0 : Int32).toNatClampNeg = 0 from rfl, hR.1, X8_component hW hR N (by omega) hi, e43, nI_clamp (by omega), hR.2.2.2.2.1 i (by omega), nI_1]
    have h8 := WF_deg hW i
    refine Ok_chk.mpr ⟨by decide, Ok_ife (nI_leI (by omega) (by omega)) (fun c => absurd c (by omega)) (fun _ => Ok_bd1.mpr (Ok_some.mpr ?_))⟩
    by_cases c : repB G i = true
    · rw [if_neg (fun q => q ((rep_mask hW hi).mpr c))]
      refine Ok_chk.mpr ⟨inb_nI (by omega) (by decide), ?_⟩
      refine Ok_ife (nI_leI (b := 0) (by omega) (by omega)) (fun c2 => ih _ ?_) (fun c2 => ?_)
      · show _ = tw G i + _
        rw [if_neg (by omega), Int32.add_zero]
      · rw [X8_bitsI N hN (cp_9 hW hi)]
        refine Ok_bd1.mpr (Ok_some.mpr (Ok_nm.mpr (ih _ ?_)))
        show _ = tw G i + _
        rw [if_pos ⟨c, by omega⟩]
        rfl
    · rw [if_pos (fun q => c ((rep_mask hW hi).mp q))]
      refine ih _ ?_
      show _ = tw G i + _
      rw [if_neg (fun q => c q.1), Int32.add_zero]
/-- what the class holds of the faces -/
def FR (G : Gr) (t : TF) : Prop :=
  t.1 = nI (nF G) ∧ t.2.1 = nI (nC G) ∧ t.2.2.1 = genI G ∧
  (∀ d, d < 2 * (gE G).length → t.2.2.2.1 d = nI (nx G d)) ∧ (∀ d, d < 2 * (gE G).length → t.2.2.2.2.1 d = nI (lab G d)) ∧
  (∀ f, f < nF G → t.2.2.2.2.2.1 f = nI (fst0 G f)) ∧ (∀ f, f < nF G → t.2.2.2.2.2.2.1 f = nI (per G (fst0 G f))) ∧
  (∀ f, f < nF G → ∀ b, bt (t.2.2.2.2.2.2.2.1 f) b = true ↔ ∃ d, d < 2 * (gE G).length ∧ lab G d = f ∧ tl G d = b) ∧ Near G t.2.2.2.2.2.2.2.2
end GENUS
