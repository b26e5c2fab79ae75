/-! ===== the reference's distances, the cost, insertionCost ===== -/
section COST
variable {G : Gr} {b : Nat}
/-- values that are never too small -/
def LV (G : Gr) (b : Nat) (v : Nat → Nat) (far : Nat → Int32) : Prop := ∀ f, f < nF G → far f = nI (v f) ∧ v f ≤ 1000 ∧ (v f < 1000 → bt (RS G b (v f)) f = true)
theorem X8_round (hW : WF G) {s : Nat → Int32} (hR : RM G s) {fo : Nat → Int32} {nf : Int32} (ho : ∀ d, d < 2 * (gE G).length → fo d = nI (lab G d)) (N : Nat) (hN : 100 < N) (j : Nat) (v0 : Nat → Nat) (far : Nat → Int32) (hL : LV G b v0 far) (k43 : Int32 → (Nat → Int32) → Option (Nat → Int32)) (Q : (Nat → Int32) → Prop)
    (hQ : ∀ v far', LV G b v far' → (∀ f, f < nF G → v f ≤ v0 f) → (∀ d, d < 2 * (gE G).length → v (lab G d) ≤ v0 (lab G (op d)) + 1) → Ok (k43 (nI (j + 1)) far') Q) :
    Ok (f_X8_looks_b53 N s fo nf k43 N (nI j) 0 far) Q := by
  have h20 := hW.2.2.1
  have hnf := nF_20 hW
  refine lpU (fun n i x => f_X8_looks_b53 N s fo nf k43 n (nI j) (nI i) x) (fun i x => ∃ v, LV G b v x ∧ (∀ f, f < nF G → v f ≤ v0 f) ∧ (∀ d, d < i → v (lab G d) ≤ v0 (lab G (op d)) + 1)) (2 * (gE G).length) ?_ ?_ N 0 far (Nat.zero_le _) (by omega) ⟨v0, hL, fun f _ => Nat.le_refl _, fun d hd => absurd hd (Nat.not_lt_zero d)⟩
  · rintro n x ⟨v, h1, h2, h3⟩
    simp only [f_X8_looks_b53, f_X8_looks_b134]
    rw [show (1 : Int32).toNatClampNeg = 1 from rfl, hR.2.1, two_nI, nI_1]
    exact Ok_chk.mpr ⟨by decide, Ok_ife (nI_leI (by omega) (by omega)) (fun _ => hQ v x h1 h2 h3) (fun c => absurd (Nat.le_refl _) c)⟩
  · rintro n i x hi ⟨v, h1, h2, h3⟩ ih
    have hl := lab_lt hW hi
    have ho2 := op_lt hi
    have hl2 := lab_lt hW ho2
    obtain ⟨f1, f2, f3⟩ := h1 (lab G i) hl
    obtain ⟨g1, g2, g3⟩ := h1 (lab G (op i)) hl2
    simp only [f_X8_looks_b53, f_X8_looks_b127]
    rw [show (1 : Int32).toNatClampNeg = 1 from rfl, hR.2.1, two_nI, nI_op i (by omega), nI_clamp (n := i) (by omega), nI_clamp (n := op i) (by omega), ho i hi, ho _ ho2, nI_1]
    have i1 : inb (nI (lab G i)) 40 = true := inb_nI (by omega) (by decide)
    have i2 : inb (nI (lab G (op i))) 40 = true := inb_nI (by omega) (by decide)
    refine Ok_chk.mpr ⟨by decide, Ok_ife (nI_leI (by omega) (by omega)) (fun c => absurd c (by omega)) (fun _ => Ok_chk.mpr ⟨inb_nI (by omega) (by decide), Ok_nm.mpr (Ok_chk.mpr ⟨inb_nI (by omega) (by decide), Ok_nm.mpr (Ok_chk.mpr ⟨i2, Ok_chk.mpr ⟨i1, ?_⟩⟩)⟩)⟩)⟩
    rw [nI_clamp (n := lab G i) (by omega), nI_clamp (n := lab G (op i)) (by omega), f1, g1, nI_1]
    have upd1 : ∀ c, c ≤ v (lab G i) → c ≤ v (lab G (op i)) + 1 → (c < 1000 → bt (RS G b c) (lab G i) = true) → ∃ v', LV G b v' (upd x (lab G i) (nI c)) ∧ (∀ f, f < nF G → v' f ≤ v0 f) ∧ (∀ d, d < i + 1 → v' (lab G d) ≤ v0 (lab G (op d)) + 1) := by
      intro c c1 c2 c3
      refine ⟨fun f => if f = lab G i then c else v f, fun f hf => ?_, fun f hf => ?_, fun d hd => ?_⟩
      · dsimp only
        rw [upd_at]
        by_cases e : f = lab G i
        · rw [if_pos e, if_pos e]
          exact ⟨rfl, by omega, fun q => by rw [e]; exact c3 q⟩
        · rw [if_neg e, if_neg e]
          exact h1 f hf
      · dsimp only
        by_cases e : f = lab G i
        · rw [if_pos e]
          have := h2 f hf
          rw [e] at this ⊢
          omega
        · rw [if_neg e]; exact h2 f hf
      · dsimp only
        have hlo := h2 (lab G (op i)) hl2
        by_cases e : lab G d = lab G i
        · rw [if_pos e]
          rcases Nat.lt_or_ge d i with q | q
          · have := h3 d q
            rw [e] at this
            omega
          · obtain rfl : d = i := by omega
            omega
        · rw [if_neg e]
          rcases Nat.lt_or_ge d i with q | q
          · exact h3 d q
          · obtain rfl : d = i := by omega
            exact absurd rfl e
    refine Ok_ife (nI_leI (by omega) (by omega)) (fun c => Ok_chk.mpr ⟨i1, Ok_chk.mpr ⟨i1, ih _ (upd1 (v (lab G i)) (Nat.le_refl _) c f3)⟩⟩) (fun c => Ok_chk.mpr ⟨i2, Ok_chk.mpr ⟨i1, ih _ (upd1 (v (lab G (op i)) + 1) (by omega) (Nat.le_refl _) (fun q => ?_))⟩⟩)
    exact (RS_S hW _ _).mpr (Or.inr ⟨i, hi, rfl, g3 (by omega)⟩)
/-- what looks() leaves -/
def LK (G : Gr) (b : Nat) (far : Nat → Int32) : Prop := ∀ f, f < nF G → (rch G b f → far f = nI (dst G b f)) ∧ (¬ rch G b f → far f = nI 1000)
theorem X8_looks (hW : WF G) {s : Nat → Int32} (hR : RM G s) {fo fs : Nat → Int32} {nf : Int32} (hb : RF G fo fs nf) (N : Nat) (hN : 100 < N) (hb9 : b < 9) (far : Nat → Int32) : Ok (f_X8_looks N s fo nf far (nI b)) (fun r => LK G b r) := by
  have h20 := hW.2.2.1
  have hnf := nF_20 hW
  have h3 := hb.2.2
  unfold f_X8_looks
  refine lpU (fun n i x => f_X8_looks_b2 N s fo nf n (nI b) (nI i) x) (fun i x => ∀ f, f < i → x f = if bt (nsI G f) b = true then 0 else 1000) (nF G) ?_ ?_ N 0 far (Nat.zero_le _) (by omega) (fun f hf => absurd hf (Nat.not_lt_zero f))
  · intro n x hI
    have hle : nf ≤ nI (nF G) := by rw [h3]; exact nI_le (Nat.le_refl _) (by omega)
    simp only [f_X8_looks_b2, f_X8_looks_b41]
    rw [if_pos hle]
    refine lpU (fun n i x => f_X8_looks_b43 N s fo nf n (nI i) x) (fun i x => ∃ v, LV G b v x ∧ ∀ f, f < nF G → ∀ k, k ≤ i → bt (RS G b k) f = true → v f ≤ k) (nF G) ?_ ?_ N 0 x (Nat.zero_le _) (by omega) ⟨fun f => if bt (nsI G f) b = true then 0 else 1000, fun f hf => ?_, fun f hf k hk q => ?_⟩
    · rintro n x ⟨v, hL, hv⟩
      simp only [f_X8_looks_b43]
      rw [if_pos hle]
      refine Ok_some.mpr (fun f hf => ?_)
      obtain ⟨a1, a2, a3⟩ := hL f hf
      refine ⟨fun hr => ?_, fun hr => ?_⟩
      · have d1 := dst_le hW hr
        have d2 := hv f hf _ d1 (dst_sp hr).1
        have d3 := ((RS_dst hW).mp (a3 (by omega))).2
        rw [a1, show v f = dst G b f from by omega]
      · rcases Nat.lt_or_ge (v f) 1000 with q | q
        · exact absurd ⟨_, a3 q⟩ hr
        · rw [a1, show v f = 1000 from by omega]
    · rintro n i x hi ⟨v, hL, hv⟩ ih
      have hnle : ¬ nf ≤ nI i := by rw [h3, nI_leI (by omega) (by omega)]; omega
      simp only [f_X8_looks_b43]
      rw [if_neg hnle]
      refine X8_round hW hR hb.1 N hN i v x hL _ _ (fun v2 x2 hL2 h4 h5 => ih x2 ⟨v2, hL2, fun f hf k hk q => ?_⟩)
      rcases Nat.lt_or_ge i k with q1 | q1
      · obtain rfl : k = i + 1 := by omega
        rcases (RS_S hW i f).mp q with q2 | ⟨d, d1, d2, d3⟩
        · have := hv f hf i (Nat.le_refl _) q2
          have := h4 f hf
          omega
        · have e1 := h5 d d1
          have e2 := hv (lab G (op d)) (lab_lt hW (op_lt d1)) i (Nat.le_refl _) d3
          rw [d2] at e1
          omega
      · have := hv f hf k q1 q
        have := h4 f hf
        omega
    · have h1 := hI f hf
      have h2 := RS_0 hW f (b := b)
      have h3 := ns_sp hW f b
      dsimp only
      rw [h1]
      by_cases c : bt (nsI G f) b = true
      · rw [if_pos c, if_pos c]
        exact ⟨rfl, by omega, fun _ => h2.mpr ⟨hf, h3.mp c⟩⟩
      · rw [if_neg c, if_neg c]
        exact ⟨rfl, by omega, fun q => absurd q (by omega)⟩
    · obtain rfl : k = 0 := by omega
      dsimp only
      rw [if_pos ((ns_sp hW f b).mpr ((RS_0 hW f).mp q).2)]
      exact Nat.zero_le _
  · intro n i x hi hI ih
    have hnle : ¬ nf ≤ nI i := by rw [h3, nI_leI (by omega) (by omega)]; omega
    simp only [f_X8_looks_b2, f_X8_looks_b34]
    rw [if_neg hnle, X8_nodesOn hW hR hb.1 N hN (by omega)]
    refine Ok_bd1.mpr (Ok_some.mpr ?_)
    rw [X8_has N (by omega), nI_clamp (by omega), nI_1]
    refine Ok_bd1.mpr (Ok_some.mpr (Ok_ife bI_0 (fun c => Ok_chk.mpr ⟨inb_nI (by omega) (by decide), ih _ (fun f hf => ?_)⟩) (fun c => Ok_chk.mpr ⟨inb_nI (by omega) (by decide), ih _ (fun f hf => ?_)⟩)))
    · rw [upd_at]
      by_cases e : f = i
      · rw [if_pos e, e, c, if_neg (by decide)]
      · rw [if_neg e]; exact hI f (by omega)
    · rw [Bool.not_eq_false] at c
      rw [upd_at]
      by_cases e : f = i
      · rw [if_pos e, e, c, if_pos rfl]
      · rw [if_neg e]; exact hI f (by omega)
theorem DX_use (hW : WF G) {di : Nat → Int32} (hD : DX G b (nF G) di) {f : Nat} (hf : f < nF G) : (rch G b f → di f = nI (dst G b f)) ∧ (¬ rch G b f → di f = -1) := by
  obtain ⟨h1, h2⟩ := hD f hf
  refine ⟨fun ⟨k, hk⟩ => h1 (RS_end hW hk), fun q => h2 ?_⟩
  cases hb : bt (RS G b (nF G)) f with
  | false => rfl
  | true => exact absurd ⟨_, hb⟩ q
theorem X6_choose (hW : WF G) {t : TF} (hF : FR G t) (N : Nat) (hN : 100 < N) {a : Nat} (ha : a < 9) {di : Nat → Int32} (hD : DX G b (nF G) di) (hex : ∃ f, f < nF G ∧ NS G f a ∧ rch G b f) (w : Int32) : Ok (f_X6_chooseStart N t.1 t.2.2.2.2.2.2.2.1 w di (nI a)) (fun r => ∃ c, Cst G a b c ∧ r.2 = nI c ∧ ∀ f, bt r.1 f = true ↔ f < nF G ∧ NS G f a ∧ rch G b f ∧ dst G b f = c) := by
  have h20 := hW.2.2.1
  have hnf := nF_20 hW
  unfold f_X6_chooseStart
  refine lpU2 (fun n i x c => f_X6_chooseStart_b11 N t.1 t.2.2.2.2.2.2.2.1 di n (nI a) x (nI i) c) (fun i x c => ∃ k, c = nI k ∧ (∀ f, f < i → NS G f a → rch G b f → k ≤ dst G b f) ∧ (k = 40 ∨ ∃ f, f < i ∧ NS G f a ∧ rch G b f ∧ dst G b f = k) ∧ ∀ f, bt x f = true ↔ f < i ∧ NS G f a ∧ rch G b f ∧ dst G b f = k) (nF G) ?_ ?_ N 0 0 40 (Nat.zero_le _) (by omega) ⟨40, rfl, fun f hf => absurd hf (Nat.not_lt_zero f), Or.inl rfl, fun f => by rw [b_0]; exact ⟨fun q => absurd q (by decide), fun q => absurd q.1 (Nat.not_lt_zero f)⟩⟩
  · rintro n x c ⟨k, rfl, h1, h2, h3⟩
    have hle : t.1 ≤ nI (nF G) := by rw [hF.1]; exact nI_le (Nat.le_refl _) (by omega)
    simp only [f_X6_chooseStart_b11]
    rw [if_pos hle]
    refine Ok_some.mpr ⟨k, ⟨h1, ?_⟩, rfl, h3⟩
    rcases h2 with h2 | h2
    · obtain ⟨f, f1, f2, f3⟩ := hex
      have := h1 f f1 f2 f3
      have := dst_le hW f3
      omega
    · exact h2
  · rintro n i x c hi ⟨k, rfl, h1, h2, h3⟩ ih
    have hle : ¬ t.1 ≤ nI i := by rw [hF.1, nI_leI (by omega) (by omega)]; omega
    have hk : k ≤ 40 := by
      rcases h2 with h2 | ⟨f, f1, f2, f3, f4⟩
      · omega
      · have := dst_le hW f3
        omega
    obtain ⟨d1, d2⟩ := DX_use hW hD hi
    have hin : inb (nI i) 40 = true := inb_nI (by omega) (by decide)
    simp only [f_X6_chooseStart_b11, f_X6_chooseStart_b95, f_X6_chooseStart_b83]
    rw [if_neg hle, X0_holds hW hF N hi ha, nI_clamp (by omega), nI_1, X7_bit]
    have hs := ns_sp hW i a
    -- the face i does not count
    have skip : ¬ (NS G i a ∧ rch G b i ∧ dst G b i ≤ k) → ∃ k', nI k = nI k' ∧ (∀ f, f < i + 1 → NS G f a → rch G b f → k' ≤ dst G b f) ∧ (k' = 40 ∨ ∃ f, f < i + 1 ∧ NS G f a ∧ rch G b f ∧ dst G b f = k') ∧ ∀ f, bt x f = true ↔ f < i + 1 ∧ NS G f a ∧ rch G b f ∧ dst G b f = k' := by
      intro hno
      refine ⟨k, rfl, fun f hf q1 q2 => ?_, ?_, fun f => ?_⟩
      · rcases Nat.lt_or_ge f i with q | q
        · exact h1 f q q1 q2
        · obtain rfl : f = i := by omega
          rcases Nat.lt_or_ge k (dst G b f) with q3 | q3
          · omega
          · exact absurd ⟨q1, q2, q3⟩ hno
      · rcases h2 with h2 | ⟨f, f1, f2⟩
        · exact Or.inl h2
        · exact Or.inr ⟨f, by omega, f2⟩
      · rw [h3 f]
        constructor
        · rintro ⟨q1, q2⟩; exact ⟨by omega, q2⟩
        · rintro ⟨q1, q2, q3, q4⟩
          rcases Nat.lt_or_ge f i with q | q
          · exact ⟨q, q2, q3, q4⟩
          · obtain rfl : f = i := by omega
            exact absurd ⟨q2, q3, by omega⟩ hno
    refine Ok_bd1.mpr (Ok_some.mpr (Ok_ife bI_0 (fun c => ih _ _ (skip (fun q => ?_))) (fun c => Ok_chk.mpr ⟨hin, ?_⟩)))
    · rw [hs.mpr q.1] at c; cases c
    · rw [Bool.not_eq_false] at c
      have hna := hs.mp c
      by_cases cr : rch G b i
      · have hdl := dst_le hW cr
        rw [d1 cr]
        rw [if_neg (nI_pos (by omega))]
        refine Ok_chk.mpr ⟨hin, Ok_ife (nI_ltI (by omega) (by omega)) (fun c2 => ih _ _ (skip (fun q => by omega))) (fun c2 => Ok_chk.mpr ⟨hin, Ok_ife (nI_leI (by omega) (by omega)) (fun c3 => Ok_bd1.mpr (Ok_some.mpr (Ok_chk.mpr ⟨hin, ih _ _ ⟨k, ?_, ?_, ?_, ?_⟩⟩))) (fun c3 => Ok_bd1.mpr (Ok_some.mpr (Ok_chk.mpr ⟨hin, ih _ _ ⟨dst G b i, ?_, ?_, ?_, ?_⟩⟩)))⟩)⟩
        · rw [show dst G b i = k from by omega]
        · intro f hf q1 q2
          rcases Nat.lt_or_ge f i with q | q
          · exact h1 f q q1 q2
          · obtain rfl : f = i := by omega
            omega
        · exact Or.inr ⟨i, by omega, hna, cr, by omega⟩
        · intro f
          rw [b_or, Bool.or_eq_true, h3 f, b_bit (by omega), decide_eq_true_eq]
          constructor
          · rintro (⟨q1, q2⟩ | q)
            · exact ⟨by omega, q2⟩
            · rw [q]; exact ⟨by omega, hna, cr, by omega⟩
          · rintro ⟨q1, q2, q3, q4⟩
            rcases Nat.lt_or_ge f i with q | q
            · exact Or.inl ⟨q, q2, q3, q4⟩
            · exact Or.inr (by omega)
        · rfl
        · intro f hf q1 q2
          rcases Nat.lt_or_ge f i with q | q
          · have := h1 f q q1 q2
            omega
          · obtain rfl : f = i := by omega
            omega
        · exact Or.inr ⟨i, by omega, hna, cr, rfl⟩
        · intro f
          rw [b_bit (by omega), decide_eq_true_eq]
          constructor
          · rintro q
            rw [q]; exact ⟨by omega, hna, cr, rfl⟩
          · rintro ⟨q1, q2, q3, q4⟩
            rcases Nat.lt_or_ge f i with q | q
            · have := h1 f q q2 q3
              omega
            · omega
      · rw [d2 cr, if_pos (by decide)]
        exact ih _ _ (skip (fun q => cr q.2.1))
theorem X8_cost (hW : WF G) {s : Nat → Int32} (hR : RM G s) {fo fs : Nat → Int32} {nf : Int32} (hb : RF G fo fs nf) (N : Nat) (hN : 100 < N) {a : Nat} (ha : a < 9) {far : Nat → Int32} (hL : LK G b far) (hex : ∃ f, f < nF G ∧ NS G f a ∧ rch G b f) : Ok (f_X8_costOf_b26 N s fo nf N (nI a) 1000 0 far) (fun r => ∃ c, Cst G a b c ∧ r.1 = nI c ∧ r.2 = far) := by
  have hnf := nF_20 hW
  have e3 := hb.2.2
  refine lpU (fun n i x => f_X8_costOf_b26 N s fo nf n (nI a) x (nI i) far) (fun i c => ∃ k, c = nI k ∧ (∀ f, f < i → NS G f a → rch G b f → k ≤ dst G b f) ∧ (k = 1000 ∨ ∃ f, f < i ∧ NS G f a ∧ rch G b f ∧ dst G b f = k)) (nF G) ?_ ?_ N 0 1000 (Nat.zero_le _) (by omega) ⟨1000, rfl, fun f hf => absurd hf (Nat.not_lt_zero f), Or.inl rfl⟩
  · rintro n c ⟨k, rfl, h1, h2⟩
    have hle : nf ≤ nI (nF G) := by rw [e3]; exact nI_le (Nat.le_refl _) (by omega)
    simp only [f_X8_costOf_b26]
    rw [if_pos hle]
    refine Ok_some.mpr ⟨k, ⟨h1, ?_⟩, rfl, rfl⟩
    rcases h2 with h2 | h2
    · obtain ⟨f, f1, f2, f3⟩ := hex
      have := h1 f f1 f2 f3
      have := dst_le hW f3
      omega
    · exact h2
  · rintro n i c hi ⟨k, rfl, h1, h2⟩ ih
    have hnle : ¬ nf ≤ nI i := by rw [e3, nI_leI (by omega) (by omega)]; omega
    have hk : k ≤ 1000 := by
      rcases h2 with h2 | ⟨f, f1, f2, f3, f4⟩
      · omega
      · have := dst_le hW f3
        omega
    obtain ⟨d1, d2⟩ := hL i hi
    have hin : inb (nI i) 40 = true := inb_nI (by omega) (by decide)
    simp only [f_X8_costOf_b26, f_X8_costOf_b69, f_X8_costOf_b70]
    rw [if_neg hnle, X8_nodesOn hW hR hb.1 N hN (by omega)]
    refine Ok_bd1.mpr (Ok_some.mpr ?_)
    rw [X8_has N (by omega), nI_clamp (by omega), nI_1]
    have hs := ns_sp hW i a
    have skip : ¬ (NS G i a ∧ rch G b i ∧ dst G b i < k) → ∃ k', nI k = nI k' ∧ (∀ f, f < i + 1 → NS G f a → rch G b f → k' ≤ dst G b f) ∧ (k' = 1000 ∨ ∃ f, f < i + 1 ∧ NS G f a ∧ rch G b f ∧ dst G b f = k') := by
      intro hno
      refine ⟨k, rfl, fun f hf q1 q2 => ?_, ?_⟩
      · rcases Nat.lt_or_ge f i with q | q
        · exact h1 f q q1 q2
        · obtain rfl : f = i := by omega
          rcases Nat.lt_or_ge (dst G b f) k with q3 | q3
          · exact absurd ⟨q1, q2, q3⟩ hno
          · omega
      · rcases h2 with h2 | ⟨f, f1, f2⟩
        · exact Or.inl h2
        · exact Or.inr ⟨f, by omega, f2⟩
    refine Ok_bd1.mpr (Ok_some.mpr (Ok_ife bI_0 (fun c => ih _ (skip (fun q => ?_))) (fun c => Ok_chk.mpr ⟨hin, ?_⟩)))
    · rw [hs.mpr q.1] at c; cases c
    · rw [Bool.not_eq_false] at c
      have hna := hs.mp c
      by_cases cr : rch G b i
      · have hdl := dst_le hW cr
        rw [d1 cr]
        refine Ok_ife (nI_leI (by omega) (by omega)) (fun c2 => ih _ (skip (fun q => by omega))) (fun c2 => Ok_chk.mpr ⟨hin, ih _ ⟨dst G b i, rfl, fun f hf q1 q2 => ?_, Or.inr ⟨i, by omega, hna, cr, rfl⟩⟩⟩)
        rcases Nat.lt_or_ge f i with q | q
        · have := h1 f q q1 q2
          omega
        · obtain rfl : f = i := by omega
          omega
      · rw [d2 cr, if_pos (nI_le hk (by omega))]
        exact ih _ (skip (fun q => cr q.2.1))
theorem X6_find0 (hW : WF G) {t : TF} (hF : FR G t) (N : Nat) (hN : 100 < N) {a : Nat} (ha : a < gN G) (hb : b < gN G) : f_X0_areConnected N t.2.2.2.2.2.2.2.2 (nI a) (nI b) = some (bI (bt (cp G a) b)) := by
  have h9 := hW.2.1
  refine Ok_of ?_
  unfold f_X0_areConnected
  rw [(X7_comp hW hF.2.2.2.2.2.2.2.2 N (by omega) a ha).1]
  refine Ok_bd1.mpr (Ok_some.mpr ?_)
  rw [X7_contains N (by omega)]
  exact Ok_bd1.mpr (Ok_some.mpr (Ok_chk.mpr ⟨isB_bI _, Ok_some.mpr rfl⟩))
theorem X7_canInsert (hW : WF G) {g : TG} (hX : RX G g) {t : TF} (hF : FR G t) (N : Nat) (hN : 100 < N) {a : Nat} (ha : a < 9) (hb : b < 9) : Ok (f_X7_canInsert N t.2.2.1 g.2.1 g.2.2.2.1 g.2.2.2.2.1 (nI a) (nI b)) (fun r => (r = 1 ∧ genI G = 0 ∧ ¬ joined G a b) ∨ (r = 0 ∧ ¬ (genI G = 0 ∧ ¬ joined G a b))) := by
  have x2 := hX.2.1
  have x4 := hX.2.2.2.1
  have f3 := hF.2.2.1
  unfold f_X7_canInsert
  by_cases c : genI G = 0
  · rw [if_neg (fun q => q (by rw [f3]; exact c))]
    refine Ok_bd1.mpr (Ok_mono (show Ok (f_X1_areJoined N g.2.1 g.2.2.2.1 g.2.2.2.2.1 (nI a) (nI b)) (fun r => (r = 1 ∧ joined G a b) ∨ (r = 0 ∧ ¬ joined G a b)) from by rw [x2]; exact X1_areJoined hW x4 N a b (by omega) ha hb) ?_)
    rintro r (⟨rfl, hj⟩ | ⟨rfl, hj⟩)
    · rw [if_pos i10]
      exact Ok_some.mpr (Or.inr ⟨rfl, fun q => q.2 hj⟩)
    · rw [if_neg i00]
      exact Ok_some.mpr (Or.inl ⟨rfl, c, hj⟩)
  · rw [if_pos (by rw [f3]; exact c)]
    exact Ok_some.mpr (Or.inr ⟨rfl, fun q => c q.1⟩)
theorem X8_isRefused (hW : WF G) {s : Nat → Int32} (hR : RM G s) (N : Nat) (hN : 100 < N) (fo fs : Nat → Int32) (nf : Int32) {a : Nat} (ha : a < 9) (hb : b < 9) (hab : a ≠ b) : Ok (f_X8_isRefused N s fo fs nf (nI a) (nI b)) (fun r => RF G r.2.1 r.2.2.1 r.2.2.2 ∧ ((r.1 = 0 ∧ genI G = 0 ∧ ¬ joined G a b) ∨ (r.1 = 1 ∧ ¬ (genI G = 0 ∧ ¬ joined G a b)))) := by
  unfold f_X8_isRefused f_X8_isRefused_b18
  refine Ok_bd1.mpr (Ok_mono (X8_genus hW hR N hN fo fs nf) (fun r hr => ?_))
  by_cases c : genI G = 0
  · rw [if_neg (fun q => q (by rw [hr.1]; exact c))]
    refine Ok_bd1.mpr (Ok_mono (X8_between hW hR.2.1 hR.2.2.2.1 N a b (by omega) ha hb hab) ?_)
    rintro r3 (⟨h1, hj⟩ | ⟨h1, hj⟩)
    · rw [if_neg h1]
      exact Ok_some.mpr ⟨hr.2, Or.inr ⟨rfl, fun q => q.2 hj⟩⟩
    · rw [if_pos h1]
      exact Ok_some.mpr ⟨hr.2, Or.inl ⟨rfl, c, hj⟩⟩
  · rw [if_pos (by rw [hr.1]; exact c)]
    exact Ok_some.mpr ⟨hr.2, Or.inr ⟨rfl, fun q => c q.1⟩⟩
theorem X8_costOf (hW : WF G) {s : Nat → Int32} (hR : RM G s) {fo fs : Nat → Int32} {nf : Int32} (hb : RF G fo fs nf) (N : Nat) (hN : 100 < N) {a : Nat} (ha : a < gN G) (hbn : b < gN G) (hab : a ≠ b) (far : Nat → Int32) : Ok (f_X8_costOf N s fo nf far (nI a) (nI b)) (fun r => (conn G a b ∧ LK G b r.2 ∧ ∃ c, Cst G a b c ∧ r.1 = nI c) ∨ (¬ conn G a b ∧ r.1 = 0)) := by
  have h9 := hW.2.1
  unfold f_X8_costOf
  rw [X8_component hW hR N (by omega) ha]
  refine Ok_bd1.mpr (Ok_some.mpr ?_)
  rw [X8_has N (by omega)]
  refine Ok_bd1.mpr (Ok_some.mpr ?_)
  have hcp := cp_sp hW ha b
  cases hc : bt (cp G a) b with
  | false =>
    rw [if_neg (fun q => q bF0)]
    refine Ok_some.mpr (Or.inr ⟨fun q => ?_, rfl⟩)
    rw [hcp.mpr q] at hc; cases hc
  | true =>
    have hconn := hcp.mp hc
    rw [if_pos bT0]
    refine Ok_bd1.mpr (Ok_mono (X8_looks hW hR hb N hN (by omega) far) (fun r4 h4 => ?_))
    refine Ok_mono (X8_cost hW hR hb N hN (by omega) h4 (cost_ex hW hconn hab)) ?_
    rintro r ⟨c, c1, c2, c3⟩
    exact Or.inl ⟨hconn, by rw [c3]; exact h4, c, c1, c2⟩
end COST
