/-! ===== positions: the reference ===== -/
section RELAXES
variable {G : Gr}
theorem X8_relax1 (hW : WF G) {s : Nat → Int32} (hR : RM G s) (N : Nat) (hN : 1000 < N) {S : FS} (hB : Bd S) {v : Nat} (hv : v < gN G) (h0 : 0 < (gR G v).length) (x1 x2 x5 : Int32) (fo fs : Nat → Int32) (nf : Int32)
    (k135 : Int32 → Int32 → Int32 → (Nat → Int32) → (Nat → Int32) → Int32 → (Nat → UInt32) → (Nat → UInt32) → Option ((Nat → Int32) × (Nat → Int32) × Int32 × (Nat → UInt32) × (Nat → UInt32)))
    (k144 : Int32 → Int32 → Int32 → Int32 → (Nat → Int32) → (Nat → Int32) → Int32 → (Nat → UInt32) → (Nat → UInt32) → Option ((Nat → Int32) × (Nat → Int32) × Int32 × (Nat → UInt32) × (Nat → UInt32)))
    (Q : (Nat → Int32) × (Nat → Int32) × Int32 × (Nat → UInt32) × (Nat → UInt32) → Prop) (hQ : Ok (k144 x1 x2 x5 (nI (v + 1)) fo fs nf (rlx G v S).1 (rlx G v S).2) Q) :
    Ok (f_X8_relaxes_b186 N s k135 k144 N x1 x2 x5 (nI v) FP.fconst0 FP.fconst0 0 fo fs nf S.1 S.2) Q := by
  have h20 := hW.2.2.1
  have h9 := hW.2.1
  have h8 := WF_deg hW v
  have b1 := rsum_NB hW (v := v) (fun u hu => (hB u hu).1)
  have b2 := rsum_NB hW (v := v) (fun u hu => (hB u hu).2)
  have e43 : (43 + nI v) = nI (43 + v) := nI_add 43 _
  refine lpU (σ := Unit) (fun n k _ => f_X8_relaxes_b186 N s k135 k144 n x1 x2 x5 (nI v) (rsum G v S.1 ((gR G v).take k)) (rsum G v S.2 ((gR G v).take k)) (nI k) fo fs nf S.1 S.2) (fun _ _ => True) (gR G v).length ?_ ?_ N 0 () (Nat.zero_le _) (by omega) trivial
  · intro n _ _
    have a1 := rdiv_NB hW (v := v) (fun u hu => (hB u hu).1) h0
    have a2 := rdiv_NB hW (v := v) (fun u hu => (hB u hu).2) h0
    simp only [f_X8_relaxes_b186, f_X8_relaxes_b255, f_X8_relaxes_b297]
    rw [List.take_length, e43, nI_clamp (by omega), nI_clamp (by omega), hR.2.2.2.2.1 v (by omega), nI_1]
    have i1 : inb (nI (43 + v)) 124 = true := inb_nI (by omega) (by decide)
    have i2 : inb (nI v) 9 = true := inb_nI (by omega) (by decide)
    refine Ok_chk.mpr ⟨i1, Ok_ife (nI_leI (by omega) (by omega)) (fun _ => ?_) (fun c => absurd (Nat.le_refl _) c)⟩
    exact Ok_chk.mpr ⟨i1, Ok_chk.mpr ⟨NB_nn a1, Ok_chk.mpr ⟨i2, Ok_chk.mpr ⟨i1, Ok_chk.mpr ⟨NB_nn a2, Ok_chk.mpr ⟨i2, hQ⟩⟩⟩⟩⟩⟩
  · intro n k _ hk _ ih
    have hmem := getD_mem hk
    have hr := (hW.2.2.2.2.2.2.1 v _).mp hmem
    have hr1 : (gR G v).getD k 0 < (gE G).length := hr.1
    have ho := oth_9 hW hmem
    have c1 := b1 (k + 1) (by omega)
    have c2 := b2 (k + 1) (by omega)
    have ih := ih () trivial
    rw [rsum_take _ hk] at c1 c2
    rw [rsum_take _ hk, rsum_take _ hk] at ih
    simp only [f_X8_relaxes_b186]
    rw [e43, nI_clamp (n := 43 + v) (by omega), hR.2.2.2.2.1 v (by omega), X8_turn hW hR.2.2.2.2.2 N v k (by omega) hk, nI_1]
    refine Ok_chk.mpr ⟨inb_nI (by omega) (by decide), Ok_ife (nI_leI (by omega) (by omega)) (fun c => absurd c (by omega)) (fun _ => Ok_bd1.mpr (Ok_some.mpr ?_))⟩
    rw [X8_across hW hR N hr.1 v (by omega)]
    refine Ok_bd1.mpr (Ok_some.mpr ?_)
    rw [nI_clamp (by omega)]
    refine Ok_chk.mpr ⟨inb_nI ho (by decide), Ok_chk.mpr ⟨NB_nn c1, Ok_nm.mpr (Ok_bd1.mpr (Ok_some.mpr ?_))⟩⟩
    rw [X8_across hW hR N hr.1 v (by omega)]
    refine Ok_bd1.mpr (Ok_some.mpr ?_)
    rw [nI_clamp (by omega)]
    exact Ok_chk.mpr ⟨inb_nI ho (by decide), Ok_chk.mpr ⟨NB_nn c2, Ok_nm.mpr ih⟩⟩
theorem X8_rounds (hW : WF G) {s : Nat → Int32} (hR : RM G s) (N : Nat) (hN : 1000 < N) {S : FS} (hB : Bd S) {r : Nat} (hr : r ≤ 50) (fx : Int32) (fo fs : Nat → Int32) (nf : Int32) : f_X8_relaxes_b132 N s (nI r) fx fo fs nf S.1 S.2 = some (fo, fs, nf, (rnds G fx r S).1, (rnds G fx r S).2) := by
  have h9 := hW.2.1
  refine Ok_of ?_
  unfold f_X8_relaxes_b132
  refine lpU (σ := Unit) (fun n i _ => f_X8_relaxes_b135 N s n (nI r) fx (nI i) fo fs nf (rnds G fx i S).1 (rnds G fx i S).2) (fun _ _ => True) r ?_ ?_ N 0 () (Nat.zero_le _) (by omega) trivial
  · intro n _ _
    simp only [f_X8_relaxes_b135]
    exact Ok_ife (nI_leI (by omega) (by omega)) (fun _ => Ok_some.mpr rfl) (fun c => absurd (Nat.le_refl _) c)
  · intro n i _ hi _ ih
    have ih := ih () trivial
    have hBi := rnds_Bd hW fx hB i
    simp only [f_X8_relaxes_b135]
    refine Ok_ife (nI_leI (by omega) (by omega)) (fun c => absurd c (by omega)) (fun _ => ?_)
    have e : rnds G fx (i + 1) S = rnd G fx (gN G) (rnds G fx i S) := rfl
    rw [e] at ih
    generalize rnds G fx i S = T at *
    refine lpU (σ := Unit) (fun m v _ => f_X8_relaxes_b144 N s (f_X8_relaxes_b135 N s n) m (nI r) fx (nI i) (nI v) fo fs nf (rnd G fx v T).1 (rnd G fx v T).2) (fun _ _ => True) (gN G) ?_ ?_ N 0 () (Nat.zero_le _) (by omega) trivial
    · intro m _ _
      simp only [f_X8_relaxes_b144, f_X8_relaxes_b303]
      rw [show (0 : Int32).toNatClampNeg = 0 from rfl, hR.1, nI_1]
      exact Ok_chk.mpr ⟨by decide, Ok_ife (nI_leI (by omega) (by omega)) (fun _ => ih) (fun c => absurd (Nat.le_refl _) c)⟩
    · intro m v _ hv _ ih2
      have ih2 := ih2 () trivial
      have h8 := WF_deg hW v
      have e43 : (43 + nI v) = nI (43 + v) := nI_add 43 _
      simp only [f_X8_relaxes_b144, f_X8_relaxes_b297]
      rw [show (0 : Int32).toNatClampNeg = 0 from rfl, hR.1, X8_has N (by omega), e43, nI_clamp (by omega), hR.2.2.2.2.1 v (by omega), nI_1]
      refine Ok_chk.mpr ⟨by decide, Ok_ife (nI_leI (by omega) (by omega)) (fun c => absurd c (by omega)) (fun _ => Ok_bd1.mpr (Ok_some.mpr ?_))⟩
      by_cases c1 : bt fx v = true
      · have e2 : rnd G fx (v + 1) T = rnd G fx v T := if_pos (Or.inl c1)
        rw [e2] at ih2
        rw [c1, if_pos bT0]
        exact ih2
      · rw [Bool.eq_false_iff.mpr c1, if_neg (fun q => q bF0)]
        refine Ok_chk.mpr ⟨inb_nI (by omega) (by decide), Ok_ife (nI_leI (b := 0) (by omega) (by omega)) (fun c2 => ?_) (fun c2 => ?_)⟩
        · have e2 : rnd G fx (v + 1) T = rnd G fx v T := if_pos (Or.inr (by omega))
          rw [e2] at ih2
          exact ih2
        · have e2 : rnd G fx (v + 1) T = rlx G v (rnd G fx v T) := if_neg (fun q => q.elim c1 (fun q => by omega))
          rw [e2] at ih2
          refine Ok_nm.mpr (Ok_nm.mpr ?_)
          exact X8_relax1 hW hR N hN (rnd_Bd hW fx hBi v) hv (by omega) _ _ _ _ _ _ _ _ _ ih2
theorem X8_relaxes (hW : WF G) (hf : gO G < nF G) {s : Nat → Int32} (hR : RM G s) (N : Nat) (hN : 1000 < N) (fo fs : Nat → Int32) (nf : Int32) (xs ys : Nat → UInt32) {r : Nat} (hr : r ≤ 50) : Ok (f_X8_relaxes N s fo fs nf xs ys (nI r)) (fun q => RF G q.1 q.2.1 q.2.2.1 ∧ ∃ S0 : FS, (∀ v, v < 9 → S0.1 v = FP.fconst0 ∧ S0.2 v = FP.fconst0) ∧ (q.2.2.2.1, q.2.2.2.2) = rnds G (pin G (per G (fst0 G (gO G))) S0).1 r (pin G (per G (fst0 G (gO G))) S0).2.2) := by
  have h20 := hW.2.2.1
  have h9 := hW.2.1
  have hnf := nF_20 hW
  have h0 := (fst_sp hf).1
  have hpl := per_le hW h0
  unfold f_X8_relaxes
  refine Ok_bd1.mpr (Ok_mono (X8_walks hW hR N (by omega) fo fs nf) ?_)
  rintro ⟨fo, fs, nf⟩ hb
  dsimp only at hb ⊢
  refine lpU2 (fun n i x y => f_X8_relaxes_b11 N s n (nI r) 0 0 (nI i) fo fs nf x y) (fun i x y => ∀ v, v < i → x v = FP.fconst0 ∧ y v = FP.fconst0) 9 ?_ ?_ N 0 xs ys (Nat.zero_le _) (by omega) (fun v hv => absurd hv (Nat.not_lt_zero v))
  · intro n x y hI
    have hB : Bd (x, y) := fun v hv => by
      show NB (x v) 64 ∧ NB (y v) 64
      rw [(hI v hv).1, (hI v hv).2]
      exact ⟨NB_0 _, NB_0 _⟩
    simp only [f_X8_relaxes_b11, f_X8_relaxes_b40]
    rw [show nI 9 = (9 : Int32) from rfl, if_pos (by decide), show (2 : Int32).toNatClampNeg = 2 from rfl, hR.2.2.1, nI_clamp (by omega), hb.2.1 _ hf]
    refine Ok_chk.mpr ⟨by decide, Ok_chk.mpr ⟨inb_nI (by omega) (by decide), Ok_nm.mpr ?_⟩⟩
    refine lpU (σ := Unit) (fun n j _ => f_X8_relaxes_b56 N s n (nI r) (pin G j (x, y)).1 (nI (pin G j (x, y)).2.1) (nI (it G j (fst0 G (gO G)))) (nI j) fo fs nf (pin G j (x, y)).2.2.1 (pin G j (x, y)).2.2.2) (fun _ _ => True) (per G (fst0 G (gO G))) ?_ ?_ N 0 () (Nat.zero_le _) (by omega) trivial
    · intro n _ _
      have hI2 := pin_inv hW hf hB (per G (fst0 G (gO G)))
      simp only [f_X8_relaxes_b56]
      rw [show (2 : Int32).toNatClampNeg = 2 from rfl, hR.2.2.1, X8_lengthOf hW hR hb.1 N (by omega) hf]
      refine Ok_chk.mpr ⟨by decide, Ok_bd1.mpr (Ok_some.mpr (Ok_ife (nI_leI (by omega) (by omega)) (fun _ => ?_) (fun c => absurd (Nat.le_refl _) c)))⟩
      rw [X8_rounds hW hR N hN hI2.2.2 hr]
      exact Ok_some.mpr ⟨hb, (x, y), hI, rfl⟩
    · intro n j _ hj _ ih
      have hl := it_lt hW h0 j
      have ht := tl_lt hW hl
      have hin9 : inb (nI (tl G (it G j (fst0 G (gO G))))) 9 = true := inb_nI (by omega) (by decide)
      have ih := ih () trivial
      simp only [f_X8_relaxes_b56, f_X8_relaxes_b118]
      rw [show (2 : Int32).toNatClampNeg = 2 from rfl, hR.2.2.1, X8_lengthOf hW hR hb.1 N (by omega) hf, X8_tail hW hR N hl, X8_follows hW hR N (by omega) hl, nI_1, nI_1]
      refine Ok_chk.mpr ⟨by decide, Ok_bd1.mpr (Ok_some.mpr (Ok_ife (nI_leI (by omega) (by omega)) (fun c => absurd c (by omega)) (fun _ => Ok_bd1.mpr (Ok_some.mpr ?_))))⟩
      rw [X8_has N (by omega)]
      refine Ok_bd1.mpr (Ok_some.mpr ?_)
      by_cases c : bt (pin G j (x, y)).1 (tl G (it G j (fst0 G (gO G)))) = true
      · have e : pin G (j + 1) (x, y) = pin G j (x, y) := if_pos c
        rw [e] at ih
        rw [c, if_pos bT0]
        exact Ok_bd1.mpr (Ok_some.mpr ih)
      · have e : pin G (j + 1) (x, y) = _ := if_neg c
        rw [e] at ih
        rw [Bool.eq_false_iff.mpr c, if_neg (fun q => q bF0), nI_clamp (by omega), pk_mul]
        exact Ok_chk.mpr ⟨hin9, Ok_chk.mpr ⟨hin9, Ok_nm.mpr (Ok_bd1.mpr (Ok_some.mpr ih))⟩⟩
  · intro n i x y hi hI ih
    simp only [f_X8_relaxes_b11]
    refine Ok_ife (nI_leI (a := 9) (b := i) (by omega) (by omega)) (fun c => absurd c (by omega)) (fun _ => ?_)
    rw [nI_clamp (by omega), nI_1]
    refine Ok_chk.mpr ⟨inb_nI hi (by decide), Ok_chk.mpr ⟨inb_nI hi (by decide), ih _ _ (fun v hv => ?_)⟩⟩
    rw [vf_at, vf_at]
    by_cases e : v = i
    · rw [if_pos e, if_pos e]; exact ⟨rfl, rfl⟩
    · rw [if_neg e, if_neg e]; exact hI v (by omega)
/-- both sides, together -/
theorem lay_both (hW : WF G) (hf : gO G < nF G) {t : TF} (hF : FR G t) {g : TG} (hX : RX G g) {s : Nat → Int32} (hR : RM G s) (N : Nat) (hN : 1000 < N) (lx ly : Nat → UInt32) (fo fs : Nat → Int32) (nf : Int32) (xs ys : Nat → UInt32) {r : Nat} (hr : r ≤ 50) :
    Ok (f_X3_arrange N t.1 t.2.2.2.1 t.2.2.2.2.2.1 t.2.2.2.2.2.2.1 g.1 g.2.2.1 g.2.2.2.1 g.2.2.2.2.1 g.2.2.2.2.2.1 g.2.2.2.2.2.2 lx ly (nI r)) (fun a => Ok (f_X8_relaxes N s fo fs nf xs ys (nI r)) (fun q => RF G q.1 q.2.1 q.2.2.1 ∧ Bd a ∧ Ag a (q.2.2.2.1, q.2.2.2.2))) := by
  obtain ⟨fx, S, h1, h2, h3, h4⟩ := X3_arrange hW hf hF hX N hN lx ly hr
  rw [h4]
  refine Ok_some.mpr (Ok_mono (X8_relaxes hW hf hR N hN fo fs nf xs ys hr) ?_)
  rintro q ⟨q1, S0, q2, q3⟩
  refine ⟨q1, rnds_Bd hW fx h3 r, ?_⟩
  rw [q3]
  have hAg0 : Ag (filledF 9 FP.fconst0 lx, filledF 9 FP.fconst0 ly) S0 := by
    intro v hv
    show filledF 9 FP.fconst0 lx v = _ ∧ filledF 9 FP.fconst0 ly v = _
    unfold filledF
    rw [if_pos hv, if_pos hv, (q2 v hv).1, (q2 v hv).2]
    exact ⟨rfl, rfl⟩
  obtain ⟨a1, a2, a3⟩ := pin_Ag (G := G) hAg0 (per G (fst0 G (gO G)))
  rw [h1, a1, h2]
  exact rnds_Ag hW _ a3 r
end RELAXES
