/-! ===== positions ===== -/
abbrev FS : Type := (Nat → UInt32) × (Nat → UInt32)
def rsum (G : Gr) (v : Nat) (X : Nat → UInt32) (l : List Nat) : UInt32 := l.foldl (fun a e => FP.fadd a (X (gOth G v e))) FP.fconst0
def rlx (G : Gr) (v : Nat) (S : FS) : FS := (vf_upd S.1 v (FP.fdiv (rsum G v S.1 (gR G v)) (FP.i2f (nI (gR G v).length))), vf_upd S.2 v (FP.fdiv (rsum G v S.2 (gR G v)) (FP.i2f (nI (gR G v).length))))
def rnd (G : Gr) (fx : Int32) : Nat → FS → FS
  | 0, S => S
  | v + 1, S => if bt fx v = true ∨ (gR G v).length = 0 then rnd G fx v S else rlx G v (rnd G fx v S)
def rnds (G : Gr) (fx : Int32) : Nat → FS → FS
  | 0, S => S
  | r + 1, S => rnd G fx (gN G) (rnds G fx r S)
noncomputable def pin (G : Gr) : Nat → FS → Int32 × Nat × FS
  | 0, S => (0, 0, S)
  | j + 1, S => if bt (pin G j S).1 (tl G (it G j (fst0 G (gO G)))) = true then pin G j S else ((pin G j S).1 ||| ((1 : Int32) <<< (nI (tl G (it G j (fst0 G (gO G)))) &&& 31)), (pin G j S).2.1 + 1, (vf_upd (pin G j S).2.2.1 (tl G (it G j (fst0 G (gO G)))) (FP.i2f (nI (pin G j S).2.1)), vf_upd (pin G j S).2.2.2 (tl G (it G j (fst0 G (gO G)))) (FP.i2f (nI ((pin G j S).2.1 * (pin G j S).2.1)))))
def Bd (S : FS) : Prop := ∀ v, v < 9 → NB (S.1 v) 64 ∧ NB (S.2 v) 64
def Ag (S T : FS) : Prop := ∀ v, v < 9 → S.1 v = T.1 v ∧ S.2 v = T.2 v
theorem vf_at {α : Type} {f : Nat → α} {k j : Nat} {x : α} : vf_upd f k x j = if j = k then x else f j := rfl
section LAYOUT
variable {G : Gr}
theorem rsum_take {v k : Nat} {X : Nat → UInt32} (l : List Nat) (h : k < l.length) : rsum G v X (l.take (k + 1)) = FP.fadd (rsum G v X (l.take k)) (X (gOth G v (l.getD k 0))) := by
  rw [List.take_add_one, List.getElem?_eq_getElem h, List.getD_eq_getElem?_getD, List.getElem?_eq_getElem h]
  unfold rsum
  rw [List.foldl_append]
  rfl
theorem oth_9 (hW : WF G) {v e : Nat} (h : e ∈ gR G v) : gOth G v e < 9 := by
  have h1 := (hW.2.2.2.2.2.2.1 v e).mp h
  have := WF_end hW h1.1
  have := hW.2.1
  unfold gOth
  split <;> omega
theorem rsum_NB (hW : WF G) {v : Nat} {X : Nat → UInt32} (hX : ∀ u, u < 9 → NB (X u) 64) : ∀ k, k ≤ (gR G v).length → NB (rsum G v X ((gR G v).take k)) (64 * k)
  | 0, _ => NB_0 _
  | k + 1, hk => by
    have h8 := WF_deg hW v
    rw [rsum_take _ (by omega), show 64 * (k + 1) = 64 * k + 64 from rfl]
    exact fadd_NB (rsum_NB hW hX k (by omega)) (hX _ (oth_9 hW (getD_mem (by omega)))) (by omega)
theorem rdiv_NB (hW : WF G) {v : Nat} {X : Nat → UInt32} (hX : ∀ u, u < 9 → NB (X u) 64) (h0 : 0 < (gR G v).length) : NB (FP.fdiv (rsum G v X (gR G v)) (FP.i2f (nI (gR G v).length))) 64 := by
  have h8 := WF_deg hW v
  have h1 := rsum_NB hW hX (gR G v).length (Nat.le_refl _)
  rw [List.take_length] at h1
  have h2 := i2f_64 (gR G v).length (by omega)
  exact fdiv_NB h1 (isPos_ex h2.1) h2.2 h0 (by omega)
theorem rlx_Bd (hW : WF G) {v : Nat} {S : FS} (h : Bd S) (h0 : 0 < (gR G v).length) : Bd (rlx G v S) := by
  intro u hu
  have a1 := rdiv_NB hW (v := v) (fun u hu => (h u hu).1) h0
  have a2 := rdiv_NB hW (v := v) (fun u hu => (h u hu).2) h0
  show NB (vf_upd _ _ _ u) 64 ∧ NB (vf_upd _ _ _ u) 64
  rw [vf_at, vf_at]
  by_cases c : u = v
  · rw [if_pos c, if_pos c]; exact ⟨a1, a2⟩
  · rw [if_neg c, if_neg c]; exact h u hu
theorem rnd_Bd (hW : WF G) (fx : Int32) {S : FS} (h : Bd S) : ∀ v, Bd (rnd G fx v S)
  | 0 => h
  | v + 1 => by
    have ih := rnd_Bd hW fx h v
    unfold rnd
    split
    · exact ih
    · rename_i c
      exact rlx_Bd hW ih (by have := fun q => c (Or.inr q); omega)
theorem rnds_Bd (hW : WF G) (fx : Int32) {S : FS} (h : Bd S) : ∀ r, Bd (rnds G fx r S)
  | 0 => h
  | r + 1 => rnd_Bd hW fx (rnds_Bd hW fx h r) _
theorem rsum_Ag (hW : WF G) {v : Nat} {X Y : Nat → UInt32} (h : ∀ u, u < 9 → X u = Y u) : ∀ k, k ≤ (gR G v).length → rsum G v X ((gR G v).take k) = rsum G v Y ((gR G v).take k)
  | 0, _ => rfl
  | k + 1, hk => by rw [rsum_take _ (by omega), rsum_take _ (by omega), rsum_Ag hW h k (by omega), h _ (oth_9 hW (getD_mem (by omega)))]
theorem rlx_Ag (hW : WF G) {v : Nat} {S T : FS} (h : Ag S T) : Ag (rlx G v S) (rlx G v T) := by
  have e1 := rsum_Ag hW (v := v) (fun u hu => (h u hu).1) (gR G v).length (Nat.le_refl _)
  have e2 := rsum_Ag hW (v := v) (fun u hu => (h u hu).2) (gR G v).length (Nat.le_refl _)
  rw [List.take_length] at e1 e2
  intro u hu
  show vf_upd _ _ _ u = vf_upd _ _ _ u ∧ vf_upd _ _ _ u = vf_upd _ _ _ u
  rw [vf_at, vf_at, vf_at, vf_at, e1, e2, (h u hu).1, (h u hu).2]
  exact ⟨rfl, rfl⟩
theorem rnd_Ag (hW : WF G) (fx : Int32) {S T : FS} (h : Ag S T) : ∀ v, Ag (rnd G fx v S) (rnd G fx v T)
  | 0 => h
  | v + 1 => by
    have ih := rnd_Ag hW fx h v
    unfold rnd
    split
    · exact ih
    · exact rlx_Ag hW ih
theorem rnds_Ag (hW : WF G) (fx : Int32) {S T : FS} (h : Ag S T) : ∀ r, Ag (rnds G fx r S) (rnds G fx r T)
  | 0 => h
  | r + 1 => rnd_Ag hW fx (rnds_Ag hW fx h r) _
theorem pin_Ag {S T : FS} (h : Ag S T) : ∀ j, (pin G j S).1 = (pin G j T).1 ∧ (pin G j S).2.1 = (pin G j T).2.1 ∧ Ag (pin G j S).2.2 (pin G j T).2.2
  | 0 => ⟨rfl, rfl, h⟩
  | j + 1 => by
    obtain ⟨h1, h2, h3⟩ := pin_Ag h j
    unfold pin
    rw [h1, h2]
    split
    · exact ⟨h1, h2, h3⟩
    · refine ⟨rfl, rfl, fun u hu => ?_⟩
      show vf_upd _ _ _ u = vf_upd _ _ _ u ∧ vf_upd _ _ _ u = vf_upd _ _ _ u
      rw [vf_at, vf_at, vf_at, vf_at, (h3 u hu).1, (h3 u hu).2]
      exact ⟨rfl, rfl⟩
theorem pin_inv (hW : WF G) (hf : gO G < nF G) {S : FS} (h : Bd S) : ∀ j, (∀ b, bt (pin G j S).1 b = true → b < 9) ∧ (pin G j S).2.1 = fb_ct (bt (pin G j S).1) 9 ∧ Bd (pin G j S).2.2
  | 0 => ⟨fun b hb => absurd hb (by rw [show (pin G 0 S).1 = 0 from rfl, b_0]; decide), (fb_ct_zero.mpr (fun k _ => b_0 k)).symm, h⟩
  | j + 1 => by
    obtain ⟨h1, h2, h3⟩ := pin_inv hW hf h j
    have h0 := (fst_sp hf).1
    have ht := tl_lt hW (it_lt hW h0 j)
    have h9 := hW.2.1
    have hle := fb_ct_le (bt (pin G j S).1) 9
    unfold pin
    generalize hp : pin G j S = p at *
    generalize hv : tl G (it G j (fst0 G (gO G))) = v at *
    split
    · exact ⟨h1, h2, h3⟩
    · rename_i c
      have hb : ∀ b, bt (p.1 ||| ((1 : Int32) <<< (nI v &&& 31))) b = (if b = v then true else bt p.1 b) := by
        intro b
        rw [b_or, b_bit (by omega)]
        by_cases e : b = v
        · rw [if_pos e, decide_eq_true e, Bool.or_true]
        · rw [if_neg e, decide_eq_false e, Bool.or_false]
      have hc := fb_ct_upd (bt p.1) true (i := v) (n := 9) (by omega)
      rw [Bool.eq_false_iff.mpr c] at hc
      simp only [Bool.false_eq_true, if_false, if_true] at hc
      have hk : p.2.1 < 9 := by
        have hlt := fb_ct_le (fun k => if k = v then true else bt p.1 k) 9
        omega
      refine ⟨fun b hbb => ?_, ?_, fun u hu => ?_⟩
      · rw [hb b] at hbb
        by_cases e : b = v
        · omega
        · rw [if_neg e] at hbb; exact h1 b hbb
      · show p.2.1 + 1 = _
        rw [h2, show bt (p.1 ||| ((1 : Int32) <<< (nI v &&& 31))) = (fun k => if k = v then true else bt p.1 k) from funext hb]
        omega
      · show NB (vf_upd _ _ _ u) 64 ∧ NB (vf_upd _ _ _ u) 64
        rw [vf_at, vf_at]
        by_cases e : u = v
        · rw [if_pos e, if_pos e]
          have hsq : p.2.1 * p.2.1 ≤ 8 * 8 := Nat.mul_le_mul (by omega) (by omega)
          exact ⟨NB_mono (i2f_NB (by omega)) (by omega), NB_mono (i2f_NB (by omega)) (by omega)⟩
        · rw [if_neg e, if_neg e]; exact h3 u hu
theorem pin_lt (hW : WF G) (hf : gO G < nF G) {S : FS} (h : Bd S) (j : Nat) : (pin G j S).2.1 ≤ 9 := by
  rw [(pin_inv hW hf h j).2.1]
  exact fb_ct_le _ _
/-! the class -/
theorem X3_pin (hW : WF G) (hf : gO G < nF G) {t : TF} (hF : FR G t) {lo hi : Nat → Int32} (he : Ends G lo hi) (N : Nat) (hN : 1000 < N) {S : FS} (hB : Bd S) : f_X3_pinOuterNodes N t.2.2.2.1 t.2.2.2.2.2.1 t.2.2.2.2.2.2.1 (nI (gO G)) lo hi S.1 S.2 = some ((pin G (per G (fst0 G (gO G))) S).1, (pin G (per G (fst0 G (gO G))) S).2.2.1, (pin G (per G (fst0 G (gO G))) S).2.2.2) := by
  have h20 := hW.2.2.1
  have h9 := hW.2.1
  have hnf := nF_20 hW
  have h0 := (fst_sp hf).1
  have hpl := per_le hW h0
  refine Ok_of ?_
  unfold f_X3_pinOuterNodes
  rw [nI_clamp (by omega), hF.2.2.2.2.2.1 _ hf]
  refine Ok_chk.mpr ⟨inb_nI (by omega) (by decide), Ok_nm.mpr ?_⟩
  refine lpU (σ := Unit) (fun n j _ => f_X3_pinOuterNodes_b19 N t.2.2.2.1 t.2.2.2.2.2.1 t.2.2.2.2.2.2.1 (nI (gO G)) lo hi n (pin G j S).1 (nI (pin G j S).2.1) (nI (it G j (fst0 G (gO G)))) (nI j) (pin G j S).2.2.1 (pin G j S).2.2.2) (fun _ _ => True) (per G (fst0 G (gO G))) ?_ ?_ N 0 () (Nat.zero_le _) (by omega) trivial
  · intro n _ _
    simp only [f_X3_pinOuterNodes_b19]
    rw [nI_clamp (n := gO G) (by omega), hF.2.2.2.2.2.2.1 _ hf]
    exact Ok_chk.mpr ⟨inb_nI (by omega) (by decide), Ok_ife (nI_leI (by omega) (by omega)) (fun _ => Ok_some.mpr rfl) (fun c => absurd (Nat.le_refl _) c)⟩
  · intro n j _ hj _ ih
    have hl := it_lt hW h0 j
    have ht := tl_lt hW hl
    have hin : inb (nI (it G j (fst0 G (gO G)))) 40 = true := inb_nI (by omega) (by decide)
    have hin9 : inb (nI (tl G (it G j (fst0 G (gO G))))) 9 = true := inb_nI (by omega) (by decide)
    have ih := ih () trivial
    simp only [f_X3_pinOuterNodes_b19, f_X3_pinOuterNodes_b84]
    rw [nI_clamp (n := gO G) (by omega), hF.2.2.2.2.2.2.1 _ hf, X1_tailOf hW he N hl, nI_clamp (n := it G j (fst0 G (gO G))) (by omega), hF.2.2.2.1 _ hl, nI_1, nI_1]
    refine Ok_chk.mpr ⟨inb_nI (by omega) (by decide), Ok_ife (nI_leI (by omega) (by omega)) (fun c => absurd c (by omega)) (fun _ => Ok_bd1.mpr (Ok_some.mpr ?_))⟩
    rw [X7_contains N (by omega)]
    refine Ok_bd1.mpr (Ok_some.mpr ?_)
    by_cases c : bt (pin G j S).1 (tl G (it G j (fst0 G (gO G)))) = true
    · have e : pin G (j + 1) S = pin G j S := if_pos c
      rw [e] at ih
      rw [c, if_pos bT0]
      exact Ok_chk.mpr ⟨hin, Ok_nm.mpr ih⟩
    · have e : pin G (j + 1) S = _ := if_neg c
      rw [e] at ih
      rw [Bool.eq_false_iff.mpr c, if_neg (fun q => q bF0), X7_bit, nI_clamp (by omega), pk_mul]
      exact Ok_chk.mpr ⟨hin9, Ok_chk.mpr ⟨hin9, Ok_bd1.mpr (Ok_some.mpr (Ok_nm.mpr (Ok_chk.mpr ⟨hin, Ok_nm.mpr ih⟩)))⟩⟩
theorem X3_relax (hW : WF G) {lo hi de tu : Nat → Int32} (he : Ends G lo hi) (hd : Degs G de) (ht : Tuns G tu) (N : Nat) (hN : 1000 < N) {S : FS} (hB : Bd S) {v : Nat} (hv : v < gN G) (h0 : 0 < (gR G v).length) : f_X3_relax N lo hi de tu S.1 S.2 (nI v) = some (rlx G v S) := by
  have h20 := hW.2.2.1
  have h9 := hW.2.1
  have h8 := WF_deg hW v
  have b1 := rsum_NB hW (v := v) (fun u hu => (hB u hu).1)
  have b2 := rsum_NB hW (v := v) (fun u hu => (hB u hu).2)
  refine Ok_of ?_
  unfold f_X3_relax
  rw [nI_clamp (by omega), hd v (by omega)]
  refine Ok_nm.mpr (Ok_nm.mpr (Ok_chk.mpr ⟨inb_nI (by omega) (by decide), Ok_nm.mpr ?_⟩))
  refine lpU (σ := Unit) (fun n k _ => f_X3_relax_b16 N lo hi de tu n (nI v) (rsum G v S.1 ((gR G v).take k)) (rsum G v S.2 ((gR G v).take k)) (nI (gR G v).length) (nI k) S.1 S.2) (fun _ _ => True) (gR G v).length ?_ ?_ N 0 () (Nat.zero_le _) (by omega) trivial
  · intro n _ _
    have a1 := rdiv_NB hW (v := v) (fun u hu => (hB u hu).1) h0
    have a2 := rdiv_NB hW (v := v) (fun u hu => (hB u hu).2) h0
    simp only [f_X3_relax_b16, f_X3_relax_b90]
    rw [List.take_length, nI_clamp (by omega)]
    refine Ok_ife (nI_leI (by omega) (by omega)) (fun _ => ?_) (fun c => absurd (Nat.le_refl _) c)
    refine Ok_ife (nI_leI (b := 0) (by omega) (by omega)) (fun c => absurd c (by omega)) (fun _ => ?_)
    exact Ok_chk.mpr ⟨NB_nn a1, Ok_chk.mpr ⟨inb_nI (by omega) (by decide), Ok_chk.mpr ⟨NB_nn a2, Ok_chk.mpr ⟨inb_nI (by omega) (by decide), Ok_some.mpr rfl⟩⟩⟩⟩
  · intro n k _ hk _ ih
    have hmem := getD_mem hk
    have hr := (hW.2.2.2.2.2.2.1 v _).mp hmem
    have hr1 : (gR G v).getD k 0 < (gE G).length := hr.1
    have we := WF_end hW hr.1
    have ho := oth_9 hW hmem
    have c1 := b1 (k + 1) (by omega)
    have c2 := b2 (k + 1) (by omega)
    have ih := ih () trivial
    rw [rsum_take _ hk] at c1 c2
    rw [rsum_take _ hk, rsum_take _ hk] at ih
    simp only [f_X3_relax_b16]
    rw [X1_edgeAt hW ht N v k (by omega) hk]
    refine Ok_ife (nI_leI (by omega) (by omega)) (fun c => absurd c (by omega)) (fun _ => Ok_bd1.mpr (Ok_some.mpr ?_))
    rw [nI_clamp (by omega), (he _ hr.1).1, (he _ hr.1).2]
    have hie : inb (nI ((gR G v).getD k 0)) 20 = true := inb_nI (by omega) (by decide)
    have fin : ∀ y, y = nI (gOth G v ((gR G v).getD k 0)) → Ok (f_X3_relax_b60 N lo hi de tu (f_X3_relax_b16 N lo hi de tu n) (nI v) (rsum G v S.1 ((gR G v).take k)) (rsum G v S.2 ((gR G v).take k)) (nI (gR G v).length) (nI k) y S.1 S.2) (fun b => b = rlx G v S) := by
      rintro y rfl
      unfold f_X3_relax_b60
      rw [nI_clamp (by omega), nI_1]
      exact Ok_chk.mpr ⟨inb_nI ho (by decide), Ok_chk.mpr ⟨NB_nn c1, Ok_nm.mpr (Ok_chk.mpr ⟨inb_nI ho (by decide), Ok_chk.mpr ⟨NB_nn c2, Ok_nm.mpr ih⟩⟩)⟩⟩
    refine Ok_chk.mpr ⟨hie, ?_⟩
    by_cases c : (gEnd G ((gR G v).getD k 0)).1 = v
    · rw [if_neg (by rw [c]; exact fun q => q rfl)]
      exact Ok_chk.mpr ⟨hie, fin _ (by unfold gOth; rw [if_pos c])⟩
    · rw [if_pos (fun q => c ((nI_eq (by omega) (by omega)).mp q))]
      exact Ok_chk.mpr ⟨hie, fin _ (by unfold gOth; rw [if_neg c])⟩
theorem X3_arrange (hW : WF G) (hf : gO G < nF G) {t : TF} (hF : FR G t) {g : TG} (hX : RX G g) (N : Nat) (hN : 1000 < N) (lx ly : Nat → UInt32) {r : Nat} (hr : r ≤ 50) : ∃ fx S, fx = (pin G (per G (fst0 G (gO G))) (filledF 9 FP.fconst0 lx, filledF 9 FP.fconst0 ly)).1 ∧ S = (pin G (per G (fst0 G (gO G))) (filledF 9 FP.fconst0 lx, filledF 9 FP.fconst0 ly)).2.2 ∧ Bd S ∧ f_X3_arrange N t.1 t.2.2.2.1 t.2.2.2.2.2.1 t.2.2.2.2.2.2.1 g.1 g.2.2.1 g.2.2.2.1 g.2.2.2.2.1 g.2.2.2.2.2.1 g.2.2.2.2.2.2 lx ly (nI r) = some (rnds G fx r S) := by
  obtain ⟨x1, x2, x3, x4, x5, x6⟩ := hX
  have h9 := hW.2.1
  have hB0 : Bd (filledF 9 FP.fconst0 lx, filledF 9 FP.fconst0 ly) := by
    intro v hv
    show NB (filledF 9 FP.fconst0 lx v) 64 ∧ NB (filledF 9 FP.fconst0 ly v) 64
    unfold filledF
    rw [if_pos hv, if_pos hv]
    exact ⟨NB_0 _, NB_0 _⟩
  have hI := pin_inv hW hf hB0 (per G (fst0 G (gO G)))
  refine ⟨_, _, rfl, rfl, hI.2.2, ?_⟩
  unfold f_X3_arrange
  have hpin := X3_pin hW hf hF x4 N hN hB0
  dsimp only at hpin
  have hex : f_X0_exists N t.1 (nI (gO G)) = some (bI true) := by rw [X0_exists hW hF, inb_nI hf (Nat.lt_of_le_of_lt (nF_le hW) (by decide))]
  rw [x3, hex, hpin, x1]
  generalize pin G (per G (fst0 G (gO G))) (filledF 9 FP.fconst0 lx, filledF 9 FP.fconst0 ly) = p at *
  refine Ok_of (Ok_bd1.mpr (Ok_some.mpr ?_))
  rw [if_neg bT0]
  refine Ok_bd1.mpr (Ok_some.mpr ?_)
  unfold f_X3_arrange_b37
  dsimp only
  refine lpU (σ := Unit) (fun n i _ => f_X3_arrange_b42 N t.1 t.2.2.2.1 t.2.2.2.2.2.1 t.2.2.2.2.2.2.1 (nI (gN G)) (nI (gO G)) g.2.2.2.1 g.2.2.2.2.1 g.2.2.2.2.2.1 g.2.2.2.2.2.2 n (nI r) p.1 (nI i) (rnds G p.1 i p.2.2).1 (rnds G p.1 i p.2.2).2) (fun _ _ => True) r ?_ ?_ N 0 () (Nat.zero_le _) (by omega) trivial
  · intro n _ _
    simp only [f_X3_arrange_b42]
    exact Ok_ife (nI_leI (by omega) (by omega)) (fun _ => Ok_some.mpr rfl) (fun c => absurd (Nat.le_refl _) c)
  · intro n i _ hi _ ih
    have ih := ih () trivial
    have hBi := rnds_Bd hW p.1 hI.2.2 i
    simp only [f_X3_arrange_b42]
    refine Ok_ife (nI_leI (by omega) (by omega)) (fun c => absurd c (by omega)) (fun _ => ?_)
    have e : rnds G p.1 (i + 1) p.2.2 = rnd G p.1 (gN G) (rnds G p.1 i p.2.2) := rfl
    rw [e] at ih
    generalize rnds G p.1 i p.2.2 = T at *
    refine lpU (σ := Unit) (fun m v _ => f_X3_arrange_b51 N t.1 t.2.2.2.1 t.2.2.2.2.2.1 t.2.2.2.2.2.2.1 (nI (gN G)) (nI (gO G)) g.2.2.2.1 g.2.2.2.2.1 g.2.2.2.2.2.1 g.2.2.2.2.2.2 (f_X3_arrange_b42 N t.1 t.2.2.2.1 t.2.2.2.2.2.1 t.2.2.2.2.2.2.1 (nI (gN G)) (nI (gO G)) g.2.2.2.1 g.2.2.2.2.1 g.2.2.2.2.2.1 g.2.2.2.2.2.2 n) m (nI r) p.1 (nI i) (nI v) (rnd G p.1 v T).1 (rnd G p.1 v T).2) (fun _ _ => True) (gN G) ?_ ?_ N 0 () (Nat.zero_le _) (by omega) trivial
    · intro m _ _
      simp only [f_X3_arrange_b51, f_X3_arrange_b93]
      rw [nI_1]
      exact Ok_ife (nI_leI (by omega) (by omega)) (fun _ => ih) (fun c => absurd (Nat.le_refl _) c)
    · intro m v _ hv _ ih2
      have ih2 := ih2 () trivial
      have h8 := WF_deg hW v
      simp only [f_X3_arrange_b51, f_X3_arrange_b87]
      rw [X7_contains N (by omega), nI_clamp (by omega), x5 v (by omega), nI_1]
      refine Ok_ife (nI_leI (by omega) (by omega)) (fun c => absurd c (by omega)) (fun _ => Ok_bd1.mpr (Ok_some.mpr ?_))
      by_cases c1 : bt p.1 v = true
      · have e2 : rnd G p.1 (v + 1) T = rnd G p.1 v T := if_pos (Or.inl c1)
        rw [e2] at ih2
        rw [c1, if_pos bT0]
        exact ih2
      · rw [Bool.eq_false_iff.mpr c1, if_neg (fun q => q bF0)]
        refine Ok_chk.mpr ⟨inb_nI (by omega) (by decide), Ok_ife (nI_leI (b := 0) (by omega) (by omega)) (fun c2 => ?_) (fun c2 => ?_)⟩
        · have e2 : rnd G p.1 (v + 1) T = rnd G p.1 v T := if_pos (Or.inr (by omega))
          rw [e2] at ih2
          exact ih2
        · have e2 : rnd G p.1 (v + 1) T = rlx G v (rnd G p.1 v T) := if_neg (fun q => q.elim c1 (fun q => by omega))
          rw [e2] at ih2
          rw [X3_relax hW x4 x5 x6 N hN (rnd_Bd hW p.1 hBi v) hv (by omega)]
          exact Ok_bd1.mpr (Ok_some.mpr ih2)
end LAYOUT
