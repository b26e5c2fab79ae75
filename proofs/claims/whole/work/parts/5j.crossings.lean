/-! ===== crossings ===== -/
def tn (S : FS) (p q r : Nat) : UInt32 := FP.fsub (FP.fmul (FP.fsub (S.1 q) (S.1 p)) (FP.fsub (S.2 r) (S.2 p))) (FP.fmul (FP.fsub (S.2 q) (S.2 p)) (FP.fsub (S.1 r) (S.1 p)))
theorem turn_gen {S : FS} (hB : Bd S) {p q r : Nat} (hp : p < 9) (hq : q < 9) (hr : r < 9) : nn32 (FP.fsub (S.1 q) (S.1 p)) = true ∧ nn32 (FP.fsub (S.2 r) (S.2 p)) = true ∧ nn32 (FP.fmul (FP.fsub (S.1 q) (S.1 p)) (FP.fsub (S.2 r) (S.2 p))) = true ∧ nn32 (FP.fsub (S.2 q) (S.2 p)) = true ∧ nn32 (FP.fsub (S.1 r) (S.1 p)) = true ∧ nn32 (FP.fmul (FP.fsub (S.2 q) (S.2 p)) (FP.fsub (S.1 r) (S.1 p))) = true ∧ nn32 (tn S p q r) = true := by
  have bp := hB p hp
  have bq := hB q hq
  have br := hB r hr
  have m1 := sub_mag bq.1 bp.1
  have m2 := sub_mag br.2 bp.2
  have m3 := sub_mag bq.2 bp.2
  have m4 := sub_mag br.1 bp.1
  have m5 := mul_mag2 m1 m2
  have m6 := mul_mag2 m3 m4
  exact ⟨mag_nn m1 (by decide), mag_nn m2 (by decide), mag_nn m5 (by decide), mag_nn m3 (by decide), mag_nn m4 (by decide), mag_nn m6 (by decide), mag_nn (sub_mag2 m5 m6) (by decide)⟩
theorem X3_turn (N : Nat) {S : FS} (hB : Bd S) {p q r : Nat} (hp : p < 9) (hq : q < 9) (hr : r < 9) : f_X3_turn N S.1 S.2 (nI p) (nI q) (nI r) = some (tn S p q r) := by
  obtain ⟨t1, t2, t3, t4, t5, t6, t7⟩ := turn_gen hB hp hq hr
  have ip : inb (nI p) 9 = true := inb_nI hp (by decide)
  have iq : inb (nI q) 9 = true := inb_nI hq (by decide)
  have ir : inb (nI r) 9 = true := inb_nI hr (by decide)
  unfold tn at t7 ⊢
  unfold f_X3_turn chk
  rw [nI_clamp (by omega), nI_clamp (by omega), nI_clamp (by omega)]
  simp only [ip, iq, ir, t1, t2, t3, t4, t5, t6, t7, if_true]
theorem X8_turnOf (N : Nat) {S : FS} (hB : Bd S) {p q r : Nat} (hp : p < 9) (hq : q < 9) (hr : r < 9) : f_X8_turnOf N S.1 S.2 (nI p) (nI q) (nI r) = some (tn S p q r) := by
  obtain ⟨t1, t2, t3, t4, t5, t6, t7⟩ := turn_gen hB hp hq hr
  have ip : inb (nI p) 9 = true := inb_nI hp (by decide)
  have iq : inb (nI q) 9 = true := inb_nI hq (by decide)
  have ir : inb (nI r) 9 = true := inb_nI hr (by decide)
  unfold tn at t7 ⊢
  unfold f_X8_turnOf chk
  rw [nI_clamp (by omega), nI_clamp (by omega), nI_clamp (by omega)]
  simp only [ip, iq, ir, t1, t2, t3, t4, t5, t6, t7, if_true]
def opB (a b : UInt32) : Bool := (!decide (Op.cmpValue (FP.fcmp a FP.fconst0) .l ≤ 0) && decide (Op.cmpValue (FP.fcmp b FP.fconst0) .g < 0)) || (!decide (0 ≤ Op.cmpValue (FP.fcmp a FP.fconst0) .g) && !decide (Op.cmpValue (FP.fcmp b FP.fconst0) .l ≤ 0))
theorem X3_opp (N : Nat) (a b : UInt32) : f_X3_areOpposite N a b = some (bI (opB a b)) := by
  unfold f_X3_areOpposite f_X3_areOpposite_b12 f_X3_areOpposite_b24 opB
  by_cases c1 : Op.cmpValue (FP.fcmp a FP.fconst0) .l ≤ 0 <;> by_cases c2 : Op.cmpValue (FP.fcmp b FP.fconst0) .g < 0 <;> by_cases c3 : 0 ≤ Op.cmpValue (FP.fcmp a FP.fconst0) .g <;> by_cases c4 : Op.cmpValue (FP.fcmp b FP.fconst0) .l ≤ 0 <;> simp [c1, c2, c3, c4, bI]
section CRS
variable {G : Gr}
theorem X8_areApart (hW : WF G) {s : Nat → Int32} (hR : RM G s) (N : Nat) {S : FS} (hB : Bd S) {e r t : Nat} (he : e < (gE G).length) (hr : r < 9) (ht : t < 9) : f_X8_areApart N s S.1 S.2 (nI e) (nI r) (nI t) = some (bI (opB (tn S (gEnd G e).1 (gEnd G e).2 r) (tn S (gEnd G e).1 (gEnd G e).2 t))) := by
  have h20 := hW.2.2.1
  have h9 := hW.2.1
  have we := WF_end hW he
  have x4 := hR.2.2.2.1 e he
  have e3 : (3 : Int32) + nI e = nI (3 + e) := nI_add 3 _
  have e23 : (23 : Int32) + nI e = nI (23 + e) := nI_add 23 _
  rw [← X3_opp N]
  have hsome : ∃ r0, f_X3_areOpposite N (tn S (gEnd G e).1 (gEnd G e).2 r) (tn S (gEnd G e).1 (gEnd G e).2 t) = some r0 := ⟨_, X3_opp N _ _⟩
  obtain ⟨r0, hr0⟩ := hsome
  rw [hr0]
  refine Ok_of ?_
  unfold f_X8_areApart
  rw [e3, e23, nI_clamp (by omega), nI_clamp (by omega), x4.1, x4.2, X8_turnOf N hB (by omega) (by omega) hr, X8_turnOf N hB (by omega) (by omega) ht]
  refine Ok_chk.mpr ⟨inb_nI (by omega) (by decide), Ok_chk.mpr ⟨inb_nI (by omega) (by decide), Ok_bd1.mpr (Ok_some.mpr (Ok_chk.mpr ⟨inb_nI (by omega) (by decide), Ok_chk.mpr ⟨inb_nI (by omega) (by decide), Ok_bd1.mpr (Ok_some.mpr ?_)⟩⟩))⟩⟩
  refine (Ok_eq (a := r0) ?_).mpr rfl
  exact hr0
/-- two edges cross -/
def crB (G : Gr) (S : FS) (e f : Nat) : Bool := !decide ((gEnd G e).1 = (gEnd G f).1 ∨ (gEnd G e).1 = (gEnd G f).2 ∨ (gEnd G e).2 = (gEnd G f).1 ∨ (gEnd G e).2 = (gEnd G f).2) && (opB (tn S (gEnd G e).1 (gEnd G e).2 (gEnd G f).1) (tn S (gEnd G e).1 (gEnd G e).2 (gEnd G f).2) && opB (tn S (gEnd G f).1 (gEnd G f).2 (gEnd G e).1) (tn S (gEnd G f).1 (gEnd G f).2 (gEnd G e).2))
theorem X3_doCross (hW : WF G) (N : Nat) {S : FS} (hB : Bd S) {e f : Nat} (he : e < (gE G).length) (hf : f < (gE G).length) : f_X3_doCross N S.1 S.2 (nI (gEnd G e).1) (nI (gEnd G e).2) (nI (gEnd G f).1) (nI (gEnd G f).2) = some (bI (crB G S e f)) := by
  have h9 := hW.2.1
  have we := WF_end hW he
  have wf := WF_end hW hf
  unfold f_X3_doCross crB
  rw [X3_turn N hB (by omega) (by omega) (by omega), X3_turn N hB (by omega) (by omega) (by omega), X3_turn N hB (by omega) (by omega) (by omega), X3_turn N hB (by omega) (by omega) (by omega)]
  by_cases c1 : (gEnd G e).1 = (gEnd G f).1
  · rw [if_pos (show nI (gEnd G e).1 = nI (gEnd G f).1 by rw [c1]), decide_eq_true (Or.inl c1)]; rfl
  rw [if_neg (fun q => c1 ((nI_inj (by omega) (by omega)).mp q))]
  by_cases c2 : (gEnd G e).1 = (gEnd G f).2
  · rw [if_pos (show nI (gEnd G e).1 = nI (gEnd G f).2 by rw [c2]), decide_eq_true (Or.inr (Or.inl c2))]; rfl
  rw [if_neg (fun q => c2 ((nI_inj (by omega) (by omega)).mp q))]
  by_cases c3 : (gEnd G e).2 = (gEnd G f).1
  · rw [if_pos (show nI (gEnd G e).2 = nI (gEnd G f).1 by rw [c3]), decide_eq_true (Or.inr (Or.inr (Or.inl c3)))]; rfl
  rw [if_neg (fun q => c3 ((nI_inj (by omega) (by omega)).mp q))]
  by_cases c4 : (gEnd G e).2 = (gEnd G f).2
  · rw [if_neg (fun q => q (show nI (gEnd G e).2 = nI (gEnd G f).2 by rw [c4])), decide_eq_true (Or.inr (Or.inr (Or.inr c4)))]; rfl
  rw [if_pos (fun q => c4 ((nI_inj (by omega) (by omega)).mp q)), decide_eq_false (by omega)]
  refine Ok_of (Ok_bd1.mpr (Ok_some.mpr (Ok_bd1.mpr (Ok_some.mpr ?_))))
  rw [X3_opp]
  refine Ok_bd1.mpr (Ok_some.mpr ?_)
  cases opB (tn S (gEnd G e).1 (gEnd G e).2 (gEnd G f).1) (tn S (gEnd G e).1 (gEnd G e).2 (gEnd G f).2) with
  | false =>
    rw [if_pos bF0]
    exact Ok_some.mpr rfl
  | true =>
    rw [if_neg bT0]
    refine Ok_bd1.mpr (Ok_some.mpr (Ok_bd1.mpr (Ok_some.mpr ?_)))
    rw [X3_opp]
    refine Ok_bd1.mpr (Ok_some.mpr ?_)
    cases opB (tn S (gEnd G f).1 (gEnd G f).2 (gEnd G e).1) (tn S (gEnd G f).1 (gEnd G f).2 (gEnd G e).2) with
    | false => rw [if_pos bF0]; exact Ok_some.mpr rfl
    | true => rw [if_neg bT0]; exact Ok_some.mpr rfl
theorem crB_sym (S : FS) (e f : Nat) : crB G S e f = crB G S f e := by
  unfold crB
  rw [Bool.and_comm (opB (tn S (gEnd G e).1 (gEnd G e).2 (gEnd G f).1) (tn S (gEnd G e).1 (gEnd G e).2 (gEnd G f).2))]
  congr 2
  refine decide_eq_decide.mpr ?_
  omega
theorem tn_Ag {S T : FS} (h : Ag S T) {p q r : Nat} (hp : p < 9) (hq : q < 9) (hr : r < 9) : tn S p q r = tn T p q r := by
  unfold tn
  rw [(h p hp).1, (h p hp).2, (h q hq).1, (h q hq).2, (h r hr).1, (h r hr).2]
theorem crB_Ag (hW : WF G) {S T : FS} (h : Ag S T) {e f : Nat} (he : e < (gE G).length) (hf : f < (gE G).length) : crB G S e f = crB G T e f := by
  have h9 := hW.2.1
  have we := WF_end hW he
  have wf := WF_end hW hf
  unfold crB
  rw [tn_Ag h (by omega) (by omega) (by omega), tn_Ag h (by omega) (by omega) (by omega), tn_Ag h (by omega) (by omega) (by omega), tn_Ag h (by omega) (by omega) (by omega)]
def sm (g : Nat → Nat) : Nat → Nat
  | 0 => 0
  | n + 1 => sm g n + g n
theorem sm_cong {g h : Nat → Nat} : ∀ n, (∀ k, k < n → g k = h k) → sm g n = sm h n
  | 0, _ => rfl
  | n + 1, q => by
    show sm g n + g n = sm h n + h n
    rw [sm_cong n (fun k hk => q k (by omega)), q n (by omega)]
theorem sm_add (g h : Nat → Nat) : ∀ n, sm (fun k => g k + h k) n = sm g n + sm h n
  | 0 => rfl
  | n + 1 => by
    show sm (fun k => g k + h k) n + (g n + h n) = (sm g n + g n) + (sm h n + h n)
    rw [sm_add g h n]
    omega
theorem sm_ct (p : Nat → Bool) : ∀ n, sm (fun k => if p k = true then 1 else 0) n = fb_ct p n
  | 0 => rfl
  | n + 1 => by
    show sm _ n + (if p n = true then 1 else 0) = fb_ct p n + (if p n = true then 1 else 0)
    rw [sm_ct p n]
theorem sm_pairs (c : Nat → Nat → Bool) : ∀ m, sm (fun e => fb_ct (fun f => decide (e < f) && c e f) m) m = sm (fun e => fb_ct (fun f => c f e) e) m
  | 0 => rfl
  | m + 1 => by
    show sm (fun e => fb_ct (fun f => decide (e < f) && c e f) (m + 1)) m + fb_ct (fun f => decide (m < f) && c m f) (m + 1) = sm (fun e => fb_ct (fun f => c f e) e) m + fb_ct (fun f => c f m) m
    have e1 : fb_ct (fun f => decide (m < f) && c m f) (m + 1) = 0 := fb_ct_zero.mpr (fun k hk => by rw [decide_eq_false (by omega), Bool.false_and])
    have e2 : sm (fun e => fb_ct (fun f => decide (e < f) && c e f) (m + 1)) m = sm (fun e => fb_ct (fun f => decide (e < f) && c e f) m + (if c e m = true then 1 else 0)) m := by
      refine sm_cong m (fun k hk => ?_)
      rw [fb_ct_succ, decide_eq_true hk, Bool.true_and]
    rw [e1, e2, sm_add, sm_ct, sm_pairs c m, Nat.add_zero]
theorem X3_countCrossings (hW : WF G) {lo hi : Nat → Int32} (he : Ends G lo hi) (N : Nat) (hN : 1000 < N) {S : FS} (hB : Bd S) : f_X3_countCrossings N (nI (gE G).length) lo hi S.1 S.2 = some (nI (sm (fun e => fb_ct (fun f => decide (e < f) && crB G S e f) (gE G).length) (gE G).length)) := by
  have h20 := hW.2.2.1
  refine Ok_of ?_
  unfold f_X3_countCrossings
  refine lpU (fun n e a => f_X3_countCrossings_b4 N (nI (gE G).length) lo hi S.1 S.2 n a (nI e)) (fun e a => a = nI (sm (fun e => fb_ct (fun f => decide (e < f) && crB G S e f) (gE G).length) e)) (gE G).length ?_ ?_ N 0 0 (Nat.zero_le _) (by omega) rfl
  · rintro n a rfl
    simp only [f_X3_countCrossings_b4]
    exact Ok_ife (nI_leI (by omega) (by omega)) (fun _ => Ok_some.mpr rfl) (fun c => absurd (Nat.le_refl _) c)
  · rintro n e a hel rfl ih
    simp only [f_X3_countCrossings_b4]
    refine Ok_ife (nI_leI (by omega) (by omega)) (fun c => absurd c (by omega)) (fun _ => Ok_nm.mpr ?_)
    rw [nI_1]
    generalize hA : sm (fun e => fb_ct (fun f => decide (e < f) && crB G S e f) (gE G).length) e = A
    have hstart : fb_ct (fun f => decide (e < f) && crB G S e f) (e + 1) = 0 := fb_ct_zero.mpr (fun k hk => by rw [decide_eq_false (by omega), Bool.false_and])
    refine lpU (fun m f a => f_X3_countCrossings_b17 N (nI (gE G).length) lo hi S.1 S.2 (f_X3_countCrossings_b4 N (nI (gE G).length) lo hi S.1 S.2 n) m a (nI e) (nI f)) (fun f a => e + 1 ≤ f ∧ a = nI (A + fb_ct (fun f => decide (e < f) && crB G S e f) f)) (gE G).length ?_ ?_ N (e + 1) _ (by omega) (by omega) ⟨Nat.le_refl _, by rw [hstart, Nat.add_zero]⟩
    · rintro m a ⟨_, rfl⟩
      simp only [f_X3_countCrossings_b17, f_X3_countCrossings_b68]
      rw [nI_1]
      refine Ok_ife (nI_leI (by omega) (by omega)) (fun _ => ih _ ?_) (fun c => absurd (Nat.le_refl _) c)
      show _ = nI (sm _ e + _)
      rw [hA]
    · rintro m f a hf ⟨hef, rfl⟩ ih2
      have i1 : inb (nI e) 20 = true := inb_nI (by omega) (by decide)
      have i2 : inb (nI f) 20 = true := inb_nI (by omega) (by decide)
      simp only [f_X3_countCrossings_b17, f_X3_countCrossings_b62]
      rw [nI_clamp (n := e) (by omega), nI_clamp (n := f) (by omega), (he e hel).1, (he e hel).2, (he f hf).1, (he f hf).2, X3_doCross hW N hB hel hf, nI_1]
      refine Ok_ife (nI_leI (by omega) (by omega)) (fun c => absurd c (by omega)) (fun _ => Ok_chk.mpr ⟨i1, Ok_chk.mpr ⟨i1, Ok_chk.mpr ⟨i2, Ok_chk.mpr ⟨i2, Ok_bd1.mpr (Ok_some.mpr (Ok_ife bI_0 (fun c => ih2 _ ⟨by omega, ?_⟩) (fun c => ih2 _ ⟨by omega, ?_⟩)))⟩⟩⟩⟩)
      · rw [fb_ct_succ, c, Bool.and_false]; rfl
      · rw [Bool.not_eq_false] at c
        rw [fb_ct_succ, c, decide_eq_true (by omega), nI_1]; rfl
theorem X8_countCr (hW : WF G) {s : Nat → Int32} (hR : RM G s) (N : Nat) (hN : 1000 < N) {S : FS} (hB : Bd S) (fo fs : Nat → Int32) (nf : Int32) : f_X8_crossings_b33 N s N 0 0 fo fs nf S.1 S.2 = some (nI (sm (fun e => fb_ct (fun f => crB G S f e) e) (gE G).length), fo, fs, nf, S.1, S.2) := by
  have h20 := hW.2.2.1
  have h9 := hW.2.1
  refine Ok_of ?_
  refine lpU (fun n e a => f_X8_crossings_b33 N s n a (nI e) fo fs nf S.1 S.2) (fun e a => a = nI (sm (fun e => fb_ct (fun f => crB G S f e) e) e)) (gE G).length ?_ ?_ N 0 0 (Nat.zero_le _) (by omega) rfl
  · rintro n a rfl
    simp only [f_X8_crossings_b33]
    rw [show (1 : Int32).toNatClampNeg = 1 from rfl, hR.2.1]
    exact Ok_chk.mpr ⟨by decide, Ok_ife (nI_leI (by omega) (by omega)) (fun _ => Ok_some.mpr rfl) (fun c => absurd (Nat.le_refl _) c)⟩
  · rintro n e a hel rfl ih
    simp only [f_X8_crossings_b33]
    rw [show (1 : Int32).toNatClampNeg = 1 from rfl, hR.2.1]
    refine Ok_chk.mpr ⟨by decide, Ok_ife (nI_leI (by omega) (by omega)) (fun c => absurd c (by omega)) (fun _ => ?_)⟩
    generalize hA : sm (fun e => fb_ct (fun f => crB G S f e) e) e = A
    refine lpU (fun m f a => f_X8_crossings_b46 N s (f_X8_crossings_b33 N s n) m a (nI e) (nI f) fo fs nf S.1 S.2) (fun f a => a = nI (A + fb_ct (fun f => crB G S f e) f)) e ?_ ?_ N 0 _ (Nat.zero_le _) (by omega) rfl
    · rintro m a rfl
      simp only [f_X8_crossings_b46, f_X8_crossings_b166]
      rw [nI_1]
      refine Ok_ife (nI_leI (by omega) (by omega)) (fun _ => ih _ ?_) (fun c => absurd (Nat.le_refl _) c)
      show _ = nI (sm _ e + _)
      rw [hA]
    · rintro m f a hf rfl ih2
      have hfl : f < (gE G).length := by omega
      have we := WF_end hW hel
      have wf := WF_end hW hfl
      have x4e := hR.2.2.2.1 e hel
      have x4f := hR.2.2.2.1 f hfl
      have e3 : (3 : Int32) + nI e = nI (3 + e) := nI_add 3 _
      have e23 : (23 : Int32) + nI e = nI (23 + e) := nI_add 23 _
      have f3 : (3 : Int32) + nI f = nI (3 + f) := nI_add 3 _
      have f23 : (23 : Int32) + nI f = nI (23 + f) := nI_add 23 _
      have j1 : inb (nI (3 + f)) 124 = true := inb_nI (by omega) (by decide)
      have j2 : inb (nI (23 + f)) 124 = true := inb_nI (by omega) (by decide)
      have j3 : inb (nI (3 + e)) 124 = true := inb_nI (by omega) (by decide)
      have j4 : inb (nI (23 + e)) 124 = true := inb_nI (by omega) (by decide)
      have add0 : crB G S f e = false → Ok (f_X8_crossings_b157 N s (f_X8_crossings_b33 N s n) (f_X8_crossings_b46 N s (f_X8_crossings_b33 N s n) m) (nI e) (nI f) (nI (A + fb_ct (fun f => crB G S f e) f)) fo fs nf S.1 S.2) (fun b => b = (nI (sm (fun e => fb_ct (fun f => crB G S f e) e) (gE G).length), fo, fs, nf, S.1, S.2)) := by
        intro hc
        unfold f_X8_crossings_b157 f_X8_crossings_b158
        rw [nI_1]
        refine Ok_nm.mpr (ih2 _ ?_)
        rw [fb_ct_succ, hc, Int32.add_zero]; rfl
      have crf : crB G S f e = (!decide ((gEnd G f).1 = (gEnd G e).1 ∨ (gEnd G f).1 = (gEnd G e).2 ∨ (gEnd G f).2 = (gEnd G e).1 ∨ (gEnd G f).2 = (gEnd G e).2) && (opB (tn S (gEnd G f).1 (gEnd G f).2 (gEnd G e).1) (tn S (gEnd G f).1 (gEnd G f).2 (gEnd G e).2) && opB (tn S (gEnd G e).1 (gEnd G e).2 (gEnd G f).1) (tn S (gEnd G e).1 (gEnd G e).2 (gEnd G f).2))) := rfl
      have no : ¬ ((gEnd G e).1 = (gEnd G f).1 ∨ (gEnd G e).2 = (gEnd G f).1) → ¬ ((gEnd G e).1 = (gEnd G f).2 ∨ (gEnd G e).2 = (gEnd G f).2) → Ok (f_X8_crossings_b92 N s (f_X8_crossings_b33 N s n) (f_X8_crossings_b46 N s (f_X8_crossings_b33 N s n) m) (nI (A + fb_ct (fun f => crB G S f e) f)) (nI e) (nI f) 1 fo fs nf S.1 S.2) (fun b => b = (nI (sm (fun e => fb_ct (fun f => crB G S f e) e) (gE G).length), fo, fs, nf, S.1, S.2)) := by
        intro n1 n2
        unfold f_X8_crossings_b92
        rw [if_neg i10, f3, f23, e3, e23, nI_clamp (n := 3 + f) (by omega), nI_clamp (n := 23 + f) (by omega), nI_clamp (n := 3 + e) (by omega), nI_clamp (n := 23 + e) (by omega), x4e.1, x4e.2, x4f.1, x4f.2, X8_areApart hW hR N hB hel (by omega) (by omega), X8_areApart hW hR N hB hfl (by omega) (by omega)]
        rw [decide_eq_false (by omega), Bool.not_false, Bool.true_and] at crf
        refine Ok_chk.mpr ⟨j1, Ok_chk.mpr ⟨j2, Ok_bd1.mpr (Ok_some.mpr (Ok_ife bI_0 (fun c => add0 ?_) (fun c => Ok_chk.mpr ⟨j3, Ok_chk.mpr ⟨j4, Ok_bd1.mpr (Ok_some.mpr (Ok_ife bI_0 (fun c2 => add0 ?_) (fun c2 => ?_)))⟩⟩)))⟩⟩
        · rw [crf, c, Bool.and_false]
        · rw [crf, c2, Bool.false_and]
        · rw [Bool.not_eq_false] at c c2
          unfold f_X8_crossings_b158
          rw [nI_1, nI_1]
          refine Ok_nm.mpr (ih2 _ ?_)
          rw [fb_ct_succ, crf, c, c2]; rfl
      have yes : crB G S f e = false → Ok (f_X8_crossings_b91 N s (f_X8_crossings_b33 N s n) (f_X8_crossings_b46 N s (f_X8_crossings_b33 N s n) m) (nI (A + fb_ct (fun f => crB G S f e) f)) (nI e) (nI f) fo fs nf S.1 S.2) (fun b => b = (nI (sm (fun e => fb_ct (fun f => crB G S f e) e) (gE G).length), fo, fs, nf, S.1, S.2)) := by
        intro hc
        unfold f_X8_crossings_b91 f_X8_crossings_b92
        rw [if_pos rfl]
        exact add0 hc
      simp only [f_X8_crossings_b46]
      rw [f3, f23, nI_clamp (n := 3 + f) (by omega), nI_clamp (n := 23 + f) (by omega), x4f.1, x4f.2, X8_isAt h20 hR.2.1 hR.2.2.2.1 N, X8_isAt h20 hR.2.1 hR.2.2.2.1 N, atI_nI hW hel (by omega), atI_nI hW hel (by omega)]
      refine Ok_ife (nI_leI (by omega) (by omega)) (fun c => absurd c (by omega)) (fun _ => Ok_chk.mpr ⟨j1, Ok_bd1.mpr (Ok_some.mpr ?_)⟩)
      by_cases c1 : (gEnd G e).1 = (gEnd G f).1 ∨ (gEnd G e).2 = (gEnd G f).1
      · rw [decide_eq_true c1, if_pos bT0]
        exact yes (by rw [crf, decide_eq_true (by omega)]; rfl)
      · rw [decide_eq_false c1, if_neg (fun q => q bF0)]
        refine Ok_chk.mpr ⟨j2, Ok_bd1.mpr (Ok_some.mpr ?_)⟩
        by_cases c2 : (gEnd G e).1 = (gEnd G f).2 ∨ (gEnd G e).2 = (gEnd G f).2
        · rw [decide_eq_true c2, if_pos bT0]
          exact yes (by rw [crf, decide_eq_true (by omega)]; rfl)
        · rw [decide_eq_false c2, if_neg (fun q => q bF0)]
          exact no c1 c2
theorem ok_crossings (N : Nat) (hN : 1000 < N) : OK_crossings Inv N := by
  intro x m p1 hi
  have hi2 := hi
  obtain ⟨G, n, hs, l, cs, hS, hX, hF, hH, hT, hM, hHM, hTM⟩ := hi
  have hW := hS.1
  have h20 := hW.2.2.1
  have x2 := hX.2.1
  refine OK_mk ?_
  unfold f_X7_crossings f_X8_crossings
  rw [X8_inI N p1 0 50, X7_rounds]
  refine Ok_bd1.mpr (Ok_some.mpr (Ok_sw.mpr (Ok_bd1.mpr (Ok_some.mpr (Ok_sw.mpr ?_)))))
  rcases rounds_cases p1 with hr | ⟨hr, r, hr2, rfl⟩
  · rw [hr, if_neg i00, if_neg i00]
    exact Ok_some.mpr (Ok_some.mpr (OK_end rfl hi2))
  · rw [hr, if_pos i10, if_pos i10, show (1 : Int32).toNatClampNeg = 1 from rfl, hM.2.1]
    refine Ok_sw.mpr (Ok_chk.mpr ⟨by decide, Ok_sw.mpr ?_⟩)
    by_cases ce : (gE G).length = 0
    · rw [if_neg (fun q => q (by rw [x2, ce]; rfl)), if_neg (fun q => q (by rw [ce]; rfl))]
      exact Ok_some.mpr (Ok_some.mpr (OK_end rfl hi2))
    · have ne : ¬ nI (gE G).length = 0 := nI_ne0 (by omega) (by omega)
      rw [if_pos (by rw [x2]; exact ne), if_pos ne]
      have hf := out_ok hW hS.2.1 ce
      refine Ok_bd1.mpr (Ok_mono (lay_both hW hf hF hX hM N hN _ _ _ _ _ _ _ hr2) (fun a ha => Ok_sw.mpr (Ok_bd1.mpr (Ok_mono ha (fun q hq => Ok_sw.mpr ?_)))))
      obtain ⟨q1, q2, q3⟩ := hq
      have hB2 : Bd (q.2.2.2.1, q.2.2.2.2) := Bd_Ag q2 q3
      have hl8 := X8_countCr hW hM N hN hB2 q.1 q.2.1 q.2.2.1
      dsimp only at hl8
      rw [hl8, x2, X3_countCrossings hW hX.2.2.2.1 N hN q2]
      refine Ok_bd1.mpr (Ok_some.mpr (Ok_some.mpr (Ok_some.mpr ?_)))
      refine OK_end ?_ ⟨G, n, hs, l, cs, hS, hX, hF, hH, hT, hM, hHM, hTM⟩
      show nI _ = nI _
      congr 1
      rw [sm_pairs]
      refine sm_cong _ (fun k hk => fb_ct_cong (fun j hj => ?_))
      exact (crB_Ag hW q3 (by omega) hk).symm
end CRS
