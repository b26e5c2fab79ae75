/-! ===== load ===== -/
theorem X8_exch (N : Nat) (hN : 1000 < N) (s b : Nat → Int32) : Ok (f_X8_exchanges N s b) (fun r => (∀ x, x < 124 → r.1 x = b x) ∧ ∀ x, x < 124 → r.2 x = s x) := by
  unfold f_X8_exchanges
  refine lpU2 (fun n i s b => f_X8_exchanges_b2 N n (nI i) s b) (fun i s' b' => (∀ x, s' x = if x < i then b x else s x) ∧ ∀ x, b' x = if x < i then s x else b x) 124 ?_ ?_ N 0 s b (Nat.zero_le _) (by omega) ⟨fun x => by rw [if_neg (by omega)], fun x => by rw [if_neg (by omega)]⟩
  · rintro n s' b' ⟨h1, h2⟩
    simp only [f_X8_exchanges_b2]
    rw [show nI 124 = (124 : Int32) from rfl, if_pos (by decide)]
    exact Ok_some.mpr ⟨fun x hx => by show s' x = _; rw [h1, if_pos hx], fun x hx => by show b' x = _; rw [h2, if_pos hx]⟩
  · rintro n i s' b' hi ⟨h1, h2⟩ ih
    simp only [f_X8_exchanges_b2]
    refine Ok_ife (nI_leI (a := 124) (b := i) (by omega) (by omega)) (fun c => absurd c (by omega)) (fun _ => ?_)
    have hin : inb (nI i) 124 = true := inb_nI hi (by decide)
    rw [nI_clamp (by omega), nI_1]
    refine Ok_chk.mpr ⟨hin, Ok_nm.mpr (Ok_chk.mpr ⟨hin, Ok_chk.mpr ⟨hin, Ok_chk.mpr ⟨hin, ih _ _ ⟨fun x => ?_, fun x => ?_⟩⟩⟩⟩)⟩
    · rw [upd_at, h1, h2]
      by_cases c : x = i
      · rw [if_pos c, if_neg (by omega), if_pos (by omega), c]
      · rw [if_neg c]
        by_cases c2 : x < i
        · rw [if_pos c2, if_pos (by omega)]
        · rw [if_neg c2, if_neg (by omega)]
    · rw [upd_at, h1, h2]
      by_cases c : x = i
      · rw [if_pos c, if_neg (by omega), if_pos (by omega), c]
      · rw [if_neg c]
        by_cases c2 : x < i
        · rw [if_pos c2, if_pos (by omega)]
        · rw [if_neg c2, if_neg (by omega)]
theorem tx_byte : ∀ c, c < 256 → vp_nar .byte ((nI c).toInt8.toInt32) &&& 255 = nI c := by decide +kernel
/-- what is read so far -/
def Rd (st : Nat) (g : TG) (fr : Int32) (s : Nat → Int32) (fi : Int32) : Prop :=
  (st = 0 ∧ RM (gNew 0) s) ∨ (1 ≤ st ∧ st ≤ 4 ∧ ∃ G, WF G ∧ gO G = 0 ∧ RX G (g.1, g.2.1, 0, g.2.2.2) ∧ RM G s ∧ (st = 3 → (gE G).length < 20 ∧ ∃ a, a < gN G ∧ fr = nI a ∧ fi = nI a))
section LOAD
variable (N : Nat)
theorem ld_step (hN : 1000 < N) {st : Nat} {g : TG} {fr : Int32} {s : Nat → Int32} {fi : Int32} (h : Rd st g fr s fi) {c : Nat} (hc : c < 256) (text pa : Nat → Int32) (ps ty : Int32) (be : Nat → Int32) :
    (Ok (f_X5_take N g.1 g.2.1 g.2.2.2.1 g.2.2.2.2.1 g.2.2.2.2.2.1 g.2.2.2.2.2.2 (nI st) fr (nI c)) (fun r => r.1 = 0) ∧ f_X8_may N s (nI st) (nI c) fi = some 0) ∨
    (Ok (f_X5_take N g.1 g.2.1 g.2.2.2.1 g.2.2.2.2.1 g.2.2.2.2.2.1 g.2.2.2.2.2.2 (nI st) fr (nI c)) (fun r => r.1 = 1 ∧ ∃ (st' : Nat) (fi' : Int32) (s' : Nat → Int32), r.2.2.2.2.2.2.2.1 = nI st' ∧ Rd st' (r.2.1, r.2.2.1, 0, r.2.2.2.1, r.2.2.2.2.1, r.2.2.2.2.2.1, r.2.2.2.2.2.2.1) r.2.2.2.2.2.2.2.2 s' fi' ∧
      ∀ k41 (k : Nat) (Q : Int32 × (Nat → Int32) × (Nat → Int32) × Int32 × Int32 × (Nat → Int32) → Prop), Ok (k41 (nI st') fi' (-9) (nI (k + 1)) s' pa ps ty be) Q → Ok (f_X8_load_b94 N text k41 (nI st) fi (nI k) (nI c) (-9) s pa ps ty be) Q) ∧ f_X8_may N s (nI st) (nI c) fi = some 1) := by
  have n9 : ¬ ¬ (-9 : Int32) = -9 := fun q => q rfl
  rcases h with ⟨rfl, h⟩ | ⟨h1, h4, G, hW, hO, hX, hM, h3⟩
  · -- the number of nodes
    have take : f_X5_take N g.1 g.2.1 g.2.2.2.1 g.2.2.2.2.1 g.2.2.2.2.2.1 g.2.2.2.2.2.2 (nI 0) fr (nI c) = bd1 (f_X5_takeNodes N g.1 g.2.1 g.2.2.2.2.2.1 (nI 0) (nI c - 48)) fun r_3 => chk (isB r_3.1) (some (r_3.1, r_3.2.1, r_3.2.2.1, g.2.2.2.1, g.2.2.2.2.1, r_3.2.2.2.1, g.2.2.2.2.2.2, r_3.2.2.2.2, fr)) := rfl
    have may : f_X8_may N s (nI 0) (nI c) fi = bd1 (f_X8_in N (nI c - 48) 2 9) fun r_3 => chk (isB r_3) (some r_3) := rfl
    rw [take, may, X8_inI]
    unfold f_X5_takeNodes
    generalize hp : nI c - 48 = p
    by_cases c1 : p < 2
    · rw [if_pos c1, if_pos c1]
      exact Or.inl ⟨Ok_bd1.mpr (Ok_some.mpr (Ok_chk.mpr ⟨rfl, Ok_some.mpr rfl⟩)), rfl⟩
    · rw [if_neg c1, if_neg c1]
      by_cases c2 : p ≤ 9
      · rw [if_pos c2, if_neg (i_nlt.mpr c2)]
        refine Or.inr ⟨?_, rfl⟩
        obtain ⟨k, hk, rfl⟩ := nI_of (x := p) (fun q => c1 (by
          rw [Int32.lt_iff_toInt_lt] at q ⊢
          rw [show (0 : Int32).toInt = 0 from by decide] at q
          rw [show (2 : Int32).toInt = 2 from by decide]
          omega))
        have k1 : 2 ≤ k := by
          have := mt (nI_ltI (b := 2) hk (by decide)).mpr c1
          omega
        have k2 : k ≤ 9 := (nI_leI (b := 9) hk (by decide)).mp c2
        refine Ok_bd1.mpr (Ok_bd1.mpr (Ok_mono (RX_new N k g) (fun r hr => Ok_some.mpr (Ok_chk.mpr ⟨rfl, Ok_some.mpr ⟨rfl, 1, fi, upd s 0 (nI k), rfl, Or.inr ⟨by omega, by omega, gNew k, WF_new k1 k2, rfl, hr, ?_, fun q => absurd q (by decide)⟩, ?_⟩⟩))))
        · obtain ⟨a1, a2, a3, a4, a5, a6⟩ := h
          refine ⟨pk_us, ?_, ?_, fun e he => absurd he (Nat.not_lt_zero e), fun v hv => ?_, fun v k hv hk => absurd hk (Nat.not_lt_zero k)⟩
          · rw [pk_un (by decide)]; exact a2
          · rw [pk_un (by decide)]; exact a3
          · rw [pk_un (by omega)]; exact a5 v hv
        · intro k41 j Q hQ
          unfold f_X8_load_b94
          rw [if_neg n9, if_neg (by decide), hp, show (0 : Int32).toNatClampNeg = 0 from rfl]
          refine Ok_chk.mpr ⟨by decide, ?_⟩
          unfold f_X8_load_b116
          rw [if_neg n9, if_pos (by decide)]
          unfold f_X8_load_b174 f_X8_load_b188 f_X8_load_b201 f_X8_load_b202
          rw [if_pos (by decide), if_pos (by decide), nI_1, nI_1]
          exact hQ
      · rw [if_neg c2, if_pos (i_nle.mp c2)]
        exact Or.inl ⟨Ok_bd1.mpr (Ok_some.mpr (Ok_chk.mpr ⟨rfl, Ok_some.mpr rfl⟩)), rfl⟩
  · have h9 := hW.2.1
    have h20 := hW.2.2.1
    have x1 : g.1 = nI (gN G) := hX.1
    have x2 : g.2.1 = nI (gE G).length := hX.2.1
    have hst : st = 1 ∨ st = 2 ∨ st = 3 ∨ st = 4 := by omega
    rcases hst with rfl | rfl | rfl | rfl
    · -- the colon
      have take : f_X5_take N g.1 g.2.1 g.2.2.2.1 g.2.2.2.2.1 g.2.2.2.2.2.1 g.2.2.2.2.2.2 (nI 1) fr (nI c) = if ¬ nI c = 58 then some (0, g.1, g.2.1, g.2.2.2.1, g.2.2.2.2.1, g.2.2.2.2.2.1, g.2.2.2.2.2.2, 2, fr) else some (1, g.1, g.2.1, g.2.2.2.1, g.2.2.2.2.1, g.2.2.2.2.2.1, g.2.2.2.2.2.2, 2, fr) := rfl
      have may : f_X8_may N s (nI 1) (nI c) fi = if ¬ nI c = 58 then some 0 else some 1 := rfl
      rw [take, may]
      by_cases e : nI c = 58
      · rw [if_neg (fun q => q e), if_neg (fun q => q e)]
        refine Or.inr ⟨Ok_some.mpr ?_, rfl⟩
        · refine ⟨rfl, 2, fi, s, rfl, Or.inr ⟨by omega, by omega, G, hW, hO, hX, hM, fun q => absurd q (by decide)⟩, ?_⟩
          intro k41 j Q hQ
          unfold f_X8_load_b94
          rw [if_neg n9, if_pos (by decide)]
          unfold f_X8_load_b116
          rw [if_neg n9, if_pos (by decide)]
          unfold f_X8_load_b174 f_X8_load_b188 f_X8_load_b201 f_X8_load_b202
          rw [if_pos (by decide), if_pos (by decide), nI_1, nI_1]
          exact hQ
      · rw [if_pos e, if_pos e]
        exact Or.inl ⟨Ok_some.mpr rfl, rfl⟩
    · -- a first end
      have take : f_X5_take N g.1 g.2.1 g.2.2.2.1 g.2.2.2.2.1 g.2.2.2.2.2.1 g.2.2.2.2.2.2 (nI 2) fr (nI c) = bd1 (f_X1_hasNode N g.1 (nI c - 48)) fun r_8 => if r_8 = 0 then some (0, g.1, g.2.1, g.2.2.2.1, g.2.2.2.2.1, g.2.2.2.2.2.1, g.2.2.2.2.2.2, 3, nI c - 48) else if 20 ≤ g.2.1 then some (0, g.1, g.2.1, g.2.2.2.1, g.2.2.2.2.1, g.2.2.2.2.2.1, g.2.2.2.2.2.2, 3, nI c - 48) else some (1, g.1, g.2.1, g.2.2.2.1, g.2.2.2.2.1, g.2.2.2.2.2.1, g.2.2.2.2.2.2, 3, nI c - 48) := rfl
      have may : f_X8_may N s (nI 2) (nI c) fi = bd1 (f_X8_isNode N s (nI c - 48)) fun r_8 => if r_8 = 0 then some 0 else chk (inb 1 124) (if 20 ≤ (s (1 : Int32).toNatClampNeg) then some 0 else some 1) := rfl
      rw [take, may, show f_X1_hasNode N g.1 (nI c - 48) = some (bI (inb (nI c - 48) (gN G))) from by rw [x1]; exact X1_hasNode N _ (by omega) _, X8_isNode N _ (by omega) s hM.1, show s (1 : Int32).toNatClampNeg = nI (gE G).length from hM.2.1]
      cases hb : inb (nI c - 48) (gN G) with
      | false => exact Or.inl ⟨Ok_bd1.mpr (Ok_some.mpr (by rw [if_pos bF0]; exact Ok_some.mpr rfl)), rfl⟩
      | true =>
        obtain ⟨a, ha, hpa⟩ := inb_of hb (by omega)
        by_cases c20 : (gE G).length = 20
        · refine Or.inl ⟨Ok_bd1.mpr (Ok_some.mpr ?_), ?_⟩
          · rw [if_neg bT0, if_pos (by rw [x2, c20]; decide)]
            exact Ok_some.mpr rfl
          · show (if bI true = 0 then some 0 else chk (inb 1 124) (if 20 ≤ nI (gE G).length then some 0 else some 1)) = some (0 : Int32)
            rw [if_neg bT0, c20]; rfl
        · have c21 : ¬ 20 ≤ nI (gE G).length := by
            rw [show (20 : Int32) = nI 20 from rfl, nI_leI (by omega) (by omega)]; omega
          refine Or.inr ⟨Ok_bd1.mpr (Ok_some.mpr ?_), ?_⟩
          · rw [if_neg bT0, if_neg (by rw [x2]; exact c21)]
            refine Ok_some.mpr ⟨rfl, 3, nI c - 48, s, rfl, Or.inr ⟨by omega, by omega, G, hW, hO, hX, hM, fun _ => ⟨by omega, a, ha, hpa, hpa⟩⟩, ?_⟩
            intro k41 j Q hQ
            unfold f_X8_load_b94
            rw [if_neg n9, if_pos (by decide)]
            unfold f_X8_load_b116
            rw [if_neg n9, if_pos (by decide)]
            unfold f_X8_load_b174 f_X8_load_b188 f_X8_load_b201 f_X8_load_b202
            rw [if_neg (by decide), if_pos (by decide), nI_1, nI_1]
            exact hQ
          · show (if bI true = 0 then some 0 else chk (inb 1 124) (if 20 ≤ nI (gE G).length then some 0 else some 1)) = some (1 : Int32)
            rw [if_neg bT0, if_neg c21]; rfl
    · -- a second end
      obtain ⟨hm, a, ha, rfl, rfl⟩ := h3 rfl
      have take : f_X5_take N g.1 g.2.1 g.2.2.2.1 g.2.2.2.2.1 g.2.2.2.2.2.1 g.2.2.2.2.2.2 (nI 3) (nI a) (nI c) = bd1 (f_X5_takeSecondEnd N g.1 g.2.1 g.2.2.2.1 g.2.2.2.2.1 g.2.2.2.2.2.1 g.2.2.2.2.2.2 (nI 3) (nI a) (nI c - 48)) fun r_12 => chk (isB r_12.1) (some (r_12.1, g.1, r_12.2.1, r_12.2.2.1, r_12.2.2.2.1, r_12.2.2.2.2.1, r_12.2.2.2.2.2.1, r_12.2.2.2.2.2.2, nI a)) := rfl
      have may : f_X8_may N s (nI 3) (nI c) (nI a) = bd1 (f_X8_isNode N s (nI c - 48)) fun r_13 => if r_13 = 0 then some 0 else if (nI c - 48) = nI a then some 0 else bd1 (f_X8_between N s (nI a) (nI c - 48)) fun r_16 => if ¬ r_16 = (-9) then some 0 else some 1 := rfl
      rw [take, may]
      unfold f_X5_takeSecondEnd
      rw [show f_X1_hasNode N g.1 (nI c - 48) = some (bI (inb (nI c - 48) (gN G))) from by rw [x1]; exact X1_hasNode N _ (by omega) _, X8_isNode N _ (by omega) s hM.1]
      cases hb : inb (nI c - 48) (gN G) with
      | false => exact Or.inl ⟨Ok_bd1.mpr (Ok_bd1.mpr (Ok_some.mpr (by rw [if_pos bF0]; exact Ok_some.mpr (Ok_chk.mpr ⟨rfl, Ok_some.mpr rfl⟩)))), rfl⟩
      | true =>
        obtain ⟨b, hbn, hpb⟩ := inb_of hb (by omega)
        rw [hpb]
        by_cases eab : nI b = nI a
        · refine Or.inl ⟨Ok_bd1.mpr (Ok_bd1.mpr (Ok_some.mpr ?_)), ?_⟩
          · rw [if_neg bT0, if_pos eab]
            exact Ok_some.mpr (Ok_chk.mpr ⟨rfl, Ok_some.mpr rfl⟩)
          · show (if bI true = 0 then some 0 else if nI b = nI a then some 0 else bd1 (f_X8_between N s (nI a) (nI b)) fun r_16 => if ¬ r_16 = (-9) then some 0 else some 1) = some (0 : Int32)
            rw [if_neg bT0, if_pos eab]
        · have hab : a ≠ b := fun q => eab (by rw [q])
          obtain ⟨r16, hr16, hr⟩ := X8_between hW hM.2.1 hM.2.2.2.1 N a b (by omega) (by omega) (by omega) hab
          have hj1 : Ok (f_X1_areJoined N g.2.1 g.2.2.2.1 g.2.2.2.2.1 (nI a) (nI b)) (fun r => (r = 1 ∧ joined G a b) ∨ (r = 0 ∧ ¬ joined G a b)) := by
            rw [x2]; exact X1_areJoined hW hX.2.2.2.1 N a b (by omega) (by omega) (by omega)
          obtain ⟨r4, hr4, hr5⟩ := hj1
          rw [hr16, hr4]
          rcases hr with ⟨hne, hj⟩ | ⟨heq, hj⟩
          · have h41 : r4 = 1 := by
              rcases hr5 with q | q
              · exact q.1
              · exact absurd hj q.2
            refine Or.inl ⟨Ok_bd1.mpr (Ok_bd1.mpr (Ok_some.mpr ?_)), ?_⟩
            · rw [if_neg bT0, if_neg eab]
              refine Ok_bd1.mpr (Ok_some.mpr ?_)
              rw [h41, if_neg i10]
              exact Ok_some.mpr (Ok_chk.mpr ⟨rfl, Ok_some.mpr rfl⟩)
            · show (if bI true = 0 then some 0 else if nI b = nI a then some 0 else if ¬ r16 = -9 then some 0 else some 1) = some (0 : Int32)
              rw [if_neg bT0, if_neg eab, if_pos hne]
          · have h41 : r4 = 0 := by
              rcases hr5 with q | q
              · exact absurd q.2 hj
              · exact q.1
            have da : g.2.2.2.2.2.1 (nI a).toNatClampNeg = nI (gR G a).length := by rw [nI_clamp (by omega)]; exact hX.2.2.2.2.1 a (by omega)
            have db : g.2.2.2.2.2.1 (nI b).toNatClampNeg = nI (gR G b).length := by rw [nI_clamp (by omega)]; exact hX.2.2.2.2.1 b (by omega)
            refine Or.inr ⟨Ok_bd1.mpr (Ok_bd1.mpr (Ok_some.mpr ?_)), ?_⟩
            · rw [if_neg bT0, if_neg eab]
              refine Ok_bd1.mpr (Ok_some.mpr ?_)
              rw [h41, if_pos rfl, da, db]
              refine Ok_chk.mpr ⟨inb_nI (by omega) (by decide), Ok_chk.mpr ⟨inb_nI (by omega) (by decide), Ok_bd1.mpr (Ok_mono (X1_connect hW hm ha hbn hab hj (Nat.le_refl _) (Nat.le_refl _) hX N (by omega)) (fun r8 h8 => Ok_some.mpr (Ok_chk.mpr ⟨rfl, Ok_some.mpr ?_⟩)))⟩⟩
              obtain ⟨q8, hq8, hq9, hq10⟩ := X8_joins hW hm ha hbn hab hj (Nat.le_refl (gR G a).length) (Nat.le_refl (gR G b).length) hM N (by omega)
              refine ⟨rfl, 4, nI b, q8.2, rfl, Or.inr ⟨by omega, by omega, gAdd G a b (gR G a).length (gR G b).length, WF_add hW hm ha hbn hab hj, rfl, h8.2, hq10, fun q => absurd q (by decide)⟩, ?_⟩
              intro k41 j Q hQ
              unfold f_X8_load_b94
              rw [if_neg n9, if_pos (by decide)]
              unfold f_X8_load_b116
              have ea43 : (43 + nI a) = nI (43 + a) := nI_add 43 _
              have eb43 : (43 + nI b) = nI (43 + b) := nI_add 43 _
              rw [if_neg n9, if_neg (by decide), hpb]
              refine Ok_nm.mpr ?_
              rw [ea43, eb43, nI_clamp (n := 43 + a) (by omega), nI_clamp (n := 43 + b) (by omega), hM.2.2.2.2.1 a (by omega), hM.2.2.2.2.1 b (by omega), hq8]
              refine Ok_chk.mpr ⟨inb_nI (by omega) (by decide), Ok_chk.mpr ⟨inb_nI (by omega) (by decide), Ok_bd1.mpr (Ok_some.mpr (Ok_nm.mpr ?_))⟩⟩
              rw [hq9, if_pos (nI_pos' (by omega))]
              unfold f_X8_load_b173 f_X8_load_b174 f_X8_load_b188 f_X8_load_b201 f_X8_load_b202
              rw [if_pos (by decide), if_pos (by decide), nI_1, nI_1]
              exact hQ
            · show (if bI true = 0 then some 0 else if nI b = nI a then some 0 else if ¬ r16 = -9 then some 0 else some 1) = some (1 : Int32)
              rw [if_neg bT0, if_neg eab, if_neg (fun q => q heq)]
    · -- the semicolon
      have take : f_X5_take N g.1 g.2.1 g.2.2.2.1 g.2.2.2.2.1 g.2.2.2.2.2.1 g.2.2.2.2.2.2 (nI 4) fr (nI c) = if ¬ nI c = 59 then some (0, g.1, g.2.1, g.2.2.2.1, g.2.2.2.2.1, g.2.2.2.2.2.1, g.2.2.2.2.2.2, 2, fr) else some (1, g.1, g.2.1, g.2.2.2.1, g.2.2.2.2.1, g.2.2.2.2.2.1, g.2.2.2.2.2.2, 2, fr) := rfl
      have may : f_X8_may N s (nI 4) (nI c) fi = if ¬ nI c = 59 then some 0 else some 1 := rfl
      rw [take, may]
      by_cases e : nI c = 59
      · rw [if_neg (fun q => q e), if_neg (fun q => q e)]
        refine Or.inr ⟨Ok_some.mpr ?_, rfl⟩
        · refine ⟨rfl, 2, fi, s, rfl, Or.inr ⟨by omega, by omega, G, hW, hO, hX, hM, fun q => absurd q (by decide)⟩, ?_⟩
          intro k41 j Q hQ
          unfold f_X8_load_b94
          rw [if_neg n9, if_pos (by decide)]
          unfold f_X8_load_b116
          rw [if_neg n9, if_pos (by decide)]
          unfold f_X8_load_b174 f_X8_load_b188 f_X8_load_b201 f_X8_load_b202
          rw [if_pos (by decide), if_neg (by decide), nI_1]
          exact hQ
      · rw [if_pos e, if_pos e]
        exact Or.inl ⟨Ok_some.mpr rfl, rfl⟩
/-- how load ends: class (what read gives) against reference (what load gives) -/
def LdP (G0 : Gr) (n : Nat) (hs : Nat → Gr) (l : Nat) (pa : Nat → Int32) (ps : Int32) (a : Int32 × Int32 × Int32 × (Nat → Int32) × (Nat → Int32) × (Nat → Int32) × (Nat → Int32) × Int32 × Int32) (b : Int32 × (Nat → Int32) × (Nat → Int32) × Int32 × Int32 × (Nat → Int32)) : Prop :=
  (∃ k, k ≤ 100 ∧ a.1 = nI k ∧ b.1 = -10 - nI k ∧ RM G0 b.2.1 ∧ b.2.2.1 = pa ∧ b.2.2.2.1 = ps ∧ b.2.2.2.2.1 = nI l) ∨
  (a.1 = -1 ∧ ∃ G, WF G ∧ gO G = 0 ∧ RX G (a.2.1, a.2.2.1, 0, a.2.2.2.1, a.2.2.2.2.1, a.2.2.2.2.2.1, a.2.2.2.2.2.2.1) ∧ b.1 = nI (gE G).length ∧ RM G b.2.1 ∧ HM (pshN n) (pshG n hs G0) b.2.2.1 b.2.2.2.1 ∧ b.2.2.2.2.1 = 0)
theorem nI_m9 {k : Nat} (hk : k < 2 ^ 31) : ¬ nI k = -9 := by
  intro q
  have := congrArg Int32.toInt q
  rw [nI_toInt hk, show (-9 : Int32).toInt = -9 from by decide] at this
  omega
theorem ld_bad (hN : 1000 < N) {G0 : Gr} (hW : WF G0) {be : Nat → Int32} (hB : RM G0 be) {n : Nat} {hs : Nat → Gr} {l k : Nat} (hk : k ≤ 100) (text s pa : Nat → Int32) (ps : Int32) {a : Int32 × Int32 × Int32 × (Nat → Int32) × (Nat → Int32) × (Nat → Int32) × (Nat → Int32) × Int32 × Int32} (ha : a.1 = nI k) : Ok (f_X8_load_b227 N text (nI k) s pa ps (nI l) be) (fun b => LdP G0 n hs l pa ps a b) := by
  unfold f_X8_load_b227
  refine Ok_bd1.mpr (Ok_mono (X8_exch N hN s be) (fun r hr => ?_))
  rw [if_neg (nI_m9 (by omega))]
  exact Ok_some.mpr (Or.inl ⟨k, hk, ha, rfl, RM_congr hW hB hr.1, rfl, rfl, rfl⟩)
theorem ld_stop (hN : 1000 < N) {G0 : Gr} (hW : WF G0) {be : Nat → Int32} (hB : RM G0 be) {n : Nat} {hs : Nat → Gr} {l k : Nat} (hk : k ≤ 100) (text s pa : Nat → Int32) (ps : Int32) {a : Int32 × Int32 × Int32 × (Nat → Int32) × (Nat → Int32) × (Nat → Int32) × (Nat → Int32) × Int32 × Int32} (ha : a.1 = nI k) (m : Nat) (st fi x4 : Int32) : Ok (f_X8_load_b41 N text (m + 1) st fi (nI k) x4 s pa ps (nI l) be) (fun b => LdP G0 n hs l pa ps a b) := by
  have hb := ld_bad N hN hW hB (n := n) (hs := hs) (l := l) hk text s pa ps ha
  have h208 : Ok (f_X8_load_b208 N text st (nI k) s pa ps (nI l) be) (fun b => LdP G0 n hs l pa ps a b) := by
    unfold f_X8_load_b208 f_X8_load_b226
    rw [if_pos (nI_m9 (by omega))]
    exact hb
  simp only [f_X8_load_b41]
  rw [if_pos (nI_m9 (by omega : k < 2 ^ 31))]
  exact Ok_ite.mpr ⟨fun _ => h208, fun _ => h208⟩
theorem ld_94 (k41 : Int32 → Int32 → Int32 → Int32 → (Nat → Int32) → (Nat → Int32) → Int32 → Int32 → (Nat → Int32) → Option (Int32 × (Nat → Int32) × (Nat → Int32) × Int32 × Int32 × (Nat → Int32))) (Q : Int32 × (Nat → Int32) × (Nat → Int32) × Int32 × Int32 × (Nat → Int32) → Prop) {k : Nat} (hk : k < 2 ^ 31) (text s pa : Nat → Int32) (ps ty : Int32) (be : Nat → Int32) (x1 x2 x4 x5 : Int32) (h : ∀ st fi x, Ok (k41 st fi (nI k) x s pa ps ty be) Q) : Ok (f_X8_load_b94 N text k41 x1 x2 x4 x5 (nI k) s pa ps ty be) Q := by
  unfold f_X8_load_b94
  rw [if_pos (nI_m9 hk)]
  unfold f_X8_load_b116
  rw [if_pos (nI_m9 hk)]
  unfold f_X8_load_b174 f_X8_load_b188 f_X8_load_b201 f_X8_load_b202
  refine Ok_ite.mpr ⟨fun _ => Ok_ite.mpr ⟨fun _ => h _ _ _, fun _ => h _ _ _⟩, fun _ => Ok_ite.mpr ⟨fun _ => h _ _ _, fun _ => h _ _ _⟩⟩
theorem ld_loop (hN : 1000 < N) {G0 : Gr} {n : Nat} {hs : Nat → Gr} (hS : St G0 n hs) {be : Nat → Int32} (hB : RM G0 be) {pa : Nat → Int32} {ps : Int32} (hH : HM n hs pa ps) {l : Nat} {cs : Nat → Nat} {t : TT} (hT : TX l cs t) {text : Nat → Int32} (hM : TM l cs text (nI l)) :
    ∀ (j k : Nat) (g : TG) (fr : Int32) (s : Nat → Int32) (fi : Int32) (st : Nat) (m1 m2 : Nat), k + j = l → j < m1 → j + 1 < m2 → Rd st g fr s fi →
    Ok (f_X5_read_b7 N (nI l) t.2.1 m1 (nI k) g.1 g.2.1 g.2.2.2.1 g.2.2.2.2.1 g.2.2.2.2.2.1 g.2.2.2.2.2.2 (nI st) fr) (fun a => Ok (f_X8_load_b41 N text m2 (nI st) fi (-9) (nI k) s pa ps (nI l) be) (fun b => LdP G0 n hs l pa ps a b)) := by
  have hl := hT.1
  have hW := hS.1
  intro j
  induction j with
  | zero =>
    intro k g fr s fi st m1 m2 hk h1 h2 hR
    obtain ⟨m1, rfl⟩ : ∃ q, m1 = q + 1 := ⟨m1 - 1, by omega⟩
    obtain ⟨m2, rfl⟩ : ∃ q, m2 = q + 1 := ⟨m2 - 1, by omega⟩
    obtain rfl : k = l := by omega
    simp only [f_X5_read_b7, f_X8_load_b41, f_X5_read_b48, f_X8_load_b208, f_X8_load_b226]
    have hle : nI k ≤ nI k := nI_le (Nat.le_refl _) (by omega)
    rw [if_pos hle, if_pos hle]
    have hst : st ≤ 4 := by
      rcases hR with q | q
      · omega
      · exact q.2.1
    rw [if_neg (fun q => q trivial : ¬ ¬ True)]
    by_cases c : st = 2
    · have e2 : nI st = 2 := by rw [c]; rfl
      rw [if_neg (fun q => q e2), if_pos e2]
      rcases hR with ⟨q, _⟩ | ⟨_, _, G, hWG, hO, hX, hMG, _⟩
      · omega
      · refine Ok_some.mpr ?_
        unfold f_X8_load_b227
        refine Ok_bd1.mpr (Ok_mono (X8_exch N hN s be) (fun r hr => ?_))
        rw [if_pos rfl]
        refine Ok_bd1.mpr (Ok_mono (X8_notes hW (RM_congr hW hB hr.1) hS.2.2.1 hH (fun k hk => (hS.2.2.2 k hk).1) N hN) (fun q3 g3 => Ok_bd1.mpr (Ok_mono (X8_exch N hN r.1 r.2) (fun r2 hr2 => Ok_chk.mpr ⟨by decide, Ok_some.mpr ?_⟩))))
        have hfin : RM G r2.1 := RM_congr hWG hMG (fun x hx => by rw [hr2.1 x hx, hr.2 x hx])
        exact Or.inr ⟨rfl, G, hWG, hO, hX, hfin.2.1, hfin, g3, rfl⟩
    · have e2 : ¬ nI st = 2 := fun q => c ((nI_eq (b := 2) (by omega) (by decide)).mp q)
      rw [if_pos e2, if_neg e2]
      exact Ok_some.mpr (ld_bad N hN hW hB hl text s pa ps rfl)
  | succ j ih =>
    intro k g fr s fi st m1 m2 hk h1 h2 hR
    obtain ⟨m1, rfl⟩ : ∃ q, m1 = q + 1 := ⟨m1 - 1, by omega⟩
    obtain ⟨m2, rfl⟩ : ∃ q, m2 = q + 1 := ⟨m2 - 1, by omega⟩
    obtain ⟨hc, hch⟩ := hT.2.2 k (by omega)
    have htx := hM.2 k (by omega)
    have hnle : ¬ nI l ≤ nI k := by rw [nI_leI (by omega) (by omega)]; omega
    have hin : inb (nI k) 100 = true := inb_nI (by omega) (by decide)
    simp only [f_X5_read_b7, f_X8_load_b41]
    rw [if_neg hnle, if_neg hnle, if_neg (fun q => q trivial : ¬ ¬ True), nI_clamp (by omega), hch, htx, tx_byte (cs k) hc]
    refine Ok_chk.mpr ⟨hin, Ok_sw.mpr (Ok_chk.mpr ⟨hin, Ok_nm.mpr (Ok_sw.mpr ?_)⟩)⟩
    by_cases e : nI (cs k) = 32
    · rw [if_pos e, if_pos e]
      unfold f_X5_read_b42 f_X8_load_b202
      rw [nI_1]
      exact ih (k + 1) g fr s fi st m1 m2 (by omega) (by omega) (by omega) hR
    · rw [if_neg e, if_neg e]
      refine Ok_chk.mpr ⟨hin, ?_⟩
      rcases ld_step N hN hR hc text pa ps (nI l) be with ⟨h3, h4⟩ | ⟨h3, h4⟩
      · rw [h4]
        refine Ok_bd1.mpr (Ok_mono h3 (fun r hr => ?_))
        rw [if_neg (fun q => q hr)]
        refine Ok_some.mpr (Ok_bd1.mpr (Ok_some.mpr ?_))
        rw [if_pos rfl]
        refine ld_94 N _ _ (by omega) text s pa ps _ be _ _ _ _ (fun st fi x => ?_)
        obtain ⟨m2, rfl⟩ : ∃ q, m2 = q + 1 := ⟨m2 - 1, by omega⟩
        exact ld_stop N hN hW hB (by omega) text s pa ps rfl m2 st fi x
      · rw [h4]
        refine Ok_bd1.mpr (Ok_mono h3 ?_)
        rintro r ⟨hr1, st', fi', s', hr2, hr3, hr4⟩
        rw [if_pos (by rw [hr1]; exact i10), hr2]
        unfold f_X5_read_b42
        rw [nI_1]
        have h5 := ih (k + 1) _ _ s' fi' st' m1 m2 (by omega) (by omega) (by omega) hr3
        refine Ok_mono h5 (fun a ha => Ok_bd1.mpr (Ok_some.mpr ?_))
        rw [if_neg i10]
        exact hr4 _ k _ ha
theorem ok_load (hN : 1000 < N) : OK_load Inv N := by
  intro x m hi
  obtain ⟨G, n, hs, l, cs, hS, hX, hF, hH, hT, hM, hHM, hTM⟩ := hi
  have hW := hS.1
  have hl := hT.1
  refine OK_mk ?_
  unfold f_X7_load f_X8_load f_X5_read
  rw [hT.2.1, hTM.1]
  refine Ok_sw.mpr ?_
  refine lpU (fun n1 i b => f_X8_load_b2 N m.2.2.2.1 n1 (nI i) m.1 m.2.1 m.2.2.1 (nI l) b) (fun i b => ∀ y, y < i → b y = m.1 y) 124 ?_ ?_ N 0 _ (Nat.zero_le _) (by omega) (fun y hy => absurd hy (Nat.not_lt_zero y))
  · intro n1 be hI
    simp only [f_X8_load_b2, f_X8_load_b26]
    rw [show nI 124 = (124 : Int32) from rfl, if_pos (by decide)]
    refine Ok_bd1.mpr (Ok_mono (X8_empties N hN 0 m.1) (fun s hs0 => Ok_sw.mpr ?_))
    have hB : RM G be := RM_congr hW hM hI
    have hTM2 : TM l cs m.2.2.2.1 (nI l) := ⟨rfl, hTM.2⟩
    have hloop := ld_loop N hN hS hB hHM hT hTM2 l 0 x.2.1 x.2.2.2.1.2.2.2 s 0 0 N N (by omega) (by omega) (by omega) (Or.inl ⟨rfl, hs0⟩)
    refine Ok_bd1.mpr (Ok_mono hloop (fun a ha => Ok_nm.mpr (Ok_sw.mpr (Ok_mono ha (fun b hb => ?_)))))
    rcases hb with ⟨k, h1, h2, h3, h4, h5, h6, h7⟩ | ⟨h1, G2, hW2, hO2, hX2, h3, h4, h5, h6⟩
    · rw [if_neg (by rw [h2]; exact nI_pos (by omega))]
      refine Ok_some.mpr (OK_end (by rw [h3, h2]) ⟨G, n, hs, l, cs, hS, hX, hF, hH, ⟨hl, rfl, hT.2.2⟩, h4, ?_, ⟨h7, hTM.2⟩⟩)
      rw [h5, h6]
      exact hHM
    · rw [if_pos (by rw [h1]; decide)]
      refine Ok_bd1.mpr (Ok_mono (X2_save hW hX hS.2.2.1 hH N) (fun r5 g5 => Ok_bd1.mpr ?_))
      have hcp := X1_copyFrom hW2 hX2 N x.1.1 x.1.2.1 x.1.2.2.1 x.1.2.2.2.1 x.1.2.2.2.2.1 x.1.2.2.2.2.2.1 x.1.2.2.2.2.2.2
      have hcp2 : Ok (f_X1_copyFrom N x.1.1 x.1.2.1 x.1.2.2.1 x.1.2.2.2.1 x.1.2.2.2.2.1 x.1.2.2.2.2.2.1 x.1.2.2.2.2.2.2 a.2.1 a.2.2.1 x.2.1.2.2.1 a.2.2.2.1 a.2.2.2.2.1 a.2.2.2.2.2.1 a.2.2.2.2.2.2.1) (fun r => RX G2 (r.1, r.2.1, 0, r.2.2.2)) := by
        unfold f_X1_copyFrom at hcp ⊢
        refine Ok_chk.mpr ⟨by decide, Ok_chk.mpr ⟨by decide, Ok_chk.mpr ⟨by decide, Ok_chk.mpr ⟨by decide, Ok_some.mpr ?_⟩⟩⟩⟩
        exact RX_congr hW2 hX2 rfl rfl rfl (fun x hx => cpy0 hx) (fun x hx => cpy0 hx) (fun x hx => cpy0 hx) (fun x hx => cpy0 hx)
      refine Ok_mono hcp2 (fun r7 g7 => Ok_bd1.mpr (Ok_mono (X7_settle hW2 g7 N (by omega) x.2.2.1 _) (fun r9 g9 => Ok_some.mpr ?_)))
      refine OK_end ?_ ⟨G2, pshN n, pshG n hs G, 0, cs, St_psh hS hW2 (Or.inl hO2), ?_, g9.1, g5, ⟨Nat.zero_le _, rfl, fun k hk => absurd hk (Nat.not_lt_zero k)⟩, h4, h5, ⟨h6, fun k hk => absurd hk (Nat.not_lt_zero k)⟩⟩
      · rw [h3]
        exact g7.2.1.symm
      · obtain ⟨a1, a2, a3, a4, a5, a6⟩ := g7
        exact ⟨a1, a2, by show r9.2.2.2.2.2.2.2.2.2 = _; rw [g9.2, hO2]; rfl, a4, a5, a6⟩
  · intro n1 i be hi hI ih
    simp only [f_X8_load_b2]
    refine Ok_ife (nI_leI (a := 124) (b := i) (by omega) (by omega)) (fun c => absurd c (by omega)) (fun _ => ?_)
    rw [nI_clamp (by omega), nI_1]
    refine Ok_chk.mpr ⟨inb_nI hi (by decide), Ok_chk.mpr ⟨inb_nI hi (by decide), ih _ (fun y hy => ?_)⟩⟩
    rw [upd_at]
    by_cases c : y = i
    · rw [if_pos c, c]
    · rw [if_neg c]; exact hI y (by omega)
end LOAD
