set_option maxRecDepth 100000 in
set_option maxHeartbeats 4000000 in
theorem law_loop {p : Program} {e : Env} {s : State} {m : MethodId} {below : List Frame} {meth : Method} {c : Code} (l : Launch) {b L : Nat} {xs : Nat → Int32} (hL : L ≤ 2560) (C0 : lw_At p s m meth c b L xs) (D : va_G) (cA : Nat → ClassId) (hK : KK D (tyA cA) s) (a_pd : Nat) (a_g a_dr a_f a_hi a_tx a_pl a_wa a_la : Nat → Nat) (a_lk : Nat) (a_m : Nat → Nat) (Inv : XS → MS → Prop) (N : Nat) (hAll : AllOK Inv N) : ∀ (n i : Nat) (x : XS) (mm : MS) (st : Nat → Option Nat) (b_hi9 : Nat → Nat → Nat) (H : Heap) (locs : List Loc) (ls : Array Slot), i ≤ L + 5 → L + 5 - i < n → Inv x mm → Stat st b_hi9 → lv_has ls 4 [(0, .ref b), (1, .ref a_pd), (2, .ref (a_m 0)), (3, .int (nI i))] → va_P D vwCl (flat [wX7 a_pd a_g a_dr a_f a_hi a_tx a_pl a_wa a_la a_lk, b_g cA a_g x, b_dr cA a_dr x, b_f cA a_f x, b_tx cA a_tx x, b_pl cA a_pl x, b_wa cA a_wa x, b_la cA a_la x, b_lk cA a_lk x, b_hi cA a_hi st b_hi9 x, b_m cA a_m mm]) H → va_D (fun q : Nat => s.heap.size ≤ q) (flat [wX7 a_pd a_g a_dr a_f a_hi a_tx a_pl a_wa a_la a_lk, b_g cA a_g x, b_dr cA a_dr x, b_f cA a_f x, b_tx cA a_tx x, b_pl cA a_pl x, b_wa cA a_wa x, b_la cA a_la x, b_lk cA a_lk x, b_hi cA a_hi st b_hi9 x, b_m cA a_m mm]) → va_S (fun q : Nat => s.heap.size ≤ q) s.heap H locs → W p l e room_1 s m #[Value.ref b] below meth c H locs 600000 7302250 (lw_Z below #[Value.ref b] s) (F0 m 18 ls []) := by
  obtain ⟨hx, hb, hr, hml, hown, hts, hX, hbl, hlocks, hgv⟩ := id C0
  have hT := kall hts
  have hA : ∀ q : Nat, s.heap.size ≤ q → (fun q : Nat => s.heap.size ≤ q) q := fun _ h => h
  have hbA : ¬ (fun q : Nat => s.heap.size ≤ q) b := Nat.not_le.mpr hbl
  intro n
  induction n with
  | zero => intro i x mm st b_hi9 H locs ls h1 h2; omega
  | succ n ih =>
    intro i x mm st b_hi9 H locs ls h1 h2 hI hst hl hP hD hS
    refine lv_iload_n hx hb dL_law_18 rfl (lv_at hl 3 rfl) ?_
    refine lv_aload_n hx hb dL_law_19 rfl (lv_at hl 0 rfl) ?_
    refine va_slen hx hb hX hbl hbA hS dL_law_20 ?_
    refine lv_iconst (v := 5) hx hb dL_law_21 (by decide) ?_
    refine lv_isub hx hb dL_law_22 ?_
    refine lv_icmp_gt (tgt := 937) hx hb dL_law_23 (by decide) (fun c1 => ?_) (fun c1 => ?_)
    · refine lv_iconst (v := 1) hx hb dL_law_937 (by decide) ?_
      refine va_forget (fun q hq => hS.2.2 q hq) ?_
      exact lw_ret (Drawn.sameBut.refl s.drawn lw_cs) hx hb hr hlocks dL_law_938
    · have hi : i + 5 ≤ L := law_bnd hL (by omega) c1
      have K : ∀ (x2 : XS) (m2 : MS) (st2 : Nat → Option Nat) (b2 : Nat → Nat → Nat) (H : Heap) (locs : List Loc), Inv x2 m2 → Stat st2 b2 → va_P D vwCl (flat [wX7 a_pd a_g a_dr a_f a_hi a_tx a_pl a_wa a_la a_lk, b_g cA a_g x2, b_dr cA a_dr x2, b_f cA a_f x2, b_tx cA a_tx x2, b_pl cA a_pl x2, b_wa cA a_wa x2, b_la cA a_la x2, b_lk cA a_lk x2, b_hi cA a_hi st2 b2 x2, b_m cA a_m m2]) H → va_D (fun q : Nat => s.heap.size ≤ q) (flat [wX7 a_pd a_g a_dr a_f a_hi a_tx a_pl a_wa a_la a_lk, b_g cA a_g x2, b_dr cA a_dr x2, b_f cA a_f x2, b_tx cA a_tx x2, b_pl cA a_pl x2, b_wa cA a_wa x2, b_la cA a_la x2, b_lk cA a_lk x2, b_hi cA a_hi st2 b2 x2, b_m cA a_m m2]) → va_S (fun q : Nat => s.heap.size ≤ q) s.heap H locs → W p l e room_1 s m #[Value.ref b] below meth c H locs 600000 7302250 (lw_Z below #[Value.ref b] s) (F0 m 931 ls []) := by
        intro x2 m2 st2 b2 H locs hI2 hst2 hP hD hS
        refine lv_iinc (v := nI (i + 5)) (lv' := [(3, .int (nI (i + 5))), (0, .ref b), (1, .ref a_pd), (2, .ref (a_m 0))]) hx hb dL_law_931 hl (k := 3) rfl (nI_add i 5) (by decide) rfl (fun ls hl => ?_)
        refine lv_goto (tgt := 18) hx hb dL_law_934 (by decide) ?_
        exact ih (i + 5) x2 m2 st2 b2 H locs ls (by omega) (by omega) hI2 hst2 (lv_sub hl [1, 2, 3, 0] rfl) hP hD hS
      refine lv_aload_n hx hb dL_law_26 rfl (lv_at hl 0 rfl) ?_
      refine lv_iload_n hx hb dL_law_27 rfl (lv_at hl 3 rfl) ?_
      refine va_sld hx hb hX hbl hbA hS (vp_in_nI (by omega) (by omega)) dL_law_28 ?_
      refine lv_bipush (v := 31) hx hb dL_law_29 (by decide) ?_
      refine lv_iand hx hb dL_law_31 ?_
      refine lv_topi (fun v ev => ?_)
      clear ev
      by_cases hv : 0 ≤ v.toInt ∧ v.toInt < (29 : Nat)
      · obtain ⟨k, hk, ek⟩ := vp_in_of (vp_in_iff.mpr hv) (by decide)
        subst ek
        match k, hk with
        | 0, _ =>
          refine lv_tableIn (off := 132) (tgt := 164) hx hb dL_law_32 (by decide +kernel) (by decide +kernel) (by decide +kernel) (by decide) ?_
          exact law_setNodes l hL C0 D cA hK a_pd a_g a_dr a_f a_hi a_tx a_pl a_wa a_la a_lk a_m Inv N hAll.1 hi x mm hI st b_hi9 hst hP hD hS hl K
        | 1, _ =>
          refine lv_tableIn (off := 155) (tgt := 187) hx hb dL_law_32 (by decide +kernel) (by decide +kernel) (by decide +kernel) (by decide) ?_
          exact law_addEdge l hL C0 D cA hK a_pd a_g a_dr a_f a_hi a_tx a_pl a_wa a_la a_lk a_m Inv N hAll.2.1 hi x mm hI st b_hi9 hst hP hD hS hl K
        | 2, _ =>
          refine lv_tableIn (off := 208) (tgt := 240) hx hb dL_law_32 (by decide +kernel) (by decide +kernel) (by decide +kernel) (by decide) ?_
          exact law_addInFace l hL C0 D cA hK a_pd a_g a_dr a_f a_hi a_tx a_pl a_wa a_la a_lk a_m Inv N hAll.2.2.1 hi x mm hI st b_hi9 hst hP hD hS hl K
        | 3, _ =>
          refine lv_tableIn (off := 251) (tgt := 283) hx hb dL_law_32 (by decide +kernel) (by decide +kernel) (by decide +kernel) (by decide) ?_
          exact law_removeEdge l hL C0 D cA hK a_pd a_g a_dr a_f a_hi a_tx a_pl a_wa a_la a_lk a_m Inv N hAll.2.2.2.1 hi x mm hI st b_hi9 hst hP hD hS hl K
        | 4, _ =>
          refine lv_tableIn (off := 274) (tgt := 306) hx hb dL_law_32 (by decide +kernel) (by decide +kernel) (by decide +kernel) (by decide) ?_
          exact law_swap l hL C0 D cA hK a_pd a_g a_dr a_f a_hi a_tx a_pl a_wa a_la a_lk a_m Inv N hAll.2.2.2.2.1 hi x mm hI st b_hi9 hst hP hD hS hl K
        | 5, _ =>
          refine lv_tableIn (off := 317) (tgt := 349) hx hb dL_law_32 (by decide +kernel) (by decide +kernel) (by decide +kernel) (by decide) ?_
          exact law_mirror l hL C0 D cA hK a_pd a_g a_dr a_f a_hi a_tx a_pl a_wa a_la a_lk a_m Inv N hAll.2.2.2.2.2.1 hi x mm hI st b_hi9 hst hP hD hS hl K
        | 6, _ =>
          refine lv_tableIn (off := 330) (tgt := 362) hx hb dL_law_32 (by decide +kernel) (by decide +kernel) (by decide +kernel) (by decide) ?_
          exact law_rotation l hL C0 D cA hK a_pd a_g a_dr a_f a_hi a_tx a_pl a_wa a_la a_lk a_m Inv N hAll.2.2.2.2.2.2.1 hi x mm hI st b_hi9 hst hP hD hS hl K
        | 7, _ =>
          refine lv_tableIn (off := 363) (tgt := 395) hx hb dL_law_32 (by decide +kernel) (by decide +kernel) (by decide +kernel) (by decide) ?_
          exact law_edge l hL C0 D cA hK a_pd a_g a_dr a_f a_hi a_tx a_pl a_wa a_la a_lk a_m Inv N hAll.2.2.2.2.2.2.2.1 hi x mm hI st b_hi9 hst hP hD hS hl K
        | 8, _ =>
          refine lv_tableIn (off := 396) (tgt := 428) hx hb dL_law_32 (by decide +kernel) (by decide +kernel) (by decide +kernel) (by decide) ?_
          exact law_count l hL C0 D cA hK a_pd a_g a_dr a_f a_hi a_tx a_pl a_wa a_la a_lk a_m Inv N hAll.2.2.2.2.2.2.2.2.1 hi x mm hI st b_hi9 hst hP hD hS hl K
        | 9, _ =>
          refine lv_tableIn (off := 419) (tgt := 451) hx hb dL_law_32 (by decide +kernel) (by decide +kernel) (by decide +kernel) (by decide) ?_
          exact law_appendCharacter l hL C0 D cA hK a_pd a_g a_dr a_f a_hi a_tx a_pl a_wa a_la a_lk a_m Inv N hAll.2.2.2.2.2.2.2.2.2.1 hi x mm hI st b_hi9 hst hP hD hS hl K
        | 10, _ =>
          refine lv_tableIn (off := 442) (tgt := 474) hx hb dL_law_32 (by decide +kernel) (by decide +kernel) (by decide +kernel) (by decide) ?_
          exact law_clearText l hL C0 D cA hK a_pd a_g a_dr a_f a_hi a_tx a_pl a_wa a_la a_lk a_m Inv N hAll.2.2.2.2.2.2.2.2.2.2.1 hi x mm hI st b_hi9 hst hP hD hS hl K
        | 11, _ =>
          refine lv_tableIn (off := 455) (tgt := 487) hx hb dL_law_32 (by decide +kernel) (by decide +kernel) (by decide +kernel) (by decide) ?_
          exact law_load l hL C0 D cA hK a_pd a_g a_dr a_f a_hi a_tx a_pl a_wa a_la a_lk a_m Inv N hAll.2.2.2.2.2.2.2.2.2.2.2.1 hi x mm hI st b_hi9 hst hP hD hS hl K
        | 12, _ =>
          refine lv_tableIn (off := 468) (tgt := 500) hx hb dL_law_32 (by decide +kernel) (by decide +kernel) (by decide +kernel) (by decide) ?_
          exact law_face l hL C0 D cA hK a_pd a_g a_dr a_f a_hi a_tx a_pl a_wa a_la a_lk a_m Inv N hAll.2.2.2.2.2.2.2.2.2.2.2.2.1 hi x mm hI st b_hi9 hst hP hD hS hl K
        | 13, _ =>
          refine lv_tableIn (off := 501) (tgt := 533) hx hb dL_law_32 (by decide +kernel) (by decide +kernel) (by decide +kernel) (by decide) ?_
          exact law_walk l hL C0 D cA hK a_pd a_g a_dr a_f a_hi a_tx a_pl a_wa a_la a_lk a_m Inv N hAll.2.2.2.2.2.2.2.2.2.2.2.2.2.1 hi x mm hI st b_hi9 hst hP hD hS hl K
        | 14, _ =>
          refine lv_tableIn (off := 534) (tgt := 566) hx hb dL_law_32 (by decide +kernel) (by decide +kernel) (by decide +kernel) (by decide) ?_
          exact law_faceOf l hL C0 D cA hK a_pd a_g a_dr a_f a_hi a_tx a_pl a_wa a_la a_lk a_m Inv N hAll.2.2.2.2.2.2.2.2.2.2.2.2.2.2.1 hi x mm hI st b_hi9 hst hP hD hS hl K
        | 15, _ =>
          refine lv_tableIn (off := 557) (tgt := 589) hx hb dL_law_32 (by decide +kernel) (by decide +kernel) (by decide +kernel) (by decide) ?_
          exact law_commonFace l hL C0 D cA hK a_pd a_g a_dr a_f a_hi a_tx a_pl a_wa a_la a_lk a_m Inv N hAll.2.2.2.2.2.2.2.2.2.2.2.2.2.2.2.1 hi x mm hI st b_hi9 hst hP hD hS hl K
        | 16, _ =>
          refine lv_tableIn (off := 590) (tgt := 622) hx hb dL_law_32 (by decide +kernel) (by decide +kernel) (by decide +kernel) (by decide) ?_
          exact law_isPlanar l hL C0 D cA hK a_pd a_g a_dr a_f a_hi a_tx a_pl a_wa a_la a_lk a_m Inv N hAll.2.2.2.2.2.2.2.2.2.2.2.2.2.2.2.2.1 hi x mm hI st b_hi9 hst hP hD hS hl K
        | 17, _ =>
          refine lv_tableIn (off := 603) (tgt := 635) hx hb dL_law_32 (by decide +kernel) (by decide +kernel) (by decide +kernel) (by decide) ?_
          exact law_canAdd l hL C0 D cA hK a_pd a_g a_dr a_f a_hi a_tx a_pl a_wa a_la a_lk a_m Inv N hAll.2.2.2.2.2.2.2.2.2.2.2.2.2.2.2.2.2.1 hi x mm hI st b_hi9 hst hP hD hS hl K
        | 18, _ =>
          refine lv_tableIn (off := 636) (tgt := 668) hx hb dL_law_32 (by decide +kernel) (by decide +kernel) (by decide +kernel) (by decide) ?_
          exact law_obstruction l hL C0 D cA hK a_pd a_g a_dr a_f a_hi a_tx a_pl a_wa a_la a_lk a_m Inv N hAll.2.2.2.2.2.2.2.2.2.2.2.2.2.2.2.2.2.2.1 hi x mm hI st b_hi9 hst hP hD hS hl K
        | 19, _ =>
          refine lv_tableIn (off := 649) (tgt := 681) hx hb dL_law_32 (by decide +kernel) (by decide +kernel) (by decide +kernel) (by decide) ?_
          exact law_branching l hL C0 D cA hK a_pd a_g a_dr a_f a_hi a_tx a_pl a_wa a_la a_lk a_m Inv N hAll.2.2.2.2.2.2.2.2.2.2.2.2.2.2.2.2.2.2.2.1 hi x mm hI st b_hi9 hst hP hD hS hl K
        | 20, _ =>
          refine lv_tableIn (off := 662) (tgt := 694) hx hb dL_law_32 (by decide +kernel) (by decide +kernel) (by decide +kernel) (by decide) ?_
          exact law_guiltyEdges l hL C0 D cA hK a_pd a_g a_dr a_f a_hi a_tx a_pl a_wa a_la a_lk a_m Inv N hAll.2.2.2.2.2.2.2.2.2.2.2.2.2.2.2.2.2.2.2.2.1 hi x mm hI st b_hi9 hst hP hD hS hl K
        | 21, _ =>
          refine lv_tableIn (off := 675) (tgt := 707) hx hb dL_law_32 (by decide +kernel) (by decide +kernel) (by decide +kernel) (by decide) ?_
          exact law_insertionCost l hL C0 D cA hK a_pd a_g a_dr a_f a_hi a_tx a_pl a_wa a_la a_lk a_m Inv N hAll.2.2.2.2.2.2.2.2.2.2.2.2.2.2.2.2.2.2.2.2.2.1 hi x mm hI st b_hi9 hst hP hD hS hl K
        | 22, _ =>
          refine lv_tableIn (off := 708) (tgt := 740) hx hb dL_law_32 (by decide +kernel) (by decide +kernel) (by decide +kernel) (by decide) ?_
          exact law_crossed l hL C0 D cA hK a_pd a_g a_dr a_f a_hi a_tx a_pl a_wa a_la a_lk a_m Inv N hAll.2.2.2.2.2.2.2.2.2.2.2.2.2.2.2.2.2.2.2.2.2.2.1 hi x mm hI st b_hi9 hst hP hD hS hl K
        | 23, _ =>
          refine lv_tableIn (off := 751) (tgt := 783) hx hb dL_law_32 (by decide +kernel) (by decide +kernel) (by decide +kernel) (by decide) ?_
          exact law_setOuter l hL C0 D cA hK a_pd a_g a_dr a_f a_hi a_tx a_pl a_wa a_la a_lk a_m Inv N hAll.2.2.2.2.2.2.2.2.2.2.2.2.2.2.2.2.2.2.2.2.2.2.2.1 hi x mm hI st b_hi9 hst hP hD hS hl K
        | 24, _ =>
          refine lv_tableIn (off := 774) (tgt := 806) hx hb dL_law_32 (by decide +kernel) (by decide +kernel) (by decide +kernel) (by decide) ?_
          exact law_depth l hL C0 D cA hK a_pd a_g a_dr a_f a_hi a_tx a_pl a_wa a_la a_lk a_m Inv N hAll.2.2.2.2.2.2.2.2.2.2.2.2.2.2.2.2.2.2.2.2.2.2.2.2.1 hi x mm hI st b_hi9 hst hP hD hS hl K
        | 25, _ =>
          refine lv_tableIn (off := 797) (tgt := 829) hx hb dL_law_32 (by decide +kernel) (by decide +kernel) (by decide +kernel) (by decide) ?_
          exact law_position l hL C0 D cA hK a_pd a_g a_dr a_f a_hi a_tx a_pl a_wa a_la a_lk a_m Inv N hAll.2.2.2.2.2.2.2.2.2.2.2.2.2.2.2.2.2.2.2.2.2.2.2.2.2.1 hi x mm hI st b_hi9 hst hP hD hS hl K
        | 26, _ =>
          refine lv_tableIn (off := 840) (tgt := 872) hx hb dL_law_32 (by decide +kernel) (by decide +kernel) (by decide +kernel) (by decide) ?_
          exact law_crossings l hL C0 D cA hK a_pd a_g a_dr a_f a_hi a_tx a_pl a_wa a_la a_lk a_m Inv N hAll.2.2.2.2.2.2.2.2.2.2.2.2.2.2.2.2.2.2.2.2.2.2.2.2.2.2.1 hi x mm hI st b_hi9 hst hP hD hS hl K
        | 27, _ =>
          refine lv_tableIn (off := 863) (tgt := 895) hx hb dL_law_32 (by decide +kernel) (by decide +kernel) (by decide +kernel) (by decide) ?_
          exact law_extent l hL C0 D cA hK a_pd a_g a_dr a_f a_hi a_tx a_pl a_wa a_la a_lk a_m Inv N hAll.2.2.2.2.2.2.2.2.2.2.2.2.2.2.2.2.2.2.2.2.2.2.2.2.2.2.2.1 hi x mm hI st b_hi9 hst hP hD hS hl K
        | 28, _ =>
          refine lv_tableIn (off := 886) (tgt := 918) hx hb dL_law_32 (by decide +kernel) (by decide +kernel) (by decide +kernel) (by decide) ?_
          exact law_undo l hL C0 D cA hK a_pd a_g a_dr a_f a_hi a_tx a_pl a_wa a_la a_lk a_m Inv N hAll.2.2.2.2.2.2.2.2.2.2.2.2.2.2.2.2.2.2.2.2.2.2.2.2.2.2.2.2 hi x mm hI st b_hi9 hst hP hD hS hl K
        | k + 29, h => exact absurd h (by omega)
      · refine lv_tableOut (tgt := 931) hx hb dL_law_32 (by omega) (by decide) ?_
        exact K x mm st b_hi9 _ _ hI hst hP hD hS
set_option maxRecDepth 100000 in
set_option maxHeartbeats 4000000 in
theorem whole_open {p : Program} {e : Env} {s : State} {m : MethodId} {below : List Frame} {meth : Method} {c : Code} (l : Launch) {b L : Nat} {xs : Nat → Int32} (hL : L ≤ 2560) (C0 : lw_At p s m meth c b L xs) (Inv : XS → MS → Prop) (N : Nat) (hAll : AllOK Inv N) (h0 : Inv x_0 m_0) : W p l e room_1 s m #[Value.ref b] below meth c s.heap [] 0 0 (lw_Z below #[Value.ref b] s) (entryFrame m ([Value.ref b] : List Value).toArray 4) := by
  obtain ⟨hx, hb, hr, hml, hown, hts, hX, hbl, hlocks, hgv⟩ := id C0
  have hT := kall hts
  have C : Cx p s m meth c cL_law 4 ret #[Value.ref b] RL := ⟨hx, hb, hml, hown, hT, hr, hlocks⟩
  have hA : ∀ q : Nat, s.heap.size ≤ q → (fun q : Nat => s.heap.size ≤ q) q := fun _ h => h
  obtain ⟨c0, i0, hk0⟩ := u_known (C := RX0) (T := TX0) (N := 9) (n := 9) hT kwX0 (hT _ kst_X0)
  obtain ⟨c1, i1, hk1⟩ := u_known (C := RX1) (T := TX1) (N := 7) (n := 7) hT kwX1 (hT _ kst_X1)
  obtain ⟨c2, i2, hk2⟩ := u_known (C := RX2) (T := TX2) (N := 2) (n := 2) hT kwX2 (hT _ kst_X2)
  obtain ⟨c3, i3, hk3⟩ := u_known (C := RX3) (T := TX3) (N := 2) (n := 2) hT kwX3 (hT _ kst_X3)
  obtain ⟨c4, i4, hk4⟩ := u_known (C := RX4) (T := TX4) (N := 16) (n := 16) hT kwX4 (hT _ kst_X4)
  obtain ⟨c5, i5, hk5⟩ := u_known (C := RX5) (T := TX5) (N := 4) (n := 4) hT kwX5 (hT _ kst_X5)
  obtain ⟨c6, i6, hk6⟩ := u_known (C := RX6) (T := TX6) (N := 3) (n := 3) hT kwX6 (hT _ kst_X6)
  obtain ⟨c7, i7, hk7⟩ := u_known (C := RX7) (T := TX7) (N := 9) (n := 9) hT kwX7 (hT _ kst_X7)
  obtain ⟨c8, i8, hk8⟩ := u_known (C := RX8) (T := TX8) (N := 27) (n := 27) hT kwX8 (hT _ kst_X8)
  obtain ⟨D, hKc⟩ : ∃ D : va_G, ∀ (k : Nat) (q : vw_C), vwCl[k]? = some q → u_Kn s q.1 q.2.1 q.2.2 (D.1 k) (D.2 k) := by
    refine ⟨(fun k => ([c0, c1, c2, c3, c4, c5, c6, c7, c8] : List ClassId).getD k c0, fun k => ([i0, i1, i2, i3, i4, i5, i6, i7, i8] : List (Nat → Nat)).getD k i0), ?_⟩
    intro k q hq
    match k, hq with
    | 0, hq => cases hq; exact hk0
    | 1, hq => cases hq; exact hk1
    | 2, hq => cases hq; exact hk2
    | 3, hq => cases hq; exact hk3
    | 4, hq => cases hq; exact hk4
    | 5, hq => cases hq; exact hk5
    | 6, hq => cases hq; exact hk6
    | 7, hq => cases hq; exact hk7
    | 8, hq => cases hq; exact hk8
    | k + 9, hq => simp [vwCl] at hq
  obtain ⟨cI, kI, pI, fI, gI, jI⟩ := Cond.arrayClass_spec (hT _ ko_1_69)
  obtain ⟨cF, kF, pF, fF, gF, jF⟩ := Cond.arrayClass_spec (hT _ ko_2_1)
  obtain ⟨cB, kB, pB, fB, gB, jB⟩ := Cond.arrayClass_spec (hT _ ko_4_122)
  have hO : va_AO "PlainDrawing$Graph" s := va_AO.of (hts (.arrayOver (.object "PlainDrawing$Graph")) (nT1 (List.mem_of_getElem? (i := 123) rfl)))
  obtain ⟨pO, cO, kO, fO, -, gO, jO, tO⟩ := Cond.arrayOver_spec hO
  obtain ⟨cA, hK⟩ : ∃ cA : Nat → ClassId, KK D (tyA cA) s := by
    refine ⟨fun k => ([cI, cF, cB, cO] : List ClassId).getD k cI, ⟨hKc, ?_⟩, fun q hq => va_Nw.of rfl (hts _ (lw_nest_in q hq))⟩
    intro k q hq
    match k, hq with
    | 0, hq => cases hq; exact ⟨fun n z => ⟨fun k h => (by cases h), kI, gI, pI, jI⟩, fI⟩
    | 1, hq => cases hq; exact ⟨fun n z => ⟨fun k h => (by cases h), kF, gF, pF, jF⟩, fF⟩
    | 2, hq => cases hq; exact ⟨fun n z => ⟨fun k h => (by cases h), kB, gB, pB, jB⟩, fB⟩
    | 3, hq => cases hq; exact ⟨fun n z => ⟨fun k h => (by cases h), kO, gO, pO, jO⟩, kO, pO, gO, jO, fO, tO⟩
    | k + 4, hq => simp [tyA] at hq
  have hS : va_S (fun q : Nat => s.heap.size ≤ q) s.heap s.heap [] := va_S.rf
  have hP : va_P D vwCl [] s.heap := fun k q h => by simp at h
  have hD : va_D (fun q : Nat => s.heap.size ≤ q) [] := ⟨fun i j p q h => by simp at h, fun k q h => by simp at h⟩
  have hl := lv_entry ([.ref b]) (n := 4) (Nat.le_of_ble_eq_true rfl)
  rw [lg_entry_eq]
  generalize (lg_sl ([.ref b]) ++ List.replicate (4 - (lg_sl ([.ref b])).length) Slot.unset).toArray = ls at hl ⊢
  have hl : lv_has ls 4 [(0, .ref b)] := hl
  refine va_new (ci := 7) (fs := [.null, .null, .null, .null, .null, .null, .null, .null, .null]) (C := RX7) (T := TX7) (N := 9) hx hb hT kwX7 tyX7 tyX7_ok hown (hT _ kl_L_7) (hT _ kst_X7) (hT _ kin_X7) hK.1 hP hD hS hA rfl (fun j hj => by rcases (show j = 0 ∨ j = 1 ∨ j = 2 ∨ j = 3 ∨ j = 4 ∨ j = 5 ∨ j = 6 ∨ j = 7 ∨ j = 8 by omega) with rfl | rfl | rfl | rfl | rfl | rfl | rfl | rfl | rfl <;> rfl) (Nat.le_of_ble_eq_true rfl) (Nat.le_of_ble_eq_true rfl) dL_law_0 (fun a_pd H hP hD hS => ?_)
  have hP : va_P D vwCl (flat [[(a_pd, .inr (7, [.null, .null, .null, .null, .null, .null, .null, .null, .null]))]]) H := hP
  have hD : va_D (fun q : Nat => s.heap.size ≤ q) (flat [[(a_pd, .inr (7, [.null, .null, .null, .null, .null, .null, .null, .null, .null]))]]) := hD
  refine W.widen (k := 1) (n := 9) (Nat.le_of_ble_eq_true rfl) (Nat.le_of_ble_eq_true rfl) ?_
  refine lv_dup hx hb dL_law_3 rfl ?_
  refine backC (Bs := [[(a_pd, .inr (7, [.null, .null, .null, .null, .null, .null, .null, .null, .null]))]]) (Rs := []) (Cs := [[(a_pd, .inr (7, [.null, .null, .null, .null, .null, .null, .null, .null, .null]))]]) (fun (u : (Nat → Nat) × (Nat → Nat) × (Nat → Nat) × (Nat → Nat) × (Nat → Option Nat) × (Nat → Nat → Nat) × (Nat → Nat) × (Nat → Nat) × (Nat → Nat) × (Nat → Nat) × Nat) => [wX7 a_pd u.1 u.2.1 u.2.2.1 u.2.2.2.1 u.2.2.2.2.2.2.1 u.2.2.2.2.2.2.2.1 u.2.2.2.2.2.2.2.2.1 u.2.2.2.2.2.2.2.2.2.1 u.2.2.2.2.2.2.2.2.2.2, wX1 cA u.1 4 0 0 (fun _ => 0) (fun _ => 0) (fun _ => 0) (fun _ => 0), wX1 cA u.2.1 4 0 0 (fun _ => 0) (fun _ => 0) (fun _ => 0) (fun _ => 0), wX0 cA u.2.2.1 0 4 0 (fun _ => 0) (fun _ => 0) (fun _ => 0) (fun _ => 0) (fun _ => 0) (fun _ => 0), wX5 cA u.2.2.2.2.2.2.1 0 (fun _ => 0) 0 0, wX4 cA u.2.2.2.2.2.2.2.1 (fun _ => 0) (fun _ => 0) 0 0 (fun _ => 0) (fun _ => 0) (fun _ => 0) (fun _ => 0) (fun _ => 0) 0 (fun _ => 0) (fun _ => 0) 0 0 0 0, wX6 cA u.2.2.2.2.2.2.2.2.1 0 (fun _ => 0) (fun _ => 0), wX3 cA u.2.2.2.2.2.2.2.2.2.1 (fun _ => FP.fconst0) (fun _ => FP.fconst0), wA cA u.2.2.2.2.2.2.2.2.2.2 (fun _ => 0), wX2 cA u.2.2.2.1 u.2.2.2.2.1 u.2.2.2.2.2.1 0 (fun _ => 4) (fun _ => 0) (fun _ => 0) (fun _ _ => 0) (fun _ _ => 0) (fun _ _ => 0) (fun _ _ => 0)]) (fun u => [wX7 a_pd u.1 u.2.1 u.2.2.1 u.2.2.2.1 u.2.2.2.2.2.2.1 u.2.2.2.2.2.2.2.1 u.2.2.2.2.2.2.2.2.1 u.2.2.2.2.2.2.2.2.2.1 u.2.2.2.2.2.2.2.2.2.2, wX1 cA u.1 4 0 0 (fun _ => 0) (fun _ => 0) (fun _ => 0) (fun _ => 0), wX1 cA u.2.1 4 0 0 (fun _ => 0) (fun _ => 0) (fun _ => 0) (fun _ => 0), wX0 cA u.2.2.1 0 4 0 (fun _ => 0) (fun _ => 0) (fun _ => 0) (fun _ => 0) (fun _ => 0) (fun _ => 0), wX5 cA u.2.2.2.2.2.2.1 0 (fun _ => 0) 0 0, wX4 cA u.2.2.2.2.2.2.2.1 (fun _ => 0) (fun _ => 0) 0 0 (fun _ => 0) (fun _ => 0) (fun _ => 0) (fun _ => 0) (fun _ => 0) 0 (fun _ => 0) (fun _ => 0) 0 0 0 0, wX6 cA u.2.2.2.2.2.2.2.2.1 0 (fun _ => 0) (fun _ => 0), wX3 cA u.2.2.2.2.2.2.2.2.2.1 (fun _ => FP.fconst0) (fun _ => FP.fconst0), wA cA u.2.2.2.2.2.2.2.2.2.2 (fun _ => 0), wX2 cA u.2.2.2.1 u.2.2.2.2.1 u.2.2.2.2.2.1 0 (fun _ => 4) (fun _ => 0) (fun _ => 0) (fun _ _ => 0) (fun _ _ => 0) (fun _ _ => 0) (fun _ _ => 0)]) (runIc C hO (c_X7_init l D cA a_pd _) kc_X7_init ki_X7_init kin_X7 km_L_9 rfl ⟨by decide +kernel, by decide +kernel, by decide +kernel⟩ ⟨rfl, rfl, by decide, by decide⟩ ⟨Nat.le_of_ble_eq_true rfl, Nat.le_of_ble_eq_true rfl⟩ (subP (Bs := [[(a_pd, .inr (7, [.null, .null, .null, .null, .null, .null, .null, .null, .null]))]]) (Rs := []) (Cs := [[(a_pd, .inr (7, [.null, .null, .null, .null, .null, .null, .null, .null, .null]))]]) hP [0] rfl rfl) (subD (Bs := [[(a_pd, .inr (7, [.null, .null, .null, .null, .null, .null, .null, .null, .null]))]]) (Rs := []) (Cs := [[(a_pd, .inr (7, [.null, .null, .null, .null, .null, .null, .null, .null, .null]))]]) hD [0] rfl rfl) hK hl.1 rfl (Nat.le_of_ble_eq_true rfl) dL_law_4) hP hD hS hA [0] rfl rfl [0, 1, 2, 3, 4, 5, 6, 7, 8, 9] (fun _ => rfl) (fun _ => lenP (n := 10) rfl (by decide +kernel)) (fun u H locs hst hP hD hS => ?_)
  refine W.widen (k := 69) (n := 1710) (Nat.le_of_ble_eq_true rfl) (Nat.le_of_ble_eq_true rfl) ?_
  refine lv_astore_n (lv' := [(1, .ref a_pd), (0, .ref b)]) hx hb dL_law_7 rfl hl (by decide) rfl (fun ls hl => ?_)
  refine va_new (ci := 8) (fs := [.null, .null, .int 0, .null, .int 0, .null, .null, .int 0, .null, .null, .null, .null, .null, .null, .null, .null, .int 0, .null, .int 0, .null, .int 0, .int 0, .int 0, .int 0, .null, .null, .null]) (C := RX8) (T := TX8) (N := 27) hx hb hT kwX8 tyX8 tyX8_ok hown (hT _ kl_L_10) (hT _ kst_X8) (hT _ kin_X8) hK.1 hP hD hS hA rfl (fun j hj => by rcases (show j = 0 ∨ j = 1 ∨ j = 2 ∨ j = 3 ∨ j = 4 ∨ j = 5 ∨ j = 6 ∨ j = 7 ∨ j = 8 ∨ j = 9 ∨ j = 10 ∨ j = 11 ∨ j = 12 ∨ j = 13 ∨ j = 14 ∨ j = 15 ∨ j = 16 ∨ j = 17 ∨ j = 18 ∨ j = 19 ∨ j = 20 ∨ j = 21 ∨ j = 22 ∨ j = 23 ∨ j = 24 ∨ j = 25 ∨ j = 26 by omega) with rfl | rfl | rfl | rfl | rfl | rfl | rfl | rfl | rfl | rfl | rfl | rfl | rfl | rfl | rfl | rfl | rfl | rfl | rfl | rfl | rfl | rfl | rfl | rfl | rfl | rfl | rfl <;> rfl) (Nat.le_of_ble_eq_true rfl) (Nat.le_of_ble_eq_true rfl) dL_law_8 (fun q8 H hP hD hS => ?_)
  have hP : va_P D vwCl (flat ([wX7 a_pd u.1 u.2.1 u.2.2.1 u.2.2.2.1 u.2.2.2.2.2.2.1 u.2.2.2.2.2.2.2.1 u.2.2.2.2.2.2.2.2.1 u.2.2.2.2.2.2.2.2.2.1 u.2.2.2.2.2.2.2.2.2.2, wX1 cA u.1 4 0 0 (fun _ => 0) (fun _ => 0) (fun _ => 0) (fun _ => 0), wX1 cA u.2.1 4 0 0 (fun _ => 0) (fun _ => 0) (fun _ => 0) (fun _ => 0), wX0 cA u.2.2.1 0 4 0 (fun _ => 0) (fun _ => 0) (fun _ => 0) (fun _ => 0) (fun _ => 0) (fun _ => 0), wX5 cA u.2.2.2.2.2.2.1 0 (fun _ => 0) 0 0, wX4 cA u.2.2.2.2.2.2.2.1 (fun _ => 0) (fun _ => 0) 0 0 (fun _ => 0) (fun _ => 0) (fun _ => 0) (fun _ => 0) (fun _ => 0) 0 (fun _ => 0) (fun _ => 0) 0 0 0 0, wX6 cA u.2.2.2.2.2.2.2.2.1 0 (fun _ => 0) (fun _ => 0), wX3 cA u.2.2.2.2.2.2.2.2.2.1 (fun _ => FP.fconst0) (fun _ => FP.fconst0), wA cA u.2.2.2.2.2.2.2.2.2.2 (fun _ => 0), wX2 cA u.2.2.2.1 u.2.2.2.2.1 u.2.2.2.2.2.1 0 (fun _ => 4) (fun _ => 0) (fun _ => 0) (fun _ _ => 0) (fun _ _ => 0) (fun _ _ => 0) (fun _ _ => 0)] ++ [[(q8, .inr (8, [.null, .null, .int 0, .null, .int 0, .null, .null, .int 0, .null, .null, .null, .null, .null, .null, .null, .null, .int 0, .null, .int 0, .null, .int 0, .int 0, .int 0, .int 0, .null, .null, .null]))]])) H := by rw [flat_app]; exact hP
  have hD : va_D (fun q : Nat => s.heap.size ≤ q) (flat ([wX7 a_pd u.1 u.2.1 u.2.2.1 u.2.2.2.1 u.2.2.2.2.2.2.1 u.2.2.2.2.2.2.2.1 u.2.2.2.2.2.2.2.2.1 u.2.2.2.2.2.2.2.2.2.1 u.2.2.2.2.2.2.2.2.2.2, wX1 cA u.1 4 0 0 (fun _ => 0) (fun _ => 0) (fun _ => 0) (fun _ => 0), wX1 cA u.2.1 4 0 0 (fun _ => 0) (fun _ => 0) (fun _ => 0) (fun _ => 0), wX0 cA u.2.2.1 0 4 0 (fun _ => 0) (fun _ => 0) (fun _ => 0) (fun _ => 0) (fun _ => 0) (fun _ => 0), wX5 cA u.2.2.2.2.2.2.1 0 (fun _ => 0) 0 0, wX4 cA u.2.2.2.2.2.2.2.1 (fun _ => 0) (fun _ => 0) 0 0 (fun _ => 0) (fun _ => 0) (fun _ => 0) (fun _ => 0) (fun _ => 0) 0 (fun _ => 0) (fun _ => 0) 0 0 0 0, wX6 cA u.2.2.2.2.2.2.2.2.1 0 (fun _ => 0) (fun _ => 0), wX3 cA u.2.2.2.2.2.2.2.2.2.1 (fun _ => FP.fconst0) (fun _ => FP.fconst0), wA cA u.2.2.2.2.2.2.2.2.2.2 (fun _ => 0), wX2 cA u.2.2.2.1 u.2.2.2.2.1 u.2.2.2.2.2.1 0 (fun _ => 4) (fun _ => 0) (fun _ => 0) (fun _ _ => 0) (fun _ _ => 0) (fun _ _ => 0) (fun _ _ => 0)] ++ [[(q8, .inr (8, [.null, .null, .int 0, .null, .int 0, .null, .null, .int 0, .null, .null, .null, .null, .null, .null, .null, .null, .int 0, .null, .int 0, .null, .int 0, .int 0, .int 0, .int 0, .null, .null, .null]))]])) := by rw [flat_app]; exact hD
  refine W.widen (k := 70) (n := 1737) (Nat.le_of_ble_eq_true rfl) (Nat.le_of_ble_eq_true rfl) ?_
  refine lv_dup hx hb dL_law_11 rfl ?_
  refine backC (Bs := [wX7 a_pd u.1 u.2.1 u.2.2.1 u.2.2.2.1 u.2.2.2.2.2.2.1 u.2.2.2.2.2.2.2.1 u.2.2.2.2.2.2.2.2.1 u.2.2.2.2.2.2.2.2.2.1 u.2.2.2.2.2.2.2.2.2.2, wX1 cA u.1 4 0 0 (fun _ => 0) (fun _ => 0) (fun _ => 0) (fun _ => 0), wX1 cA u.2.1 4 0 0 (fun _ => 0) (fun _ => 0) (fun _ => 0) (fun _ => 0), wX0 cA u.2.2.1 0 4 0 (fun _ => 0) (fun _ => 0) (fun _ => 0) (fun _ => 0) (fun _ => 0) (fun _ => 0), wX5 cA u.2.2.2.2.2.2.1 0 (fun _ => 0) 0 0, wX4 cA u.2.2.2.2.2.2.2.1 (fun _ => 0) (fun _ => 0) 0 0 (fun _ => 0) (fun _ => 0) (fun _ => 0) (fun _ => 0) (fun _ => 0) 0 (fun _ => 0) (fun _ => 0) 0 0 0 0, wX6 cA u.2.2.2.2.2.2.2.2.1 0 (fun _ => 0) (fun _ => 0), wX3 cA u.2.2.2.2.2.2.2.2.2.1 (fun _ => FP.fconst0) (fun _ => FP.fconst0), wA cA u.2.2.2.2.2.2.2.2.2.2 (fun _ => 0), wX2 cA u.2.2.2.1 u.2.2.2.2.1 u.2.2.2.2.2.1 0 (fun _ => 4) (fun _ => 0) (fun _ => 0) (fun _ _ => 0) (fun _ _ => 0) (fun _ _ => 0) (fun _ _ => 0), [(q8, .inr (8, [.null, .null, .int 0, .null, .int 0, .null, .null, .int 0, .null, .null, .null, .null, .null, .null, .null, .null, .int 0, .null, .int 0, .null, .int 0, .int 0, .int 0, .int 0, .null, .null, .null]))]]) (Rs := [wX7 a_pd u.1 u.2.1 u.2.2.1 u.2.2.2.1 u.2.2.2.2.2.2.1 u.2.2.2.2.2.2.2.1 u.2.2.2.2.2.2.2.2.1 u.2.2.2.2.2.2.2.2.2.1 u.2.2.2.2.2.2.2.2.2.2, wX1 cA u.1 4 0 0 (fun _ => 0) (fun _ => 0) (fun _ => 0) (fun _ => 0), wX1 cA u.2.1 4 0 0 (fun _ => 0) (fun _ => 0) (fun _ => 0) (fun _ => 0), wX0 cA u.2.2.1 0 4 0 (fun _ => 0) (fun _ => 0) (fun _ => 0) (fun _ => 0) (fun _ => 0) (fun _ => 0), wX5 cA u.2.2.2.2.2.2.1 0 (fun _ => 0) 0 0, wX4 cA u.2.2.2.2.2.2.2.1 (fun _ => 0) (fun _ => 0) 0 0 (fun _ => 0) (fun _ => 0) (fun _ => 0) (fun _ => 0) (fun _ => 0) 0 (fun _ => 0) (fun _ => 0) 0 0 0 0, wX6 cA u.2.2.2.2.2.2.2.2.1 0 (fun _ => 0) (fun _ => 0), wX3 cA u.2.2.2.2.2.2.2.2.2.1 (fun _ => FP.fconst0) (fun _ => FP.fconst0), wA cA u.2.2.2.2.2.2.2.2.2.2 (fun _ => 0), wX2 cA u.2.2.2.1 u.2.2.2.2.1 u.2.2.2.2.2.1 0 (fun _ => 4) (fun _ => 0) (fun _ => 0) (fun _ _ => 0) (fun _ _ => 0) (fun _ _ => 0) (fun _ _ => 0)]) (Cs := [[(q8, .inr (8, [.null, .null, .int 0, .null, .int 0, .null, .null, .int 0, .null, .null, .null, .null, .null, .null, .null, .null, .int 0, .null, .int 0, .null, .int 0, .int 0, .int 0, .int 0, .null, .null, .null]))]]) (fun (a_m : Nat → Nat) => [wX8 cA a_m (upd (fun _ => 0) 0 4) (fun _ => 0) 0 (fun _ => 0) 0 (fun _ => 0) (fun _ => 0) 0 (fun _ => 0) (fun _ => 0) (fun _ => 0) (fun _ => 0) (fun _ => 0) (fun _ => 0) (fun _ => 0) (fun _ => 0) 0 (fun _ => 0) 0 (fun _ => 0) 0 0 0 0 (fun _ => 0) (fun _ => FP.fconst0) (fun _ => FP.fconst0)]) (fun a_m => [wX7 a_pd u.1 u.2.1 u.2.2.1 u.2.2.2.1 u.2.2.2.2.2.2.1 u.2.2.2.2.2.2.2.1 u.2.2.2.2.2.2.2.2.1 u.2.2.2.2.2.2.2.2.2.1 u.2.2.2.2.2.2.2.2.2.2, wX1 cA u.1 4 0 0 (fun _ => 0) (fun _ => 0) (fun _ => 0) (fun _ => 0), wX1 cA u.2.1 4 0 0 (fun _ => 0) (fun _ => 0) (fun _ => 0) (fun _ => 0), wX0 cA u.2.2.1 0 4 0 (fun _ => 0) (fun _ => 0) (fun _ => 0) (fun _ => 0) (fun _ => 0) (fun _ => 0), wX5 cA u.2.2.2.2.2.2.1 0 (fun _ => 0) 0 0, wX4 cA u.2.2.2.2.2.2.2.1 (fun _ => 0) (fun _ => 0) 0 0 (fun _ => 0) (fun _ => 0) (fun _ => 0) (fun _ => 0) (fun _ => 0) 0 (fun _ => 0) (fun _ => 0) 0 0 0 0, wX6 cA u.2.2.2.2.2.2.2.2.1 0 (fun _ => 0) (fun _ => 0), wX3 cA u.2.2.2.2.2.2.2.2.2.1 (fun _ => FP.fconst0) (fun _ => FP.fconst0), wA cA u.2.2.2.2.2.2.2.2.2.2 (fun _ => 0), wX2 cA u.2.2.2.1 u.2.2.2.2.1 u.2.2.2.2.2.1 0 (fun _ => 4) (fun _ => 0) (fun _ => 0) (fun _ _ => 0) (fun _ _ => 0) (fun _ _ => 0) (fun _ _ => 0), wX8 cA a_m (upd (fun _ => 0) 0 4) (fun _ => 0) 0 (fun _ => 0) 0 (fun _ => 0) (fun _ => 0) 0 (fun _ => 0) (fun _ => 0) (fun _ => 0) (fun _ => 0) (fun _ => 0) (fun _ => 0) (fun _ => 0) (fun _ => 0) 0 (fun _ => 0) 0 (fun _ => 0) 0 0 0 0 (fun _ => 0) (fun _ => FP.fconst0) (fun _ => FP.fconst0)]) (runIc C hO (c_X8_init l D cA q8 _) kc_X8_init ki_X8_init kin_X8 km_L_12 rfl ⟨by decide +kernel, by decide +kernel, by decide +kernel⟩ ⟨rfl, rfl, by decide, by decide⟩ ⟨Nat.le_of_ble_eq_true rfl, Nat.le_of_ble_eq_true rfl⟩ (subP (Bs := [wX7 a_pd u.1 u.2.1 u.2.2.1 u.2.2.2.1 u.2.2.2.2.2.2.1 u.2.2.2.2.2.2.2.1 u.2.2.2.2.2.2.2.2.1 u.2.2.2.2.2.2.2.2.2.1 u.2.2.2.2.2.2.2.2.2.2, wX1 cA u.1 4 0 0 (fun _ => 0) (fun _ => 0) (fun _ => 0) (fun _ => 0), wX1 cA u.2.1 4 0 0 (fun _ => 0) (fun _ => 0) (fun _ => 0) (fun _ => 0), wX0 cA u.2.2.1 0 4 0 (fun _ => 0) (fun _ => 0) (fun _ => 0) (fun _ => 0) (fun _ => 0) (fun _ => 0), wX5 cA u.2.2.2.2.2.2.1 0 (fun _ => 0) 0 0, wX4 cA u.2.2.2.2.2.2.2.1 (fun _ => 0) (fun _ => 0) 0 0 (fun _ => 0) (fun _ => 0) (fun _ => 0) (fun _ => 0) (fun _ => 0) 0 (fun _ => 0) (fun _ => 0) 0 0 0 0, wX6 cA u.2.2.2.2.2.2.2.2.1 0 (fun _ => 0) (fun _ => 0), wX3 cA u.2.2.2.2.2.2.2.2.2.1 (fun _ => FP.fconst0) (fun _ => FP.fconst0), wA cA u.2.2.2.2.2.2.2.2.2.2 (fun _ => 0), wX2 cA u.2.2.2.1 u.2.2.2.2.1 u.2.2.2.2.2.1 0 (fun _ => 4) (fun _ => 0) (fun _ => 0) (fun _ _ => 0) (fun _ _ => 0) (fun _ _ => 0) (fun _ _ => 0), [(q8, .inr (8, [.null, .null, .int 0, .null, .int 0, .null, .null, .int 0, .null, .null, .null, .null, .null, .null, .null, .null, .int 0, .null, .int 0, .null, .int 0, .int 0, .int 0, .int 0, .null, .null, .null]))]]) (Rs := [wX7 a_pd u.1 u.2.1 u.2.2.1 u.2.2.2.1 u.2.2.2.2.2.2.1 u.2.2.2.2.2.2.2.1 u.2.2.2.2.2.2.2.2.1 u.2.2.2.2.2.2.2.2.2.1 u.2.2.2.2.2.2.2.2.2.2, wX1 cA u.1 4 0 0 (fun _ => 0) (fun _ => 0) (fun _ => 0) (fun _ => 0), wX1 cA u.2.1 4 0 0 (fun _ => 0) (fun _ => 0) (fun _ => 0) (fun _ => 0), wX0 cA u.2.2.1 0 4 0 (fun _ => 0) (fun _ => 0) (fun _ => 0) (fun _ => 0) (fun _ => 0) (fun _ => 0), wX5 cA u.2.2.2.2.2.2.1 0 (fun _ => 0) 0 0, wX4 cA u.2.2.2.2.2.2.2.1 (fun _ => 0) (fun _ => 0) 0 0 (fun _ => 0) (fun _ => 0) (fun _ => 0) (fun _ => 0) (fun _ => 0) 0 (fun _ => 0) (fun _ => 0) 0 0 0 0, wX6 cA u.2.2.2.2.2.2.2.2.1 0 (fun _ => 0) (fun _ => 0), wX3 cA u.2.2.2.2.2.2.2.2.2.1 (fun _ => FP.fconst0) (fun _ => FP.fconst0), wA cA u.2.2.2.2.2.2.2.2.2.2 (fun _ => 0), wX2 cA u.2.2.2.1 u.2.2.2.2.1 u.2.2.2.2.2.1 0 (fun _ => 4) (fun _ => 0) (fun _ => 0) (fun _ _ => 0) (fun _ _ => 0) (fun _ _ => 0) (fun _ _ => 0)]) (Cs := [[(q8, .inr (8, [.null, .null, .int 0, .null, .int 0, .null, .null, .int 0, .null, .null, .null, .null, .null, .null, .null, .null, .int 0, .null, .int 0, .null, .int 0, .int 0, .int 0, .int 0, .null, .null, .null]))]]) hP [0, 1, 2, 3, 4, 5, 6, 7, 8, 9, 10] rfl (lenP (n := 11) rfl (by decide +kernel))) (subD (Bs := [wX7 a_pd u.1 u.2.1 u.2.2.1 u.2.2.2.1 u.2.2.2.2.2.2.1 u.2.2.2.2.2.2.2.1 u.2.2.2.2.2.2.2.2.1 u.2.2.2.2.2.2.2.2.2.1 u.2.2.2.2.2.2.2.2.2.2, wX1 cA u.1 4 0 0 (fun _ => 0) (fun _ => 0) (fun _ => 0) (fun _ => 0), wX1 cA u.2.1 4 0 0 (fun _ => 0) (fun _ => 0) (fun _ => 0) (fun _ => 0), wX0 cA u.2.2.1 0 4 0 (fun _ => 0) (fun _ => 0) (fun _ => 0) (fun _ => 0) (fun _ => 0) (fun _ => 0), wX5 cA u.2.2.2.2.2.2.1 0 (fun _ => 0) 0 0, wX4 cA u.2.2.2.2.2.2.2.1 (fun _ => 0) (fun _ => 0) 0 0 (fun _ => 0) (fun _ => 0) (fun _ => 0) (fun _ => 0) (fun _ => 0) 0 (fun _ => 0) (fun _ => 0) 0 0 0 0, wX6 cA u.2.2.2.2.2.2.2.2.1 0 (fun _ => 0) (fun _ => 0), wX3 cA u.2.2.2.2.2.2.2.2.2.1 (fun _ => FP.fconst0) (fun _ => FP.fconst0), wA cA u.2.2.2.2.2.2.2.2.2.2 (fun _ => 0), wX2 cA u.2.2.2.1 u.2.2.2.2.1 u.2.2.2.2.2.1 0 (fun _ => 4) (fun _ => 0) (fun _ => 0) (fun _ _ => 0) (fun _ _ => 0) (fun _ _ => 0) (fun _ _ => 0), [(q8, .inr (8, [.null, .null, .int 0, .null, .int 0, .null, .null, .int 0, .null, .null, .null, .null, .null, .null, .null, .null, .int 0, .null, .int 0, .null, .int 0, .int 0, .int 0, .int 0, .null, .null, .null]))]]) (Rs := [wX7 a_pd u.1 u.2.1 u.2.2.1 u.2.2.2.1 u.2.2.2.2.2.2.1 u.2.2.2.2.2.2.2.1 u.2.2.2.2.2.2.2.2.1 u.2.2.2.2.2.2.2.2.2.1 u.2.2.2.2.2.2.2.2.2.2, wX1 cA u.1 4 0 0 (fun _ => 0) (fun _ => 0) (fun _ => 0) (fun _ => 0), wX1 cA u.2.1 4 0 0 (fun _ => 0) (fun _ => 0) (fun _ => 0) (fun _ => 0), wX0 cA u.2.2.1 0 4 0 (fun _ => 0) (fun _ => 0) (fun _ => 0) (fun _ => 0) (fun _ => 0) (fun _ => 0), wX5 cA u.2.2.2.2.2.2.1 0 (fun _ => 0) 0 0, wX4 cA u.2.2.2.2.2.2.2.1 (fun _ => 0) (fun _ => 0) 0 0 (fun _ => 0) (fun _ => 0) (fun _ => 0) (fun _ => 0) (fun _ => 0) 0 (fun _ => 0) (fun _ => 0) 0 0 0 0, wX6 cA u.2.2.2.2.2.2.2.2.1 0 (fun _ => 0) (fun _ => 0), wX3 cA u.2.2.2.2.2.2.2.2.2.1 (fun _ => FP.fconst0) (fun _ => FP.fconst0), wA cA u.2.2.2.2.2.2.2.2.2.2 (fun _ => 0), wX2 cA u.2.2.2.1 u.2.2.2.2.1 u.2.2.2.2.2.1 0 (fun _ => 4) (fun _ => 0) (fun _ => 0) (fun _ _ => 0) (fun _ _ => 0) (fun _ _ => 0) (fun _ _ => 0)]) (Cs := [[(q8, .inr (8, [.null, .null, .int 0, .null, .int 0, .null, .null, .int 0, .null, .null, .null, .null, .null, .null, .null, .null, .int 0, .null, .int 0, .null, .int 0, .int 0, .int 0, .int 0, .null, .null, .null]))]]) hD [0, 1, 2, 3, 4, 5, 6, 7, 8, 9, 10] rfl (lenP (n := 11) rfl (by decide +kernel))) hK hl.1 rfl (Nat.le_of_ble_eq_true rfl) dL_law_12) hP hD hS hA [0, 1, 2, 3, 4, 5, 6, 7, 8, 9, 10] rfl (lenP (n := 11) rfl (by decide +kernel)) [0, 1, 2, 3, 4, 5, 6, 7, 8, 9, 10] (fun _ => rfl) (fun _ => lenP (n := 11) rfl (by decide +kernel)) (fun a_m H locs hu hP hD hS => ?_)
  refine W.widen (k := 600000) (n := 7302250) (Nat.le_of_ble_eq_true rfl) (Nat.le_of_ble_eq_true rfl) ?_
  refine W.eq (g2 := F0 m 15 ls [.ref (a_m 0)]) (by rw [hu]) ?_
  refine lv_astore_n (lv' := [(2, .ref (a_m 0)), (1, .ref a_pd), (0, .ref b)]) hx hb dL_law_15 rfl hl (by decide) rfl (fun ls hl => ?_)
  refine lv_iconst (v := nI 0) hx hb dL_law_16 (by decide) ?_
  refine lv_istore_n (lv' := [(3, .int (nI 0)), (2, .ref (a_m 0)), (1, .ref a_pd), (0, .ref b)]) hx hb dL_law_17 rfl hl (by decide) rfl (fun ls hl => ?_)
  exact law_loop l hL C0 D cA hK a_pd u.1 u.2.1 u.2.2.1 u.2.2.2.1 u.2.2.2.2.2.2.1 u.2.2.2.2.2.2.2.1 u.2.2.2.2.2.2.2.2.1 u.2.2.2.2.2.2.2.2.2.1 u.2.2.2.2.2.2.2.2.2.2 a_m Inv N hAll (L + 6) 0 x_0 m_0 u.2.2.2.2.1 u.2.2.2.2.2.1 H locs ls (by omega) (by omega) h0 hst (lv_sub hl [3, 2, 1, 0] rfl) hP hD hS
