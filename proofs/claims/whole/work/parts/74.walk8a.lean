set_option maxRecDepth 100000 in
set_option maxHeartbeats 4000000 in
theorem c_X8_across (l : Launch) (D : va_G) (cA : Nat → ClassId) (a_m : Nat → Nat) (m_s : Nat → Int32) (m_past : Nat → Int32) (m_pasts : Int32) (m_text : Nat → Int32) (m_typed : Int32) (m_faceOfSide : Nat → Int32) (m_firstSide : Nat → Int32) (m_faces : Int32) (m_before : Nat → Int32) (m_endA : Nat → Int32) (m_endB : Nat → Int32) (m_from : Nat → Int32) (m_queue : Nat → Int32) (m_ring : Nat → Int32) (m_ringSize : Nat → Int32) (m_ringNodes : Nat → Int32) (m_rings : Int32) (m_path : Nat → Int32) (m_pathSize : Int32) (m_old : Nat → Int32) (m_lastRing : Int32) (m_bestNodes : Int32) (m_bestInside : Int32) (m_bestFits : Int32) (m_far : Nat → Int32) (m_xs : Nat → UInt32) (m_ys : Nat → UInt32) (p1 : Int32) (p2 : Int32) (N : Nat) (ρ : Int32) (hf : f_X8_across N m_s p1 p2 = some ρ) : Met l yX8_across (Cond.code yX8_across cX8_across 3 (Option.some Jvm.ClassFile.FieldType.int) :: lw_g) ({ frames := 0, cells := 0, slots := 0, locals := 0 } : Room) (PcS D (tyA cA) (wX8 cA a_m m_s m_past m_pasts m_text m_typed m_faceOfSide m_firstSide m_faces m_before m_endA m_endB m_from m_queue m_ring m_ringSize m_ringNodes m_rings m_path m_pathSize m_old m_lastRing m_bestNodes m_bestInside m_bestFits m_far m_xs m_ys) [.ref (a_m 0), .int p1, .int p2]) (vp_Si (fun r => r = ρ)) 0 0 (fun _ => False) := by
  refine mkS (by decide +kernel) (Nat.le_of_ble_eq_true rfl) fun p e s m below meth c ls C hl hP hK => ?_
  obtain ⟨hx, hb, hml, hown, hT, hr, hlk⟩ := id C
  have hl : lv_has ls 3 [(0, .ref (a_m 0)), (1, .int p1), (2, .int p2)] := hl
  refine lv_aload_n hx hb dX8_across_0 rfl (lv_at hl 0 rfl) ?_
  refine va_get (D := D) (ci := 8) (C := RX8) (T := TX8) (N := 27) hx hb hT kwX8 hown hK.1 hP 0 rfl rfl 0 (by decide) (hT _ kf_X8_7) (fun _ h9 => h9) rfl dX8_across_1 ?_
  refine lv_iconst (v := 3) hx hb dX8_across_4 (by decide) ?_
  refine lv_iload_n hx hb dX8_across_5 rfl (lv_at hl 1 rfl) ?_
  refine lv_iadd hx hb dX8_across_6 ?_
  obtain ⟨h_1, hf⟩ := chk_s hf
  refine va_iald hx hb hK.1 hP 1 0 rfl rfl (inb_in h_1) dX8_across_7 ?_
  refine lv_iload_n hx hb dX8_across_8 rfl (lv_at hl 2 rfl) ?_
  refine lv_icmp_ne (tgt := 24) hx hb dX8_across_9 (by decide) (fun c_2 => ?_) (fun c_2 => ?_)
  · have hf := ite_t c_2 hf
    refine lv_aload_n hx hb dX8_across_24 rfl (lv_at hl 0 rfl) ?_
    refine va_get (D := D) (ci := 8) (C := RX8) (T := TX8) (N := 27) hx hb hT kwX8 hown hK.1 hP 0 rfl rfl 0 (by decide) (hT _ kf_X8_7) (fun _ h9 => h9) rfl dX8_across_25 ?_
    refine lv_iconst (v := 3) hx hb dX8_across_28 (by decide) ?_
    refine lv_iload_n hx hb dX8_across_29 rfl (lv_at hl 1 rfl) ?_
    refine lv_iadd hx hb dX8_across_30 ?_
    obtain ⟨h_3, hf⟩ := chk_s hf
    refine va_iald hx hb hK.1 hP 1 0 rfl rfl (inb_in h_3) dX8_across_31 ?_
    exact W.iret hx hb hr (fun t ht hW => ⟨_, rfl, some_i hf, ht⟩) (fun _ h => by cases h) dX8_across_32 (hlocks := hlk)
  · have hf := ite_fn c_2 hf
    refine lv_aload_n hx hb dX8_across_12 rfl (lv_at hl 0 rfl) ?_
    refine va_get (D := D) (ci := 8) (C := RX8) (T := TX8) (N := 27) hx hb hT kwX8 hown hK.1 hP 0 rfl rfl 0 (by decide) (hT _ kf_X8_7) (fun _ h9 => h9) rfl dX8_across_13 ?_
    refine lv_bipush (v := 23) hx hb dX8_across_16 (by decide) ?_
    refine lv_iload_n hx hb dX8_across_18 rfl (lv_at hl 1 rfl) ?_
    refine lv_iadd hx hb dX8_across_19 ?_
    obtain ⟨h_4, hf⟩ := chk_s hf
    refine va_iald hx hb hK.1 hP 1 0 rfl rfl (inb_in h_4) dX8_across_20 ?_
    refine lv_goto (tgt := 32) hx hb dX8_across_21 (by decide) ?_
    exact W.iret hx hb hr (fun t ht hW => ⟨_, rfl, some_i hf, ht⟩) (fun _ h => by cases h) dX8_across_32 (hlocks := hlk)
set_option maxRecDepth 100000 in
set_option maxHeartbeats 4000000 in
theorem c_X8_in (l : Launch) (D : va_G) (cA : Nat → ClassId) (p0 : Int32) (p1 : Int32) (p2 : Int32) (N : Nat) (ρ : Int32) (hf : f_X8_in N p0 p1 p2 = some ρ) : Met l yX8_in (Cond.code yX8_in cX8_in 3 (Option.some Jvm.ClassFile.FieldType.boolean) :: lw_g) ({ frames := 0, cells := 0, slots := 0, locals := 0 } : Room) (PcS D (tyA cA) ([] : va_W) [.int p0, .int p1, .int p2]) (vp_Si (fun r => r = ρ)) 0 0 (fun _ => False) := by
  refine mkS (by decide +kernel) (Nat.le_of_ble_eq_true rfl) fun p e s m below meth c ls C hl hP hK => ?_
  obtain ⟨hx, hb, hml, hown, hT, hr, hlk⟩ := id C
  have hl : lv_has ls 3 [(0, .int p0), (1, .int p1), (2, .int p2)] := hl
  refine lv_iload_n hx hb dX8_in_0 rfl (lv_at hl 0 rfl) ?_
  refine lv_iload_n hx hb dX8_in_1 rfl (lv_at hl 1 rfl) ?_
  refine lv_icmp_lt (tgt := 14) hx hb dX8_in_2 (by decide) (fun c_1 => ?_) (fun c_1 => ?_)
  · have hf := ite_t c_1 hf
    refine lv_iconst (v := 0) hx hb dX8_in_14 (by decide) ?_
    exact W.zret hx hb hr (by decide) (fun t ht hW => ⟨_, rfl, some_i hf, ht⟩) (fun _ h => by cases h) dX8_in_15 (hlocks := hlk)
  · have hf := ite_f c_1 hf
    refine lv_iload_n hx hb dX8_in_5 rfl (lv_at hl 0 rfl) ?_
    refine lv_iload_n hx hb dX8_in_6 rfl (lv_at hl 2 rfl) ?_
    refine lv_icmp_gt (tgt := 14) hx hb dX8_in_7 (by decide) (fun c_2 => ?_) (fun c_2 => ?_)
    · have hf := ite_t c_2 hf
      refine lv_iconst (v := 0) hx hb dX8_in_14 (by decide) ?_
      exact W.zret hx hb hr (by decide) (fun t ht hW => ⟨_, rfl, some_i hf, ht⟩) (fun _ h => by cases h) dX8_in_15 (hlocks := hlk)
    · have hf := ite_f c_2 hf
      refine lv_iconst (v := 1) hx hb dX8_in_10 (by decide) ?_
      refine lv_goto (tgt := 15) hx hb dX8_in_11 (by decide) ?_
      exact W.zret hx hb hr (by decide) (fun t ht hW => ⟨_, rfl, some_i hf, ht⟩) (fun _ h => by cases h) dX8_in_15 (hlocks := hlk)
set_option maxRecDepth 100000 in
set_option maxHeartbeats 4000000 in
theorem c_X8_isNode (l : Launch) (D : va_G) (cA : Nat → ClassId) (a_m : Nat → Nat) (m_s : Nat → Int32) (m_past : Nat → Int32) (m_pasts : Int32) (m_text : Nat → Int32) (m_typed : Int32) (m_faceOfSide : Nat → Int32) (m_firstSide : Nat → Int32) (m_faces : Int32) (m_before : Nat → Int32) (m_endA : Nat → Int32) (m_endB : Nat → Int32) (m_from : Nat → Int32) (m_queue : Nat → Int32) (m_ring : Nat → Int32) (m_ringSize : Nat → Int32) (m_ringNodes : Nat → Int32) (m_rings : Int32) (m_path : Nat → Int32) (m_pathSize : Int32) (m_old : Nat → Int32) (m_lastRing : Int32) (m_bestNodes : Int32) (m_bestInside : Int32) (m_bestFits : Int32) (m_far : Nat → Int32) (m_xs : Nat → UInt32) (m_ys : Nat → UInt32) (p1 : Int32) (N : Nat) (ρ : Int32) (hf : f_X8_isNode N m_s p1 = some ρ) : Met l yX8_isNode (Cond.code yX8_isNode cX8_isNode 2 (Option.some Jvm.ClassFile.FieldType.boolean) :: lw_g) ({ frames := 1, cells := 0, slots := 0, locals := 22 } : Room) (PcS D (tyA cA) (wX8 cA a_m m_s m_past m_pasts m_text m_typed m_faceOfSide m_firstSide m_faces m_before m_endA m_endB m_from m_queue m_ring m_ringSize m_ringNodes m_rings m_path m_pathSize m_old m_lastRing m_bestNodes m_bestInside m_bestFits m_far m_xs m_ys) [.ref (a_m 0), .int p1]) (vp_Si (fun r => r = ρ)) 0 0 (fun _ => False) := by
  refine mkS (by decide +kernel) (Nat.le_of_ble_eq_true rfl) fun p e s m below meth c ls C hl hP hK => ?_
  obtain ⟨hx, hb, hml, hown, hT, hr, hlk⟩ := id C
  have hl : lv_has ls 2 [(0, .ref (a_m 0)), (1, .int p1)] := hl
  refine lv_iload_n hx hb dX8_isNode_0 rfl (lv_at hl 1 rfl) ?_
  refine lv_iconst (v := 0) hx hb dX8_isNode_1 (by decide) ?_
  refine lv_aload_n hx hb dX8_isNode_2 rfl (lv_at hl 0 rfl) ?_
  refine va_get (D := D) (ci := 8) (C := RX8) (T := TX8) (N := 27) hx hb hT kwX8 hown hK.1 hP 0 rfl rfl 0 (by decide) (hT _ kf_X8_7) (fun _ h9 => h9) rfl dX8_isNode_3 ?_
  refine lv_iconst (v := 0) hx hb dX8_isNode_6 (by decide) ?_
  obtain ⟨h_1, hf⟩ := chk_s hf
  refine va_iald hx hb hK.1 hP 1 0 rfl rfl (inb_in h_1) dX8_isNode_7 ?_
  refine lv_iconst (v := 1) hx hb dX8_isNode_8 (by decide) ?_
  refine lv_isub hx hb dX8_isNode_9 ?_
  obtain ⟨r_2, hcr_2, hf⟩ := bd1_s hf
  refine backI (runS0 C (c_X8_in l D cA p1 0 ((m_s (0 : Int32).toNatClampNeg) - 1) N r_2 hcr_2) cf_X8_in km_X8_70 ⟨rfl, rfl, by decide, by decide⟩ ⟨Nat.zero_le _, Nat.zero_le _⟩ (hP.sub [] rfl) hK hl.1 rfl rfl (Nat.le_of_ble_eq_true rfl) dX8_isNode_10) ?_
  obtain ⟨h_3, hf⟩ := chk_s hf
  exact W.zret hx hb hr (isB_n h_3) (fun t ht hW => ⟨_, rfl, some_i hf, ht⟩) (fun _ h => by cases h) dX8_isNode_13 (hlocks := hlk)
set_option maxRecDepth 100000 in
set_option maxHeartbeats 4000000 in
theorem c_X8_areNodes (l : Launch) (D : va_G) (cA : Nat → ClassId) (a_m : Nat → Nat) (m_s : Nat → Int32) (m_past : Nat → Int32) (m_pasts : Int32) (m_text : Nat → Int32) (m_typed : Int32) (m_faceOfSide : Nat → Int32) (m_firstSide : Nat → Int32) (m_faces : Int32) (m_before : Nat → Int32) (m_endA : Nat → Int32) (m_endB : Nat → Int32) (m_from : Nat → Int32) (m_queue : Nat → Int32) (m_ring : Nat → Int32) (m_ringSize : Nat → Int32) (m_ringNodes : Nat → Int32) (m_rings : Int32) (m_path : Nat → Int32) (m_pathSize : Int32) (m_old : Nat → Int32) (m_lastRing : Int32) (m_bestNodes : Int32) (m_bestInside : Int32) (m_bestFits : Int32) (m_far : Nat → Int32) (m_xs : Nat → UInt32) (m_ys : Nat → UInt32) (p1 : Int32) (p2 : Int32) (N : Nat) (ρ : Int32) (hf : f_X8_areNodes N m_s p1 p2 = some ρ) : Met l yX8_areNodes (Cond.code yX8_areNodes cX8_areNodes 3 (Option.some Jvm.ClassFile.FieldType.boolean) :: lw_g) ({ frames := 2, cells := 0, slots := 0, locals := 43 } : Room) (PcS D (tyA cA) (wX8 cA a_m m_s m_past m_pasts m_text m_typed m_faceOfSide m_firstSide m_faces m_before m_endA m_endB m_from m_queue m_ring m_ringSize m_ringNodes m_rings m_path m_pathSize m_old m_lastRing m_bestNodes m_bestInside m_bestFits m_far m_xs m_ys) [.ref (a_m 0), .int p1, .int p2]) (vp_Si (fun r => r = ρ)) 0 0 (fun _ => False) := by
  refine mkS (by decide +kernel) (Nat.le_of_ble_eq_true rfl) fun p e s m below meth c ls C hl hP hK => ?_
  obtain ⟨hx, hb, hml, hown, hT, hr, hlk⟩ := id C
  have hl : lv_has ls 3 [(0, .ref (a_m 0)), (1, .int p1), (2, .int p2)] := hl
  refine lv_aload_n hx hb dX8_areNodes_0 rfl (lv_at hl 0 rfl) ?_
  refine lv_iload_n hx hb dX8_areNodes_1 rfl (lv_at hl 1 rfl) ?_
  obtain ⟨r_1, hcr_1, hf⟩ := bd1_s hf
  refine backI (runV0 C (c_X8_isNode l D cA a_m m_s m_past m_pasts m_text m_typed m_faceOfSide m_firstSide m_faces m_before m_endA m_endB m_from m_queue m_ring m_ringSize m_ringNodes m_rings m_path m_pathSize m_old m_lastRing m_bestNodes m_bestInside m_bestFits m_far m_xs m_ys p1 N r_1 hcr_1) cf_X8_isNode km_X8_97 ⟨rfl, rfl, by decide, by decide⟩ ⟨Nat.zero_le _, Nat.zero_le _⟩ (va_recv hK.1 hP (ci := 8) (q0 := 0) rfl rfl) (hP.sub [0, 1, 2, 3, 4, 5, 6, 7, 8, 9, 10, 11, 12, 13, 14, 15, 16, 17, 18] rfl) hK hl.1 rfl rfl (Nat.le_of_ble_eq_true rfl) dX8_areNodes_2) ?_
  refine lv_if_eq (tgt := 25) hx hb dX8_areNodes_5 (by decide) (fun c_2 => ?_) (fun c_2 => ?_)
  · have hf := ite_t c_2 hf
    refine lv_iconst (v := 0) hx hb dX8_areNodes_25 (by decide) ?_
    exact W.zret hx hb hr (by decide) (fun t ht hW => ⟨_, rfl, some_i hf, ht⟩) (fun _ h => by cases h) dX8_areNodes_26 (hlocks := hlk)
  · have hf := ite_f c_2 hf
    refine lv_aload_n hx hb dX8_areNodes_8 rfl (lv_at hl 0 rfl) ?_
    refine lv_iload_n hx hb dX8_areNodes_9 rfl (lv_at hl 2 rfl) ?_
    obtain ⟨r_3, hcr_3, hf⟩ := bd1_s hf
    refine backI (runV0 C (c_X8_isNode l D cA a_m m_s m_past m_pasts m_text m_typed m_faceOfSide m_firstSide m_faces m_before m_endA m_endB m_from m_queue m_ring m_ringSize m_ringNodes m_rings m_path m_pathSize m_old m_lastRing m_bestNodes m_bestInside m_bestFits m_far m_xs m_ys p2 N r_3 hcr_3) cf_X8_isNode km_X8_97 ⟨rfl, rfl, by decide, by decide⟩ ⟨Nat.zero_le _, Nat.zero_le _⟩ (va_recv hK.1 hP (ci := 8) (q0 := 0) rfl rfl) (hP.sub [0, 1, 2, 3, 4, 5, 6, 7, 8, 9, 10, 11, 12, 13, 14, 15, 16, 17, 18] rfl) hK hl.1 rfl rfl (Nat.le_of_ble_eq_true rfl) dX8_areNodes_10) ?_
    refine lv_if_eq (tgt := 25) hx hb dX8_areNodes_13 (by decide) (fun c_4 => ?_) (fun c_4 => ?_)
    · have hf := ite_t c_4 hf
      refine lv_iconst (v := 0) hx hb dX8_areNodes_25 (by decide) ?_
      exact W.zret hx hb hr (by decide) (fun t ht hW => ⟨_, rfl, some_i hf, ht⟩) (fun _ h => by cases h) dX8_areNodes_26 (hlocks := hlk)
    · have hf := ite_f c_4 hf
      refine lv_iload_n hx hb dX8_areNodes_16 rfl (lv_at hl 1 rfl) ?_
      refine lv_iload_n hx hb dX8_areNodes_17 rfl (lv_at hl 2 rfl) ?_
      refine lv_icmp_eq (tgt := 25) hx hb dX8_areNodes_18 (by decide) (fun c_5 => ?_) (fun c_5 => ?_)
      · have hf := ite_t c_5 hf
        refine lv_iconst (v := 0) hx hb dX8_areNodes_25 (by decide) ?_
        exact W.zret hx hb hr (by decide) (fun t ht hW => ⟨_, rfl, some_i hf, ht⟩) (fun _ h => by cases h) dX8_areNodes_26 (hlocks := hlk)
      · have hf := ite_f c_5 hf
        refine lv_iconst (v := 1) hx hb dX8_areNodes_21 (by decide) ?_
        refine lv_goto (tgt := 26) hx hb dX8_areNodes_22 (by decide) ?_
        exact W.zret hx hb hr (by decide) (fun t ht hW => ⟨_, rfl, some_i hf, ht⟩) (fun _ h => by cases h) dX8_areNodes_26 (hlocks := hlk)
set_option maxRecDepth 100000 in
set_option maxHeartbeats 4000000 in
theorem c_X8_isEdge (l : Launch) (D : va_G) (cA : Nat → ClassId) (a_m : Nat → Nat) (m_s : Nat → Int32) (m_past : Nat → Int32) (m_pasts : Int32) (m_text : Nat → Int32) (m_typed : Int32) (m_faceOfSide : Nat → Int32) (m_firstSide : Nat → Int32) (m_faces : Int32) (m_before : Nat → Int32) (m_endA : Nat → Int32) (m_endB : Nat → Int32) (m_from : Nat → Int32) (m_queue : Nat → Int32) (m_ring : Nat → Int32) (m_ringSize : Nat → Int32) (m_ringNodes : Nat → Int32) (m_rings : Int32) (m_path : Nat → Int32) (m_pathSize : Int32) (m_old : Nat → Int32) (m_lastRing : Int32) (m_bestNodes : Int32) (m_bestInside : Int32) (m_bestFits : Int32) (m_far : Nat → Int32) (m_xs : Nat → UInt32) (m_ys : Nat → UInt32) (p1 : Int32) (N : Nat) (ρ : Int32) (hf : f_X8_isEdge N m_s p1 = some ρ) : Met l yX8_isEdge (Cond.code yX8_isEdge cX8_isEdge 2 (Option.some Jvm.ClassFile.FieldType.boolean) :: lw_g) ({ frames := 1, cells := 0, slots := 0, locals := 22 } : Room) (PcS D (tyA cA) (wX8 cA a_m m_s m_past m_pasts m_text m_typed m_faceOfSide m_firstSide m_faces m_before m_endA m_endB m_from m_queue m_ring m_ringSize m_ringNodes m_rings m_path m_pathSize m_old m_lastRing m_bestNodes m_bestInside m_bestFits m_far m_xs m_ys) [.ref (a_m 0), .int p1]) (vp_Si (fun r => r = ρ)) 0 0 (fun _ => False) := by
  refine mkS (by decide +kernel) (Nat.le_of_ble_eq_true rfl) fun p e s m below meth c ls C hl hP hK => ?_
  obtain ⟨hx, hb, hml, hown, hT, hr, hlk⟩ := id C
  have hl : lv_has ls 2 [(0, .ref (a_m 0)), (1, .int p1)] := hl
  refine lv_iload_n hx hb dX8_isEdge_0 rfl (lv_at hl 1 rfl) ?_
  refine lv_iconst (v := 0) hx hb dX8_isEdge_1 (by decide) ?_
  refine lv_aload_n hx hb dX8_isEdge_2 rfl (lv_at hl 0 rfl) ?_
  refine va_get (D := D) (ci := 8) (C := RX8) (T := TX8) (N := 27) hx hb hT kwX8 hown hK.1 hP 0 rfl rfl 0 (by decide) (hT _ kf_X8_7) (fun _ h9 => h9) rfl dX8_isEdge_3 ?_
  refine lv_iconst (v := 1) hx hb dX8_isEdge_6 (by decide) ?_
  obtain ⟨h_1, hf⟩ := chk_s hf
  refine va_iald hx hb hK.1 hP 1 0 rfl rfl (inb_in h_1) dX8_isEdge_7 ?_
  refine lv_iconst (v := 1) hx hb dX8_isEdge_8 (by decide) ?_
  refine lv_isub hx hb dX8_isEdge_9 ?_
  obtain ⟨r_2, hcr_2, hf⟩ := bd1_s hf
  refine backI (runS0 C (c_X8_in l D cA p1 0 ((m_s (1 : Int32).toNatClampNeg) - 1) N r_2 hcr_2) cf_X8_in km_X8_70 ⟨rfl, rfl, by decide, by decide⟩ ⟨Nat.zero_le _, Nat.zero_le _⟩ (hP.sub [] rfl) hK hl.1 rfl rfl (Nat.le_of_ble_eq_true rfl) dX8_isEdge_10) ?_
  obtain ⟨h_3, hf⟩ := chk_s hf
  exact W.zret hx hb hr (isB_n h_3) (fun t ht hW => ⟨_, rfl, some_i hf, ht⟩) (fun _ h => by cases h) dX8_isEdge_13 (hlocks := hlk)
set_option maxRecDepth 100000 in
set_option maxHeartbeats 4000000 in
theorem c_X8_isAt (l : Launch) (D : va_G) (cA : Nat → ClassId) (a_m : Nat → Nat) (m_s : Nat → Int32) (m_past : Nat → Int32) (m_pasts : Int32) (m_text : Nat → Int32) (m_typed : Int32) (m_faceOfSide : Nat → Int32) (m_firstSide : Nat → Int32) (m_faces : Int32) (m_before : Nat → Int32) (m_endA : Nat → Int32) (m_endB : Nat → Int32) (m_from : Nat → Int32) (m_queue : Nat → Int32) (m_ring : Nat → Int32) (m_ringSize : Nat → Int32) (m_ringNodes : Nat → Int32) (m_rings : Int32) (m_path : Nat → Int32) (m_pathSize : Int32) (m_old : Nat → Int32) (m_lastRing : Int32) (m_bestNodes : Int32) (m_bestInside : Int32) (m_bestFits : Int32) (m_far : Nat → Int32) (m_xs : Nat → UInt32) (m_ys : Nat → UInt32) (p1 : Int32) (p2 : Int32) (N : Nat) (ρ : Int32) (hf : f_X8_isAt N m_s p1 p2 = some ρ) : Met l yX8_isAt (Cond.code yX8_isAt cX8_isAt 3 (Option.some Jvm.ClassFile.FieldType.boolean) :: lw_g) ({ frames := 2, cells := 0, slots := 0, locals := 43 } : Room) (PcS D (tyA cA) (wX8 cA a_m m_s m_past m_pasts m_text m_typed m_faceOfSide m_firstSide m_faces m_before m_endA m_endB m_from m_queue m_ring m_ringSize m_ringNodes m_rings m_path m_pathSize m_old m_lastRing m_bestNodes m_bestInside m_bestFits m_far m_xs m_ys) [.ref (a_m 0), .int p1, .int p2]) (vp_Si (fun r => r = ρ)) 0 0 (fun _ => False) := by
  refine mkS (by decide +kernel) (Nat.le_of_ble_eq_true rfl) fun p e s m below meth c ls C hl hP hK => ?_
  obtain ⟨hx, hb, hml, hown, hT, hr, hlk⟩ := id C
  have hl : lv_has ls 3 [(0, .ref (a_m 0)), (1, .int p1), (2, .int p2)] := hl
  have B33 : ∀ (ls : Array Slot), lv_has ls 3 [] → f_X8_isAt_b33 N m_s = some ρ → W p l e ({ frames := 2, cells := 0, slots := 0, locals := 43 } : Room) s m ([.ref (a_m 0), .int p1, .int p2] : List Value).toArray below meth c s.heap [] 0 0 (MQ below (vp_Si (fun r => r = ρ)) ([.ref (a_m 0), .int p1, .int p2] : List Value).toArray s 0 0 (fun _ => False)) (F0 m 33 ls []) := by
    intro  ls hl hf
    refine lv_iconst (v := 1) hx hb dX8_isAt_33 (by decide) ?_
    refine lv_goto (tgt := 38) hx hb dX8_isAt_34 (by decide) ?_
    exact W.zret hx hb hr (by decide) (fun t ht hW => ⟨_, rfl, some_i hf, ht⟩) (fun _ h => by cases h) dX8_isAt_38 (hlocks := hlk)
  refine lv_aload_n hx hb dX8_isAt_0 rfl (lv_at hl 0 rfl) ?_
  refine lv_iload_n hx hb dX8_isAt_1 rfl (lv_at hl 1 rfl) ?_
  obtain ⟨r_1, hcr_1, hf⟩ := bd1_s hf
  refine backI (runV0 C (c_X8_isEdge l D cA a_m m_s m_past m_pasts m_text m_typed m_faceOfSide m_firstSide m_faces m_before m_endA m_endB m_from m_queue m_ring m_ringSize m_ringNodes m_rings m_path m_pathSize m_old m_lastRing m_bestNodes m_bestInside m_bestFits m_far m_xs m_ys p1 N r_1 hcr_1) cf_X8_isEdge km_X8_74 ⟨rfl, rfl, by decide, by decide⟩ ⟨Nat.zero_le _, Nat.zero_le _⟩ (va_recv hK.1 hP (ci := 8) (q0 := 0) rfl rfl) (hP.sub [0, 1, 2, 3, 4, 5, 6, 7, 8, 9, 10, 11, 12, 13, 14, 15, 16, 17, 18] rfl) hK hl.1 rfl rfl (Nat.le_of_ble_eq_true rfl) dX8_isAt_2) ?_
  refine lv_if_eq (tgt := 37) hx hb dX8_isAt_5 (by decide) (fun c_2 => ?_) (fun c_2 => ?_)
  · have hf := ite_t c_2 hf
    refine lv_iconst (v := 0) hx hb dX8_isAt_37 (by decide) ?_
    exact W.zret hx hb hr (by decide) (fun t ht hW => ⟨_, rfl, some_i hf, ht⟩) (fun _ h => by cases h) dX8_isAt_38 (hlocks := hlk)
  · have hf := ite_f c_2 hf
    refine lv_aload_n hx hb dX8_isAt_8 rfl (lv_at hl 0 rfl) ?_
    refine va_get (D := D) (ci := 8) (C := RX8) (T := TX8) (N := 27) hx hb hT kwX8 hown hK.1 hP 0 rfl rfl 0 (by decide) (hT _ kf_X8_7) (fun _ h9 => h9) rfl dX8_isAt_9 ?_
    refine lv_iconst (v := 3) hx hb dX8_isAt_12 (by decide) ?_
    refine lv_iload_n hx hb dX8_isAt_13 rfl (lv_at hl 1 rfl) ?_
    refine lv_iadd hx hb dX8_isAt_14 ?_
    obtain ⟨h_3, hf⟩ := chk_s hf
    refine va_iald hx hb hK.1 hP 1 0 rfl rfl (inb_in h_3) dX8_isAt_15 ?_
    refine lv_iload_n hx hb dX8_isAt_16 rfl (lv_at hl 2 rfl) ?_
    refine lv_icmp_eq (tgt := 33) hx hb dX8_isAt_17 (by decide) (fun c_4 => ?_) (fun c_4 => ?_)
    · have hf := ite_t c_4 hf
      exact B33  _ (lv_sub hl [] rfl) hf
    · have hf := ite_f c_4 hf
      refine lv_aload_n hx hb dX8_isAt_20 rfl (lv_at hl 0 rfl) ?_
      refine va_get (D := D) (ci := 8) (C := RX8) (T := TX8) (N := 27) hx hb hT kwX8 hown hK.1 hP 0 rfl rfl 0 (by decide) (hT _ kf_X8_7) (fun _ h9 => h9) rfl dX8_isAt_21 ?_
      refine lv_bipush (v := 23) hx hb dX8_isAt_24 (by decide) ?_
      refine lv_iload_n hx hb dX8_isAt_26 rfl (lv_at hl 1 rfl) ?_
      refine lv_iadd hx hb dX8_isAt_27 ?_
      obtain ⟨h_5, hf⟩ := chk_s hf
      refine va_iald hx hb hK.1 hP 1 0 rfl rfl (inb_in h_5) dX8_isAt_28 ?_
      refine lv_iload_n hx hb dX8_isAt_29 rfl (lv_at hl 2 rfl) ?_
      refine lv_icmp_ne (tgt := 37) hx hb dX8_isAt_30 (by decide) (fun c_6 => ?_) (fun c_6 => ?_)
      · have hf := ite_t c_6 hf
        refine lv_iconst (v := 0) hx hb dX8_isAt_37 (by decide) ?_
        exact W.zret hx hb hr (by decide) (fun t ht hW => ⟨_, rfl, some_i hf, ht⟩) (fun _ h => by cases h) dX8_isAt_38 (hlocks := hlk)
      · have hf := ite_fn c_6 hf
        exact B33  _ (lv_sub hl [] rfl) hf
set_option maxRecDepth 100000 in
set_option maxHeartbeats 4000000 in
theorem c_X8_between (l : Launch) (D : va_G) (cA : Nat → ClassId) (a_m : Nat → Nat) (m_s : Nat → Int32) (m_past : Nat → Int32) (m_pasts : Int32) (m_text : Nat → Int32) (m_typed : Int32) (m_faceOfSide : Nat → Int32) (m_firstSide : Nat → Int32) (m_faces : Int32) (m_before : Nat → Int32) (m_endA : Nat → Int32) (m_endB : Nat → Int32) (m_from : Nat → Int32) (m_queue : Nat → Int32) (m_ring : Nat → Int32) (m_ringSize : Nat → Int32) (m_ringNodes : Nat → Int32) (m_rings : Int32) (m_path : Nat → Int32) (m_pathSize : Int32) (m_old : Nat → Int32) (m_lastRing : Int32) (m_bestNodes : Int32) (m_bestInside : Int32) (m_bestFits : Int32) (m_far : Nat → Int32) (m_xs : Nat → UInt32) (m_ys : Nat → UInt32) (p1 : Int32) (p2 : Int32) (N : Nat) (ρ : Int32) (hf : f_X8_between N m_s p1 p2 = some ρ) : Met l yX8_between (Cond.code yX8_between cX8_between 5 (Option.some Jvm.ClassFile.FieldType.int) :: lw_g) ({ frames := 3, cells := 0, slots := 0, locals := 65 } : Room) (PcS D (tyA cA) (wX8 cA a_m m_s m_past m_pasts m_text m_typed m_faceOfSide m_firstSide m_faces m_before m_endA m_endB m_from m_queue m_ring m_ringSize m_ringNodes m_rings m_path m_pathSize m_old m_lastRing m_bestNodes m_bestInside m_bestFits m_far m_xs m_ys) [.ref (a_m 0), .int p1, .int p2]) (vp_Si (fun r => r = ρ)) 0 0 (fun _ => False) := by
  refine mkS (by decide +kernel) (Nat.le_of_ble_eq_true rfl) fun p e s m below meth c ls C hl hP hK => ?_
  obtain ⟨hx, hb, hml, hown, hT, hr, hlk⟩ := id C
  have hl : lv_has ls 5 [(0, .ref (a_m 0)), (1, .int p1), (2, .int p2)] := hl
  have B6 : ∀ (n6 : Nat), ∀ (x1 : Int32) (x2 : Int32) (x3 : Int32) (x4 : Int32) (ls : Array Slot), lv_has ls 5 [(0, .ref (a_m 0)), (1, .int x1), (2, .int x2), (3, .int x3), (4, .int x4)] → f_X8_between_b6 N m_s n6 x1 x2 x3 x4 = some ρ → W p l e ({ frames := 3, cells := 0, slots := 0, locals := 65 } : Room) s m ([.ref (a_m 0), .int p1, .int p2] : List Value).toArray below meth c s.heap [] 0 0 (MQ below (vp_Si (fun r => r = ρ)) ([.ref (a_m 0), .int p1, .int p2] : List Value).toArray s 0 0 (fun _ => False)) (F0 m 6 ls []) := by
    intro n6
    induction n6 with
    | zero =>
      intro x1 x2 x3 x4 ls hl hf
      cases (show (none : Option (Int32)) = some ρ from hf)
    | succ n6 ih6 =>
      have B43 : ∀ (x1 : Int32) (x2 : Int32) (x4 : Int32) (y0 : Int32) (ls : Array Slot), lv_has ls 5 [(0, .ref (a_m 0)), (1, .int x1), (2, .int x2), (4, .int x4)] → f_X8_between_b43 N m_s (f_X8_between_b6 N m_s n6) x1 x2 x4 y0 = some ρ → W p l e ({ frames := 3, cells := 0, slots := 0, locals := 65 } : Room) s m ([.ref (a_m 0), .int p1, .int p2] : List Value).toArray below meth c s.heap [] 0 0 (MQ below (vp_Si (fun r => r = ρ)) ([.ref (a_m 0), .int p1, .int p2] : List Value).toArray s 0 0 (fun _ => False)) (F0 m 43 ls [.int y0]) := by
        intro x1 x2 x4 y0 ls hl hf
        refine lv_istore_n (lv' := [(3, .int y0), (0, .ref (a_m 0)), (1, .int x1), (2, .int x2), (4, .int x4)]) hx hb dX8_between_43 rfl hl (by decide) rfl (fun ls hl => ?_)
        refine lv_iinc (v := (x4 + 1)) (lv' := [(4, .int (x4 + 1)), (3, .int y0), (0, .ref (a_m 0)), (1, .int x1), (2, .int x2)]) hx hb dX8_between_44 hl (k := 4) rfl rfl (by decide) rfl (fun ls hl => ?_)
        refine lv_goto (tgt := 6) hx hb dX8_between_47 (by decide) ?_
        exact ih6 x1 x2 y0 (x4 + 1) _ (lv_sub hl [2, 3, 4, 1, 0] rfl) hf
      have B42 : ∀ (x1 : Int32) (x2 : Int32) (x3 : Int32) (x4 : Int32) (ls : Array Slot), lv_has ls 5 [(0, .ref (a_m 0)), (1, .int x1), (2, .int x2), (3, .int x3), (4, .int x4)] → f_X8_between_b42 N m_s (f_X8_between_b6 N m_s n6) x1 x2 x3 x4 = some ρ → W p l e ({ frames := 3, cells := 0, slots := 0, locals := 65 } : Room) s m ([.ref (a_m 0), .int p1, .int p2] : List Value).toArray below meth c s.heap [] 0 0 (MQ below (vp_Si (fun r => r = ρ)) ([.ref (a_m 0), .int p1, .int p2] : List Value).toArray s 0 0 (fun _ => False)) (F0 m 42 ls []) := by
        intro x1 x2 x3 x4 ls hl hf
        refine lv_iload_n hx hb dX8_between_42 rfl (lv_at hl 3 rfl) ?_
        exact B43 x1 x2 x4 x3 _ (lv_sub hl [0, 1, 2, 4] rfl) hf
      intro x1 x2 x3 x4 ls hl hf
      refine lv_iload hx hb dX8_between_6 (lv_at hl 4 rfl) ?_
      refine lv_aload_n hx hb dX8_between_8 rfl (lv_at hl 0 rfl) ?_
      refine va_get (D := D) (ci := 8) (C := RX8) (T := TX8) (N := 27) hx hb hT kwX8 hown hK.1 hP 0 rfl rfl 0 (by decide) (hT _ kf_X8_7) (fun _ h9 => h9) rfl dX8_between_9 ?_
      refine lv_iconst (v := 1) hx hb dX8_between_12 (by decide) ?_
      obtain ⟨h_1, hf⟩ := chk_s hf
      refine va_iald hx hb hK.1 hP 1 0 rfl rfl (inb_in h_1) dX8_between_13 ?_
      refine lv_icmp_ge (tgt := 50) hx hb dX8_between_14 (by decide) (fun c_2 => ?_) (fun c_2 => ?_)
      · have hf := ite_t c_2 hf
        refine lv_iload_n hx hb dX8_between_50 rfl (lv_at hl 3 rfl) ?_
        exact W.iret hx hb hr (fun t ht hW => ⟨_, rfl, some_i hf, ht⟩) (fun _ h => by cases h) dX8_between_51 (hlocks := hlk)
      · have hf := ite_f c_2 hf
        refine lv_aload_n hx hb dX8_between_17 rfl (lv_at hl 0 rfl) ?_
        refine lv_iload hx hb dX8_between_18 (lv_at hl 4 rfl) ?_
        refine lv_iload_n hx hb dX8_between_20 rfl (lv_at hl 1 rfl) ?_
        obtain ⟨r_3, hcr_3, hf⟩ := bd1_s hf
        refine backI (runV0 C (c_X8_isAt l D cA a_m m_s m_past m_pasts m_text m_typed m_faceOfSide m_firstSide m_faces m_before m_endA m_endB m_from m_queue m_ring m_ringSize m_ringNodes m_rings m_path m_pathSize m_old m_lastRing m_bestNodes m_bestInside m_bestFits m_far m_xs m_ys x4 x1 N r_3 hcr_3) cf_X8_isAt km_X8_82 ⟨rfl, rfl, by decide, by decide⟩ ⟨Nat.zero_le _, Nat.zero_le _⟩ (va_recv hK.1 hP (ci := 8) (q0 := 0) rfl rfl) (hP.sub [0, 1, 2, 3, 4, 5, 6, 7, 8, 9, 10, 11, 12, 13, 14, 15, 16, 17, 18] rfl) hK hl.1 rfl rfl (Nat.le_of_ble_eq_true rfl) dX8_between_21) ?_
        refine lv_if_eq (tgt := 42) hx hb dX8_between_24 (by decide) (fun c_4 => ?_) (fun c_4 => ?_)
        · have hf := ite_t c_4 hf
          exact B42 x1 x2 x3 x4 _ (lv_sub hl [0, 1, 2, 3, 4] rfl) hf
        · have hf := ite_f c_4 hf
          refine lv_aload_n hx hb dX8_between_27 rfl (lv_at hl 0 rfl) ?_
          refine lv_iload hx hb dX8_between_28 (lv_at hl 4 rfl) ?_
          refine lv_iload_n hx hb dX8_between_30 rfl (lv_at hl 2 rfl) ?_
          obtain ⟨r_5, hcr_5, hf⟩ := bd1_s hf
          refine backI (runV0 C (c_X8_isAt l D cA a_m m_s m_past m_pasts m_text m_typed m_faceOfSide m_firstSide m_faces m_before m_endA m_endB m_from m_queue m_ring m_ringSize m_ringNodes m_rings m_path m_pathSize m_old m_lastRing m_bestNodes m_bestInside m_bestFits m_far m_xs m_ys x4 x2 N r_5 hcr_5) cf_X8_isAt km_X8_82 ⟨rfl, rfl, by decide, by decide⟩ ⟨Nat.zero_le _, Nat.zero_le _⟩ (va_recv hK.1 hP (ci := 8) (q0 := 0) rfl rfl) (hP.sub [0, 1, 2, 3, 4, 5, 6, 7, 8, 9, 10, 11, 12, 13, 14, 15, 16, 17, 18] rfl) hK hl.1 rfl rfl (Nat.le_of_ble_eq_true rfl) dX8_between_31) ?_
          refine lv_if_eq (tgt := 42) hx hb dX8_between_34 (by decide) (fun c_6 => ?_) (fun c_6 => ?_)
          · have hf := ite_t c_6 hf
            exact B42 x1 x2 x3 x4 _ (lv_sub hl [0, 1, 2, 3, 4] rfl) hf
          · have hf := ite_f c_6 hf
            refine lv_iload hx hb dX8_between_37 (lv_at hl 4 rfl) ?_
            refine lv_goto (tgt := 43) hx hb dX8_between_39 (by decide) ?_
            exact B43 x1 x2 x4 x4 _ (lv_sub hl [0, 1, 2, 4] rfl) hf
  refine lv_bipush (v := (-9)) hx hb dX8_between_0 (by decide) ?_
  refine lv_istore_n (lv' := [(3, .int (-9)), (0, .ref (a_m 0)), (1, .int p1), (2, .int p2)]) hx hb dX8_between_2 rfl hl (by decide) rfl (fun ls hl => ?_)
  refine lv_iconst (v := 0) hx hb dX8_between_3 (by decide) ?_
  refine lv_istore (lv' := [(4, .int 0), (3, .int (-9)), (0, .ref (a_m 0)), (1, .int p1), (2, .int p2)]) hx hb dX8_between_4 hl (by decide) rfl (fun ls hl => ?_)
  exact B6 N p1 p2 (-9) 0 _ (lv_sub hl [2, 3, 4, 1, 0] rfl) hf
set_option maxRecDepth 100000 in
set_option maxHeartbeats 4000000 in
theorem c_X8_notes (l : Launch) (D : va_G) (cA : Nat → ClassId) (a_m : Nat → Nat) (m_s : Nat → Int32) (m_past : Nat → Int32) (m_pasts : Int32) (m_text : Nat → Int32) (m_typed : Int32) (m_faceOfSide : Nat → Int32) (m_firstSide : Nat → Int32) (m_faces : Int32) (m_before : Nat → Int32) (m_endA : Nat → Int32) (m_endB : Nat → Int32) (m_from : Nat → Int32) (m_queue : Nat → Int32) (m_ring : Nat → Int32) (m_ringSize : Nat → Int32) (m_ringNodes : Nat → Int32) (m_rings : Int32) (m_path : Nat → Int32) (m_pathSize : Int32) (m_old : Nat → Int32) (m_lastRing : Int32) (m_bestNodes : Int32) (m_bestInside : Int32) (m_bestFits : Int32) (m_far : Nat → Int32) (m_xs : Nat → UInt32) (m_ys : Nat → UInt32) (sz N : Nat) (ρ : (Nat → Int32) × Int32) (hf : f_X8_notes N m_s m_past m_pasts = some ρ) : Met l yX8_notes (Cond.code yX8_notes cX8_notes 2 (Option.none : Option Jvm.ClassFile.FieldType) :: lw_g) ({ frames := 0, cells := 0, slots := 0, locals := 0 } : Room) (PcW D (tyA cA) (wX8 cA a_m m_s m_past m_pasts m_text m_typed m_faceOfSide m_firstSide m_faces m_before m_endA m_endB m_from m_queue m_ring m_ringSize m_ringNodes m_rings m_path m_pathSize m_old m_lastRing m_bestNodes m_bestInside m_bestFits m_far m_xs m_ys) sz [.ref (a_m 0)]) (va_Qv (fun (_ : Unit) => True) (fun _ t => va_P D vwCl (wX8 cA a_m m_s ρ.1 ρ.2 m_text m_typed m_faceOfSide m_firstSide m_faces m_before m_endA m_endB m_from m_queue m_ring m_ringSize m_ringNodes m_rings m_path m_pathSize m_old m_lastRing m_bestNodes m_bestInside m_bestFits m_far m_xs m_ys) t.heap ∧ va_D (va_A (wX8 cA a_m m_s m_past m_pasts m_text m_typed m_faceOfSide m_firstSide m_faces m_before m_endA m_endB m_from m_queue m_ring m_ringSize m_ringNodes m_rings m_path m_pathSize m_old m_lastRing m_bestNodes m_bestInside m_bestFits m_far m_xs m_ys) sz) (wX8 cA a_m m_s ρ.1 ρ.2 m_text m_typed m_faceOfSide m_firstSide m_faces m_before m_endA m_endB m_from m_queue m_ring m_ringSize m_ringNodes m_rings m_path m_pathSize m_old m_lastRing m_bestNodes m_bestInside m_bestFits m_far m_xs m_ys)) (va_A (wX8 cA a_m m_s m_past m_pasts m_text m_typed m_faceOfSide m_firstSide m_faces m_before m_endA m_endB m_from m_queue m_ring m_ringSize m_ringNodes m_rings m_path m_pathSize m_old m_lastRing m_bestNodes m_bestInside m_bestFits m_far m_xs m_ys) sz)) 0 0 (va_A (wX8 cA a_m m_s m_past m_pasts m_text m_typed m_faceOfSide m_firstSide m_faces m_before m_endA m_endB m_from m_queue m_ring m_ringSize m_ringNodes m_rings m_path m_pathSize m_old m_lastRing m_bestNodes m_bestInside m_bestFits m_far m_xs m_ys) sz) := by
  refine mkW (QQ := fun A => va_Qv (fun (_ : Unit) => True) (fun _ t => va_P D vwCl (wX8 cA a_m m_s ρ.1 ρ.2 m_text m_typed m_faceOfSide m_firstSide m_faces m_before m_endA m_endB m_from m_queue m_ring m_ringSize m_ringNodes m_rings m_path m_pathSize m_old m_lastRing m_bestNodes m_bestInside m_bestFits m_far m_xs m_ys) t.heap ∧ va_D A (wX8 cA a_m m_s ρ.1 ρ.2 m_text m_typed m_faceOfSide m_firstSide m_faces m_before m_endA m_endB m_from m_queue m_ring m_ringSize m_ringNodes m_rings m_path m_pathSize m_old m_lastRing m_bestNodes m_bestInside m_bestFits m_far m_xs m_ys)) A) (by decide) (Nat.le_of_ble_eq_true rfl) fun p e s m below meth c ls A C hl hP hK hD hA hS => ?_
  obtain ⟨hx, hb, hml, hown, hT, hr, hlk⟩ := id C
  have hl : lv_has ls 2 [(0, .ref (a_m 0))] := hl
  have B83 : ∀ (m_past : Nat → Int32) (m_pasts : Int32) (H : Heap) (locs : List Loc) (ls : Array Slot), lv_has ls 2 [(0, .ref (a_m 0))] → va_P D vwCl (wX8 cA a_m m_s m_past m_pasts m_text m_typed m_faceOfSide m_firstSide m_faces m_before m_endA m_endB m_from m_queue m_ring m_ringSize m_ringNodes m_rings m_path m_pathSize m_old m_lastRing m_bestNodes m_bestInside m_bestFits m_far m_xs m_ys) H → va_D A (wX8 cA a_m m_s m_past m_pasts m_text m_typed m_faceOfSide m_firstSide m_faces m_before m_endA m_endB m_from m_queue m_ring m_ringSize m_ringNodes m_rings m_path m_pathSize m_old m_lastRing m_bestNodes m_bestInside m_bestFits m_far m_xs m_ys) → va_S A s.heap H locs → f_X8_notes_b83 N m_s m_past m_pasts = some ρ → W p l e ({ frames := 0, cells := 0, slots := 0, locals := 0 } : Room) s m ([.ref (a_m 0)] : List Value).toArray below meth c H locs 0 0 (MQ below (va_Qv (fun (_ : Unit) => True) (fun _ t => va_P D vwCl (wX8 cA a_m m_s ρ.1 ρ.2 m_text m_typed m_faceOfSide m_firstSide m_faces m_before m_endA m_endB m_from m_queue m_ring m_ringSize m_ringNodes m_rings m_path m_pathSize m_old m_lastRing m_bestNodes m_bestInside m_bestFits m_far m_xs m_ys) t.heap ∧ va_D A (wX8 cA a_m m_s ρ.1 ρ.2 m_text m_typed m_faceOfSide m_firstSide m_faces m_before m_endA m_endB m_from m_queue m_ring m_ringSize m_ringNodes m_rings m_path m_pathSize m_old m_lastRing m_bestNodes m_bestInside m_bestFits m_far m_xs m_ys)) A) ([.ref (a_m 0)] : List Value).toArray s 0 0 A) (F0 m 83 ls []) := by
    intro m_past m_pasts H locs ls hl hP hD hS hf
    refine lv_aload_n hx hb dX8_notes_83 rfl (lv_at hl 0 rfl) ?_
    refine lv_dup hx hb dX8_notes_84 rfl ?_
    refine va_get (D := D) (ci := 8) (C := RX8) (T := TX8) (N := 27) hx hb hT kwX8 hown hK.1 hP 0 rfl rfl 2 (by decide) (hT _ kf_X8_66) (fun _ h9 => h9) rfl dX8_notes_85 ?_
    refine lv_iconst (v := 1) hx hb dX8_notes_88 (by decide) ?_
    refine lv_iadd hx hb dX8_notes_89 ?_
    refine va_put (D := D) (ci := 8) (v := .int (m_pasts + 1)) (ty := .int) (C := RX8) (T := TX8) (N := 27) hx hb hT kwX8 tyX8 tyX8_ok nmX8 hown hK.1 hP hD hS 0 rfl rfl 2 (by decide) (hT _ kf_X8_66) (fun _ h9 => h9) rfl (by decide +kernel) rfl rfl (Nat.le_of_ble_eq_true rfl) dX8_notes_90 (fun H locs hP hD hS => ?_)
    have hP : va_P D vwCl (wX8 cA a_m m_s m_past (m_pasts + 1) m_text m_typed m_faceOfSide m_firstSide m_faces m_before m_endA m_endB m_from m_queue m_ring m_ringSize m_ringNodes m_rings m_path m_pathSize m_old m_lastRing m_bestNodes m_bestInside m_bestFits m_far m_xs m_ys) H := hP
    have hD : va_D A (wX8 cA a_m m_s m_past (m_pasts + 1) m_text m_typed m_faceOfSide m_firstSide m_faces m_before m_endA m_endB m_from m_queue m_ring m_ringSize m_ringNodes m_rings m_path m_pathSize m_old m_lastRing m_bestNodes m_bestInside m_bestFits m_far m_xs m_ys) := hD
    have eR := some_i hf
    exact W.vret hx hb hr (fun t ht hW => ⟨⟨(), rfl, trivial, by rw [← eR, ht]; exact hP, by rw [← eR]; exact hD⟩, hS.F ht⟩) hS.2.2 dX8_notes_93 (hlocks := hlk)
  have B51 : ∀ (n51 : Nat), ∀ (x1 : Int32) (m_past : Nat → Int32) (m_pasts : Int32) (H : Heap) (locs : List Loc) (ls : Array Slot), lv_has ls 2 [(0, .ref (a_m 0)), (1, .int x1)] → va_P D vwCl (wX8 cA a_m m_s m_past m_pasts m_text m_typed m_faceOfSide m_firstSide m_faces m_before m_endA m_endB m_from m_queue m_ring m_ringSize m_ringNodes m_rings m_path m_pathSize m_old m_lastRing m_bestNodes m_bestInside m_bestFits m_far m_xs m_ys) H → va_D A (wX8 cA a_m m_s m_past m_pasts m_text m_typed m_faceOfSide m_firstSide m_faces m_before m_endA m_endB m_from m_queue m_ring m_ringSize m_ringNodes m_rings m_path m_pathSize m_old m_lastRing m_bestNodes m_bestInside m_bestFits m_far m_xs m_ys) → va_S A s.heap H locs → f_X8_notes_b51 N m_s n51 x1 m_past m_pasts = some ρ → W p l e ({ frames := 0, cells := 0, slots := 0, locals := 0 } : Room) s m ([.ref (a_m 0)] : List Value).toArray below meth c H locs 0 0 (MQ below (va_Qv (fun (_ : Unit) => True) (fun _ t => va_P D vwCl (wX8 cA a_m m_s ρ.1 ρ.2 m_text m_typed m_faceOfSide m_firstSide m_faces m_before m_endA m_endB m_from m_queue m_ring m_ringSize m_ringNodes m_rings m_path m_pathSize m_old m_lastRing m_bestNodes m_bestInside m_bestFits m_far m_xs m_ys) t.heap ∧ va_D A (wX8 cA a_m m_s ρ.1 ρ.2 m_text m_typed m_faceOfSide m_firstSide m_faces m_before m_endA m_endB m_from m_queue m_ring m_ringSize m_ringNodes m_rings m_path m_pathSize m_old m_lastRing m_bestNodes m_bestInside m_bestFits m_far m_xs m_ys)) A) ([.ref (a_m 0)] : List Value).toArray s 0 0 A) (F0 m 51 ls []) := by
    intro n51
    induction n51 with
    | zero =>
      intro x1 m_past m_pasts H locs ls hl hP hD hS hf
      cases (show (none : Option ((Nat → Int32) × Int32)) = some ρ from hf)
    | succ n51 ih51 =>
      intro x1 m_past m_pasts H locs ls hl hP hD hS hf
      refine lv_iload_n hx hb dX8_notes_51 rfl (lv_at hl 1 rfl) ?_
      refine lv_bipush (v := 124) hx hb dX8_notes_52 (by decide) ?_
      refine lv_icmp_ge (tgt := 83) hx hb dX8_notes_54 (by decide) (fun c_5 => ?_) (fun c_5 => ?_)
      · have hf := ite_t c_5 hf
        exact B83 m_past m_pasts _ _ _ (lv_sub hl [0] rfl) hP hD hS hf
      · have hf := ite_f c_5 hf
        refine lv_aload_n hx hb dX8_notes_57 rfl (lv_at hl 0 rfl) ?_
        refine va_get (D := D) (ci := 8) (C := RX8) (T := TX8) (N := 27) hx hb hT kwX8 hown hK.1 hP 0 rfl rfl 1 (by decide) (hT _ kf_X8_13) (fun _ h9 => h9) rfl dX8_notes_58 ?_
        refine lv_bipush (v := 124) hx hb dX8_notes_61 (by decide) ?_
        refine lv_aload_n hx hb dX8_notes_63 rfl (lv_at hl 0 rfl) ?_
        refine va_get (D := D) (ci := 8) (C := RX8) (T := TX8) (N := 27) hx hb hT kwX8 hown hK.1 hP 0 rfl rfl 2 (by decide) (hT _ kf_X8_66) (fun _ h9 => h9) rfl dX8_notes_64 ?_
        refine lv_imul hx hb dX8_notes_67 ?_
        refine lv_iload_n hx hb dX8_notes_68 rfl (lv_at hl 1 rfl) ?_
        refine lv_iadd hx hb dX8_notes_69 ?_
        refine lv_aload_n hx hb dX8_notes_70 rfl (lv_at hl 0 rfl) ?_
        refine va_get (D := D) (ci := 8) (C := RX8) (T := TX8) (N := 27) hx hb hT kwX8 hown hK.1 hP 0 rfl rfl 0 (by decide) (hT _ kf_X8_7) (fun _ h9 => h9) rfl dX8_notes_71 ?_
        refine lv_iload_n hx hb dX8_notes_74 rfl (lv_at hl 1 rfl) ?_
        obtain ⟨h_6, hf⟩ := chk_s hf
        refine va_iald hx hb hK.1 hP 1 0 rfl rfl (inb_in h_6) dX8_notes_75 ?_
        obtain ⟨h_7, hf⟩ := chk_s hf
        refine va_iast hx hb hK.1 hP hD hS 2 0 rfl rfl (inb_in h_7) dX8_notes_76 (fun H locs hP hD hS => ?_)
        have hP : va_P D vwCl (wX8 cA a_m m_s (upd m_past ((124 * m_pasts) + x1).toNatClampNeg (m_s x1.toNatClampNeg)) m_pasts m_text m_typed m_faceOfSide m_firstSide m_faces m_before m_endA m_endB m_from m_queue m_ring m_ringSize m_ringNodes m_rings m_path m_pathSize m_old m_lastRing m_bestNodes m_bestInside m_bestFits m_far m_xs m_ys) H := hP
        have hD : va_D A (wX8 cA a_m m_s (upd m_past ((124 * m_pasts) + x1).toNatClampNeg (m_s x1.toNatClampNeg)) m_pasts m_text m_typed m_faceOfSide m_firstSide m_faces m_before m_endA m_endB m_from m_queue m_ring m_ringSize m_ringNodes m_rings m_path m_pathSize m_old m_lastRing m_bestNodes m_bestInside m_bestFits m_far m_xs m_ys) := hD
        refine lv_iinc (v := (x1 + 1)) (lv' := [(1, .int (x1 + 1)), (0, .ref (a_m 0))]) hx hb dX8_notes_77 hl (k := 1) rfl rfl (by decide) rfl (fun ls hl => ?_)
        refine lv_goto (tgt := 51) hx hb dX8_notes_80 (by decide) ?_
        exact ih51 (x1 + 1) (upd m_past ((124 * m_pasts) + x1).toNatClampNeg (m_s x1.toNatClampNeg)) m_pasts _ _ _ (lv_sub hl [1, 0] rfl) hP hD hS hf
  have B49 : ∀ (m_past : Nat → Int32) (m_pasts : Int32) (H : Heap) (locs : List Loc) (ls : Array Slot), lv_has ls 2 [(0, .ref (a_m 0))] → va_P D vwCl (wX8 cA a_m m_s m_past m_pasts m_text m_typed m_faceOfSide m_firstSide m_faces m_before m_endA m_endB m_from m_queue m_ring m_ringSize m_ringNodes m_rings m_path m_pathSize m_old m_lastRing m_bestNodes m_bestInside m_bestFits m_far m_xs m_ys) H → va_D A (wX8 cA a_m m_s m_past m_pasts m_text m_typed m_faceOfSide m_firstSide m_faces m_before m_endA m_endB m_from m_queue m_ring m_ringSize m_ringNodes m_rings m_path m_pathSize m_old m_lastRing m_bestNodes m_bestInside m_bestFits m_far m_xs m_ys) → va_S A s.heap H locs → f_X8_notes_b49 N m_s m_past m_pasts = some ρ → W p l e ({ frames := 0, cells := 0, slots := 0, locals := 0 } : Room) s m ([.ref (a_m 0)] : List Value).toArray below meth c H locs 0 0 (MQ below (va_Qv (fun (_ : Unit) => True) (fun _ t => va_P D vwCl (wX8 cA a_m m_s ρ.1 ρ.2 m_text m_typed m_faceOfSide m_firstSide m_faces m_before m_endA m_endB m_from m_queue m_ring m_ringSize m_ringNodes m_rings m_path m_pathSize m_old m_lastRing m_bestNodes m_bestInside m_bestFits m_far m_xs m_ys) t.heap ∧ va_D A (wX8 cA a_m m_s ρ.1 ρ.2 m_text m_typed m_faceOfSide m_firstSide m_faces m_before m_endA m_endB m_from m_queue m_ring m_ringSize m_ringNodes m_rings m_path m_pathSize m_old m_lastRing m_bestNodes m_bestInside m_bestFits m_far m_xs m_ys)) A) ([.ref (a_m 0)] : List Value).toArray s 0 0 A) (F0 m 49 ls []) := by
    intro m_past m_pasts H locs ls hl hP hD hS hf
    refine lv_iconst (v := 0) hx hb dX8_notes_49 (by decide) ?_
    refine lv_istore_n (lv' := [(1, .int 0), (0, .ref (a_m 0))]) hx hb dX8_notes_50 rfl hl (by decide) rfl (fun ls hl => ?_)
    exact B51 N 0 m_past m_pasts _ _ _ (lv_sub hl [1, 0] rfl) hP hD hS hf
  have B39 : ∀ (m_past : Nat → Int32) (m_pasts : Int32) (H : Heap) (locs : List Loc) (ls : Array Slot), lv_has ls 2 [(0, .ref (a_m 0))] → va_P D vwCl (wX8 cA a_m m_s m_past m_pasts m_text m_typed m_faceOfSide m_firstSide m_faces m_before m_endA m_endB m_from m_queue m_ring m_ringSize m_ringNodes m_rings m_path m_pathSize m_old m_lastRing m_bestNodes m_bestInside m_bestFits m_far m_xs m_ys) H → va_D A (wX8 cA a_m m_s m_past m_pasts m_text m_typed m_faceOfSide m_firstSide m_faces m_before m_endA m_endB m_from m_queue m_ring m_ringSize m_ringNodes m_rings m_path m_pathSize m_old m_lastRing m_bestNodes m_bestInside m_bestFits m_far m_xs m_ys) → va_S A s.heap H locs → f_X8_notes_b39 N m_s m_past m_pasts = some ρ → W p l e ({ frames := 0, cells := 0, slots := 0, locals := 0 } : Room) s m ([.ref (a_m 0)] : List Value).toArray below meth c H locs 0 0 (MQ below (va_Qv (fun (_ : Unit) => True) (fun _ t => va_P D vwCl (wX8 cA a_m m_s ρ.1 ρ.2 m_text m_typed m_faceOfSide m_firstSide m_faces m_before m_endA m_endB m_from m_queue m_ring m_ringSize m_ringNodes m_rings m_path m_pathSize m_old m_lastRing m_bestNodes m_bestInside m_bestFits m_far m_xs m_ys) t.heap ∧ va_D A (wX8 cA a_m m_s ρ.1 ρ.2 m_text m_typed m_faceOfSide m_firstSide m_faces m_before m_endA m_endB m_from m_queue m_ring m_ringSize m_ringNodes m_rings m_path m_pathSize m_old m_lastRing m_bestNodes m_bestInside m_bestFits m_far m_xs m_ys)) A) ([.ref (a_m 0)] : List Value).toArray s 0 0 A) (F0 m 39 ls []) := by
    intro m_past m_pasts H locs ls hl hP hD hS hf
    refine lv_aload_n hx hb dX8_notes_39 rfl (lv_at hl 0 rfl) ?_
    refine lv_dup hx hb dX8_notes_40 rfl ?_
    refine va_get (D := D) (ci := 8) (C := RX8) (T := TX8) (N := 27) hx hb hT kwX8 hown hK.1 hP 0 rfl rfl 2 (by decide) (hT _ kf_X8_66) (fun _ h9 => h9) rfl dX8_notes_41 ?_
    refine lv_iconst (v := 1) hx hb dX8_notes_44 (by decide) ?_
    refine lv_isub hx hb dX8_notes_45 ?_
    refine va_put (D := D) (ci := 8) (v := .int (m_pasts - 1)) (ty := .int) (C := RX8) (T := TX8) (N := 27) hx hb hT kwX8 tyX8 tyX8_ok nmX8 hown hK.1 hP hD hS 0 rfl rfl 2 (by decide) (hT _ kf_X8_66) (fun _ h9 => h9) rfl (by decide +kernel) rfl rfl (Nat.le_of_ble_eq_true rfl) dX8_notes_46 (fun H locs hP hD hS => ?_)
    have hP : va_P D vwCl (wX8 cA a_m m_s m_past (m_pasts - 1) m_text m_typed m_faceOfSide m_firstSide m_faces m_before m_endA m_endB m_from m_queue m_ring m_ringSize m_ringNodes m_rings m_path m_pathSize m_old m_lastRing m_bestNodes m_bestInside m_bestFits m_far m_xs m_ys) H := hP
    have hD : va_D A (wX8 cA a_m m_s m_past (m_pasts - 1) m_text m_typed m_faceOfSide m_firstSide m_faces m_before m_endA m_endB m_from m_queue m_ring m_ringSize m_ringNodes m_rings m_path m_pathSize m_old m_lastRing m_bestNodes m_bestInside m_bestFits m_far m_xs m_ys) := hD
    exact B49 m_past (m_pasts - 1) _ _ _ (lv_sub hl [0] rfl) hP hD hS hf
  have B11 : ∀ (n11 : Nat), ∀ (x1 : Int32) (m_past : Nat → Int32) (m_pasts : Int32) (H : Heap) (locs : List Loc) (ls : Array Slot), lv_has ls 2 [(0, .ref (a_m 0)), (1, .int x1)] → va_P D vwCl (wX8 cA a_m m_s m_past m_pasts m_text m_typed m_faceOfSide m_firstSide m_faces m_before m_endA m_endB m_from m_queue m_ring m_ringSize m_ringNodes m_rings m_path m_pathSize m_old m_lastRing m_bestNodes m_bestInside m_bestFits m_far m_xs m_ys) H → va_D A (wX8 cA a_m m_s m_past m_pasts m_text m_typed m_faceOfSide m_firstSide m_faces m_before m_endA m_endB m_from m_queue m_ring m_ringSize m_ringNodes m_rings m_path m_pathSize m_old m_lastRing m_bestNodes m_bestInside m_bestFits m_far m_xs m_ys) → va_S A s.heap H locs → f_X8_notes_b11 N m_s n11 x1 m_past m_pasts = some ρ → W p l e ({ frames := 0, cells := 0, slots := 0, locals := 0 } : Room) s m ([.ref (a_m 0)] : List Value).toArray below meth c H locs 0 0 (MQ below (va_Qv (fun (_ : Unit) => True) (fun _ t => va_P D vwCl (wX8 cA a_m m_s ρ.1 ρ.2 m_text m_typed m_faceOfSide m_firstSide m_faces m_before m_endA m_endB m_from m_queue m_ring m_ringSize m_ringNodes m_rings m_path m_pathSize m_old m_lastRing m_bestNodes m_bestInside m_bestFits m_far m_xs m_ys) t.heap ∧ va_D A (wX8 cA a_m m_s ρ.1 ρ.2 m_text m_typed m_faceOfSide m_firstSide m_faces m_before m_endA m_endB m_from m_queue m_ring m_ringSize m_ringNodes m_rings m_path m_pathSize m_old m_lastRing m_bestNodes m_bestInside m_bestFits m_far m_xs m_ys)) A) ([.ref (a_m 0)] : List Value).toArray s 0 0 A) (F0 m 11 ls []) := by
    intro n11
    induction n11 with
    | zero =>
      intro x1 m_past m_pasts H locs ls hl hP hD hS hf
      cases (show (none : Option ((Nat → Int32) × Int32)) = some ρ from hf)
    | succ n11 ih11 =>
      intro x1 m_past m_pasts H locs ls hl hP hD hS hf
      refine lv_iload_n hx hb dX8_notes_11 rfl (lv_at hl 1 rfl) ?_
      refine lv_sipush (v := 620) hx hb dX8_notes_12 (by decide) ?_
      refine lv_icmp_ge (tgt := 39) hx hb dX8_notes_15 (by decide) (fun c_2 => ?_) (fun c_2 => ?_)
      · have hf := ite_t c_2 hf
        exact B39 m_past m_pasts _ _ _ (lv_sub hl [0] rfl) hP hD hS hf
      · have hf := ite_f c_2 hf
        refine lv_aload_n hx hb dX8_notes_18 rfl (lv_at hl 0 rfl) ?_
        refine va_get (D := D) (ci := 8) (C := RX8) (T := TX8) (N := 27) hx hb hT kwX8 hown hK.1 hP 0 rfl rfl 1 (by decide) (hT _ kf_X8_13) (fun _ h9 => h9) rfl dX8_notes_19 ?_
        refine lv_iload_n hx hb dX8_notes_22 rfl (lv_at hl 1 rfl) ?_
        refine lv_aload_n hx hb dX8_notes_23 rfl (lv_at hl 0 rfl) ?_
        refine va_get (D := D) (ci := 8) (C := RX8) (T := TX8) (N := 27) hx hb hT kwX8 hown hK.1 hP 0 rfl rfl 1 (by decide) (hT _ kf_X8_13) (fun _ h9 => h9) rfl dX8_notes_24 ?_
        refine lv_iload_n hx hb dX8_notes_27 rfl (lv_at hl 1 rfl) ?_
        refine lv_bipush (v := 124) hx hb dX8_notes_28 (by decide) ?_
        refine lv_iadd hx hb dX8_notes_30 ?_
        obtain ⟨h_3, hf⟩ := chk_s hf
        refine va_iald hx hb hK.1 hP 2 0 rfl rfl (inb_in h_3) dX8_notes_31 ?_
        obtain ⟨h_4, hf⟩ := chk_s hf
        refine va_iast hx hb hK.1 hP hD hS 2 0 rfl rfl (inb_in h_4) dX8_notes_32 (fun H locs hP hD hS => ?_)
        have hP : va_P D vwCl (wX8 cA a_m m_s (upd m_past x1.toNatClampNeg (m_past (x1 + 124).toNatClampNeg)) m_pasts m_text m_typed m_faceOfSide m_firstSide m_faces m_before m_endA m_endB m_from m_queue m_ring m_ringSize m_ringNodes m_rings m_path m_pathSize m_old m_lastRing m_bestNodes m_bestInside m_bestFits m_far m_xs m_ys) H := hP
        have hD : va_D A (wX8 cA a_m m_s (upd m_past x1.toNatClampNeg (m_past (x1 + 124).toNatClampNeg)) m_pasts m_text m_typed m_faceOfSide m_firstSide m_faces m_before m_endA m_endB m_from m_queue m_ring m_ringSize m_ringNodes m_rings m_path m_pathSize m_old m_lastRing m_bestNodes m_bestInside m_bestFits m_far m_xs m_ys) := hD
        refine lv_iinc (v := (x1 + 1)) (lv' := [(1, .int (x1 + 1)), (0, .ref (a_m 0))]) hx hb dX8_notes_33 hl (k := 1) rfl rfl (by decide) rfl (fun ls hl => ?_)
        refine lv_goto (tgt := 11) hx hb dX8_notes_36 (by decide) ?_
        exact ih11 (x1 + 1) (upd m_past x1.toNatClampNeg (m_past (x1 + 124).toNatClampNeg)) m_pasts _ _ _ (lv_sub hl [1, 0] rfl) hP hD hS hf
  refine lv_aload_n hx hb dX8_notes_0 rfl (lv_at hl 0 rfl) ?_
  refine va_get (D := D) (ci := 8) (C := RX8) (T := TX8) (N := 27) hx hb hT kwX8 hown hK.1 hP 0 rfl rfl 2 (by decide) (hT _ kf_X8_66) (fun _ h9 => h9) rfl dX8_notes_1 ?_
  refine lv_bipush (v := 6) hx hb dX8_notes_4 (by decide) ?_
  refine lv_icmp_ne (tgt := 49) hx hb dX8_notes_6 (by decide) (fun c_1 => ?_) (fun c_1 => ?_)
  · have hf := ite_t c_1 hf
    exact B49 m_past m_pasts _ _ _ (lv_sub hl [0] rfl) hP hD hS hf
  · have hf := ite_fn c_1 hf
    refine lv_iconst (v := 0) hx hb dX8_notes_9 (by decide) ?_
    refine lv_istore_n (lv' := [(1, .int 0), (0, .ref (a_m 0))]) hx hb dX8_notes_10 rfl hl (by decide) rfl (fun ls hl => ?_)
    exact B11 N 0 m_past m_pasts _ _ _ (lv_sub hl [1, 0] rfl) hP hD hS hf
set_option maxRecDepth 100000 in
set_option maxHeartbeats 4000000 in
theorem c_X8_turn (l : Launch) (D : va_G) (cA : Nat → ClassId) (a_m : Nat → Nat) (m_s : Nat → Int32) (m_past : Nat → Int32) (m_pasts : Int32) (m_text : Nat → Int32) (m_typed : Int32) (m_faceOfSide : Nat → Int32) (m_firstSide : Nat → Int32) (m_faces : Int32) (m_before : Nat → Int32) (m_endA : Nat → Int32) (m_endB : Nat → Int32) (m_from : Nat → Int32) (m_queue : Nat → Int32) (m_ring : Nat → Int32) (m_ringSize : Nat → Int32) (m_ringNodes : Nat → Int32) (m_rings : Int32) (m_path : Nat → Int32) (m_pathSize : Int32) (m_old : Nat → Int32) (m_lastRing : Int32) (m_bestNodes : Int32) (m_bestInside : Int32) (m_bestFits : Int32) (m_far : Nat → Int32) (m_xs : Nat → UInt32) (m_ys : Nat → UInt32) (p1 : Int32) (p2 : Int32) (N : Nat) (ρ : Int32) (hf : f_X8_turn N m_s p1 p2 = some ρ) : Met l yX8_turn (Cond.code yX8_turn cX8_turn 3 (Option.some Jvm.ClassFile.FieldType.int) :: lw_g) ({ frames := 0, cells := 0, slots := 0, locals := 0 } : Room) (PcS D (tyA cA) (wX8 cA a_m m_s m_past m_pasts m_text m_typed m_faceOfSide m_firstSide m_faces m_before m_endA m_endB m_from m_queue m_ring m_ringSize m_ringNodes m_rings m_path m_pathSize m_old m_lastRing m_bestNodes m_bestInside m_bestFits m_far m_xs m_ys) [.ref (a_m 0), .int p1, .int p2]) (vp_Si (fun r => r = ρ)) 0 0 (fun _ => False) := by
  refine mkS (by decide +kernel) (Nat.le_of_ble_eq_true rfl) fun p e s m below meth c ls C hl hP hK => ?_
  obtain ⟨hx, hb, hml, hown, hT, hr, hlk⟩ := id C
  have hl : lv_has ls 3 [(0, .ref (a_m 0)), (1, .int p1), (2, .int p2)] := hl
  refine lv_aload_n hx hb dX8_turn_0 rfl (lv_at hl 0 rfl) ?_
  refine va_get (D := D) (ci := 8) (C := RX8) (T := TX8) (N := 27) hx hb hT kwX8 hown hK.1 hP 0 rfl rfl 0 (by decide) (hT _ kf_X8_7) (fun _ h9 => h9) rfl dX8_turn_1 ?_
  refine lv_bipush (v := 52) hx hb dX8_turn_4 (by decide) ?_
  refine lv_bipush (v := 8) hx hb dX8_turn_6 (by decide) ?_
  refine lv_iload_n hx hb dX8_turn_8 rfl (lv_at hl 1 rfl) ?_
  refine lv_imul hx hb dX8_turn_9 ?_
  refine lv_iadd hx hb dX8_turn_10 ?_
  refine lv_iload_n hx hb dX8_turn_11 rfl (lv_at hl 2 rfl) ?_
  refine lv_iadd hx hb dX8_turn_12 ?_
  obtain ⟨h_1, hf⟩ := chk_s hf
  refine va_iald hx hb hK.1 hP 1 0 rfl rfl (inb_in h_1) dX8_turn_13 ?_
  exact W.iret hx hb hr (fun t ht hW => ⟨_, rfl, some_i hf, ht⟩) (fun _ h => by cases h) dX8_turn_14 (hlocks := hlk)
set_option maxRecDepth 100000 in
set_option maxHeartbeats 4000000 in
theorem c_X8_place (l : Launch) (D : va_G) (cA : Nat → ClassId) (a_m : Nat → Nat) (m_s : Nat → Int32) (m_past : Nat → Int32) (m_pasts : Int32) (m_text : Nat → Int32) (m_typed : Int32) (m_faceOfSide : Nat → Int32) (m_firstSide : Nat → Int32) (m_faces : Int32) (m_before : Nat → Int32) (m_endA : Nat → Int32) (m_endB : Nat → Int32) (m_from : Nat → Int32) (m_queue : Nat → Int32) (m_ring : Nat → Int32) (m_ringSize : Nat → Int32) (m_ringNodes : Nat → Int32) (m_rings : Int32) (m_path : Nat → Int32) (m_pathSize : Int32) (m_old : Nat → Int32) (m_lastRing : Int32) (m_bestNodes : Int32) (m_bestInside : Int32) (m_bestFits : Int32) (m_far : Nat → Int32) (m_xs : Nat → UInt32) (m_ys : Nat → UInt32) (p1 : Int32) (p2 : Int32) (N : Nat) (ρ : Int32) (hf : f_X8_place N m_s p1 p2 = some ρ) : Met l yX8_place (Cond.code yX8_place cX8_place 4 (Option.some Jvm.ClassFile.FieldType.int) :: lw_g) ({ frames := 1, cells := 0, slots := 0, locals := 22 } : Room) (PcS D (tyA cA) (wX8 cA a_m m_s m_past m_pasts m_text m_typed m_faceOfSide m_firstSide m_faces m_before m_endA m_endB m_from m_queue m_ring m_ringSize m_ringNodes m_rings m_path m_pathSize m_old m_lastRing m_bestNodes m_bestInside m_bestFits m_far m_xs m_ys) [.ref (a_m 0), .int p1, .int p2]) (vp_Si (fun r => r = ρ)) 0 0 (fun _ => False) := by
  refine mkS (by decide +kernel) (Nat.le_of_ble_eq_true rfl) fun p e s m below meth c ls C hl hP hK => ?_
  obtain ⟨hx, hb, hml, hown, hT, hr, hlk⟩ := id C
  have hl : lv_has ls 4 [(0, .ref (a_m 0)), (1, .int p1), (2, .int p2)] := hl
  have B2 : ∀ (n2 : Nat), ∀ (x1 : Int32) (x2 : Int32) (x3 : Int32) (ls : Array Slot), lv_has ls 4 [(0, .ref (a_m 0)), (1, .int x1), (2, .int x2), (3, .int x3)] → f_X8_place_b2 N m_s n2 x1 x2 x3 = some ρ → W p l e ({ frames := 1, cells := 0, slots := 0, locals := 22 } : Room) s m ([.ref (a_m 0), .int p1, .int p2] : List Value).toArray below meth c s.heap [] 0 0 (MQ below (vp_Si (fun r => r = ρ)) ([.ref (a_m 0), .int p1, .int p2] : List Value).toArray s 0 0 (fun _ => False)) (F0 m 2 ls []) := by
    intro n2
    induction n2 with
    | zero =>
      intro x1 x2 x3 ls hl hf
      cases (show (none : Option (Int32)) = some ρ from hf)
    | succ n2 ih2 =>
      intro x1 x2 x3 ls hl hf
      refine lv_aload_n hx hb dX8_place_2 rfl (lv_at hl 0 rfl) ?_
      refine lv_iload_n hx hb dX8_place_3 rfl (lv_at hl 1 rfl) ?_
      refine lv_iload_n hx hb dX8_place_4 rfl (lv_at hl 3 rfl) ?_
      obtain ⟨r_1, hcr_1, hf⟩ := bd1_s hf
      refine backI (runV0 C (c_X8_turn l D cA a_m m_s m_past m_pasts m_text m_typed m_faceOfSide m_firstSide m_faces m_before m_endA m_endB m_from m_queue m_ring m_ringSize m_ringNodes m_rings m_path m_pathSize m_old m_lastRing m_bestNodes m_bestInside m_bestFits m_far m_xs m_ys x1 x3 N r_1 hcr_1) cf_X8_turn km_X8_78 ⟨rfl, rfl, by decide, by decide⟩ ⟨Nat.zero_le _, Nat.zero_le _⟩ (va_recv hK.1 hP (ci := 8) (q0 := 0) rfl rfl) (hP.sub [0, 1, 2, 3, 4, 5, 6, 7, 8, 9, 10, 11, 12, 13, 14, 15, 16, 17, 18] rfl) hK hl.1 rfl rfl (Nat.le_of_ble_eq_true rfl) dX8_place_5) ?_
      refine lv_iload_n hx hb dX8_place_8 rfl (lv_at hl 2 rfl) ?_
      refine lv_icmp_eq (tgt := 18) hx hb dX8_place_9 (by decide) (fun c_2 => ?_) (fun c_2 => ?_)
      · have hf := ite_t c_2 hf
        refine lv_iload_n hx hb dX8_place_18 rfl (lv_at hl 3 rfl) ?_
        exact W.iret hx hb hr (fun t ht hW => ⟨_, rfl, some_i hf, ht⟩) (fun _ h => by cases h) dX8_place_19 (hlocks := hlk)
      · have hf := ite_f c_2 hf
        refine lv_iinc (v := (x3 + 1)) (lv' := [(3, .int (x3 + 1)), (0, .ref (a_m 0)), (1, .int x1), (2, .int x2)]) hx hb dX8_place_12 hl (k := 3) rfl rfl (by decide) rfl (fun ls hl => ?_)
        refine lv_goto (tgt := 2) hx hb dX8_place_15 (by decide) ?_
        exact ih2 x1 x2 (x3 + 1) _ (lv_sub hl [1, 2, 3, 0] rfl) hf
  refine lv_iconst (v := 0) hx hb dX8_place_0 (by decide) ?_
  refine lv_istore_n (lv' := [(3, .int 0), (0, .ref (a_m 0)), (1, .int p1), (2, .int p2)]) hx hb dX8_place_1 rfl hl (by decide) rfl (fun ls hl => ?_)
  exact B2 N p1 p2 0 _ (lv_sub hl [1, 2, 3, 0] rfl) hf
set_option maxRecDepth 100000 in
set_option maxHeartbeats 4000000 in
theorem c_X8_puts (l : Launch) (D : va_G) (cA : Nat → ClassId) (a_m : Nat → Nat) (m_s : Nat → Int32) (m_past : Nat → Int32) (m_pasts : Int32) (m_text : Nat → Int32) (m_typed : Int32) (m_faceOfSide : Nat → Int32) (m_firstSide : Nat → Int32) (m_faces : Int32) (m_before : Nat → Int32) (m_endA : Nat → Int32) (m_endB : Nat → Int32) (m_from : Nat → Int32) (m_queue : Nat → Int32) (m_ring : Nat → Int32) (m_ringSize : Nat → Int32) (m_ringNodes : Nat → Int32) (m_rings : Int32) (m_path : Nat → Int32) (m_pathSize : Int32) (m_old : Nat → Int32) (m_lastRing : Int32) (m_bestNodes : Int32) (m_bestInside : Int32) (m_bestFits : Int32) (m_far : Nat → Int32) (m_xs : Nat → UInt32) (m_ys : Nat → UInt32) (p1 : Int32) (p2 : Int32) (p3 : Int32) (sz N : Nat) (ρ : (Nat → Int32)) (hf : f_X8_puts N m_s p1 p2 p3 = some ρ) : Met l yX8_puts (Cond.code yX8_puts cX8_puts 5 (Option.none : Option Jvm.ClassFile.FieldType) :: lw_g) ({ frames := 0, cells := 0, slots := 0, locals := 0 } : Room) (PcW D (tyA cA) (wX8 cA a_m m_s m_past m_pasts m_text m_typed m_faceOfSide m_firstSide m_faces m_before m_endA m_endB m_from m_queue m_ring m_ringSize m_ringNodes m_rings m_path m_pathSize m_old m_lastRing m_bestNodes m_bestInside m_bestFits m_far m_xs m_ys) sz [.ref (a_m 0), .int p1, .int p2, .int p3]) (va_Qv (fun (_ : Unit) => True) (fun _ t => va_P D vwCl (wX8 cA a_m ρ m_past m_pasts m_text m_typed m_faceOfSide m_firstSide m_faces m_before m_endA m_endB m_from m_queue m_ring m_ringSize m_ringNodes m_rings m_path m_pathSize m_old m_lastRing m_bestNodes m_bestInside m_bestFits m_far m_xs m_ys) t.heap ∧ va_D (va_A (wX8 cA a_m m_s m_past m_pasts m_text m_typed m_faceOfSide m_firstSide m_faces m_before m_endA m_endB m_from m_queue m_ring m_ringSize m_ringNodes m_rings m_path m_pathSize m_old m_lastRing m_bestNodes m_bestInside m_bestFits m_far m_xs m_ys) sz) (wX8 cA a_m ρ m_past m_pasts m_text m_typed m_faceOfSide m_firstSide m_faces m_before m_endA m_endB m_from m_queue m_ring m_ringSize m_ringNodes m_rings m_path m_pathSize m_old m_lastRing m_bestNodes m_bestInside m_bestFits m_far m_xs m_ys)) (va_A (wX8 cA a_m m_s m_past m_pasts m_text m_typed m_faceOfSide m_firstSide m_faces m_before m_endA m_endB m_from m_queue m_ring m_ringSize m_ringNodes m_rings m_path m_pathSize m_old m_lastRing m_bestNodes m_bestInside m_bestFits m_far m_xs m_ys) sz)) 0 0 (va_A (wX8 cA a_m m_s m_past m_pasts m_text m_typed m_faceOfSide m_firstSide m_faces m_before m_endA m_endB m_from m_queue m_ring m_ringSize m_ringNodes m_rings m_path m_pathSize m_old m_lastRing m_bestNodes m_bestInside m_bestFits m_far m_xs m_ys) sz) := by
  refine mkW (QQ := fun A => va_Qv (fun (_ : Unit) => True) (fun _ t => va_P D vwCl (wX8 cA a_m ρ m_past m_pasts m_text m_typed m_faceOfSide m_firstSide m_faces m_before m_endA m_endB m_from m_queue m_ring m_ringSize m_ringNodes m_rings m_path m_pathSize m_old m_lastRing m_bestNodes m_bestInside m_bestFits m_far m_xs m_ys) t.heap ∧ va_D A (wX8 cA a_m ρ m_past m_pasts m_text m_typed m_faceOfSide m_firstSide m_faces m_before m_endA m_endB m_from m_queue m_ring m_ringSize m_ringNodes m_rings m_path m_pathSize m_old m_lastRing m_bestNodes m_bestInside m_bestFits m_far m_xs m_ys)) A) (by decide) (Nat.le_of_ble_eq_true rfl) fun p e s m below meth c ls A C hl hP hK hD hA hS => ?_
  obtain ⟨hx, hb, hml, hown, hT, hr, hlk⟩ := id C
  have hl : lv_has ls 5 [(0, .ref (a_m 0)), (1, .int p1), (2, .int p2), (3, .int p3)] := hl
  have B55 : ∀ (x1 : Int32) (x2 : Int32) (x3 : Int32) (m_s : Nat → Int32) (H : Heap) (locs : List Loc) (ls : Array Slot), lv_has ls 5 [(0, .ref (a_m 0)), (1, .int x1), (2, .int x2), (3, .int x3)] → va_P D vwCl (wX8 cA a_m m_s m_past m_pasts m_text m_typed m_faceOfSide m_firstSide m_faces m_before m_endA m_endB m_from m_queue m_ring m_ringSize m_ringNodes m_rings m_path m_pathSize m_old m_lastRing m_bestNodes m_bestInside m_bestFits m_far m_xs m_ys) H → va_D A (wX8 cA a_m m_s m_past m_pasts m_text m_typed m_faceOfSide m_firstSide m_faces m_before m_endA m_endB m_from m_queue m_ring m_ringSize m_ringNodes m_rings m_path m_pathSize m_old m_lastRing m_bestNodes m_bestInside m_bestFits m_far m_xs m_ys) → va_S A s.heap H locs → f_X8_puts_b55 N x1 x2 x3 m_s = some ρ → W p l e ({ frames := 0, cells := 0, slots := 0, locals := 0 } : Room) s m ([.ref (a_m 0), .int p1, .int p2, .int p3] : List Value).toArray below meth c H locs 0 0 (MQ below (va_Qv (fun (_ : Unit) => True) (fun _ t => va_P D vwCl (wX8 cA a_m ρ m_past m_pasts m_text m_typed m_faceOfSide m_firstSide m_faces m_before m_endA m_endB m_from m_queue m_ring m_ringSize m_ringNodes m_rings m_path m_pathSize m_old m_lastRing m_bestNodes m_bestInside m_bestFits m_far m_xs m_ys) t.heap ∧ va_D A (wX8 cA a_m ρ m_past m_pasts m_text m_typed m_faceOfSide m_firstSide m_faces m_before m_endA m_endB m_from m_queue m_ring m_ringSize m_ringNodes m_rings m_path m_pathSize m_old m_lastRing m_bestNodes m_bestInside m_bestFits m_far m_xs m_ys)) A) ([.ref (a_m 0), .int p1, .int p2, .int p3] : List Value).toArray s 0 0 A) (F0 m 55 ls []) := by
    intro x1 x2 x3 m_s H locs ls hl hP hD hS hf
    refine lv_aload_n hx hb dX8_puts_55 rfl (lv_at hl 0 rfl) ?_
    refine va_get (D := D) (ci := 8) (C := RX8) (T := TX8) (N := 27) hx hb hT kwX8 hown hK.1 hP 0 rfl rfl 0 (by decide) (hT _ kf_X8_7) (fun _ h9 => h9) rfl dX8_puts_56 ?_
    refine lv_bipush (v := 52) hx hb dX8_puts_59 (by decide) ?_
    refine lv_bipush (v := 8) hx hb dX8_puts_61 (by decide) ?_
    refine lv_iload_n hx hb dX8_puts_63 rfl (lv_at hl 1 rfl) ?_
    refine lv_imul hx hb dX8_puts_64 ?_
    refine lv_iadd hx hb dX8_puts_65 ?_
    refine lv_iload_n hx hb dX8_puts_66 rfl (lv_at hl 2 rfl) ?_
    refine lv_iadd hx hb dX8_puts_67 ?_
    refine lv_iload_n hx hb dX8_puts_68 rfl (lv_at hl 3 rfl) ?_
    obtain ⟨h_6, hf⟩ := chk_s hf
    refine va_iast hx hb hK.1 hP hD hS 1 0 rfl rfl (inb_in h_6) dX8_puts_69 (fun H locs hP hD hS => ?_)
    have hP : va_P D vwCl (wX8 cA a_m (upd m_s ((52 + (8 * x1)) + x2).toNatClampNeg x3) m_past m_pasts m_text m_typed m_faceOfSide m_firstSide m_faces m_before m_endA m_endB m_from m_queue m_ring m_ringSize m_ringNodes m_rings m_path m_pathSize m_old m_lastRing m_bestNodes m_bestInside m_bestFits m_far m_xs m_ys) H := hP
    have hD : va_D A (wX8 cA a_m (upd m_s ((52 + (8 * x1)) + x2).toNatClampNeg x3) m_past m_pasts m_text m_typed m_faceOfSide m_firstSide m_faces m_before m_endA m_endB m_from m_queue m_ring m_ringSize m_ringNodes m_rings m_path m_pathSize m_old m_lastRing m_bestNodes m_bestInside m_bestFits m_far m_xs m_ys) := hD
    refine lv_aload_n hx hb dX8_puts_70 rfl (lv_at hl 0 rfl) ?_
    refine va_get (D := D) (ci := 8) (C := RX8) (T := TX8) (N := 27) hx hb hT kwX8 hown hK.1 hP 0 rfl rfl 0 (by decide) (hT _ kf_X8_7) (fun _ h9 => h9) rfl dX8_puts_71 ?_
    refine lv_bipush (v := 43) hx hb dX8_puts_74 (by decide) ?_
    refine lv_iload_n hx hb dX8_puts_76 rfl (lv_at hl 1 rfl) ?_
    refine lv_iadd hx hb dX8_puts_77 ?_
    refine lv_dup2_11 hx hb dX8_puts_78 rfl rfl ?_
    obtain ⟨h_7, hf⟩ := chk_s hf
    refine va_iald hx hb hK.1 hP 1 0 rfl rfl (inb_in h_7) dX8_puts_79 ?_
    refine lv_iconst (v := 1) hx hb dX8_puts_80 (by decide) ?_
    refine lv_iadd hx hb dX8_puts_81 ?_
    obtain ⟨h_8, hf⟩ := chk_s hf
    refine va_iast hx hb hK.1 hP hD hS 1 0 rfl rfl (inb_in h_8) dX8_puts_82 (fun H locs hP hD hS => ?_)
    have hP : va_P D vwCl (wX8 cA a_m (upd (upd m_s ((52 + (8 * x1)) + x2).toNatClampNeg x3) (43 + x1).toNatClampNeg (((upd m_s ((52 + (8 * x1)) + x2).toNatClampNeg x3) (43 + x1).toNatClampNeg) + 1)) m_past m_pasts m_text m_typed m_faceOfSide m_firstSide m_faces m_before m_endA m_endB m_from m_queue m_ring m_ringSize m_ringNodes m_rings m_path m_pathSize m_old m_lastRing m_bestNodes m_bestInside m_bestFits m_far m_xs m_ys) H := hP
    have hD : va_D A (wX8 cA a_m (upd (upd m_s ((52 + (8 * x1)) + x2).toNatClampNeg x3) (43 + x1).toNatClampNeg (((upd m_s ((52 + (8 * x1)) + x2).toNatClampNeg x3) (43 + x1).toNatClampNeg) + 1)) m_past m_pasts m_text m_typed m_faceOfSide m_firstSide m_faces m_before m_endA m_endB m_from m_queue m_ring m_ringSize m_ringNodes m_rings m_path m_pathSize m_old m_lastRing m_bestNodes m_bestInside m_bestFits m_far m_xs m_ys) := hD
    have eR := some_i hf
    exact W.vret hx hb hr (fun t ht hW => ⟨⟨(), rfl, trivial, by rw [← eR, ht]; exact hP, by rw [← eR]; exact hD⟩, hS.F ht⟩) hS.2.2 dX8_puts_83 (hlocks := hlk)
  have B11 : ∀ (n11 : Nat), ∀ (x1 : Int32) (x2 : Int32) (x3 : Int32) (x4 : Int32) (m_s : Nat → Int32) (H : Heap) (locs : List Loc) (ls : Array Slot), lv_has ls 5 [(0, .ref (a_m 0)), (1, .int x1), (2, .int x2), (3, .int x3), (4, .int x4)] → va_P D vwCl (wX8 cA a_m m_s m_past m_pasts m_text m_typed m_faceOfSide m_firstSide m_faces m_before m_endA m_endB m_from m_queue m_ring m_ringSize m_ringNodes m_rings m_path m_pathSize m_old m_lastRing m_bestNodes m_bestInside m_bestFits m_far m_xs m_ys) H → va_D A (wX8 cA a_m m_s m_past m_pasts m_text m_typed m_faceOfSide m_firstSide m_faces m_before m_endA m_endB m_from m_queue m_ring m_ringSize m_ringNodes m_rings m_path m_pathSize m_old m_lastRing m_bestNodes m_bestInside m_bestFits m_far m_xs m_ys) → va_S A s.heap H locs → f_X8_puts_b11 N n11 x1 x2 x3 x4 m_s = some ρ → W p l e ({ frames := 0, cells := 0, slots := 0, locals := 0 } : Room) s m ([.ref (a_m 0), .int p1, .int p2, .int p3] : List Value).toArray below meth c H locs 0 0 (MQ below (va_Qv (fun (_ : Unit) => True) (fun _ t => va_P D vwCl (wX8 cA a_m ρ m_past m_pasts m_text m_typed m_faceOfSide m_firstSide m_faces m_before m_endA m_endB m_from m_queue m_ring m_ringSize m_ringNodes m_rings m_path m_pathSize m_old m_lastRing m_bestNodes m_bestInside m_bestFits m_far m_xs m_ys) t.heap ∧ va_D A (wX8 cA a_m ρ m_past m_pasts m_text m_typed m_faceOfSide m_firstSide m_faces m_before m_endA m_endB m_from m_queue m_ring m_ringSize m_ringNodes m_rings m_path m_pathSize m_old m_lastRing m_bestNodes m_bestInside m_bestFits m_far m_xs m_ys)) A) ([.ref (a_m 0), .int p1, .int p2, .int p3] : List Value).toArray s 0 0 A) (F0 m 11 ls []) := by
    intro n11
    induction n11 with
    | zero =>
      intro x1 x2 x3 x4 m_s H locs ls hl hP hD hS hf
      cases (show (none : Option ((Nat → Int32))) = some ρ from hf)
    | succ n11 ih11 =>
      intro x1 x2 x3 x4 m_s H locs ls hl hP hD hS hf
      refine lv_iload hx hb dX8_puts_11 (lv_at hl 4 rfl) ?_
      refine lv_iload_n hx hb dX8_puts_13 rfl (lv_at hl 2 rfl) ?_
      refine lv_icmp_le (tgt := 55) hx hb dX8_puts_14 (by decide) (fun c_3 => ?_) (fun c_3 => ?_)
      · have hf := ite_t c_3 hf
        exact B55 x1 x2 x3 m_s _ _ _ (lv_sub hl [0, 1, 2, 3] rfl) hP hD hS hf
      · have hf := ite_f c_3 hf
        refine lv_aload_n hx hb dX8_puts_17 rfl (lv_at hl 0 rfl) ?_
        refine va_get (D := D) (ci := 8) (C := RX8) (T := TX8) (N := 27) hx hb hT kwX8 hown hK.1 hP 0 rfl rfl 0 (by decide) (hT _ kf_X8_7) (fun _ h9 => h9) rfl dX8_puts_18 ?_
        refine lv_bipush (v := 52) hx hb dX8_puts_21 (by decide) ?_
        refine lv_bipush (v := 8) hx hb dX8_puts_23 (by decide) ?_
        refine lv_iload_n hx hb dX8_puts_25 rfl (lv_at hl 1 rfl) ?_
        refine lv_imul hx hb dX8_puts_26 ?_
        refine lv_iadd hx hb dX8_puts_27 ?_
        refine lv_iload hx hb dX8_puts_28 (lv_at hl 4 rfl) ?_
        refine lv_iadd hx hb dX8_puts_30 ?_
        refine lv_aload_n hx hb dX8_puts_31 rfl (lv_at hl 0 rfl) ?_
        refine va_get (D := D) (ci := 8) (C := RX8) (T := TX8) (N := 27) hx hb hT kwX8 hown hK.1 hP 0 rfl rfl 0 (by decide) (hT _ kf_X8_7) (fun _ h9 => h9) rfl dX8_puts_32 ?_
        refine lv_bipush (v := 52) hx hb dX8_puts_35 (by decide) ?_
        refine lv_bipush (v := 8) hx hb dX8_puts_37 (by decide) ?_
        refine lv_iload_n hx hb dX8_puts_39 rfl (lv_at hl 1 rfl) ?_
        refine lv_imul hx hb dX8_puts_40 ?_
        refine lv_iadd hx hb dX8_puts_41 ?_
        refine lv_iload hx hb dX8_puts_42 (lv_at hl 4 rfl) ?_
        refine lv_iadd hx hb dX8_puts_44 ?_
        refine lv_iconst (v := 1) hx hb dX8_puts_45 (by decide) ?_
        refine lv_isub hx hb dX8_puts_46 ?_
        obtain ⟨h_4, hf⟩ := chk_s hf
        refine va_iald hx hb hK.1 hP 1 0 rfl rfl (inb_in h_4) dX8_puts_47 ?_
        obtain ⟨h_5, hf⟩ := chk_s hf
        refine va_iast hx hb hK.1 hP hD hS 1 0 rfl rfl (inb_in h_5) dX8_puts_48 (fun H locs hP hD hS => ?_)
        have hP : va_P D vwCl (wX8 cA a_m (upd m_s ((52 + (8 * x1)) + x4).toNatClampNeg (m_s (((52 + (8 * x1)) + x4) - 1).toNatClampNeg)) m_past m_pasts m_text m_typed m_faceOfSide m_firstSide m_faces m_before m_endA m_endB m_from m_queue m_ring m_ringSize m_ringNodes m_rings m_path m_pathSize m_old m_lastRing m_bestNodes m_bestInside m_bestFits m_far m_xs m_ys) H := hP
        have hD : va_D A (wX8 cA a_m (upd m_s ((52 + (8 * x1)) + x4).toNatClampNeg (m_s (((52 + (8 * x1)) + x4) - 1).toNatClampNeg)) m_past m_pasts m_text m_typed m_faceOfSide m_firstSide m_faces m_before m_endA m_endB m_from m_queue m_ring m_ringSize m_ringNodes m_rings m_path m_pathSize m_old m_lastRing m_bestNodes m_bestInside m_bestFits m_far m_xs m_ys) := hD
        refine lv_iinc (v := (x4 + (-1))) (lv' := [(4, .int (x4 + (-1))), (0, .ref (a_m 0)), (1, .int x1), (2, .int x2), (3, .int x3)]) hx hb dX8_puts_49 hl (k := 4) rfl rfl (by decide) rfl (fun ls hl => ?_)
        refine lv_goto (tgt := 11) hx hb dX8_puts_52 (by decide) ?_
        exact ih11 x1 x2 x3 (x4 + (-1)) (upd m_s ((52 + (8 * x1)) + x4).toNatClampNeg (m_s (((52 + (8 * x1)) + x4) - 1).toNatClampNeg)) _ _ _ (lv_sub hl [1, 2, 3, 4, 0] rfl) hP hD hS hf
  refine lv_aload_n hx hb dX8_puts_0 rfl (lv_at hl 0 rfl) ?_
  refine va_get (D := D) (ci := 8) (C := RX8) (T := TX8) (N := 27) hx hb hT kwX8 hown hK.1 hP 0 rfl rfl 0 (by decide) (hT _ kf_X8_7) (fun _ h9 => h9) rfl dX8_puts_1 ?_
  refine lv_bipush (v := 43) hx hb dX8_puts_4 (by decide) ?_
  refine lv_iload_n hx hb dX8_puts_6 rfl (lv_at hl 1 rfl) ?_
  refine lv_iadd hx hb dX8_puts_7 ?_
  obtain ⟨h_1, hf⟩ := chk_s hf
  refine va_iald hx hb hK.1 hP 1 0 rfl rfl (inb_in h_1) dX8_puts_8 ?_
  refine lv_topi (fun x4_2 ex4_2 => ?_)
  have hf := nm_t ex4_2 hf
  refine lv_istore (lv' := [(4, .int x4_2), (0, .ref (a_m 0)), (1, .int p1), (2, .int p2), (3, .int p3)]) hx hb dX8_puts_9 hl (by decide) rfl (fun ls hl => ?_)
  exact B11 N p1 p2 p3 x4_2 m_s _ _ _ (lv_sub hl [1, 2, 3, 4, 0] rfl) hP hD hS hf
set_option maxRecDepth 100000 in
set_option maxHeartbeats 4000000 in
theorem c_X8_joins (l : Launch) (D : va_G) (cA : Nat → ClassId) (a_m : Nat → Nat) (m_s : Nat → Int32) (m_past : Nat → Int32) (m_pasts : Int32) (m_text : Nat → Int32) (m_typed : Int32) (m_faceOfSide : Nat → Int32) (m_firstSide : Nat → Int32) (m_faces : Int32) (m_before : Nat → Int32) (m_endA : Nat → Int32) (m_endB : Nat → Int32) (m_from : Nat → Int32) (m_queue : Nat → Int32) (m_ring : Nat → Int32) (m_ringSize : Nat → Int32) (m_ringNodes : Nat → Int32) (m_rings : Int32) (m_path : Nat → Int32) (m_pathSize : Int32) (m_old : Nat → Int32) (m_lastRing : Int32) (m_bestNodes : Int32) (m_bestInside : Int32) (m_bestFits : Int32) (m_far : Nat → Int32) (m_xs : Nat → UInt32) (m_ys : Nat → UInt32) (p1 : Int32) (p2 : Int32) (p3 : Int32) (p4 : Int32) (sz N : Nat) (ρ : Int32 × (Nat → Int32)) (hf : f_X8_joins N m_s p1 p2 p3 p4 = some ρ) : Met l yX8_joins (Cond.code yX8_joins cX8_joins 6 (Option.some Jvm.ClassFile.FieldType.int) :: lw_g) ({ frames := 1, cells := 0, slots := 0, locals := 24 } : Room) (PcW D (tyA cA) (wX8 cA a_m m_s m_past m_pasts m_text m_typed m_faceOfSide m_firstSide m_faces m_before m_endA m_endB m_from m_queue m_ring m_ringSize m_ringNodes m_rings m_path m_pathSize m_old m_lastRing m_bestNodes m_bestInside m_bestFits m_far m_xs m_ys) sz [.ref (a_m 0), .int p1, .int p2, .int p3, .int p4]) (va_Qi (fun r (_ : Unit) => r = ρ.1) (fun _ t => va_P D vwCl (wX8 cA a_m ρ.2 m_past m_pasts m_text m_typed m_faceOfSide m_firstSide m_faces m_before m_endA m_endB m_from m_queue m_ring m_ringSize m_ringNodes m_rings m_path m_pathSize m_old m_lastRing m_bestNodes m_bestInside m_bestFits m_far m_xs m_ys) t.heap ∧ va_D (va_A (wX8 cA a_m m_s m_past m_pasts m_text m_typed m_faceOfSide m_firstSide m_faces m_before m_endA m_endB m_from m_queue m_ring m_ringSize m_ringNodes m_rings m_path m_pathSize m_old m_lastRing m_bestNodes m_bestInside m_bestFits m_far m_xs m_ys) sz) (wX8 cA a_m ρ.2 m_past m_pasts m_text m_typed m_faceOfSide m_firstSide m_faces m_before m_endA m_endB m_from m_queue m_ring m_ringSize m_ringNodes m_rings m_path m_pathSize m_old m_lastRing m_bestNodes m_bestInside m_bestFits m_far m_xs m_ys)) (va_A (wX8 cA a_m m_s m_past m_pasts m_text m_typed m_faceOfSide m_firstSide m_faces m_before m_endA m_endB m_from m_queue m_ring m_ringSize m_ringNodes m_rings m_path m_pathSize m_old m_lastRing m_bestNodes m_bestInside m_bestFits m_far m_xs m_ys) sz)) 0 0 (va_A (wX8 cA a_m m_s m_past m_pasts m_text m_typed m_faceOfSide m_firstSide m_faces m_before m_endA m_endB m_from m_queue m_ring m_ringSize m_ringNodes m_rings m_path m_pathSize m_old m_lastRing m_bestNodes m_bestInside m_bestFits m_far m_xs m_ys) sz) := by
  refine mkW (QQ := fun A => va_Qi (fun r (_ : Unit) => r = ρ.1) (fun _ t => va_P D vwCl (wX8 cA a_m ρ.2 m_past m_pasts m_text m_typed m_faceOfSide m_firstSide m_faces m_before m_endA m_endB m_from m_queue m_ring m_ringSize m_ringNodes m_rings m_path m_pathSize m_old m_lastRing m_bestNodes m_bestInside m_bestFits m_far m_xs m_ys) t.heap ∧ va_D A (wX8 cA a_m ρ.2 m_past m_pasts m_text m_typed m_faceOfSide m_firstSide m_faces m_before m_endA m_endB m_from m_queue m_ring m_ringSize m_ringNodes m_rings m_path m_pathSize m_old m_lastRing m_bestNodes m_bestInside m_bestFits m_far m_xs m_ys)) A) (by decide) (Nat.le_of_ble_eq_true rfl) fun p e s m below meth c ls A C hl hP hK hD hA hS => ?_
  obtain ⟨hx, hb, hml, hown, hT, hr, hlk⟩ := id C
  have hl : lv_has ls 6 [(0, .ref (a_m 0)), (1, .int p1), (2, .int p2), (3, .int p3), (4, .int p4)] := hl
  have B46 : ∀ (x1 : Int32) (x2 : Int32) (x3 : Int32) (x4 : Int32) (x5 : Int32) (y1 : Int32) (y2 : Int32) (m_s : Nat → Int32) (H : Heap) (locs : List Loc) (ls : Array Slot), lv_has ls 6 [(0, .ref (a_m 0)), (1, .int x1), (2, .int x2), (3, .int x3), (4, .int x4), (5, .int x5)] → va_P D vwCl (wX8 cA a_m m_s m_past m_pasts m_text m_typed m_faceOfSide m_firstSide m_faces m_before m_endA m_endB m_from m_queue m_ring m_ringSize m_ringNodes m_rings m_path m_pathSize m_old m_lastRing m_bestNodes m_bestInside m_bestFits m_far m_xs m_ys) H → va_D A (wX8 cA a_m m_s m_past m_pasts m_text m_typed m_faceOfSide m_firstSide m_faces m_before m_endA m_endB m_from m_queue m_ring m_ringSize m_ringNodes m_rings m_path m_pathSize m_old m_lastRing m_bestNodes m_bestInside m_bestFits m_far m_xs m_ys) → va_S A s.heap H locs → f_X8_joins_b46 N x1 x2 x3 x4 x5 y1 y2 m_s = some ρ → W p l e ({ frames := 1, cells := 0, slots := 0, locals := 24 } : Room) s m ([.ref (a_m 0), .int p1, .int p2, .int p3, .int p4] : List Value).toArray below meth c H locs 0 0 (MQ below (va_Qi (fun r (_ : Unit) => r = ρ.1) (fun _ t => va_P D vwCl (wX8 cA a_m ρ.2 m_past m_pasts m_text m_typed m_faceOfSide m_firstSide m_faces m_before m_endA m_endB m_from m_queue m_ring m_ringSize m_ringNodes m_rings m_path m_pathSize m_old m_lastRing m_bestNodes m_bestInside m_bestFits m_far m_xs m_ys) t.heap ∧ va_D A (wX8 cA a_m ρ.2 m_past m_pasts m_text m_typed m_faceOfSide m_firstSide m_faces m_before m_endA m_endB m_from m_queue m_ring m_ringSize m_ringNodes m_rings m_path m_pathSize m_old m_lastRing m_bestNodes m_bestInside m_bestFits m_far m_xs m_ys)) A) ([.ref (a_m 0), .int p1, .int p2, .int p3, .int p4] : List Value).toArray s 0 0 A) (F0 m 46 ls [.int y2, .int y1, .ref (a_m 1)]) := by
    intro x1 x2 x3 x4 x5 y1 y2 m_s H locs ls hl hP hD hS hf
    obtain ⟨h_6, hf⟩ := chk_s hf
    refine va_iast hx hb hK.1 hP hD hS 1 0 rfl rfl (inb_in h_6) dX8_joins_46 (fun H locs hP hD hS => ?_)
    have hP : va_P D vwCl (wX8 cA a_m (upd m_s y1.toNatClampNeg y2) m_past m_pasts m_text m_typed m_faceOfSide m_firstSide m_faces m_before m_endA m_endB m_from m_queue m_ring m_ringSize m_ringNodes m_rings m_path m_pathSize m_old m_lastRing m_bestNodes m_bestInside m_bestFits m_far m_xs m_ys) H := hP
    have hD : va_D A (wX8 cA a_m (upd m_s y1.toNatClampNeg y2) m_past m_pasts m_text m_typed m_faceOfSide m_firstSide m_faces m_before m_endA m_endB m_from m_queue m_ring m_ringSize m_ringNodes m_rings m_path m_pathSize m_old m_lastRing m_bestNodes m_bestInside m_bestFits m_far m_xs m_ys) := hD
    refine lv_aload_n hx hb dX8_joins_47 rfl (lv_at hl 0 rfl) ?_
    refine lv_iload_n hx hb dX8_joins_48 rfl (lv_at hl 1 rfl) ?_
    refine lv_iload_n hx hb dX8_joins_49 rfl (lv_at hl 3 rfl) ?_
    refine lv_iload hx hb dX8_joins_50 (lv_at hl 5 rfl) ?_
    obtain ⟨r_7, hcr_7, hf⟩ := bd1_s hf
    refine backWv (w2 := (wX8 cA a_m r_7 m_past m_pasts m_text m_typed m_faceOfSide m_firstSide m_faces m_before m_endA m_endB m_from m_queue m_ring m_ringSize m_ringNodes m_rings m_path m_pathSize m_old m_lastRing m_bestNodes m_bestInside m_bestFits m_far m_xs m_ys)) (runVw C (c_X8_puts l D cA a_m (upd m_s y1.toNatClampNeg y2) m_past m_pasts m_text m_typed m_faceOfSide m_firstSide m_faces m_before m_endA m_endB m_from m_queue m_ring m_ringSize m_ringNodes m_rings m_path m_pathSize m_old m_lastRing m_bestNodes m_bestInside m_bestFits m_far m_xs m_ys x1 x3 x5 _ N r_7 hcr_7) cf_X8_puts km_X8_86 ⟨rfl, rfl, by decide, by decide⟩ ⟨Nat.zero_le _, Nat.zero_le _⟩ (va_recv hK.1 hP (ci := 8) (q0 := 0) rfl rfl) (hP.sub [0, 1, 2, 3, 4, 5, 6, 7, 8, 9, 10, 11, 12, 13, 14, 15, 16, 17, 18] rfl) (hD.sub [0, 1, 2, 3, 4, 5, 6, 7, 8, 9, 10, 11, 12, 13, 14, 15, 16, 17, 18] rfl rfl) hK hl.1 rfl rfl (Nat.le_of_ble_eq_true rfl) dX8_joins_52) hP hD hS hA [0, 1, 2, 3, 4, 5, 6, 7, 8, 9, 10, 11, 12, 13, 14, 15, 16, 17, 18] rfl [] rfl rfl (by decide) [0, 1, 2, 3, 4, 5, 6, 7, 8, 9, 10, 11, 12, 13, 14, 15, 16, 17, 18] rfl rfl (fun H locs hP hD hS => ?_)
    refine lv_aload_n hx hb dX8_joins_55 rfl (lv_at hl 0 rfl) ?_
    refine lv_iload_n hx hb dX8_joins_56 rfl (lv_at hl 2 rfl) ?_
    refine lv_iload hx hb dX8_joins_57 (lv_at hl 4 rfl) ?_
    refine lv_iload hx hb dX8_joins_59 (lv_at hl 5 rfl) ?_
    obtain ⟨r_8, hcr_8, hf⟩ := bd1_s hf
    refine backWv (w2 := (wX8 cA a_m r_8 m_past m_pasts m_text m_typed m_faceOfSide m_firstSide m_faces m_before m_endA m_endB m_from m_queue m_ring m_ringSize m_ringNodes m_rings m_path m_pathSize m_old m_lastRing m_bestNodes m_bestInside m_bestFits m_far m_xs m_ys)) (runVw C (c_X8_puts l D cA a_m r_7 m_past m_pasts m_text m_typed m_faceOfSide m_firstSide m_faces m_before m_endA m_endB m_from m_queue m_ring m_ringSize m_ringNodes m_rings m_path m_pathSize m_old m_lastRing m_bestNodes m_bestInside m_bestFits m_far m_xs m_ys x2 x4 x5 _ N r_8 hcr_8) cf_X8_puts km_X8_86 ⟨rfl, rfl, by decide, by decide⟩ ⟨Nat.zero_le _, Nat.zero_le _⟩ (va_recv hK.1 hP (ci := 8) (q0 := 0) rfl rfl) (hP.sub [0, 1, 2, 3, 4, 5, 6, 7, 8, 9, 10, 11, 12, 13, 14, 15, 16, 17, 18] rfl) (hD.sub [0, 1, 2, 3, 4, 5, 6, 7, 8, 9, 10, 11, 12, 13, 14, 15, 16, 17, 18] rfl rfl) hK hl.1 rfl rfl (Nat.le_of_ble_eq_true rfl) dX8_joins_61) hP hD hS hA [0, 1, 2, 3, 4, 5, 6, 7, 8, 9, 10, 11, 12, 13, 14, 15, 16, 17, 18] rfl [] rfl rfl (by decide) [0, 1, 2, 3, 4, 5, 6, 7, 8, 9, 10, 11, 12, 13, 14, 15, 16, 17, 18] rfl rfl (fun H locs hP hD hS => ?_)
    refine lv_aload_n hx hb dX8_joins_64 rfl (lv_at hl 0 rfl) ?_
    refine va_get (D := D) (ci := 8) (C := RX8) (T := TX8) (N := 27) hx hb hT kwX8 hown hK.1 hP 0 rfl rfl 0 (by decide) (hT _ kf_X8_7) (fun _ h9 => h9) rfl dX8_joins_65 ?_
    refine lv_iconst (v := 1) hx hb dX8_joins_68 (by decide) ?_
    refine lv_dup2_11 hx hb dX8_joins_69 rfl rfl ?_
    obtain ⟨h_9, hf⟩ := chk_s hf
    refine va_iald hx hb hK.1 hP 1 0 rfl rfl (inb_in h_9) dX8_joins_70 ?_
    refine lv_iconst (v := 1) hx hb dX8_joins_71 (by decide) ?_
    refine lv_iadd hx hb dX8_joins_72 ?_
    obtain ⟨h_10, hf⟩ := chk_s hf
    refine va_iast hx hb hK.1 hP hD hS 1 0 rfl rfl (inb_in h_10) dX8_joins_73 (fun H locs hP hD hS => ?_)
    have hP : va_P D vwCl (wX8 cA a_m (upd r_8 (1 : Int32).toNatClampNeg ((r_8 (1 : Int32).toNatClampNeg) + 1)) m_past m_pasts m_text m_typed m_faceOfSide m_firstSide m_faces m_before m_endA m_endB m_from m_queue m_ring m_ringSize m_ringNodes m_rings m_path m_pathSize m_old m_lastRing m_bestNodes m_bestInside m_bestFits m_far m_xs m_ys) H := hP
    have hD : va_D A (wX8 cA a_m (upd r_8 (1 : Int32).toNatClampNeg ((r_8 (1 : Int32).toNatClampNeg) + 1)) m_past m_pasts m_text m_typed m_faceOfSide m_firstSide m_faces m_before m_endA m_endB m_from m_queue m_ring m_ringSize m_ringNodes m_rings m_path m_pathSize m_old m_lastRing m_bestNodes m_bestInside m_bestFits m_far m_xs m_ys) := hD
    refine lv_aload_n hx hb dX8_joins_74 rfl (lv_at hl 0 rfl) ?_
    refine va_get (D := D) (ci := 8) (C := RX8) (T := TX8) (N := 27) hx hb hT kwX8 hown hK.1 hP 0 rfl rfl 0 (by decide) (hT _ kf_X8_7) (fun _ h9 => h9) rfl dX8_joins_75 ?_
    refine lv_iconst (v := 2) hx hb dX8_joins_78 (by decide) ?_
    refine lv_iconst (v := 0) hx hb dX8_joins_79 (by decide) ?_
    obtain ⟨h_11, hf⟩ := chk_s hf
    refine va_iast hx hb hK.1 hP hD hS 1 0 rfl rfl (inb_in h_11) dX8_joins_80 (fun H locs hP hD hS => ?_)
    have hP : va_P D vwCl (wX8 cA a_m (upd (upd r_8 (1 : Int32).toNatClampNeg ((r_8 (1 : Int32).toNatClampNeg) + 1)) (2 : Int32).toNatClampNeg 0) m_past m_pasts m_text m_typed m_faceOfSide m_firstSide m_faces m_before m_endA m_endB m_from m_queue m_ring m_ringSize m_ringNodes m_rings m_path m_pathSize m_old m_lastRing m_bestNodes m_bestInside m_bestFits m_far m_xs m_ys) H := hP
    have hD : va_D A (wX8 cA a_m (upd (upd r_8 (1 : Int32).toNatClampNeg ((r_8 (1 : Int32).toNatClampNeg) + 1)) (2 : Int32).toNatClampNeg 0) m_past m_pasts m_text m_typed m_faceOfSide m_firstSide m_faces m_before m_endA m_endB m_from m_queue m_ring m_ringSize m_ringNodes m_rings m_path m_pathSize m_old m_lastRing m_bestNodes m_bestInside m_bestFits m_far m_xs m_ys) := hD
    refine lv_iload hx hb dX8_joins_81 (lv_at hl 5 rfl) ?_
    have eR := some_i hf
    exact W.iret hx hb hr (fun t ht hW => ⟨⟨x5, (), rfl, fst_e eR, by rw [← eR, ht]; exact hP, by rw [← eR]; exact hD⟩, hS.F ht⟩) hS.2.2 dX8_joins_83 (hlocks := hlk)
  have B26 : ∀ (x1 : Int32) (x2 : Int32) (x3 : Int32) (x4 : Int32) (x5 : Int32) (y1 : Int32) (y2 : Int32) (m_s : Nat → Int32) (H : Heap) (locs : List Loc) (ls : Array Slot), lv_has ls 6 [(0, .ref (a_m 0)), (1, .int x1), (2, .int x2), (3, .int x3), (4, .int x4), (5, .int x5)] → va_P D vwCl (wX8 cA a_m m_s m_past m_pasts m_text m_typed m_faceOfSide m_firstSide m_faces m_before m_endA m_endB m_from m_queue m_ring m_ringSize m_ringNodes m_rings m_path m_pathSize m_old m_lastRing m_bestNodes m_bestInside m_bestFits m_far m_xs m_ys) H → va_D A (wX8 cA a_m m_s m_past m_pasts m_text m_typed m_faceOfSide m_firstSide m_faces m_before m_endA m_endB m_from m_queue m_ring m_ringSize m_ringNodes m_rings m_path m_pathSize m_old m_lastRing m_bestNodes m_bestInside m_bestFits m_far m_xs m_ys) → va_S A s.heap H locs → f_X8_joins_b26 N x1 x2 x3 x4 x5 y1 y2 m_s = some ρ → W p l e ({ frames := 1, cells := 0, slots := 0, locals := 24 } : Room) s m ([.ref (a_m 0), .int p1, .int p2, .int p3, .int p4] : List Value).toArray below meth c H locs 0 0 (MQ below (va_Qi (fun r (_ : Unit) => r = ρ.1) (fun _ t => va_P D vwCl (wX8 cA a_m ρ.2 m_past m_pasts m_text m_typed m_faceOfSide m_firstSide m_faces m_before m_endA m_endB m_from m_queue m_ring m_ringSize m_ringNodes m_rings m_path m_pathSize m_old m_lastRing m_bestNodes m_bestInside m_bestFits m_far m_xs m_ys) t.heap ∧ va_D A (wX8 cA a_m ρ.2 m_past m_pasts m_text m_typed m_faceOfSide m_firstSide m_faces m_before m_endA m_endB m_from m_queue m_ring m_ringSize m_ringNodes m_rings m_path m_pathSize m_old m_lastRing m_bestNodes m_bestInside m_bestFits m_far m_xs m_ys)) A) ([.ref (a_m 0), .int p1, .int p2, .int p3, .int p4] : List Value).toArray s 0 0 A) (F0 m 26 ls [.int y2, .int y1, .ref (a_m 1)]) := by
    intro x1 x2 x3 x4 x5 y1 y2 m_s H locs ls hl hP hD hS hf
    obtain ⟨h_4, hf⟩ := chk_s hf
    refine va_iast hx hb hK.1 hP hD hS 1 0 rfl rfl (inb_in h_4) dX8_joins_26 (fun H locs hP hD hS => ?_)
    have hP : va_P D vwCl (wX8 cA a_m (upd m_s y1.toNatClampNeg y2) m_past m_pasts m_text m_typed m_faceOfSide m_firstSide m_faces m_before m_endA m_endB m_from m_queue m_ring m_ringSize m_ringNodes m_rings m_path m_pathSize m_old m_lastRing m_bestNodes m_bestInside m_bestFits m_far m_xs m_ys) H := hP
    have hD : va_D A (wX8 cA a_m (upd m_s y1.toNatClampNeg y2) m_past m_pasts m_text m_typed m_faceOfSide m_firstSide m_faces m_before m_endA m_endB m_from m_queue m_ring m_ringSize m_ringNodes m_rings m_path m_pathSize m_old m_lastRing m_bestNodes m_bestInside m_bestFits m_far m_xs m_ys) := hD
    refine lv_aload_n hx hb dX8_joins_27 rfl (lv_at hl 0 rfl) ?_
    refine va_get (D := D) (ci := 8) (C := RX8) (T := TX8) (N := 27) hx hb hT kwX8 hown hK.1 hP 0 rfl rfl 0 (by decide) (hT _ kf_X8_7) (fun _ h9 => h9) rfl dX8_joins_28 ?_
    refine lv_bipush (v := 23) hx hb dX8_joins_31 (by decide) ?_
    refine lv_iload hx hb dX8_joins_33 (lv_at hl 5 rfl) ?_
    refine lv_iadd hx hb dX8_joins_35 ?_
    refine lv_iload_n hx hb dX8_joins_36 rfl (lv_at hl 1 rfl) ?_
    refine lv_iload_n hx hb dX8_joins_37 rfl (lv_at hl 2 rfl) ?_
    refine lv_icmp_ge (tgt := 45) hx hb dX8_joins_38 (by decide) (fun c_5 => ?_) (fun c_5 => ?_)
    · have hf := ite_t c_5 hf
      refine lv_iload_n hx hb dX8_joins_45 rfl (lv_at hl 1 rfl) ?_
      exact B46 x1 x2 x3 x4 x5 (23 + x5) x1 (upd m_s y1.toNatClampNeg y2) _ _ _ (lv_sub hl [0, 1, 2, 3, 4, 5] rfl) hP hD hS hf
    · have hf := ite_f c_5 hf
      refine lv_iload_n hx hb dX8_joins_41 rfl (lv_at hl 2 rfl) ?_
      refine lv_goto (tgt := 46) hx hb dX8_joins_42 (by decide) ?_
      exact B46 x1 x2 x3 x4 x5 (23 + x5) x2 (upd m_s y1.toNatClampNeg y2) _ _ _ (lv_sub hl [0, 1, 2, 3, 4, 5] rfl) hP hD hS hf
  refine lv_aload_n hx hb dX8_joins_0 rfl (lv_at hl 0 rfl) ?_
  refine va_get (D := D) (ci := 8) (C := RX8) (T := TX8) (N := 27) hx hb hT kwX8 hown hK.1 hP 0 rfl rfl 0 (by decide) (hT _ kf_X8_7) (fun _ h9 => h9) rfl dX8_joins_1 ?_
  refine lv_iconst (v := 1) hx hb dX8_joins_4 (by decide) ?_
  obtain ⟨h_1, hf⟩ := chk_s hf
  refine va_iald hx hb hK.1 hP 1 0 rfl rfl (inb_in h_1) dX8_joins_5 ?_
  refine lv_topi (fun x5_2 ex5_2 => ?_)
  have hf := nm_t ex5_2 hf
  refine lv_istore (lv' := [(5, .int x5_2), (0, .ref (a_m 0)), (1, .int p1), (2, .int p2), (3, .int p3), (4, .int p4)]) hx hb dX8_joins_6 hl (by decide) rfl (fun ls hl => ?_)
  refine lv_aload_n hx hb dX8_joins_8 rfl (lv_at hl 1 rfl) ?_
  refine va_get (D := D) (ci := 8) (C := RX8) (T := TX8) (N := 27) hx hb hT kwX8 hown hK.1 hP 0 rfl rfl 0 (by decide) (hT _ kf_X8_7) (fun _ h9 => h9) rfl dX8_joins_9 ?_
  refine lv_iconst (v := 3) hx hb dX8_joins_12 (by decide) ?_
  refine lv_iload hx hb dX8_joins_13 (lv_at hl 0 rfl) ?_
  refine lv_iadd hx hb dX8_joins_15 ?_
  refine lv_iload_n hx hb dX8_joins_16 rfl (lv_at hl 2 rfl) ?_
  refine lv_iload_n hx hb dX8_joins_17 rfl (lv_at hl 3 rfl) ?_
  refine lv_icmp_ge (tgt := 25) hx hb dX8_joins_18 (by decide) (fun c_3 => ?_) (fun c_3 => ?_)
  · have hf := ite_t c_3 hf
    refine lv_iload_n hx hb dX8_joins_25 rfl (lv_at hl 3 rfl) ?_
    exact B26 p1 p2 p3 p4 x5_2 (3 + x5_2) p2 m_s _ _ _ (lv_sub hl [1, 2, 3, 4, 5, 0] rfl) hP hD hS hf
  · have hf := ite_f c_3 hf
    refine lv_iload_n hx hb dX8_joins_21 rfl (lv_at hl 2 rfl) ?_
    refine lv_goto (tgt := 26) hx hb dX8_joins_22 (by decide) ?_
    exact B26 p1 p2 p3 p4 x5_2 (3 + x5_2) p1 m_s _ _ _ (lv_sub hl [1, 2, 3, 4, 5, 0] rfl) hP hD hS hf
set_option maxRecDepth 100000 in
set_option maxHeartbeats 4000000 in
theorem c_X8_addEdge (l : Launch) (D : va_G) (cA : Nat → ClassId) (a_m : Nat → Nat) (m_s : Nat → Int32) (m_past : Nat → Int32) (m_pasts : Int32) (m_text : Nat → Int32) (m_typed : Int32) (m_faceOfSide : Nat → Int32) (m_firstSide : Nat → Int32) (m_faces : Int32) (m_before : Nat → Int32) (m_endA : Nat → Int32) (m_endB : Nat → Int32) (m_from : Nat → Int32) (m_queue : Nat → Int32) (m_ring : Nat → Int32) (m_ringSize : Nat → Int32) (m_ringNodes : Nat → Int32) (m_rings : Int32) (m_path : Nat → Int32) (m_pathSize : Int32) (m_old : Nat → Int32) (m_lastRing : Int32) (m_bestNodes : Int32) (m_bestInside : Int32) (m_bestFits : Int32) (m_far : Nat → Int32) (m_xs : Nat → UInt32) (m_ys : Nat → UInt32) (p1 : Int32) (p2 : Int32) (p3 : Int32) (p4 : Int32) (sz N : Nat) (ρ : Int32 × (Nat → Int32) × (Nat → Int32) × Int32) (hf : f_X8_addEdge N m_s m_past m_pasts p1 p2 p3 p4 = some ρ) : Met l yX8_addEdge (Cond.code yX8_addEdge cX8_addEdge 5 (Option.some Jvm.ClassFile.FieldType.int) :: lw_g) ({ frames := 4, cells := 0, slots := 0, locals := 89 } : Room) (PcW D (tyA cA) (wX8 cA a_m m_s m_past m_pasts m_text m_typed m_faceOfSide m_firstSide m_faces m_before m_endA m_endB m_from m_queue m_ring m_ringSize m_ringNodes m_rings m_path m_pathSize m_old m_lastRing m_bestNodes m_bestInside m_bestFits m_far m_xs m_ys) sz [.ref (a_m 0), .int p1, .int p2, .int p3, .int p4]) (va_Qi (fun r (_ : Unit) => r = ρ.1) (fun _ t => va_P D vwCl (wX8 cA a_m ρ.2.1 ρ.2.2.1 ρ.2.2.2 m_text m_typed m_faceOfSide m_firstSide m_faces m_before m_endA m_endB m_from m_queue m_ring m_ringSize m_ringNodes m_rings m_path m_pathSize m_old m_lastRing m_bestNodes m_bestInside m_bestFits m_far m_xs m_ys) t.heap ∧ va_D (va_A (wX8 cA a_m m_s m_past m_pasts m_text m_typed m_faceOfSide m_firstSide m_faces m_before m_endA m_endB m_from m_queue m_ring m_ringSize m_ringNodes m_rings m_path m_pathSize m_old m_lastRing m_bestNodes m_bestInside m_bestFits m_far m_xs m_ys) sz) (wX8 cA a_m ρ.2.1 ρ.2.2.1 ρ.2.2.2 m_text m_typed m_faceOfSide m_firstSide m_faces m_before m_endA m_endB m_from m_queue m_ring m_ringSize m_ringNodes m_rings m_path m_pathSize m_old m_lastRing m_bestNodes m_bestInside m_bestFits m_far m_xs m_ys)) (va_A (wX8 cA a_m m_s m_past m_pasts m_text m_typed m_faceOfSide m_firstSide m_faces m_before m_endA m_endB m_from m_queue m_ring m_ringSize m_ringNodes m_rings m_path m_pathSize m_old m_lastRing m_bestNodes m_bestInside m_bestFits m_far m_xs m_ys) sz)) 0 0 (va_A (wX8 cA a_m m_s m_past m_pasts m_text m_typed m_faceOfSide m_firstSide m_faces m_before m_endA m_endB m_from m_queue m_ring m_ringSize m_ringNodes m_rings m_path m_pathSize m_old m_lastRing m_bestNodes m_bestInside m_bestFits m_far m_xs m_ys) sz) := by
  refine mkW (QQ := fun A => va_Qi (fun r (_ : Unit) => r = ρ.1) (fun _ t => va_P D vwCl (wX8 cA a_m ρ.2.1 ρ.2.2.1 ρ.2.2.2 m_text m_typed m_faceOfSide m_firstSide m_faces m_before m_endA m_endB m_from m_queue m_ring m_ringSize m_ringNodes m_rings m_path m_pathSize m_old m_lastRing m_bestNodes m_bestInside m_bestFits m_far m_xs m_ys) t.heap ∧ va_D A (wX8 cA a_m ρ.2.1 ρ.2.2.1 ρ.2.2.2 m_text m_typed m_faceOfSide m_firstSide m_faces m_before m_endA m_endB m_from m_queue m_ring m_ringSize m_ringNodes m_rings m_path m_pathSize m_old m_lastRing m_bestNodes m_bestInside m_bestFits m_far m_xs m_ys)) A) (by decide) (Nat.le_of_ble_eq_true rfl) fun p e s m below meth c ls A C hl hP hK hD hA hS => ?_
  obtain ⟨hx, hb, hml, hown, hT, hr, hlk⟩ := id C
  have hl : lv_has ls 5 [(0, .ref (a_m 0)), (1, .int p1), (2, .int p2), (3, .int p3), (4, .int p4)] := hl
  have B112 : ∀ (y1 : Int32) (y2 : Int32) (y3 : Int32) (y4 : Int32) (m_s : Nat → Int32) (m_past : Nat → Int32) (m_pasts : Int32) (H : Heap) (locs : List Loc) (ls : Array Slot), lv_has ls 5 [] → va_P D vwCl (wX8 cA a_m m_s m_past m_pasts m_text m_typed m_faceOfSide m_firstSide m_faces m_before m_endA m_endB m_from m_queue m_ring m_ringSize m_ringNodes m_rings m_path m_pathSize m_old m_lastRing m_bestNodes m_bestInside m_bestFits m_far m_xs m_ys) H → va_D A (wX8 cA a_m m_s m_past m_pasts m_text m_typed m_faceOfSide m_firstSide m_faces m_before m_endA m_endB m_from m_queue m_ring m_ringSize m_ringNodes m_rings m_path m_pathSize m_old m_lastRing m_bestNodes m_bestInside m_bestFits m_far m_xs m_ys) → va_S A s.heap H locs → f_X8_addEdge_b112 N y1 y2 y3 y4 m_s m_past m_pasts = some ρ → W p l e ({ frames := 4, cells := 0, slots := 0, locals := 89 } : Room) s m ([.ref (a_m 0), .int p1, .int p2, .int p3, .int p4] : List Value).toArray below meth c H locs 0 0 (MQ below (va_Qi (fun r (_ : Unit) => r = ρ.1) (fun _ t => va_P D vwCl (wX8 cA a_m ρ.2.1 ρ.2.2.1 ρ.2.2.2 m_text m_typed m_faceOfSide m_firstSide m_faces m_before m_endA m_endB m_from m_queue m_ring m_ringSize m_ringNodes m_rings m_path m_pathSize m_old m_lastRing m_bestNodes m_bestInside m_bestFits m_far m_xs m_ys) t.heap ∧ va_D A (wX8 cA a_m ρ.2.1 ρ.2.2.1 ρ.2.2.2 m_text m_typed m_faceOfSide m_firstSide m_faces m_before m_endA m_endB m_from m_queue m_ring m_ringSize m_ringNodes m_rings m_path m_pathSize m_old m_lastRing m_bestNodes m_bestInside m_bestFits m_far m_xs m_ys)) A) ([.ref (a_m 0), .int p1, .int p2, .int p3, .int p4] : List Value).toArray s 0 0 A) (F0 m 112 ls [.int y4, .int y3, .int y2, .int y1, .ref (a_m 0)]) := by
    intro y1 y2 y3 y4 m_s m_past m_pasts H locs ls hl hP hD hS hf
    obtain ⟨r_18, hcr_18, hf⟩ := bd1_s hf
    refine backWi (w2 := (wX8 cA a_m r_18.2 m_past m_pasts m_text m_typed m_faceOfSide m_firstSide m_faces m_before m_endA m_endB m_from m_queue m_ring m_ringSize m_ringNodes m_rings m_path m_pathSize m_old m_lastRing m_bestNodes m_bestInside m_bestFits m_far m_xs m_ys)) (runVw C (c_X8_joins l D cA a_m m_s m_past m_pasts m_text m_typed m_faceOfSide m_firstSide m_faces m_before m_endA m_endB m_from m_queue m_ring m_ringSize m_ringNodes m_rings m_path m_pathSize m_old m_lastRing m_bestNodes m_bestInside m_bestFits m_far m_xs m_ys y1 y2 y3 y4 _ N r_18 hcr_18) cf_X8_joins km_X8_109 ⟨rfl, rfl, by decide, by decide⟩ ⟨Nat.zero_le _, Nat.zero_le _⟩ (va_recv hK.1 hP (ci := 8) (q0 := 0) rfl rfl) (hP.sub [0, 1, 2, 3, 4, 5, 6, 7, 8, 9, 10, 11, 12, 13, 14, 15, 16, 17, 18] rfl) (hD.sub [0, 1, 2, 3, 4, 5, 6, 7, 8, 9, 10, 11, 12, 13, 14, 15, 16, 17, 18] rfl rfl) hK hl.1 rfl rfl (Nat.le_of_ble_eq_true rfl) dX8_addEdge_112) hP hD hS hA [0, 1, 2, 3, 4, 5, 6, 7, 8, 9, 10, 11, 12, 13, 14, 15, 16, 17, 18] rfl [] rfl rfl (by decide) [0, 1, 2, 3, 4, 5, 6, 7, 8, 9, 10, 11, 12, 13, 14, 15, 16, 17, 18] rfl rfl (fun H locs hP hD hS => ?_)
    have eR := some_i hf
    exact W.iret hx hb hr (fun t ht hW => ⟨⟨r_18.1, (), rfl, fst_e eR, by rw [← eR, ht]; exact hP, by rw [← eR]; exact hD⟩, hS.F ht⟩) hS.2.2 dX8_addEdge_115 (hlocks := hlk)
  have B93 : ∀ (x2 : Int32) (x4 : Int32) (y1 : Int32) (y2 : Int32) (y3 : Int32) (m_s : Nat → Int32) (m_past : Nat → Int32) (m_pasts : Int32) (H : Heap) (locs : List Loc) (ls : Array Slot), lv_has ls 5 [(0, .ref (a_m 0)), (2, .int x2), (4, .int x4)] → va_P D vwCl (wX8 cA a_m m_s m_past m_pasts m_text m_typed m_faceOfSide m_firstSide m_faces m_before m_endA m_endB m_from m_queue m_ring m_ringSize m_ringNodes m_rings m_path m_pathSize m_old m_lastRing m_bestNodes m_bestInside m_bestFits m_far m_xs m_ys) H → va_D A (wX8 cA a_m m_s m_past m_pasts m_text m_typed m_faceOfSide m_firstSide m_faces m_before m_endA m_endB m_from m_queue m_ring m_ringSize m_ringNodes m_rings m_path m_pathSize m_old m_lastRing m_bestNodes m_bestInside m_bestFits m_far m_xs m_ys) → va_S A s.heap H locs → f_X8_addEdge_b93 N x2 x4 y1 y2 y3 m_s m_past m_pasts = some ρ → W p l e ({ frames := 4, cells := 0, slots := 0, locals := 89 } : Room) s m ([.ref (a_m 0), .int p1, .int p2, .int p3, .int p4] : List Value).toArray below meth c H locs 0 0 (MQ below (va_Qi (fun r (_ : Unit) => r = ρ.1) (fun _ t => va_P D vwCl (wX8 cA a_m ρ.2.1 ρ.2.2.1 ρ.2.2.2 m_text m_typed m_faceOfSide m_firstSide m_faces m_before m_endA m_endB m_from m_queue m_ring m_ringSize m_ringNodes m_rings m_path m_pathSize m_old m_lastRing m_bestNodes m_bestInside m_bestFits m_far m_xs m_ys) t.heap ∧ va_D A (wX8 cA a_m ρ.2.1 ρ.2.2.1 ρ.2.2.2 m_text m_typed m_faceOfSide m_firstSide m_faces m_before m_endA m_endB m_from m_queue m_ring m_ringSize m_ringNodes m_rings m_path m_pathSize m_old m_lastRing m_bestNodes m_bestInside m_bestFits m_far m_xs m_ys)) A) ([.ref (a_m 0), .int p1, .int p2, .int p3, .int p4] : List Value).toArray s 0 0 A) (F0 m 93 ls [.int y3, .int y2, .int y1, .ref (a_m 0)]) := by
    intro x2 x4 y1 y2 y3 m_s m_past m_pasts H locs ls hl hP hD hS hf
    refine lv_iload hx hb dX8_addEdge_93 (lv_at hl 2 rfl) ?_
    refine lv_iconst (v := (-1)) hx hb dX8_addEdge_95 (by decide) ?_
    refine lv_icmp_ne (tgt := 103) hx hb dX8_addEdge_96 (by decide) (fun c_16 => ?_) (fun c_16 => ?_)
    · have hf := ite_t c_16 hf
      refine lv_aload_n hx hb dX8_addEdge_103 rfl (lv_at hl 0 rfl) ?_
      refine lv_iload_n hx hb dX8_addEdge_104 rfl (lv_at hl 1 rfl) ?_
      refine lv_iload hx hb dX8_addEdge_105 (lv_at hl 2 rfl) ?_
      obtain ⟨r_17, hcr_17, hf⟩ := bd1_s hf
      refine backI (runV0 C (c_X8_place l D cA a_m m_s m_past m_pasts m_text m_typed m_faceOfSide m_firstSide m_faces m_before m_endA m_endB m_from m_queue m_ring m_ringSize m_ringNodes m_rings m_path m_pathSize m_old m_lastRing m_bestNodes m_bestInside m_bestFits m_far m_xs m_ys x2 x4 N r_17 hcr_17) cf_X8_place km_X8_106 ⟨rfl, rfl, by decide, by decide⟩ ⟨Nat.zero_le _, Nat.zero_le _⟩ (va_recv hK.1 hP (ci := 8) (q0 := 0) rfl rfl) (hP.sub [0, 1, 2, 3, 4, 5, 6, 7, 8, 9, 10, 11, 12, 13, 14, 15, 16, 17, 18] rfl) hK hl.1 rfl rfl (Nat.le_of_ble_eq_true rfl) dX8_addEdge_107) ?_
      refine lv_iconst (v := 1) hx hb dX8_addEdge_110 (by decide) ?_
      refine lv_iadd hx hb dX8_addEdge_111 ?_
      exact B112 y1 y2 y3 (r_17 + 1) m_s m_past m_pasts _ _ _ (lv_sub hl [] rfl) hP hD hS hf
    · have hf := ite_fn c_16 hf
      refine lv_iconst (v := 0) hx hb dX8_addEdge_99 (by decide) ?_
      refine lv_goto (tgt := 112) hx hb dX8_addEdge_100 (by decide) ?_
      exact B112 y1 y2 y3 0 m_s m_past m_pasts _ _ _ (lv_sub hl [] rfl) hP hD hS hf
  have B41 : ∀ (x1 : Int32) (x2 : Int32) (x3 : Int32) (x4 : Int32) (m_s : Nat → Int32) (m_past : Nat → Int32) (m_pasts : Int32) (H : Heap) (locs : List Loc) (ls : Array Slot), lv_has ls 5 [(0, .ref (a_m 0)), (1, .int x1), (2, .int x2), (3, .int x3), (4, .int x4)] → va_P D vwCl (wX8 cA a_m m_s m_past m_pasts m_text m_typed m_faceOfSide m_firstSide m_faces m_before m_endA m_endB m_from m_queue m_ring m_ringSize m_ringNodes m_rings m_path m_pathSize m_old m_lastRing m_bestNodes m_bestInside m_bestFits m_far m_xs m_ys) H → va_D A (wX8 cA a_m m_s m_past m_pasts m_text m_typed m_faceOfSide m_firstSide m_faces m_before m_endA m_endB m_from m_queue m_ring m_ringSize m_ringNodes m_rings m_path m_pathSize m_old m_lastRing m_bestNodes m_bestInside m_bestFits m_far m_xs m_ys) → va_S A s.heap H locs → f_X8_addEdge_b41 N x1 x2 x3 x4 m_s m_past m_pasts = some ρ → W p l e ({ frames := 4, cells := 0, slots := 0, locals := 89 } : Room) s m ([.ref (a_m 0), .int p1, .int p2, .int p3, .int p4] : List Value).toArray below meth c H locs 0 0 (MQ below (va_Qi (fun r (_ : Unit) => r = ρ.1) (fun _ t => va_P D vwCl (wX8 cA a_m ρ.2.1 ρ.2.2.1 ρ.2.2.2 m_text m_typed m_faceOfSide m_firstSide m_faces m_before m_endA m_endB m_from m_queue m_ring m_ringSize m_ringNodes m_rings m_path m_pathSize m_old m_lastRing m_bestNodes m_bestInside m_bestFits m_far m_xs m_ys) t.heap ∧ va_D A (wX8 cA a_m ρ.2.1 ρ.2.2.1 ρ.2.2.2 m_text m_typed m_faceOfSide m_firstSide m_faces m_before m_endA m_endB m_from m_queue m_ring m_ringSize m_ringNodes m_rings m_path m_pathSize m_old m_lastRing m_bestNodes m_bestInside m_bestFits m_far m_xs m_ys)) A) ([.ref (a_m 0), .int p1, .int p2, .int p3, .int p4] : List Value).toArray s 0 0 A) (F0 m 41 ls []) := by
    intro x1 x2 x3 x4 m_s m_past m_pasts H locs ls hl hP hD hS hf
    refine lv_aload_n hx hb dX8_addEdge_41 rfl (lv_at hl 0 rfl) ?_
    refine lv_iload_n hx hb dX8_addEdge_42 rfl (lv_at hl 1 rfl) ?_
    refine lv_iload_n hx hb dX8_addEdge_43 rfl (lv_at hl 2 rfl) ?_
    obtain ⟨r_9, hcr_9, hf⟩ := bd1_s hf
    refine backI (runV0 C (c_X8_between l D cA a_m m_s m_past m_pasts m_text m_typed m_faceOfSide m_firstSide m_faces m_before m_endA m_endB m_from m_queue m_ring m_ringSize m_ringNodes m_rings m_path m_pathSize m_old m_lastRing m_bestNodes m_bestInside m_bestFits m_far m_xs m_ys x1 x2 N r_9 hcr_9) cf_X8_between km_X8_103 ⟨rfl, rfl, by decide, by decide⟩ ⟨Nat.zero_le _, Nat.zero_le _⟩ (va_recv hK.1 hP (ci := 8) (q0 := 0) rfl rfl) (hP.sub [0, 1, 2, 3, 4, 5, 6, 7, 8, 9, 10, 11, 12, 13, 14, 15, 16, 17, 18] rfl) hK hl.1 rfl rfl (Nat.le_of_ble_eq_true rfl) dX8_addEdge_44) ?_
    refine lv_bipush (v := (-9)) hx hb dX8_addEdge_47 (by decide) ?_
    refine lv_icmp_eq (tgt := 55) hx hb dX8_addEdge_49 (by decide) (fun c_10 => ?_) (fun c_10 => ?_)
    · have hf := ite_t c_10 hf
      refine lv_aload_n hx hb dX8_addEdge_55 rfl (lv_at hl 0 rfl) ?_
      refine va_get (D := D) (ci := 8) (C := RX8) (T := TX8) (N := 27) hx hb hT kwX8 hown hK.1 hP 0 rfl rfl 0 (by decide) (hT _ kf_X8_7) (fun _ h9 => h9) rfl dX8_addEdge_56 ?_
      refine lv_iconst (v := 1) hx hb dX8_addEdge_59 (by decide) ?_
      obtain ⟨h_11, hf⟩ := chk_s hf
      refine va_iald hx hb hK.1 hP 1 0 rfl rfl (inb_in h_11) dX8_addEdge_60 ?_
      refine lv_bipush (v := 20) hx hb dX8_addEdge_61 (by decide) ?_
      refine lv_icmp_ne (tgt := 69) hx hb dX8_addEdge_63 (by decide) (fun c_12 => ?_) (fun c_12 => ?_)
      · have hf := ite_t c_12 hf
        refine lv_aload_n hx hb dX8_addEdge_69 rfl (lv_at hl 0 rfl) ?_
        obtain ⟨r_13, hcr_13, hf⟩ := bd1_s hf
        refine backWv (w2 := (wX8 cA a_m m_s r_13.1 r_13.2 m_text m_typed m_faceOfSide m_firstSide m_faces m_before m_endA m_endB m_from m_queue m_ring m_ringSize m_ringNodes m_rings m_path m_pathSize m_old m_lastRing m_bestNodes m_bestInside m_bestFits m_far m_xs m_ys)) (runVw C (c_X8_notes l D cA a_m m_s m_past m_pasts m_text m_typed m_faceOfSide m_firstSide m_faces m_before m_endA m_endB m_from m_queue m_ring m_ringSize m_ringNodes m_rings m_path m_pathSize m_old m_lastRing m_bestNodes m_bestInside m_bestFits m_far m_xs m_ys _ N r_13 hcr_13) cf_X8_notes km_X8_90 ⟨rfl, rfl, by decide, by decide⟩ ⟨Nat.zero_le _, Nat.zero_le _⟩ (va_recv hK.1 hP (ci := 8) (q0 := 0) rfl rfl) (hP.sub [0, 1, 2, 3, 4, 5, 6, 7, 8, 9, 10, 11, 12, 13, 14, 15, 16, 17, 18] rfl) (hD.sub [0, 1, 2, 3, 4, 5, 6, 7, 8, 9, 10, 11, 12, 13, 14, 15, 16, 17, 18] rfl rfl) hK hl.1 rfl rfl (Nat.le_of_ble_eq_true rfl) dX8_addEdge_70) hP hD hS hA [0, 1, 2, 3, 4, 5, 6, 7, 8, 9, 10, 11, 12, 13, 14, 15, 16, 17, 18] rfl [] rfl rfl (by decide) [0, 1, 2, 3, 4, 5, 6, 7, 8, 9, 10, 11, 12, 13, 14, 15, 16, 17, 18] rfl rfl (fun H locs hP hD hS => ?_)
        refine lv_aload_n hx hb dX8_addEdge_73 rfl (lv_at hl 0 rfl) ?_
        refine lv_iload_n hx hb dX8_addEdge_74 rfl (lv_at hl 1 rfl) ?_
        refine lv_iload_n hx hb dX8_addEdge_75 rfl (lv_at hl 2 rfl) ?_
        refine lv_iload_n hx hb dX8_addEdge_76 rfl (lv_at hl 3 rfl) ?_
        refine lv_iconst (v := (-1)) hx hb dX8_addEdge_77 (by decide) ?_
        refine lv_icmp_ne (tgt := 85) hx hb dX8_addEdge_78 (by decide) (fun c_14 => ?_) (fun c_14 => ?_)
        · have hf := ite_t c_14 hf
          refine lv_aload_n hx hb dX8_addEdge_85 rfl (lv_at hl 0 rfl) ?_
          refine lv_iload_n hx hb dX8_addEdge_86 rfl (lv_at hl 1 rfl) ?_
          refine lv_iload_n hx hb dX8_addEdge_87 rfl (lv_at hl 3 rfl) ?_
          obtain ⟨r_15, hcr_15, hf⟩ := bd1_s hf
          refine backI (runV0 C (c_X8_place l D cA a_m m_s r_13.1 r_13.2 m_text m_typed m_faceOfSide m_firstSide m_faces m_before m_endA m_endB m_from m_queue m_ring m_ringSize m_ringNodes m_rings m_path m_pathSize m_old m_lastRing m_bestNodes m_bestInside m_bestFits m_far m_xs m_ys x1 x3 N r_15 hcr_15) cf_X8_place km_X8_106 ⟨rfl, rfl, by decide, by decide⟩ ⟨Nat.zero_le _, Nat.zero_le _⟩ (va_recv hK.1 hP (ci := 8) (q0 := 0) rfl rfl) (hP.sub [0, 1, 2, 3, 4, 5, 6, 7, 8, 9, 10, 11, 12, 13, 14, 15, 16, 17, 18] rfl) hK hl.1 rfl rfl (Nat.le_of_ble_eq_true rfl) dX8_addEdge_88) ?_
          refine lv_iconst (v := 1) hx hb dX8_addEdge_91 (by decide) ?_
          refine lv_iadd hx hb dX8_addEdge_92 ?_
          exact B93 x2 x4 x1 x2 (r_15 + 1) m_s r_13.1 r_13.2 _ _ _ (lv_sub hl [0, 2, 4] rfl) hP hD hS hf
        · have hf := ite_fn c_14 hf
          refine lv_iconst (v := 0) hx hb dX8_addEdge_81 (by decide) ?_
          refine lv_goto (tgt := 93) hx hb dX8_addEdge_82 (by decide) ?_
          exact B93 x2 x4 x1 x2 0 m_s r_13.1 r_13.2 _ _ _ (lv_sub hl [0, 2, 4] rfl) hP hD hS hf
      · have hf := ite_fn c_12 hf
        refine lv_bipush (v := (-3)) hx hb dX8_addEdge_66 (by decide) ?_
        have eR := some_i hf
        exact W.iret hx hb hr (fun t ht hW => ⟨⟨(-3), (), rfl, fst_e eR, by rw [← eR, ht]; exact hP, by rw [← eR]; exact hD⟩, hS.F ht⟩) hS.2.2 dX8_addEdge_68 (hlocks := hlk)
    · have hf := ite_f c_10 hf
      refine lv_bipush (v := (-2)) hx hb dX8_addEdge_52 (by decide) ?_
      have eR := some_i hf
      exact W.iret hx hb hr (fun t ht hW => ⟨⟨(-2), (), rfl, fst_e eR, by rw [← eR, ht]; exact hP, by rw [← eR]; exact hD⟩, hS.F ht⟩) hS.2.2 dX8_addEdge_54 (hlocks := hlk)
  have B23 : ∀ (x1 : Int32) (x2 : Int32) (x3 : Int32) (x4 : Int32) (m_s : Nat → Int32) (m_past : Nat → Int32) (m_pasts : Int32) (H : Heap) (locs : List Loc) (ls : Array Slot), lv_has ls 5 [(0, .ref (a_m 0)), (1, .int x1), (2, .int x2), (3, .int x3), (4, .int x4)] → va_P D vwCl (wX8 cA a_m m_s m_past m_pasts m_text m_typed m_faceOfSide m_firstSide m_faces m_before m_endA m_endB m_from m_queue m_ring m_ringSize m_ringNodes m_rings m_path m_pathSize m_old m_lastRing m_bestNodes m_bestInside m_bestFits m_far m_xs m_ys) H → va_D A (wX8 cA a_m m_s m_past m_pasts m_text m_typed m_faceOfSide m_firstSide m_faces m_before m_endA m_endB m_from m_queue m_ring m_ringSize m_ringNodes m_rings m_path m_pathSize m_old m_lastRing m_bestNodes m_bestInside m_bestFits m_far m_xs m_ys) → va_S A s.heap H locs → f_X8_addEdge_b23 N x1 x2 x3 x4 m_s m_past m_pasts = some ρ → W p l e ({ frames := 4, cells := 0, slots := 0, locals := 89 } : Room) s m ([.ref (a_m 0), .int p1, .int p2, .int p3, .int p4] : List Value).toArray below meth c H locs 0 0 (MQ below (va_Qi (fun r (_ : Unit) => r = ρ.1) (fun _ t => va_P D vwCl (wX8 cA a_m ρ.2.1 ρ.2.2.1 ρ.2.2.2 m_text m_typed m_faceOfSide m_firstSide m_faces m_before m_endA m_endB m_from m_queue m_ring m_ringSize m_ringNodes m_rings m_path m_pathSize m_old m_lastRing m_bestNodes m_bestInside m_bestFits m_far m_xs m_ys) t.heap ∧ va_D A (wX8 cA a_m ρ.2.1 ρ.2.2.1 ρ.2.2.2 m_text m_typed m_faceOfSide m_firstSide m_faces m_before m_endA m_endB m_from m_queue m_ring m_ringSize m_ringNodes m_rings m_path m_pathSize m_old m_lastRing m_bestNodes m_bestInside m_bestFits m_far m_xs m_ys)) A) ([.ref (a_m 0), .int p1, .int p2, .int p3, .int p4] : List Value).toArray s 0 0 A) (F0 m 23 ls []) := by
    intro x1 x2 x3 x4 m_s m_past m_pasts H locs ls hl hP hD hS hf
    refine lv_iload hx hb dX8_addEdge_23 (lv_at hl 4 rfl) ?_
    refine lv_iconst (v := (-1)) hx hb dX8_addEdge_25 (by decide) ?_
    refine lv_icmp_eq (tgt := 41) hx hb dX8_addEdge_26 (by decide) (fun c_6 => ?_) (fun c_6 => ?_)
    · have hf := ite_t c_6 hf
      exact B41 x1 x2 x3 x4 m_s m_past m_pasts _ _ _ (lv_sub hl [0, 1, 2, 3, 4] rfl) hP hD hS hf
    · have hf := ite_f c_6 hf
      refine lv_aload_n hx hb dX8_addEdge_29 rfl (lv_at hl 0 rfl) ?_
      refine lv_iload hx hb dX8_addEdge_30 (lv_at hl 4 rfl) ?_
      refine lv_iload_n hx hb dX8_addEdge_32 rfl (lv_at hl 2 rfl) ?_
      obtain ⟨r_7, hcr_7, hf⟩ := bd1_s hf
      refine backI (runV0 C (c_X8_isAt l D cA a_m m_s m_past m_pasts m_text m_typed m_faceOfSide m_firstSide m_faces m_before m_endA m_endB m_from m_queue m_ring m_ringSize m_ringNodes m_rings m_path m_pathSize m_old m_lastRing m_bestNodes m_bestInside m_bestFits m_far m_xs m_ys x4 x2 N r_7 hcr_7) cf_X8_isAt km_X8_82 ⟨rfl, rfl, by decide, by decide⟩ ⟨Nat.zero_le _, Nat.zero_le _⟩ (va_recv hK.1 hP (ci := 8) (q0 := 0) rfl rfl) (hP.sub [0, 1, 2, 3, 4, 5, 6, 7, 8, 9, 10, 11, 12, 13, 14, 15, 16, 17, 18] rfl) hK hl.1 rfl rfl (Nat.le_of_ble_eq_true rfl) dX8_addEdge_33) ?_
      refine lv_if_ne (tgt := 41) hx hb dX8_addEdge_36 (by decide) (fun c_8 => ?_) (fun c_8 => ?_)
      · have hf := ite_t c_8 hf
        exact B41 x1 x2 x3 x4 m_s m_past m_pasts _ _ _ (lv_sub hl [0, 1, 2, 3, 4] rfl) hP hD hS hf
      · have hf := ite_fn c_8 hf
        refine lv_iconst (v := (-1)) hx hb dX8_addEdge_39 (by decide) ?_
        have eR := some_i hf
        exact W.iret hx hb hr (fun t ht hW => ⟨⟨(-1), (), rfl, fst_e eR, by rw [← eR, ht]; exact hP, by rw [← eR]; exact hD⟩, hS.F ht⟩) hS.2.2 dX8_addEdge_40 (hlocks := hlk)
  refine lv_aload_n hx hb dX8_addEdge_0 rfl (lv_at hl 0 rfl) ?_
  refine lv_iload_n hx hb dX8_addEdge_1 rfl (lv_at hl 1 rfl) ?_
  refine lv_iload_n hx hb dX8_addEdge_2 rfl (lv_at hl 2 rfl) ?_
  obtain ⟨r_1, hcr_1, hf⟩ := bd1_s hf
  refine backI (runV0 C (c_X8_areNodes l D cA a_m m_s m_past m_pasts m_text m_typed m_faceOfSide m_firstSide m_faces m_before m_endA m_endB m_from m_queue m_ring m_ringSize m_ringNodes m_rings m_path m_pathSize m_old m_lastRing m_bestNodes m_bestInside m_bestFits m_far m_xs m_ys p1 p2 N r_1 hcr_1) cf_X8_areNodes km_X8_100 ⟨rfl, rfl, by decide, by decide⟩ ⟨Nat.zero_le _, Nat.zero_le _⟩ (va_recv hK.1 hP (ci := 8) (q0 := 0) rfl rfl) (hP.sub [0, 1, 2, 3, 4, 5, 6, 7, 8, 9, 10, 11, 12, 13, 14, 15, 16, 17, 18] rfl) hK hl.1 rfl rfl (Nat.le_of_ble_eq_true rfl) dX8_addEdge_3) ?_
  refine lv_if_eq (tgt := 39) hx hb dX8_addEdge_6 (by decide) (fun c_2 => ?_) (fun c_2 => ?_)
  · have hf := ite_t c_2 hf
    refine lv_iconst (v := (-1)) hx hb dX8_addEdge_39 (by decide) ?_
    have eR := some_i hf
    exact W.iret hx hb hr (fun t ht hW => ⟨⟨(-1), (), rfl, fst_e eR, by rw [← eR, ht]; exact hP, by rw [← eR]; exact hD⟩, hS.F ht⟩) hS.2.2 dX8_addEdge_40 (hlocks := hlk)
  · have hf := ite_f c_2 hf
    refine lv_iload_n hx hb dX8_addEdge_9 rfl (lv_at hl 3 rfl) ?_
    refine lv_iconst (v := (-1)) hx hb dX8_addEdge_10 (by decide) ?_
    refine lv_icmp_eq (tgt := 23) hx hb dX8_addEdge_11 (by decide) (fun c_3 => ?_) (fun c_3 => ?_)
    · have hf := ite_t c_3 hf
      exact B23 p1 p2 p3 p4 m_s m_past m_pasts _ _ _ (lv_sub hl [0, 1, 2, 3, 4] rfl) hP hD hS hf
    · have hf := ite_f c_3 hf
      refine lv_aload_n hx hb dX8_addEdge_14 rfl (lv_at hl 0 rfl) ?_
      refine lv_iload_n hx hb dX8_addEdge_15 rfl (lv_at hl 3 rfl) ?_
      refine lv_iload_n hx hb dX8_addEdge_16 rfl (lv_at hl 1 rfl) ?_
      obtain ⟨r_4, hcr_4, hf⟩ := bd1_s hf
      refine backI (runV0 C (c_X8_isAt l D cA a_m m_s m_past m_pasts m_text m_typed m_faceOfSide m_firstSide m_faces m_before m_endA m_endB m_from m_queue m_ring m_ringSize m_ringNodes m_rings m_path m_pathSize m_old m_lastRing m_bestNodes m_bestInside m_bestFits m_far m_xs m_ys p3 p1 N r_4 hcr_4) cf_X8_isAt km_X8_82 ⟨rfl, rfl, by decide, by decide⟩ ⟨Nat.zero_le _, Nat.zero_le _⟩ (va_recv hK.1 hP (ci := 8) (q0 := 0) rfl rfl) (hP.sub [0, 1, 2, 3, 4, 5, 6, 7, 8, 9, 10, 11, 12, 13, 14, 15, 16, 17, 18] rfl) hK hl.1 rfl rfl (Nat.le_of_ble_eq_true rfl) dX8_addEdge_17) ?_
      refine lv_if_eq (tgt := 39) hx hb dX8_addEdge_20 (by decide) (fun c_5 => ?_) (fun c_5 => ?_)
      · have hf := ite_t c_5 hf
        refine lv_iconst (v := (-1)) hx hb dX8_addEdge_39 (by decide) ?_
        have eR := some_i hf
        exact W.iret hx hb hr (fun t ht hW => ⟨⟨(-1), (), rfl, fst_e eR, by rw [← eR, ht]; exact hP, by rw [← eR]; exact hD⟩, hS.F ht⟩) hS.2.2 dX8_addEdge_40 (hlocks := hlk)
      · have hf := ite_f c_5 hf
        exact B23 p1 p2 p3 p4 m_s m_past m_pasts _ _ _ (lv_sub hl [0, 1, 2, 3, 4] rfl) hP hD hS hf
set_option maxRecDepth 100000 in
set_option maxHeartbeats 4000000 in
theorem c_X8_tail (l : Launch) (D : va_G) (cA : Nat → ClassId) (a_m : Nat → Nat) (m_s : Nat → Int32) (m_past : Nat → Int32) (m_pasts : Int32) (m_text : Nat → Int32) (m_typed : Int32) (m_faceOfSide : Nat → Int32) (m_firstSide : Nat → Int32) (m_faces : Int32) (m_before : Nat → Int32) (m_endA : Nat → Int32) (m_endB : Nat → Int32) (m_from : Nat → Int32) (m_queue : Nat → Int32) (m_ring : Nat → Int32) (m_ringSize : Nat → Int32) (m_ringNodes : Nat → Int32) (m_rings : Int32) (m_path : Nat → Int32) (m_pathSize : Int32) (m_old : Nat → Int32) (m_lastRing : Int32) (m_bestNodes : Int32) (m_bestInside : Int32) (m_bestFits : Int32) (m_far : Nat → Int32) (m_xs : Nat → UInt32) (m_ys : Nat → UInt32) (p1 : Int32) (N : Nat) (ρ : Int32) (hf : f_X8_tail N m_s p1 = some ρ) : Met l yX8_tail (Cond.code yX8_tail cX8_tail 2 (Option.some Jvm.ClassFile.FieldType.int) :: lw_g) ({ frames := 0, cells := 0, slots := 0, locals := 0 } : Room) (PcS D (tyA cA) (wX8 cA a_m m_s m_past m_pasts m_text m_typed m_faceOfSide m_firstSide m_faces m_before m_endA m_endB m_from m_queue m_ring m_ringSize m_ringNodes m_rings m_path m_pathSize m_old m_lastRing m_bestNodes m_bestInside m_bestFits m_far m_xs m_ys) [.ref (a_m 0), .int p1]) (vp_Si (fun r => r = ρ)) 0 0 (fun _ => False) := by
  refine mkS (by decide +kernel) (Nat.le_of_ble_eq_true rfl) fun p e s m below meth c ls C hl hP hK => ?_
  obtain ⟨hx, hb, hml, hown, hT, hr, hlk⟩ := id C
  have hl : lv_has ls 2 [(0, .ref (a_m 0)), (1, .int p1)] := hl
  refine lv_iload_n hx hb dX8_tail_0 rfl (lv_at hl 1 rfl) ?_
  refine lv_iconst (v := 2) hx hb dX8_tail_1 (by decide) ?_
  refine lv_irem hx hb dX8_tail_2 (by decide) ?_
  refine lv_if_ne (tgt := 19) hx hb dX8_tail_3 (by decide) (fun c_1 => ?_) (fun c_1 => ?_)
  · have hf := ite_t c_1 hf
    refine lv_aload_n hx hb dX8_tail_19 rfl (lv_at hl 0 rfl) ?_
    refine va_get (D := D) (ci := 8) (C := RX8) (T := TX8) (N := 27) hx hb hT kwX8 hown hK.1 hP 0 rfl rfl 0 (by decide) (hT _ kf_X8_7) (fun _ h9 => h9) rfl dX8_tail_20 ?_
    refine lv_bipush (v := 23) hx hb dX8_tail_23 (by decide) ?_
    refine lv_iload_n hx hb dX8_tail_25 rfl (lv_at hl 1 rfl) ?_
    refine lv_iconst (v := 2) hx hb dX8_tail_26 (by decide) ?_
    refine lv_idiv hx hb dX8_tail_27 (by decide) ?_
    refine lv_iadd hx hb dX8_tail_28 ?_
    obtain ⟨h_2, hf⟩ := chk_s hf
    refine va_iald hx hb hK.1 hP 1 0 rfl rfl (inb_in h_2) dX8_tail_29 ?_
    exact W.iret hx hb hr (fun t ht hW => ⟨_, rfl, some_i hf, ht⟩) (fun _ h => by cases h) dX8_tail_30 (hlocks := hlk)
  · have hf := ite_fn c_1 hf
    refine lv_aload_n hx hb dX8_tail_6 rfl (lv_at hl 0 rfl) ?_
    refine va_get (D := D) (ci := 8) (C := RX8) (T := TX8) (N := 27) hx hb hT kwX8 hown hK.1 hP 0 rfl rfl 0 (by decide) (hT _ kf_X8_7) (fun _ h9 => h9) rfl dX8_tail_7 ?_
    refine lv_iconst (v := 3) hx hb dX8_tail_10 (by decide) ?_
    refine lv_iload_n hx hb dX8_tail_11 rfl (lv_at hl 1 rfl) ?_
    refine lv_iconst (v := 2) hx hb dX8_tail_12 (by decide) ?_
    refine lv_idiv hx hb dX8_tail_13 (by decide) ?_
    refine lv_iadd hx hb dX8_tail_14 ?_
    obtain ⟨h_3, hf⟩ := chk_s hf
    refine va_iald hx hb hK.1 hP 1 0 rfl rfl (inb_in h_3) dX8_tail_15 ?_
    refine lv_goto (tgt := 30) hx hb dX8_tail_16 (by decide) ?_
    exact W.iret hx hb hr (fun t ht hW => ⟨_, rfl, some_i hf, ht⟩) (fun _ h => by cases h) dX8_tail_30 (hlocks := hlk)
set_option maxRecDepth 100000 in
set_option maxHeartbeats 4000000 in
theorem c_X8_follows (l : Launch) (D : va_G) (cA : Nat → ClassId) (a_m : Nat → Nat) (m_s : Nat → Int32) (m_past : Nat → Int32) (m_pasts : Int32) (m_text : Nat → Int32) (m_typed : Int32) (m_faceOfSide : Nat → Int32) (m_firstSide : Nat → Int32) (m_faces : Int32) (m_before : Nat → Int32) (m_endA : Nat → Int32) (m_endB : Nat → Int32) (m_from : Nat → Int32) (m_queue : Nat → Int32) (m_ring : Nat → Int32) (m_ringSize : Nat → Int32) (m_ringNodes : Nat → Int32) (m_rings : Int32) (m_path : Nat → Int32) (m_pathSize : Int32) (m_old : Nat → Int32) (m_lastRing : Int32) (m_bestNodes : Int32) (m_bestInside : Int32) (m_bestFits : Int32) (m_far : Nat → Int32) (m_xs : Nat → UInt32) (m_ys : Nat → UInt32) (p1 : Int32) (N : Nat) (ρ : Int32) (hf : f_X8_follows N m_s p1 = some ρ) : Met l yX8_follows (Cond.code yX8_follows cX8_follows 5 (Option.some Jvm.ClassFile.FieldType.int) :: lw_g) ({ frames := 2, cells := 0, slots := 0, locals := 45 } : Room) (PcS D (tyA cA) (wX8 cA a_m m_s m_past m_pasts m_text m_typed m_faceOfSide m_firstSide m_faces m_before m_endA m_endB m_from m_queue m_ring m_ringSize m_ringNodes m_rings m_path m_pathSize m_old m_lastRing m_bestNodes m_bestInside m_bestFits m_far m_xs m_ys) [.ref (a_m 0), .int p1]) (vp_Si (fun r => r = ρ)) 0 0 (fun _ => False) := by
  refine mkS (by decide +kernel) (Nat.le_of_ble_eq_true rfl) fun p e s m below meth c ls C hl hP hK => ?_
  obtain ⟨hx, hb, hml, hown, hT, hr, hlk⟩ := id C
  have hl : lv_has ls 5 [(0, .ref (a_m 0)), (1, .int p1)] := hl
  refine lv_iload_n hx hb dX8_follows_0 rfl (lv_at hl 1 rfl) ?_
  refine lv_iconst (v := 2) hx hb dX8_follows_1 (by decide) ?_
  refine lv_idiv hx hb dX8_follows_2 (by decide) ?_
  refine lv_topi (fun x2_1 ex2_1 => ?_)
  have hf := nm_t ex2_1 hf
  refine lv_istore_n (lv' := [(2, .int x2_1), (0, .ref (a_m 0)), (1, .int p1)]) hx hb dX8_follows_3 rfl hl (by decide) rfl (fun ls hl => ?_)
  refine lv_aload_n hx hb dX8_follows_4 rfl (lv_at hl 1 rfl) ?_
  refine lv_iload_n hx hb dX8_follows_5 rfl (lv_at hl 0 rfl) ?_
  refine lv_aload_n hx hb dX8_follows_6 rfl (lv_at hl 1 rfl) ?_
  refine lv_iload_n hx hb dX8_follows_7 rfl (lv_at hl 2 rfl) ?_
  obtain ⟨r_2, hcr_2, hf⟩ := bd1_s hf
  refine backI (runV0 C (c_X8_tail l D cA a_m m_s m_past m_pasts m_text m_typed m_faceOfSide m_firstSide m_faces m_before m_endA m_endB m_from m_queue m_ring m_ringSize m_ringNodes m_rings m_path m_pathSize m_old m_lastRing m_bestNodes m_bestInside m_bestFits m_far m_xs m_ys p1 N r_2 hcr_2) cf_X8_tail km_X8_123 ⟨rfl, rfl, by decide, by decide⟩ ⟨Nat.zero_le _, Nat.zero_le _⟩ (va_recv hK.1 hP (ci := 8) (q0 := 0) rfl rfl) (hP.sub [0, 1, 2, 3, 4, 5, 6, 7, 8, 9, 10, 11, 12, 13, 14, 15, 16, 17, 18] rfl) hK hl.1 rfl rfl (Nat.le_of_ble_eq_true rfl) dX8_follows_8) ?_
  obtain ⟨r_3, hcr_3, hf⟩ := bd1_s hf
  refine backI (runV0 C (c_X8_across l D cA a_m m_s m_past m_pasts m_text m_typed m_faceOfSide m_firstSide m_faces m_before m_endA m_endB m_from m_queue m_ring m_ringSize m_ringNodes m_rings m_path m_pathSize m_old m_lastRing m_bestNodes m_bestInside m_bestFits m_far m_xs m_ys x2_1 r_2 N r_3 hcr_3) cf_X8_across km_X8_127 ⟨rfl, rfl, by decide, by decide⟩ ⟨Nat.zero_le _, Nat.zero_le _⟩ (va_recv hK.1 hP (ci := 8) (q0 := 0) rfl rfl) (hP.sub [0, 1, 2, 3, 4, 5, 6, 7, 8, 9, 10, 11, 12, 13, 14, 15, 16, 17, 18] rfl) hK hl.1 rfl rfl (Nat.le_of_ble_eq_true rfl) dX8_follows_11) ?_
  refine lv_istore_n (lv' := [(3, .int r_3), (2, .int x2_1), (0, .ref (a_m 0)), (1, .int p1)]) hx hb dX8_follows_14 rfl hl (by decide) rfl (fun ls hl => ?_)
  refine lv_aload_n hx hb dX8_follows_15 rfl (lv_at hl 2 rfl) ?_
  refine lv_iload_n hx hb dX8_follows_16 rfl (lv_at hl 0 rfl) ?_
  refine lv_aload_n hx hb dX8_follows_17 rfl (lv_at hl 2 rfl) ?_
  refine lv_iload_n hx hb dX8_follows_18 rfl (lv_at hl 0 rfl) ?_
  refine lv_iload_n hx hb dX8_follows_19 rfl (lv_at hl 1 rfl) ?_
  obtain ⟨r_4, hcr_4, hf⟩ := bd1_s hf
  refine backI (runV0 C (c_X8_place l D cA a_m m_s m_past m_pasts m_text m_typed m_faceOfSide m_firstSide m_faces m_before m_endA m_endB m_from m_queue m_ring m_ringSize m_ringNodes m_rings m_path m_pathSize m_old m_lastRing m_bestNodes m_bestInside m_bestFits m_far m_xs m_ys r_3 x2_1 N r_4 hcr_4) cf_X8_place km_X8_106 ⟨rfl, rfl, by decide, by decide⟩ ⟨Nat.zero_le _, Nat.zero_le _⟩ (va_recv hK.1 hP (ci := 8) (q0 := 0) rfl rfl) (hP.sub [0, 1, 2, 3, 4, 5, 6, 7, 8, 9, 10, 11, 12, 13, 14, 15, 16, 17, 18] rfl) hK hl.1 rfl rfl (Nat.le_of_ble_eq_true rfl) dX8_follows_20) ?_
  refine lv_iconst (v := 1) hx hb dX8_follows_23 (by decide) ?_
  refine lv_iadd hx hb dX8_follows_24 ?_
  refine lv_aload_n hx hb dX8_follows_25 rfl (lv_at hl 2 rfl) ?_
  refine va_get (D := D) (ci := 8) (C := RX8) (T := TX8) (N := 27) hx hb hT kwX8 hown hK.1 hP 0 rfl rfl 0 (by decide) (hT _ kf_X8_7) (fun _ h9 => h9) rfl dX8_follows_26 ?_
  refine lv_bipush (v := 43) hx hb dX8_follows_29 (by decide) ?_
  refine lv_iload_n hx hb dX8_follows_31 rfl (lv_at hl 0 rfl) ?_
  refine lv_iadd hx hb dX8_follows_32 ?_
  obtain ⟨h_5, hf⟩ := chk_s hf
  refine va_iald hx hb hK.1 hP 1 0 rfl rfl (inb_in h_5) dX8_follows_33 ?_
  obtain ⟨h_6, hf⟩ := chk_s hf
  refine lv_irem hx hb dX8_follows_34 (nz_n h_6) ?_
  obtain ⟨r_7, hcr_7, hf⟩ := bd1_s hf
  refine backI (runV0 C (c_X8_turn l D cA a_m m_s m_past m_pasts m_text m_typed m_faceOfSide m_firstSide m_faces m_before m_endA m_endB m_from m_queue m_ring m_ringSize m_ringNodes m_rings m_path m_pathSize m_old m_lastRing m_bestNodes m_bestInside m_bestFits m_far m_xs m_ys r_3 ((r_4 + 1) - (r_4 + 1) / (m_s (43 + r_3).toNatClampNeg) * (m_s (43 + r_3).toNatClampNeg)) N r_7 hcr_7) cf_X8_turn km_X8_78 ⟨rfl, rfl, by decide, by decide⟩ ⟨Nat.zero_le _, Nat.zero_le _⟩ (va_recv hK.1 hP (ci := 8) (q0 := 0) rfl rfl) (hP.sub [0, 1, 2, 3, 4, 5, 6, 7, 8, 9, 10, 11, 12, 13, 14, 15, 16, 17, 18] rfl) hK hl.1 rfl rfl (Nat.le_of_ble_eq_true rfl) dX8_follows_35) ?_
  refine lv_istore (lv' := [(4, .int r_7), (3, .int r_3), (2, .int x2_1), (0, .ref (a_m 0)), (1, .int p1)]) hx hb dX8_follows_38 hl (by decide) rfl (fun ls hl => ?_)
  refine lv_iconst (v := 2) hx hb dX8_follows_40 (by decide) ?_
  refine lv_iload hx hb dX8_follows_41 (lv_at hl 0 rfl) ?_
  refine lv_imul hx hb dX8_follows_43 ?_
  refine lv_aload_n hx hb dX8_follows_44 rfl (lv_at hl 3 rfl) ?_
  refine va_get (D := D) (ci := 8) (C := RX8) (T := TX8) (N := 27) hx hb hT kwX8 hown hK.1 hP 0 rfl rfl 0 (by decide) (hT _ kf_X8_7) (fun _ h9 => h9) rfl dX8_follows_45 ?_
  refine lv_iconst (v := 3) hx hb dX8_follows_48 (by decide) ?_
  refine lv_iload hx hb dX8_follows_49 (lv_at hl 0 rfl) ?_
  refine lv_iadd hx hb dX8_follows_51 ?_
  obtain ⟨h_8, hf⟩ := chk_s hf
  refine va_iald hx hb hK.1 hP 1 0 rfl rfl (inb_in h_8) dX8_follows_52 ?_
  refine lv_iload_n hx hb dX8_follows_53 rfl (lv_at hl 1 rfl) ?_
  refine lv_icmp_ne (tgt := 61) hx hb dX8_follows_54 (by decide) (fun c_9 => ?_) (fun c_9 => ?_)
  · have hf := ite_t c_9 hf
    refine lv_iconst (v := 1) hx hb dX8_follows_61 (by decide) ?_
    refine lv_iadd hx hb dX8_follows_62 ?_
    exact W.iret hx hb hr (fun t ht hW => ⟨_, rfl, some_i hf, ht⟩) (fun _ h => by cases h) dX8_follows_63 (hlocks := hlk)
  · have hf := ite_fn c_9 hf
    refine lv_iconst (v := 0) hx hb dX8_follows_57 (by decide) ?_
    refine lv_goto (tgt := 62) hx hb dX8_follows_58 (by decide) ?_
    refine lv_iadd hx hb dX8_follows_62 ?_
    exact W.iret hx hb hr (fun t ht hW => ⟨_, rfl, some_i hf, ht⟩) (fun _ h => by cases h) dX8_follows_63 (hlocks := hlk)
set_option maxRecDepth 100000 in
set_option maxHeartbeats 4000000 in
theorem c_X8_walks (l : Launch) (D : va_G) (cA : Nat → ClassId) (a_m : Nat → Nat) (m_s : Nat → Int32) (m_past : Nat → Int32) (m_pasts : Int32) (m_text : Nat → Int32) (m_typed : Int32) (m_faceOfSide : Nat → Int32) (m_firstSide : Nat → Int32) (m_faces : Int32) (m_before : Nat → Int32) (m_endA : Nat → Int32) (m_endB : Nat → Int32) (m_from : Nat → Int32) (m_queue : Nat → Int32) (m_ring : Nat → Int32) (m_ringSize : Nat → Int32) (m_ringNodes : Nat → Int32) (m_rings : Int32) (m_path : Nat → Int32) (m_pathSize : Int32) (m_old : Nat → Int32) (m_lastRing : Int32) (m_bestNodes : Int32) (m_bestInside : Int32) (m_bestFits : Int32) (m_far : Nat → Int32) (m_xs : Nat → UInt32) (m_ys : Nat → UInt32) (sz N : Nat) (ρ : (Nat → Int32) × (Nat → Int32) × Int32) (hf : f_X8_walks N m_s m_faceOfSide m_firstSide m_faces = some ρ) : Met l yX8_walks (Cond.code yX8_walks cX8_walks 3 (Option.none : Option Jvm.ClassFile.FieldType) :: lw_g) ({ frames := 3, cells := 0, slots := 0, locals := 69 } : Room) (PcW D (tyA cA) (wX8 cA a_m m_s m_past m_pasts m_text m_typed m_faceOfSide m_firstSide m_faces m_before m_endA m_endB m_from m_queue m_ring m_ringSize m_ringNodes m_rings m_path m_pathSize m_old m_lastRing m_bestNodes m_bestInside m_bestFits m_far m_xs m_ys) sz [.ref (a_m 0)]) (va_Qv (fun (_ : Unit) => True) (fun _ t => va_P D vwCl (wX8 cA a_m m_s m_past m_pasts m_text m_typed ρ.1 ρ.2.1 ρ.2.2 m_before m_endA m_endB m_from m_queue m_ring m_ringSize m_ringNodes m_rings m_path m_pathSize m_old m_lastRing m_bestNodes m_bestInside m_bestFits m_far m_xs m_ys) t.heap ∧ va_D (va_A (wX8 cA a_m m_s m_past m_pasts m_text m_typed m_faceOfSide m_firstSide m_faces m_before m_endA m_endB m_from m_queue m_ring m_ringSize m_ringNodes m_rings m_path m_pathSize m_old m_lastRing m_bestNodes m_bestInside m_bestFits m_far m_xs m_ys) sz) (wX8 cA a_m m_s m_past m_pasts m_text m_typed ρ.1 ρ.2.1 ρ.2.2 m_before m_endA m_endB m_from m_queue m_ring m_ringSize m_ringNodes m_rings m_path m_pathSize m_old m_lastRing m_bestNodes m_bestInside m_bestFits m_far m_xs m_ys)) (va_A (wX8 cA a_m m_s m_past m_pasts m_text m_typed m_faceOfSide m_firstSide m_faces m_before m_endA m_endB m_from m_queue m_ring m_ringSize m_ringNodes m_rings m_path m_pathSize m_old m_lastRing m_bestNodes m_bestInside m_bestFits m_far m_xs m_ys) sz)) 0 0 (va_A (wX8 cA a_m m_s m_past m_pasts m_text m_typed m_faceOfSide m_firstSide m_faces m_before m_endA m_endB m_from m_queue m_ring m_ringSize m_ringNodes m_rings m_path m_pathSize m_old m_lastRing m_bestNodes m_bestInside m_bestFits m_far m_xs m_ys) sz) := by
  refine mkW (QQ := fun A => va_Qv (fun (_ : Unit) => True) (fun _ t => va_P D vwCl (wX8 cA a_m m_s m_past m_pasts m_text m_typed ρ.1 ρ.2.1 ρ.2.2 m_before m_endA m_endB m_from m_queue m_ring m_ringSize m_ringNodes m_rings m_path m_pathSize m_old m_lastRing m_bestNodes m_bestInside m_bestFits m_far m_xs m_ys) t.heap ∧ va_D A (wX8 cA a_m m_s m_past m_pasts m_text m_typed ρ.1 ρ.2.1 ρ.2.2 m_before m_endA m_endB m_from m_queue m_ring m_ringSize m_ringNodes m_rings m_path m_pathSize m_old m_lastRing m_bestNodes m_bestInside m_bestFits m_far m_xs m_ys)) A) (by decide) (Nat.le_of_ble_eq_true rfl) fun p e s m below meth c ls A C hl hP hK hD hA hS => ?_
  obtain ⟨hx, hb, hml, hown, hT, hr, hlk⟩ := id C
  have hl : lv_has ls 3 [(0, .ref (a_m 0))] := hl
  have B35 : ∀ (n35 : Nat), ∀ (x1 : Int32) (m_faceOfSide : Nat → Int32) (m_firstSide : Nat → Int32) (m_faces : Int32) (H : Heap) (locs : List Loc) (ls : Array Slot), lv_has ls 3 [(0, .ref (a_m 0)), (1, .int x1)] → va_P D vwCl (wX8 cA a_m m_s m_past m_pasts m_text m_typed m_faceOfSide m_firstSide m_faces m_before m_endA m_endB m_from m_queue m_ring m_ringSize m_ringNodes m_rings m_path m_pathSize m_old m_lastRing m_bestNodes m_bestInside m_bestFits m_far m_xs m_ys) H → va_D A (wX8 cA a_m m_s m_past m_pasts m_text m_typed m_faceOfSide m_firstSide m_faces m_before m_endA m_endB m_from m_queue m_ring m_ringSize m_ringNodes m_rings m_path m_pathSize m_old m_lastRing m_bestNodes m_bestInside m_bestFits m_far m_xs m_ys) → va_S A s.heap H locs → f_X8_walks_b35 N m_s n35 x1 m_faceOfSide m_firstSide m_faces = some ρ → W p l e ({ frames := 3, cells := 0, slots := 0, locals := 69 } : Room) s m ([.ref (a_m 0)] : List Value).toArray below meth c H locs 0 0 (MQ below (va_Qv (fun (_ : Unit) => True) (fun _ t => va_P D vwCl (wX8 cA a_m m_s m_past m_pasts m_text m_typed ρ.1 ρ.2.1 ρ.2.2 m_before m_endA m_endB m_from m_queue m_ring m_ringSize m_ringNodes m_rings m_path m_pathSize m_old m_lastRing m_bestNodes m_bestInside m_bestFits m_far m_xs m_ys) t.heap ∧ va_D A (wX8 cA a_m m_s m_past m_pasts m_text m_typed ρ.1 ρ.2.1 ρ.2.2 m_before m_endA m_endB m_from m_queue m_ring m_ringSize m_ringNodes m_rings m_path m_pathSize m_old m_lastRing m_bestNodes m_bestInside m_bestFits m_far m_xs m_ys)) A) ([.ref (a_m 0)] : List Value).toArray s 0 0 A) (F0 m 35 ls []) := by
    intro n35
    induction n35 with
    | zero =>
      intro x1 m_faceOfSide m_firstSide m_faces H locs ls hl hP hD hS hf
      cases (show (none : Option ((Nat → Int32) × (Nat → Int32) × Int32)) = some ρ from hf)
    | succ n35 ih35 =>
      have B110 : ∀ (x1 : Int32) (m_faceOfSide : Nat → Int32) (m_firstSide : Nat → Int32) (m_faces : Int32) (H : Heap) (locs : List Loc) (ls : Array Slot), lv_has ls 3 [(0, .ref (a_m 0)), (1, .int x1)] → va_P D vwCl (wX8 cA a_m m_s m_past m_pasts m_text m_typed m_faceOfSide m_firstSide m_faces m_before m_endA m_endB m_from m_queue m_ring m_ringSize m_ringNodes m_rings m_path m_pathSize m_old m_lastRing m_bestNodes m_bestInside m_bestFits m_far m_xs m_ys) H → va_D A (wX8 cA a_m m_s m_past m_pasts m_text m_typed m_faceOfSide m_firstSide m_faces m_before m_endA m_endB m_from m_queue m_ring m_ringSize m_ringNodes m_rings m_path m_pathSize m_old m_lastRing m_bestNodes m_bestInside m_bestFits m_far m_xs m_ys) → va_S A s.heap H locs → f_X8_walks_b110 N m_s (f_X8_walks_b35 N m_s n35) x1 m_faceOfSide m_firstSide m_faces = some ρ → W p l e ({ frames := 3, cells := 0, slots := 0, locals := 69 } : Room) s m ([.ref (a_m 0)] : List Value).toArray below meth c H locs 0 0 (MQ below (va_Qv (fun (_ : Unit) => True) (fun _ t => va_P D vwCl (wX8 cA a_m m_s m_past m_pasts m_text m_typed ρ.1 ρ.2.1 ρ.2.2 m_before m_endA m_endB m_from m_queue m_ring m_ringSize m_ringNodes m_rings m_path m_pathSize m_old m_lastRing m_bestNodes m_bestInside m_bestFits m_far m_xs m_ys) t.heap ∧ va_D A (wX8 cA a_m m_s m_past m_pasts m_text m_typed ρ.1 ρ.2.1 ρ.2.2 m_before m_endA m_endB m_from m_queue m_ring m_ringSize m_ringNodes m_rings m_path m_pathSize m_old m_lastRing m_bestNodes m_bestInside m_bestFits m_far m_xs m_ys)) A) ([.ref (a_m 0)] : List Value).toArray s 0 0 A) (F0 m 110 ls []) := by
        intro x1 m_faceOfSide m_firstSide m_faces H locs ls hl hP hD hS hf
        refine lv_iinc (v := (x1 + 1)) (lv' := [(1, .int (x1 + 1)), (0, .ref (a_m 0))]) hx hb dX8_walks_110 hl (k := 1) rfl rfl (by decide) rfl (fun ls hl => ?_)
        refine lv_goto (tgt := 35) hx hb dX8_walks_113 (by decide) ?_
        exact ih35 (x1 + 1) m_faceOfSide m_firstSide m_faces _ _ _ (lv_sub hl [1, 0] rfl) hP hD hS hf
      have B90 : ∀ (x1 : Int32) (m_faceOfSide : Nat → Int32) (m_firstSide : Nat → Int32) (m_faces : Int32) (H : Heap) (locs : List Loc) (ls : Array Slot), lv_has ls 3 [(0, .ref (a_m 0)), (1, .int x1)] → va_P D vwCl (wX8 cA a_m m_s m_past m_pasts m_text m_typed m_faceOfSide m_firstSide m_faces m_before m_endA m_endB m_from m_queue m_ring m_ringSize m_ringNodes m_rings m_path m_pathSize m_old m_lastRing m_bestNodes m_bestInside m_bestFits m_far m_xs m_ys) H → va_D A (wX8 cA a_m m_s m_past m_pasts m_text m_typed m_faceOfSide m_firstSide m_faces m_before m_endA m_endB m_from m_queue m_ring m_ringSize m_ringNodes m_rings m_path m_pathSize m_old m_lastRing m_bestNodes m_bestInside m_bestFits m_far m_xs m_ys) → va_S A s.heap H locs → f_X8_walks_b90 N m_s (f_X8_walks_b35 N m_s n35) x1 m_faceOfSide m_firstSide m_faces = some ρ → W p l e ({ frames := 3, cells := 0, slots := 0, locals := 69 } : Room) s m ([.ref (a_m 0)] : List Value).toArray below meth c H locs 0 0 (MQ below (va_Qv (fun (_ : Unit) => True) (fun _ t => va_P D vwCl (wX8 cA a_m m_s m_past m_pasts m_text m_typed ρ.1 ρ.2.1 ρ.2.2 m_before m_endA m_endB m_from m_queue m_ring m_ringSize m_ringNodes m_rings m_path m_pathSize m_old m_lastRing m_bestNodes m_bestInside m_bestFits m_far m_xs m_ys) t.heap ∧ va_D A (wX8 cA a_m m_s m_past m_pasts m_text m_typed ρ.1 ρ.2.1 ρ.2.2 m_before m_endA m_endB m_from m_queue m_ring m_ringSize m_ringNodes m_rings m_path m_pathSize m_old m_lastRing m_bestNodes m_bestInside m_bestFits m_far m_xs m_ys)) A) ([.ref (a_m 0)] : List Value).toArray s 0 0 A) (F0 m 90 ls []) := by
        intro x1 m_faceOfSide m_firstSide m_faces H locs ls hl hP hD hS hf
        refine lv_aload_n hx hb dX8_walks_90 rfl (lv_at hl 0 rfl) ?_
        refine va_get (D := D) (ci := 8) (C := RX8) (T := TX8) (N := 27) hx hb hT kwX8 hown hK.1 hP 0 rfl rfl 6 (by decide) (hT _ kf_X8_23) (fun _ h9 => h9) rfl dX8_walks_91 ?_
        refine lv_aload_n hx hb dX8_walks_94 rfl (lv_at hl 0 rfl) ?_
        refine va_get (D := D) (ci := 8) (C := RX8) (T := TX8) (N := 27) hx hb hT kwX8 hown hK.1 hP 0 rfl rfl 7 (by decide) (hT _ kf_X8_120) (fun _ h9 => h9) rfl dX8_walks_95 ?_
        refine lv_iload_n hx hb dX8_walks_98 rfl (lv_at hl 1 rfl) ?_
        obtain ⟨h_12, hf⟩ := chk_s hf
        refine va_iast hx hb hK.1 hP hD hS 5 0 rfl rfl (inb_in h_12) dX8_walks_99 (fun H locs hP hD hS => ?_)
        have hP : va_P D vwCl (wX8 cA a_m m_s m_past m_pasts m_text m_typed m_faceOfSide (upd m_firstSide m_faces.toNatClampNeg x1) m_faces m_before m_endA m_endB m_from m_queue m_ring m_ringSize m_ringNodes m_rings m_path m_pathSize m_old m_lastRing m_bestNodes m_bestInside m_bestFits m_far m_xs m_ys) H := hP
        have hD : va_D A (wX8 cA a_m m_s m_past m_pasts m_text m_typed m_faceOfSide (upd m_firstSide m_faces.toNatClampNeg x1) m_faces m_before m_endA m_endB m_from m_queue m_ring m_ringSize m_ringNodes m_rings m_path m_pathSize m_old m_lastRing m_bestNodes m_bestInside m_bestFits m_far m_xs m_ys) := hD
        refine lv_aload_n hx hb dX8_walks_100 rfl (lv_at hl 0 rfl) ?_
        refine lv_dup hx hb dX8_walks_101 rfl ?_
        refine va_get (D := D) (ci := 8) (C := RX8) (T := TX8) (N := 27) hx hb hT kwX8 hown hK.1 hP 0 rfl rfl 7 (by decide) (hT _ kf_X8_120) (fun _ h9 => h9) rfl dX8_walks_102 ?_
        refine lv_iconst (v := 1) hx hb dX8_walks_105 (by decide) ?_
        refine lv_iadd hx hb dX8_walks_106 ?_
        refine va_put (D := D) (ci := 8) (v := .int (m_faces + 1)) (ty := .int) (C := RX8) (T := TX8) (N := 27) hx hb hT kwX8 tyX8 tyX8_ok nmX8 hown hK.1 hP hD hS 0 rfl rfl 7 (by decide) (hT _ kf_X8_120) (fun _ h9 => h9) rfl (by decide +kernel) rfl rfl (Nat.le_of_ble_eq_true rfl) dX8_walks_107 (fun H locs hP hD hS => ?_)
        have hP : va_P D vwCl (wX8 cA a_m m_s m_past m_pasts m_text m_typed m_faceOfSide (upd m_firstSide m_faces.toNatClampNeg x1) (m_faces + 1) m_before m_endA m_endB m_from m_queue m_ring m_ringSize m_ringNodes m_rings m_path m_pathSize m_old m_lastRing m_bestNodes m_bestInside m_bestFits m_far m_xs m_ys) H := hP
        have hD : va_D A (wX8 cA a_m m_s m_past m_pasts m_text m_typed m_faceOfSide (upd m_firstSide m_faces.toNatClampNeg x1) (m_faces + 1) m_before m_endA m_endB m_from m_queue m_ring m_ringSize m_ringNodes m_rings m_path m_pathSize m_old m_lastRing m_bestNodes m_bestInside m_bestFits m_far m_xs m_ys) := hD
        exact B110 x1 m_faceOfSide (upd m_firstSide m_faces.toNatClampNeg x1) (m_faces + 1) _ _ _ (lv_sub hl [0, 1] rfl) hP hD hS hf
      have B60 : ∀ (n60 : Nat), ∀ (x1 : Int32) (x2 : Int32) (m_faceOfSide : Nat → Int32) (m_firstSide : Nat → Int32) (m_faces : Int32) (H : Heap) (locs : List Loc) (ls : Array Slot), lv_has ls 3 [(0, .ref (a_m 0)), (1, .int x1), (2, .int x2)] → va_P D vwCl (wX8 cA a_m m_s m_past m_pasts m_text m_typed m_faceOfSide m_firstSide m_faces m_before m_endA m_endB m_from m_queue m_ring m_ringSize m_ringNodes m_rings m_path m_pathSize m_old m_lastRing m_bestNodes m_bestInside m_bestFits m_far m_xs m_ys) H → va_D A (wX8 cA a_m m_s m_past m_pasts m_text m_typed m_faceOfSide m_firstSide m_faces m_before m_endA m_endB m_from m_queue m_ring m_ringSize m_ringNodes m_rings m_path m_pathSize m_old m_lastRing m_bestNodes m_bestInside m_bestFits m_far m_xs m_ys) → va_S A s.heap H locs → f_X8_walks_b60 N m_s (f_X8_walks_b35 N m_s n35) n60 x1 x2 m_faceOfSide m_firstSide m_faces = some ρ → W p l e ({ frames := 3, cells := 0, slots := 0, locals := 69 } : Room) s m ([.ref (a_m 0)] : List Value).toArray below meth c H locs 0 0 (MQ below (va_Qv (fun (_ : Unit) => True) (fun _ t => va_P D vwCl (wX8 cA a_m m_s m_past m_pasts m_text m_typed ρ.1 ρ.2.1 ρ.2.2 m_before m_endA m_endB m_from m_queue m_ring m_ringSize m_ringNodes m_rings m_path m_pathSize m_old m_lastRing m_bestNodes m_bestInside m_bestFits m_far m_xs m_ys) t.heap ∧ va_D A (wX8 cA a_m m_s m_past m_pasts m_text m_typed ρ.1 ρ.2.1 ρ.2.2 m_before m_endA m_endB m_from m_queue m_ring m_ringSize m_ringNodes m_rings m_path m_pathSize m_old m_lastRing m_bestNodes m_bestInside m_bestFits m_far m_xs m_ys)) A) ([.ref (a_m 0)] : List Value).toArray s 0 0 A) (F0 m 60 ls []) := by
        intro n60
        induction n60 with
        | zero =>
          intro x1 x2 m_faceOfSide m_firstSide m_faces H locs ls hl hP hD hS hf
          cases (show (none : Option ((Nat → Int32) × (Nat → Int32) × Int32)) = some ρ from hf)
        | succ n60 ih60 =>
          intro x1 x2 m_faceOfSide m_firstSide m_faces H locs ls hl hP hD hS hf
          refine lv_aload_n hx hb dX8_walks_60 rfl (lv_at hl 0 rfl) ?_
          refine va_get (D := D) (ci := 8) (C := RX8) (T := TX8) (N := 27) hx hb hT kwX8 hown hK.1 hP 0 rfl rfl 5 (by decide) (hT _ kf_X8_20) (fun _ h9 => h9) rfl dX8_walks_61 ?_
          refine lv_iload_n hx hb dX8_walks_64 rfl (lv_at hl 2 rfl) ?_
          obtain ⟨h_8, hf⟩ := chk_s hf
          refine va_iald hx hb hK.1 hP 4 0 rfl rfl (inb_in h_8) dX8_walks_65 ?_
          refine lv_bipush (v := (-9)) hx hb dX8_walks_66 (by decide) ?_
          refine lv_icmp_ne (tgt := 90) hx hb dX8_walks_68 (by decide) (fun c_9 => ?_) (fun c_9 => ?_)
          · have hf := ite_t c_9 hf
            exact B90 x1 m_faceOfSide m_firstSide m_faces _ _ _ (lv_sub hl [0, 1] rfl) hP hD hS hf
          · have hf := ite_fn c_9 hf
            refine lv_aload_n hx hb dX8_walks_71 rfl (lv_at hl 0 rfl) ?_
            refine va_get (D := D) (ci := 8) (C := RX8) (T := TX8) (N := 27) hx hb hT kwX8 hown hK.1 hP 0 rfl rfl 5 (by decide) (hT _ kf_X8_20) (fun _ h9 => h9) rfl dX8_walks_72 ?_
            refine lv_iload_n hx hb dX8_walks_75 rfl (lv_at hl 2 rfl) ?_
            refine lv_aload_n hx hb dX8_walks_76 rfl (lv_at hl 0 rfl) ?_
            refine va_get (D := D) (ci := 8) (C := RX8) (T := TX8) (N := 27) hx hb hT kwX8 hown hK.1 hP 0 rfl rfl 7 (by decide) (hT _ kf_X8_120) (fun _ h9 => h9) rfl dX8_walks_77 ?_
            obtain ⟨h_10, hf⟩ := chk_s hf
            refine va_iast hx hb hK.1 hP hD hS 4 0 rfl rfl (inb_in h_10) dX8_walks_80 (fun H locs hP hD hS => ?_)
            have hP : va_P D vwCl (wX8 cA a_m m_s m_past m_pasts m_text m_typed (upd m_faceOfSide x2.toNatClampNeg m_faces) m_firstSide m_faces m_before m_endA m_endB m_from m_queue m_ring m_ringSize m_ringNodes m_rings m_path m_pathSize m_old m_lastRing m_bestNodes m_bestInside m_bestFits m_far m_xs m_ys) H := hP
            have hD : va_D A (wX8 cA a_m m_s m_past m_pasts m_text m_typed (upd m_faceOfSide x2.toNatClampNeg m_faces) m_firstSide m_faces m_before m_endA m_endB m_from m_queue m_ring m_ringSize m_ringNodes m_rings m_path m_pathSize m_old m_lastRing m_bestNodes m_bestInside m_bestFits m_far m_xs m_ys) := hD
            refine lv_aload_n hx hb dX8_walks_81 rfl (lv_at hl 0 rfl) ?_
            refine lv_iload_n hx hb dX8_walks_82 rfl (lv_at hl 2 rfl) ?_
            obtain ⟨r_11, hcr_11, hf⟩ := bd1_s hf
            refine backI (runV0 C (c_X8_follows l D cA a_m m_s m_past m_pasts m_text m_typed (upd m_faceOfSide x2.toNatClampNeg m_faces) m_firstSide m_faces m_before m_endA m_endB m_from m_queue m_ring m_ringSize m_ringNodes m_rings m_path m_pathSize m_old m_lastRing m_bestNodes m_bestInside m_bestFits m_far m_xs m_ys x2 N r_11 hcr_11) cf_X8_follows km_X8_130 ⟨rfl, rfl, by decide, by decide⟩ ⟨Nat.zero_le _, Nat.zero_le _⟩ (va_recv hK.1 hP (ci := 8) (q0 := 0) rfl rfl) (hP.sub [0, 1, 2, 3, 4, 5, 6, 7, 8, 9, 10, 11, 12, 13, 14, 15, 16, 17, 18] rfl) hK hl.1 rfl rfl (Nat.le_of_ble_eq_true rfl) dX8_walks_83) ?_
            refine lv_istore_n (lv' := [(2, .int r_11), (0, .ref (a_m 0)), (1, .int x1)]) hx hb dX8_walks_86 rfl hl (by decide) rfl (fun ls hl => ?_)
            refine lv_goto (tgt := 60) hx hb dX8_walks_87 (by decide) ?_
            exact ih60 x1 r_11 (upd m_faceOfSide x2.toNatClampNeg m_faces) m_firstSide m_faces _ _ _ (lv_sub hl [1, 2, 0] rfl) hP hD hS hf
      intro x1 m_faceOfSide m_firstSide m_faces H locs ls hl hP hD hS hf
      refine lv_iload_n hx hb dX8_walks_35 rfl (lv_at hl 1 rfl) ?_
      refine lv_iconst (v := 2) hx hb dX8_walks_36 (by decide) ?_
      refine lv_aload_n hx hb dX8_walks_37 rfl (lv_at hl 0 rfl) ?_
      refine va_get (D := D) (ci := 8) (C := RX8) (T := TX8) (N := 27) hx hb hT kwX8 hown hK.1 hP 0 rfl rfl 0 (by decide) (hT _ kf_X8_7) (fun _ h9 => h9) rfl dX8_walks_38 ?_
      refine lv_iconst (v := 1) hx hb dX8_walks_41 (by decide) ?_
      obtain ⟨h_4, hf⟩ := chk_s hf
      refine va_iald hx hb hK.1 hP 1 0 rfl rfl (inb_in h_4) dX8_walks_42 ?_
      refine lv_imul hx hb dX8_walks_43 ?_
      refine lv_icmp_ge (tgt := 116) hx hb dX8_walks_44 (by decide) (fun c_5 => ?_) (fun c_5 => ?_)
      · have hf := ite_t c_5 hf
        have eR := some_i hf
        exact W.vret hx hb hr (fun t ht hW => ⟨⟨(), rfl, trivial, by rw [← eR, ht]; exact hP, by rw [← eR]; exact hD⟩, hS.F ht⟩) hS.2.2 dX8_walks_116 (hlocks := hlk)
      · have hf := ite_f c_5 hf
        refine lv_aload_n hx hb dX8_walks_47 rfl (lv_at hl 0 rfl) ?_
        refine va_get (D := D) (ci := 8) (C := RX8) (T := TX8) (N := 27) hx hb hT kwX8 hown hK.1 hP 0 rfl rfl 5 (by decide) (hT _ kf_X8_20) (fun _ h9 => h9) rfl dX8_walks_48 ?_
        refine lv_iload_n hx hb dX8_walks_51 rfl (lv_at hl 1 rfl) ?_
        obtain ⟨h_6, hf⟩ := chk_s hf
        refine va_iald hx hb hK.1 hP 4 0 rfl rfl (inb_in h_6) dX8_walks_52 ?_
        refine lv_bipush (v := (-9)) hx hb dX8_walks_53 (by decide) ?_
        refine lv_icmp_ne (tgt := 110) hx hb dX8_walks_55 (by decide) (fun c_7 => ?_) (fun c_7 => ?_)
        · have hf := ite_t c_7 hf
          exact B110 x1 m_faceOfSide m_firstSide m_faces _ _ _ (lv_sub hl [0, 1] rfl) hP hD hS hf
        · have hf := ite_fn c_7 hf
          refine lv_iload_n hx hb dX8_walks_58 rfl (lv_at hl 1 rfl) ?_
          refine lv_istore_n (lv' := [(2, .int x1), (0, .ref (a_m 0)), (1, .int x1)]) hx hb dX8_walks_59 rfl hl (by decide) rfl (fun ls hl => ?_)
          exact B60 N x1 x1 m_faceOfSide m_firstSide m_faces _ _ _ (lv_sub hl [1, 2, 0] rfl) hP hD hS hf
  have B28 : ∀ (m_faceOfSide : Nat → Int32) (m_firstSide : Nat → Int32) (m_faces : Int32) (H : Heap) (locs : List Loc) (ls : Array Slot), lv_has ls 3 [(0, .ref (a_m 0))] → va_P D vwCl (wX8 cA a_m m_s m_past m_pasts m_text m_typed m_faceOfSide m_firstSide m_faces m_before m_endA m_endB m_from m_queue m_ring m_ringSize m_ringNodes m_rings m_path m_pathSize m_old m_lastRing m_bestNodes m_bestInside m_bestFits m_far m_xs m_ys) H → va_D A (wX8 cA a_m m_s m_past m_pasts m_text m_typed m_faceOfSide m_firstSide m_faces m_before m_endA m_endB m_from m_queue m_ring m_ringSize m_ringNodes m_rings m_path m_pathSize m_old m_lastRing m_bestNodes m_bestInside m_bestFits m_far m_xs m_ys) → va_S A s.heap H locs → f_X8_walks_b28 N m_s m_faceOfSide m_firstSide m_faces = some ρ → W p l e ({ frames := 3, cells := 0, slots := 0, locals := 69 } : Room) s m ([.ref (a_m 0)] : List Value).toArray below meth c H locs 0 0 (MQ below (va_Qv (fun (_ : Unit) => True) (fun _ t => va_P D vwCl (wX8 cA a_m m_s m_past m_pasts m_text m_typed ρ.1 ρ.2.1 ρ.2.2 m_before m_endA m_endB m_from m_queue m_ring m_ringSize m_ringNodes m_rings m_path m_pathSize m_old m_lastRing m_bestNodes m_bestInside m_bestFits m_far m_xs m_ys) t.heap ∧ va_D A (wX8 cA a_m m_s m_past m_pasts m_text m_typed ρ.1 ρ.2.1 ρ.2.2 m_before m_endA m_endB m_from m_queue m_ring m_ringSize m_ringNodes m_rings m_path m_pathSize m_old m_lastRing m_bestNodes m_bestInside m_bestFits m_far m_xs m_ys)) A) ([.ref (a_m 0)] : List Value).toArray s 0 0 A) (F0 m 28 ls []) := by
    intro m_faceOfSide m_firstSide m_faces H locs ls hl hP hD hS hf
    refine lv_aload_n hx hb dX8_walks_28 rfl (lv_at hl 0 rfl) ?_
    refine lv_iconst (v := 0) hx hb dX8_walks_29 (by decide) ?_
    refine va_put (D := D) (ci := 8) (v := .int 0) (ty := .int) (C := RX8) (T := TX8) (N := 27) hx hb hT kwX8 tyX8 tyX8_ok nmX8 hown hK.1 hP hD hS 0 rfl rfl 7 (by decide) (hT _ kf_X8_120) (fun _ h9 => h9) rfl (by decide +kernel) rfl rfl (Nat.le_of_ble_eq_true rfl) dX8_walks_30 (fun H locs hP hD hS => ?_)
    have hP : va_P D vwCl (wX8 cA a_m m_s m_past m_pasts m_text m_typed m_faceOfSide m_firstSide 0 m_before m_endA m_endB m_from m_queue m_ring m_ringSize m_ringNodes m_rings m_path m_pathSize m_old m_lastRing m_bestNodes m_bestInside m_bestFits m_far m_xs m_ys) H := hP
    have hD : va_D A (wX8 cA a_m m_s m_past m_pasts m_text m_typed m_faceOfSide m_firstSide 0 m_before m_endA m_endB m_from m_queue m_ring m_ringSize m_ringNodes m_rings m_path m_pathSize m_old m_lastRing m_bestNodes m_bestInside m_bestFits m_far m_xs m_ys) := hD
    refine lv_iconst (v := 0) hx hb dX8_walks_33 (by decide) ?_
    refine lv_istore_n (lv' := [(1, .int 0), (0, .ref (a_m 0))]) hx hb dX8_walks_34 rfl hl (by decide) rfl (fun ls hl => ?_)
    exact B35 N 0 m_faceOfSide m_firstSide 0 _ _ _ (lv_sub hl [1, 0] rfl) hP hD hS hf
  have B2 : ∀ (n2 : Nat), ∀ (x1 : Int32) (m_faceOfSide : Nat → Int32) (m_firstSide : Nat → Int32) (m_faces : Int32) (H : Heap) (locs : List Loc) (ls : Array Slot), lv_has ls 3 [(0, .ref (a_m 0)), (1, .int x1)] → va_P D vwCl (wX8 cA a_m m_s m_past m_pasts m_text m_typed m_faceOfSide m_firstSide m_faces m_before m_endA m_endB m_from m_queue m_ring m_ringSize m_ringNodes m_rings m_path m_pathSize m_old m_lastRing m_bestNodes m_bestInside m_bestFits m_far m_xs m_ys) H → va_D A (wX8 cA a_m m_s m_past m_pasts m_text m_typed m_faceOfSide m_firstSide m_faces m_before m_endA m_endB m_from m_queue m_ring m_ringSize m_ringNodes m_rings m_path m_pathSize m_old m_lastRing m_bestNodes m_bestInside m_bestFits m_far m_xs m_ys) → va_S A s.heap H locs → f_X8_walks_b2 N m_s n2 x1 m_faceOfSide m_firstSide m_faces = some ρ → W p l e ({ frames := 3, cells := 0, slots := 0, locals := 69 } : Room) s m ([.ref (a_m 0)] : List Value).toArray below meth c H locs 0 0 (MQ below (va_Qv (fun (_ : Unit) => True) (fun _ t => va_P D vwCl (wX8 cA a_m m_s m_past m_pasts m_text m_typed ρ.1 ρ.2.1 ρ.2.2 m_before m_endA m_endB m_from m_queue m_ring m_ringSize m_ringNodes m_rings m_path m_pathSize m_old m_lastRing m_bestNodes m_bestInside m_bestFits m_far m_xs m_ys) t.heap ∧ va_D A (wX8 cA a_m m_s m_past m_pasts m_text m_typed ρ.1 ρ.2.1 ρ.2.2 m_before m_endA m_endB m_from m_queue m_ring m_ringSize m_ringNodes m_rings m_path m_pathSize m_old m_lastRing m_bestNodes m_bestInside m_bestFits m_far m_xs m_ys)) A) ([.ref (a_m 0)] : List Value).toArray s 0 0 A) (F0 m 2 ls []) := by
    intro n2
    induction n2 with
    | zero =>
      intro x1 m_faceOfSide m_firstSide m_faces H locs ls hl hP hD hS hf
      cases (show (none : Option ((Nat → Int32) × (Nat → Int32) × Int32)) = some ρ from hf)
    | succ n2 ih2 =>
      intro x1 m_faceOfSide m_firstSide m_faces H locs ls hl hP hD hS hf
      refine lv_iload_n hx hb dX8_walks_2 rfl (lv_at hl 1 rfl) ?_
      refine lv_iconst (v := 2) hx hb dX8_walks_3 (by decide) ?_
      refine lv_aload_n hx hb dX8_walks_4 rfl (lv_at hl 0 rfl) ?_
      refine va_get (D := D) (ci := 8) (C := RX8) (T := TX8) (N := 27) hx hb hT kwX8 hown hK.1 hP 0 rfl rfl 0 (by decide) (hT _ kf_X8_7) (fun _ h9 => h9) rfl dX8_walks_5 ?_
      refine lv_iconst (v := 1) hx hb dX8_walks_8 (by decide) ?_
      obtain ⟨h_1, hf⟩ := chk_s hf
      refine va_iald hx hb hK.1 hP 1 0 rfl rfl (inb_in h_1) dX8_walks_9 ?_
      refine lv_imul hx hb dX8_walks_10 ?_
      refine lv_icmp_ge (tgt := 28) hx hb dX8_walks_11 (by decide) (fun c_2 => ?_) (fun c_2 => ?_)
      · have hf := ite_t c_2 hf
        exact B28 m_faceOfSide m_firstSide m_faces _ _ _ (lv_sub hl [0] rfl) hP hD hS hf
      · have hf := ite_f c_2 hf
        refine lv_aload_n hx hb dX8_walks_14 rfl (lv_at hl 0 rfl) ?_
        refine va_get (D := D) (ci := 8) (C := RX8) (T := TX8) (N := 27) hx hb hT kwX8 hown hK.1 hP 0 rfl rfl 5 (by decide) (hT _ kf_X8_20) (fun _ h9 => h9) rfl dX8_walks_15 ?_
        refine lv_iload_n hx hb dX8_walks_18 rfl (lv_at hl 1 rfl) ?_
        refine lv_bipush (v := (-9)) hx hb dX8_walks_19 (by decide) ?_
        obtain ⟨h_3, hf⟩ := chk_s hf
        refine va_iast hx hb hK.1 hP hD hS 4 0 rfl rfl (inb_in h_3) dX8_walks_21 (fun H locs hP hD hS => ?_)
        have hP : va_P D vwCl (wX8 cA a_m m_s m_past m_pasts m_text m_typed (upd m_faceOfSide x1.toNatClampNeg (-9)) m_firstSide m_faces m_before m_endA m_endB m_from m_queue m_ring m_ringSize m_ringNodes m_rings m_path m_pathSize m_old m_lastRing m_bestNodes m_bestInside m_bestFits m_far m_xs m_ys) H := hP
        have hD : va_D A (wX8 cA a_m m_s m_past m_pasts m_text m_typed (upd m_faceOfSide x1.toNatClampNeg (-9)) m_firstSide m_faces m_before m_endA m_endB m_from m_queue m_ring m_ringSize m_ringNodes m_rings m_path m_pathSize m_old m_lastRing m_bestNodes m_bestInside m_bestFits m_far m_xs m_ys) := hD
        refine lv_iinc (v := (x1 + 1)) (lv' := [(1, .int (x1 + 1)), (0, .ref (a_m 0))]) hx hb dX8_walks_22 hl (k := 1) rfl rfl (by decide) rfl (fun ls hl => ?_)
        refine lv_goto (tgt := 2) hx hb dX8_walks_25 (by decide) ?_
        exact ih2 (x1 + 1) (upd m_faceOfSide x1.toNatClampNeg (-9)) m_firstSide m_faces _ _ _ (lv_sub hl [1, 0] rfl) hP hD hS hf
  refine lv_iconst (v := 0) hx hb dX8_walks_0 (by decide) ?_
  refine lv_istore_n (lv' := [(1, .int 0), (0, .ref (a_m 0))]) hx hb dX8_walks_1 rfl hl (by decide) rfl (fun ls hl => ?_)
  exact B2 N 0 m_faceOfSide m_firstSide m_faces _ _ _ (lv_sub hl [1, 0] rfl) hP hD hS hf
set_option maxRecDepth 100000 in
set_option maxHeartbeats 4000000 in
theorem c_X8_nodesOn (l : Launch) (D : va_G) (cA : Nat → ClassId) (a_m : Nat → Nat) (m_s : Nat → Int32) (m_past : Nat → Int32) (m_pasts : Int32) (m_text : Nat → Int32) (m_typed : Int32) (m_faceOfSide : Nat → Int32) (m_firstSide : Nat → Int32) (m_faces : Int32) (m_before : Nat → Int32) (m_endA : Nat → Int32) (m_endB : Nat → Int32) (m_from : Nat → Int32) (m_queue : Nat → Int32) (m_ring : Nat → Int32) (m_ringSize : Nat → Int32) (m_ringNodes : Nat → Int32) (m_rings : Int32) (m_path : Nat → Int32) (m_pathSize : Int32) (m_old : Nat → Int32) (m_lastRing : Int32) (m_bestNodes : Int32) (m_bestInside : Int32) (m_bestFits : Int32) (m_far : Nat → Int32) (m_xs : Nat → UInt32) (m_ys : Nat → UInt32) (p1 : Int32) (N : Nat) (ρ : Int32) (hf : f_X8_nodesOn N m_s m_faceOfSide p1 = some ρ) : Met l yX8_nodesOn (Cond.code yX8_nodesOn cX8_nodesOn 4 (Option.some Jvm.ClassFile.FieldType.int) :: lw_g) ({ frames := 1, cells := 0, slots := 0, locals := 21 } : Room) (PcS D (tyA cA) (wX8 cA a_m m_s m_past m_pasts m_text m_typed m_faceOfSide m_firstSide m_faces m_before m_endA m_endB m_from m_queue m_ring m_ringSize m_ringNodes m_rings m_path m_pathSize m_old m_lastRing m_bestNodes m_bestInside m_bestFits m_far m_xs m_ys) [.ref (a_m 0), .int p1]) (vp_Si (fun r => r = ρ)) 0 0 (fun _ => False) := by
  refine mkS (by decide +kernel) (Nat.le_of_ble_eq_true rfl) fun p e s m below meth c ls C hl hP hK => ?_
  obtain ⟨hx, hb, hml, hown, hT, hr, hlk⟩ := id C
  have hl : lv_has ls 4 [(0, .ref (a_m 0)), (1, .int p1)] := hl
  have B4 : ∀ (n4 : Nat), ∀ (x1 : Int32) (x2 : Int32) (x3 : Int32) (ls : Array Slot), lv_has ls 4 [(0, .ref (a_m 0)), (1, .int x1), (2, .int x2), (3, .int x3)] → f_X8_nodesOn_b4 N m_s m_faceOfSide n4 x1 x2 x3 = some ρ → W p l e ({ frames := 1, cells := 0, slots := 0, locals := 21 } : Room) s m ([.ref (a_m 0), .int p1] : List Value).toArray below meth c s.heap [] 0 0 (MQ below (vp_Si (fun r => r = ρ)) ([.ref (a_m 0), .int p1] : List Value).toArray s 0 0 (fun _ => False)) (F0 m 4 ls []) := by
    intro n4
    induction n4 with
    | zero =>
      intro x1 x2 x3 ls hl hf
      cases (show (none : Option (Int32)) = some ρ from hf)
    | succ n4 ih4 =>
      have B38 : ∀ (x1 : Int32) (x3 : Int32) (y0 : Int32) (y1 : Int32) (ls : Array Slot), lv_has ls 4 [(0, .ref (a_m 0)), (1, .int x1), (3, .int x3)] → f_X8_nodesOn_b38 N m_s m_faceOfSide (f_X8_nodesOn_b4 N m_s m_faceOfSide n4) x1 x3 y0 y1 = some ρ → W p l e ({ frames := 1, cells := 0, slots := 0, locals := 21 } : Room) s m ([.ref (a_m 0), .int p1] : List Value).toArray below meth c s.heap [] 0 0 (MQ below (vp_Si (fun r => r = ρ)) ([.ref (a_m 0), .int p1] : List Value).toArray s 0 0 (fun _ => False)) (F0 m 38 ls [.int y1, .int y0]) := by
        intro x1 x3 y0 y1 ls hl hf
        refine lv_ior hx hb dX8_nodesOn_38 ?_
        refine lv_topi (fun x2_6 ex2_6 => ?_)
        have hf := nm_t ex2_6 hf
        refine lv_istore_n (lv' := [(2, .int x2_6), (0, .ref (a_m 0)), (1, .int x1), (3, .int x3)]) hx hb dX8_nodesOn_39 rfl hl (by decide) rfl (fun ls hl => ?_)
        refine lv_iinc (v := (x3 + 1)) (lv' := [(3, .int (x3 + 1)), (2, .int x2_6), (0, .ref (a_m 0)), (1, .int x1)]) hx hb dX8_nodesOn_40 hl (k := 3) rfl rfl (by decide) rfl (fun ls hl => ?_)
        refine lv_goto (tgt := 4) hx hb dX8_nodesOn_43 (by decide) ?_
        exact ih4 x1 x2_6 (x3 + 1) _ (lv_sub hl [2, 3, 1, 0] rfl) hf
      intro x1 x2 x3 ls hl hf
      refine lv_iload_n hx hb dX8_nodesOn_4 rfl (lv_at hl 3 rfl) ?_
      refine lv_iconst (v := 2) hx hb dX8_nodesOn_5 (by decide) ?_
      refine lv_aload_n hx hb dX8_nodesOn_6 rfl (lv_at hl 0 rfl) ?_
      refine va_get (D := D) (ci := 8) (C := RX8) (T := TX8) (N := 27) hx hb hT kwX8 hown hK.1 hP 0 rfl rfl 0 (by decide) (hT _ kf_X8_7) (fun _ h9 => h9) rfl dX8_nodesOn_7 ?_
      refine lv_iconst (v := 1) hx hb dX8_nodesOn_10 (by decide) ?_
      obtain ⟨h_1, hf⟩ := chk_s hf
      refine va_iald hx hb hK.1 hP 1 0 rfl rfl (inb_in h_1) dX8_nodesOn_11 ?_
      refine lv_imul hx hb dX8_nodesOn_12 ?_
      refine lv_icmp_ge (tgt := 46) hx hb dX8_nodesOn_13 (by decide) (fun c_2 => ?_) (fun c_2 => ?_)
      · have hf := ite_t c_2 hf
        refine lv_iload_n hx hb dX8_nodesOn_46 rfl (lv_at hl 2 rfl) ?_
        exact W.iret hx hb hr (fun t ht hW => ⟨_, rfl, some_i hf, ht⟩) (fun _ h => by cases h) dX8_nodesOn_47 (hlocks := hlk)
      · have hf := ite_f c_2 hf
        refine lv_iload_n hx hb dX8_nodesOn_16 rfl (lv_at hl 2 rfl) ?_
        refine lv_aload_n hx hb dX8_nodesOn_17 rfl (lv_at hl 0 rfl) ?_
        refine va_get (D := D) (ci := 8) (C := RX8) (T := TX8) (N := 27) hx hb hT kwX8 hown hK.1 hP 0 rfl rfl 5 (by decide) (hT _ kf_X8_20) (fun _ h9 => h9) rfl dX8_nodesOn_18 ?_
        refine lv_iload_n hx hb dX8_nodesOn_21 rfl (lv_at hl 3 rfl) ?_
        obtain ⟨h_3, hf⟩ := chk_s hf
        refine va_iald hx hb hK.1 hP 4 0 rfl rfl (inb_in h_3) dX8_nodesOn_22 ?_
        refine lv_iload_n hx hb dX8_nodesOn_23 rfl (lv_at hl 1 rfl) ?_
        refine lv_icmp_ne (tgt := 37) hx hb dX8_nodesOn_24 (by decide) (fun c_4 => ?_) (fun c_4 => ?_)
        · have hf := ite_t c_4 hf
          refine lv_iconst (v := 0) hx hb dX8_nodesOn_37 (by decide) ?_
          exact B38 x1 x3 x2 0 _ (lv_sub hl [0, 1, 3] rfl) hf
        · have hf := ite_fn c_4 hf
          refine lv_iconst (v := 1) hx hb dX8_nodesOn_27 (by decide) ?_
          refine lv_aload_n hx hb dX8_nodesOn_28 rfl (lv_at hl 0 rfl) ?_
          refine lv_iload_n hx hb dX8_nodesOn_29 rfl (lv_at hl 3 rfl) ?_
          obtain ⟨r_5, hcr_5, hf⟩ := bd1_s hf
          refine backI (runV0 C (c_X8_tail l D cA a_m m_s m_past m_pasts m_text m_typed m_faceOfSide m_firstSide m_faces m_before m_endA m_endB m_from m_queue m_ring m_ringSize m_ringNodes m_rings m_path m_pathSize m_old m_lastRing m_bestNodes m_bestInside m_bestFits m_far m_xs m_ys x3 N r_5 hcr_5) cf_X8_tail km_X8_123 ⟨rfl, rfl, by decide, by decide⟩ ⟨Nat.zero_le _, Nat.zero_le _⟩ (va_recv hK.1 hP (ci := 8) (q0 := 0) rfl rfl) (hP.sub [0, 1, 2, 3, 4, 5, 6, 7, 8, 9, 10, 11, 12, 13, 14, 15, 16, 17, 18] rfl) hK hl.1 rfl rfl (Nat.le_of_ble_eq_true rfl) dX8_nodesOn_30) ?_
          refine lv_ishl hx hb dX8_nodesOn_33 ?_
          refine lv_goto (tgt := 38) hx hb dX8_nodesOn_34 (by decide) ?_
          exact B38 x1 x3 x2 ((1 : Int32) <<< (r_5 &&& 31)) _ (lv_sub hl [0, 1, 3] rfl) hf
  refine lv_iconst (v := 0) hx hb dX8_nodesOn_0 (by decide) ?_
  refine lv_istore_n (lv' := [(2, .int 0), (0, .ref (a_m 0)), (1, .int p1)]) hx hb dX8_nodesOn_1 rfl hl (by decide) rfl (fun ls hl => ?_)
  refine lv_iconst (v := 0) hx hb dX8_nodesOn_2 (by decide) ?_
  refine lv_istore_n (lv' := [(3, .int 0), (2, .int 0), (0, .ref (a_m 0)), (1, .int p1)]) hx hb dX8_nodesOn_3 rfl hl (by decide) rfl (fun ls hl => ?_)
  exact B4 N p1 0 0 _ (lv_sub hl [2, 3, 1, 0] rfl) hf
set_option maxRecDepth 100000 in
set_option maxHeartbeats 4000000 in
theorem c_X8_corner (l : Launch) (D : va_G) (cA : Nat → ClassId) (a_m : Nat → Nat) (m_s : Nat → Int32) (m_past : Nat → Int32) (m_pasts : Int32) (m_text : Nat → Int32) (m_typed : Int32) (m_faceOfSide : Nat → Int32) (m_firstSide : Nat → Int32) (m_faces : Int32) (m_before : Nat → Int32) (m_endA : Nat → Int32) (m_endB : Nat → Int32) (m_from : Nat → Int32) (m_queue : Nat → Int32) (m_ring : Nat → Int32) (m_ringSize : Nat → Int32) (m_ringNodes : Nat → Int32) (m_rings : Int32) (m_path : Nat → Int32) (m_pathSize : Int32) (m_old : Nat → Int32) (m_lastRing : Int32) (m_bestNodes : Int32) (m_bestInside : Int32) (m_bestFits : Int32) (m_far : Nat → Int32) (m_xs : Nat → UInt32) (m_ys : Nat → UInt32) (p1 : Int32) (p2 : Int32) (N : Nat) (ρ : Int32) (hf : f_X8_corner N m_s m_firstSide p1 p2 = some ρ) : Met l yX8_corner (Cond.code yX8_corner cX8_corner 4 (Option.some Jvm.ClassFile.FieldType.int) :: lw_g) ({ frames := 3, cells := 0, slots := 0, locals := 69 } : Room) (PcS D (tyA cA) (wX8 cA a_m m_s m_past m_pasts m_text m_typed m_faceOfSide m_firstSide m_faces m_before m_endA m_endB m_from m_queue m_ring m_ringSize m_ringNodes m_rings m_path m_pathSize m_old m_lastRing m_bestNodes m_bestInside m_bestFits m_far m_xs m_ys) [.ref (a_m 0), .int p1, .int p2]) (vp_Si (fun r => r = ρ)) 0 0 (fun _ => False) := by
  refine mkS (by decide +kernel) (Nat.le_of_ble_eq_true rfl) fun p e s m below meth c ls C hl hP hK => ?_
  obtain ⟨hx, hb, hml, hown, hT, hr, hlk⟩ := id C
  have hl : lv_has ls 4 [(0, .ref (a_m 0)), (1, .int p1), (2, .int p2)] := hl
  have B25 : ∀ (x2 : Int32) (x3 : Int32) (ls : Array Slot), lv_has ls 4 [(0, .ref (a_m 0)), (2, .int x2), (3, .int x3)] → f_X8_corner_b25 N m_s m_firstSide x2 x3 = some ρ → W p l e ({ frames := 3, cells := 0, slots := 0, locals := 69 } : Room) s m ([.ref (a_m 0), .int p1, .int p2] : List Value).toArray below meth c s.heap [] 0 0 (MQ below (vp_Si (fun r => r = ρ)) ([.ref (a_m 0), .int p1, .int p2] : List Value).toArray s 0 0 (fun _ => False)) (F0 m 25 ls []) := by
    intro x2 x3 ls hl hf
    refine lv_aload_n hx hb dX8_corner_25 rfl (lv_at hl 0 rfl) ?_
    refine lv_iload_n hx hb dX8_corner_26 rfl (lv_at hl 1 rfl) ?_
    refine lv_iload_n hx hb dX8_corner_27 rfl (lv_at hl 2 rfl) ?_
    refine lv_iconst (v := 2) hx hb dX8_corner_28 (by decide) ?_
    refine lv_idiv hx hb dX8_corner_29 (by decide) ?_
    obtain ⟨r_6, hcr_6, hf⟩ := bd1_s hf
    refine backI (runV0 C (c_X8_place l D cA a_m m_s m_past m_pasts m_text m_typed m_faceOfSide m_firstSide m_faces m_before m_endA m_endB m_from m_queue m_ring m_ringSize m_ringNodes m_rings m_path m_pathSize m_old m_lastRing m_bestNodes m_bestInside m_bestFits m_far m_xs m_ys x2 (x3 / 2) N r_6 hcr_6) cf_X8_place km_X8_106 ⟨rfl, rfl, by decide, by decide⟩ ⟨Nat.zero_le _, Nat.zero_le _⟩ (va_recv hK.1 hP (ci := 8) (q0 := 0) rfl rfl) (hP.sub [0, 1, 2, 3, 4, 5, 6, 7, 8, 9, 10, 11, 12, 13, 14, 15, 16, 17, 18] rfl) hK hl.1 rfl rfl (Nat.le_of_ble_eq_true rfl) dX8_corner_30) ?_
    exact W.iret hx hb hr (fun t ht hW => ⟨_, rfl, some_i hf, ht⟩) (fun _ h => by cases h) dX8_corner_33 (hlocks := hlk)
  have B7 : ∀ (n7 : Nat), ∀ (x2 : Int32) (x3 : Int32) (ls : Array Slot), lv_has ls 4 [(0, .ref (a_m 0)), (2, .int x2), (3, .int x3)] → f_X8_corner_b7 N m_s m_firstSide n7 x2 x3 = some ρ → W p l e ({ frames := 3, cells := 0, slots := 0, locals := 69 } : Room) s m ([.ref (a_m 0), .int p1, .int p2] : List Value).toArray below meth c s.heap [] 0 0 (MQ below (vp_Si (fun r => r = ρ)) ([.ref (a_m 0), .int p1, .int p2] : List Value).toArray s 0 0 (fun _ => False)) (F0 m 7 ls []) := by
    intro n7
    induction n7 with
    | zero =>
      intro x2 x3 ls hl hf
      cases (show (none : Option (Int32)) = some ρ from hf)
    | succ n7 ih7 =>
      intro x2 x3 ls hl hf
      refine lv_aload_n hx hb dX8_corner_7 rfl (lv_at hl 0 rfl) ?_
      refine lv_iload_n hx hb dX8_corner_8 rfl (lv_at hl 2 rfl) ?_
      obtain ⟨r_3, hcr_3, hf⟩ := bd1_s hf
      refine backI (runV0 C (c_X8_tail l D cA a_m m_s m_past m_pasts m_text m_typed m_faceOfSide m_firstSide m_faces m_before m_endA m_endB m_from m_queue m_ring m_ringSize m_ringNodes m_rings m_path m_pathSize m_old m_lastRing m_bestNodes m_bestInside m_bestFits m_far m_xs m_ys x3 N r_3 hcr_3) cf_X8_tail km_X8_123 ⟨rfl, rfl, by decide, by decide⟩ ⟨Nat.zero_le _, Nat.zero_le _⟩ (va_recv hK.1 hP (ci := 8) (q0 := 0) rfl rfl) (hP.sub [0, 1, 2, 3, 4, 5, 6, 7, 8, 9, 10, 11, 12, 13, 14, 15, 16, 17, 18] rfl) hK hl.1 rfl rfl (Nat.le_of_ble_eq_true rfl) dX8_corner_9) ?_
      refine lv_iload_n hx hb dX8_corner_12 rfl (lv_at hl 1 rfl) ?_
      refine lv_icmp_eq (tgt := 25) hx hb dX8_corner_13 (by decide) (fun c_4 => ?_) (fun c_4 => ?_)
      · have hf := ite_t c_4 hf
        exact B25 x2 x3 _ (lv_sub hl [0, 1, 2] rfl) hf
      · have hf := ite_f c_4 hf
        refine lv_aload_n hx hb dX8_corner_16 rfl (lv_at hl 0 rfl) ?_
        refine lv_iload_n hx hb dX8_corner_17 rfl (lv_at hl 2 rfl) ?_
        obtain ⟨r_5, hcr_5, hf⟩ := bd1_s hf
        refine backI (runV0 C (c_X8_follows l D cA a_m m_s m_past m_pasts m_text m_typed m_faceOfSide m_firstSide m_faces m_before m_endA m_endB m_from m_queue m_ring m_ringSize m_ringNodes m_rings m_path m_pathSize m_old m_lastRing m_bestNodes m_bestInside m_bestFits m_far m_xs m_ys x3 N r_5 hcr_5) cf_X8_follows km_X8_130 ⟨rfl, rfl, by decide, by decide⟩ ⟨Nat.zero_le _, Nat.zero_le _⟩ (va_recv hK.1 hP (ci := 8) (q0 := 0) rfl rfl) (hP.sub [0, 1, 2, 3, 4, 5, 6, 7, 8, 9, 10, 11, 12, 13, 14, 15, 16, 17, 18] rfl) hK hl.1 rfl rfl (Nat.le_of_ble_eq_true rfl) dX8_corner_18) ?_
        refine lv_istore_n (lv' := [(3, .int r_5), (0, .ref (a_m 0)), (2, .int x2)]) hx hb dX8_corner_21 rfl hl (by decide) rfl (fun ls hl => ?_)
        refine lv_goto (tgt := 7) hx hb dX8_corner_22 (by decide) ?_
        exact ih7 x2 r_5 _ (lv_sub hl [1, 2, 0] rfl) hf
  refine lv_aload_n hx hb dX8_corner_0 rfl (lv_at hl 0 rfl) ?_
  refine va_get (D := D) (ci := 8) (C := RX8) (T := TX8) (N := 27) hx hb hT kwX8 hown hK.1 hP 0 rfl rfl 6 (by decide) (hT _ kf_X8_23) (fun _ h9 => h9) rfl dX8_corner_1 ?_
  refine lv_iload_n hx hb dX8_corner_4 rfl (lv_at hl 1 rfl) ?_
  obtain ⟨h_1, hf⟩ := chk_s hf
  refine va_iald hx hb hK.1 hP 5 0 rfl rfl (inb_in h_1) dX8_corner_5 ?_
  refine lv_topi (fun x3_2 ex3_2 => ?_)
  have hf := nm_t ex3_2 hf
  refine lv_istore_n (lv' := [(3, .int x3_2), (0, .ref (a_m 0)), (1, .int p1), (2, .int p2)]) hx hb dX8_corner_6 rfl hl (by decide) rfl (fun ls hl => ?_)
  exact B7 N p2 x3_2 _ (lv_sub hl [1, 3, 0] rfl) hf
set_option maxRecDepth 100000 in
set_option maxHeartbeats 4000000 in
theorem c_X8_addInFace (l : Launch) (D : va_G) (cA : Nat → ClassId) (a_m : Nat → Nat) (m_s : Nat → Int32) (m_past : Nat → Int32) (m_pasts : Int32) (m_text : Nat → Int32) (m_typed : Int32) (m_faceOfSide : Nat → Int32) (m_firstSide : Nat → Int32) (m_faces : Int32) (m_before : Nat → Int32) (m_endA : Nat → Int32) (m_endB : Nat → Int32) (m_from : Nat → Int32) (m_queue : Nat → Int32) (m_ring : Nat → Int32) (m_ringSize : Nat → Int32) (m_ringNodes : Nat → Int32) (m_rings : Int32) (m_path : Nat → Int32) (m_pathSize : Int32) (m_old : Nat → Int32) (m_lastRing : Int32) (m_bestNodes : Int32) (m_bestInside : Int32) (m_bestFits : Int32) (m_far : Nat → Int32) (m_xs : Nat → UInt32) (m_ys : Nat → UInt32) (p1 : Int32) (p2 : Int32) (p3 : Int32) (sz N : Nat) (ρ : Int32 × (Nat → Int32) × (Nat → Int32) × Int32 × (Nat → Int32) × (Nat → Int32) × Int32) (hf : f_X8_addInFace N m_s m_past m_pasts m_faceOfSide m_firstSide m_faces p1 p2 p3 = some ρ) : Met l yX8_addInFace (Cond.code yX8_addInFace cX8_addInFace 6 (Option.some Jvm.ClassFile.FieldType.int) :: lw_g) ({ frames := 4, cells := 0, slots := 0, locals := 92 } : Room) (PcW D (tyA cA) (wX8 cA a_m m_s m_past m_pasts m_text m_typed m_faceOfSide m_firstSide m_faces m_before m_endA m_endB m_from m_queue m_ring m_ringSize m_ringNodes m_rings m_path m_pathSize m_old m_lastRing m_bestNodes m_bestInside m_bestFits m_far m_xs m_ys) sz [.ref (a_m 0), .int p1, .int p2, .int p3]) (va_Qi (fun r (_ : Unit) => r = ρ.1) (fun _ t => va_P D vwCl (wX8 cA a_m ρ.2.1 ρ.2.2.1 ρ.2.2.2.1 m_text m_typed ρ.2.2.2.2.1 ρ.2.2.2.2.2.1 ρ.2.2.2.2.2.2 m_before m_endA m_endB m_from m_queue m_ring m_ringSize m_ringNodes m_rings m_path m_pathSize m_old m_lastRing m_bestNodes m_bestInside m_bestFits m_far m_xs m_ys) t.heap ∧ va_D (va_A (wX8 cA a_m m_s m_past m_pasts m_text m_typed m_faceOfSide m_firstSide m_faces m_before m_endA m_endB m_from m_queue m_ring m_ringSize m_ringNodes m_rings m_path m_pathSize m_old m_lastRing m_bestNodes m_bestInside m_bestFits m_far m_xs m_ys) sz) (wX8 cA a_m ρ.2.1 ρ.2.2.1 ρ.2.2.2.1 m_text m_typed ρ.2.2.2.2.1 ρ.2.2.2.2.2.1 ρ.2.2.2.2.2.2 m_before m_endA m_endB m_from m_queue m_ring m_ringSize m_ringNodes m_rings m_path m_pathSize m_old m_lastRing m_bestNodes m_bestInside m_bestFits m_far m_xs m_ys)) (va_A (wX8 cA a_m m_s m_past m_pasts m_text m_typed m_faceOfSide m_firstSide m_faces m_before m_endA m_endB m_from m_queue m_ring m_ringSize m_ringNodes m_rings m_path m_pathSize m_old m_lastRing m_bestNodes m_bestInside m_bestFits m_far m_xs m_ys) sz)) 0 0 (va_A (wX8 cA a_m m_s m_past m_pasts m_text m_typed m_faceOfSide m_firstSide m_faces m_before m_endA m_endB m_from m_queue m_ring m_ringSize m_ringNodes m_rings m_path m_pathSize m_old m_lastRing m_bestNodes m_bestInside m_bestFits m_far m_xs m_ys) sz) := by
  refine mkW (QQ := fun A => va_Qi (fun r (_ : Unit) => r = ρ.1) (fun _ t => va_P D vwCl (wX8 cA a_m ρ.2.1 ρ.2.2.1 ρ.2.2.2.1 m_text m_typed ρ.2.2.2.2.1 ρ.2.2.2.2.2.1 ρ.2.2.2.2.2.2 m_before m_endA m_endB m_from m_queue m_ring m_ringSize m_ringNodes m_rings m_path m_pathSize m_old m_lastRing m_bestNodes m_bestInside m_bestFits m_far m_xs m_ys) t.heap ∧ va_D A (wX8 cA a_m ρ.2.1 ρ.2.2.1 ρ.2.2.2.1 m_text m_typed ρ.2.2.2.2.1 ρ.2.2.2.2.2.1 ρ.2.2.2.2.2.2 m_before m_endA m_endB m_from m_queue m_ring m_ringSize m_ringNodes m_rings m_path m_pathSize m_old m_lastRing m_bestNodes m_bestInside m_bestFits m_far m_xs m_ys)) A) (by decide) (Nat.le_of_ble_eq_true rfl) fun p e s m below meth c ls A C hl hP hK hD hA hS => ?_
  obtain ⟨hx, hb, hml, hown, hT, hr, hlk⟩ := id C
  have hl : lv_has ls 6 [(0, .ref (a_m 0)), (1, .int p1), (2, .int p2), (3, .int p3)] := hl
  refine lv_aload_n hx hb dX8_addInFace_0 rfl (lv_at hl 0 rfl) ?_
  obtain ⟨r_1, hcr_1, hf⟩ := bd1_s hf
  refine backWv (w2 := (wX8 cA a_m m_s m_past m_pasts m_text m_typed r_1.1 r_1.2.1 r_1.2.2 m_before m_endA m_endB m_from m_queue m_ring m_ringSize m_ringNodes m_rings m_path m_pathSize m_old m_lastRing m_bestNodes m_bestInside m_bestFits m_far m_xs m_ys)) (runVw C (c_X8_walks l D cA a_m m_s m_past m_pasts m_text m_typed m_faceOfSide m_firstSide m_faces m_before m_endA m_endB m_from m_queue m_ring m_ringSize m_ringNodes m_rings m_path m_pathSize m_old m_lastRing m_bestNodes m_bestInside m_bestFits m_far m_xs m_ys _ N r_1 hcr_1) cf_X8_walks km_X8_117 ⟨rfl, rfl, by decide, by decide⟩ ⟨Nat.zero_le _, Nat.zero_le _⟩ (va_recv hK.1 hP (ci := 8) (q0 := 0) rfl rfl) (hP.sub [0, 1, 2, 3, 4, 5, 6, 7, 8, 9, 10, 11, 12, 13, 14, 15, 16, 17, 18] rfl) (hD.sub [0, 1, 2, 3, 4, 5, 6, 7, 8, 9, 10, 11, 12, 13, 14, 15, 16, 17, 18] rfl rfl) hK hl.1 rfl rfl (Nat.le_of_ble_eq_true rfl) dX8_addInFace_1) hP hD hS hA [0, 1, 2, 3, 4, 5, 6, 7, 8, 9, 10, 11, 12, 13, 14, 15, 16, 17, 18] rfl [] rfl rfl (by decide) [0, 1, 2, 3, 4, 5, 6, 7, 8, 9, 10, 11, 12, 13, 14, 15, 16, 17, 18] rfl rfl (fun H locs hP hD hS => ?_)
  refine lv_aload_n hx hb dX8_addInFace_4 rfl (lv_at hl 0 rfl) ?_
  refine lv_iload_n hx hb dX8_addInFace_5 rfl (lv_at hl 1 rfl) ?_
  refine lv_iload_n hx hb dX8_addInFace_6 rfl (lv_at hl 2 rfl) ?_
  obtain ⟨r_2, hcr_2, hf⟩ := bd1_s hf
  refine backI (runV0 C (c_X8_areNodes l D cA a_m m_s m_past m_pasts m_text m_typed r_1.1 r_1.2.1 r_1.2.2 m_before m_endA m_endB m_from m_queue m_ring m_ringSize m_ringNodes m_rings m_path m_pathSize m_old m_lastRing m_bestNodes m_bestInside m_bestFits m_far m_xs m_ys p1 p2 N r_2 hcr_2) cf_X8_areNodes km_X8_100 ⟨rfl, rfl, by decide, by decide⟩ ⟨Nat.zero_le _, Nat.zero_le _⟩ (va_recv hK.1 hP (ci := 8) (q0 := 0) rfl rfl) (hP.sub [0, 1, 2, 3, 4, 5, 6, 7, 8, 9, 10, 11, 12, 13, 14, 15, 16, 17, 18] rfl) hK hl.1 rfl rfl (Nat.le_of_ble_eq_true rfl) dX8_addInFace_7) ?_
  refine lv_if_eq (tgt := 27) hx hb dX8_addInFace_10 (by decide) (fun c_3 => ?_) (fun c_3 => ?_)
  · have hf := ite_t c_3 hf
    refine lv_iconst (v := (-1)) hx hb dX8_addInFace_27 (by decide) ?_
    have eR := some_i hf
    exact W.iret hx hb hr (fun t ht hW => ⟨⟨(-1), (), rfl, fst_e eR, by rw [← eR, ht]; exact hP, by rw [← eR]; exact hD⟩, hS.F ht⟩) hS.2.2 dX8_addInFace_28 (hlocks := hlk)
  · have hf := ite_f c_3 hf
    refine lv_iload_n hx hb dX8_addInFace_13 rfl (lv_at hl 3 rfl) ?_
    refine lv_iconst (v := 0) hx hb dX8_addInFace_14 (by decide) ?_
    refine lv_aload_n hx hb dX8_addInFace_15 rfl (lv_at hl 0 rfl) ?_
    refine va_get (D := D) (ci := 8) (C := RX8) (T := TX8) (N := 27) hx hb hT kwX8 hown hK.1 hP 0 rfl rfl 7 (by decide) (hT _ kf_X8_120) (fun _ h9 => h9) rfl dX8_addInFace_16 ?_
    refine lv_iconst (v := 1) hx hb dX8_addInFace_19 (by decide) ?_
    refine lv_isub hx hb dX8_addInFace_20 ?_
    obtain ⟨r_4, hcr_4, hf⟩ := bd1_s hf
    refine backI (runS0 C (c_X8_in l D cA p3 0 (r_1.2.2 - 1) N r_4 hcr_4) cf_X8_in km_X8_70 ⟨rfl, rfl, by decide, by decide⟩ ⟨Nat.zero_le _, Nat.zero_le _⟩ (hP.sub [] rfl) hK hl.1 rfl rfl (Nat.le_of_ble_eq_true rfl) dX8_addInFace_21) ?_
    refine lv_if_ne (tgt := 29) hx hb dX8_addInFace_24 (by decide) (fun c_5 => ?_) (fun c_5 => ?_)
    · have hf := ite_t c_5 hf
      refine lv_aload_n hx hb dX8_addInFace_29 rfl (lv_at hl 0 rfl) ?_
      refine lv_iload_n hx hb dX8_addInFace_30 rfl (lv_at hl 3 rfl) ?_
      obtain ⟨r_6, hcr_6, hf⟩ := bd1_s hf
      refine backI (runV0 C (c_X8_nodesOn l D cA a_m m_s m_past m_pasts m_text m_typed r_1.1 r_1.2.1 r_1.2.2 m_before m_endA m_endB m_from m_queue m_ring m_ringSize m_ringNodes m_rings m_path m_pathSize m_old m_lastRing m_bestNodes m_bestInside m_bestFits m_far m_xs m_ys p3 N r_6 hcr_6) cf_X8_nodesOn km_X8_140 ⟨rfl, rfl, by decide, by decide⟩ ⟨Nat.zero_le _, Nat.zero_le _⟩ (va_recv hK.1 hP (ci := 8) (q0 := 0) rfl rfl) (hP.sub [0, 1, 2, 3, 4, 5, 6, 7, 8, 9, 10, 11, 12, 13, 14, 15, 16, 17, 18] rfl) hK hl.1 rfl rfl (Nat.le_of_ble_eq_true rfl) dX8_addInFace_31) ?_
      refine lv_istore (lv' := [(4, .int r_6), (0, .ref (a_m 0)), (1, .int p1), (2, .int p2), (3, .int p3)]) hx hb dX8_addInFace_34 hl (by decide) rfl (fun ls hl => ?_)
      refine lv_aload_n hx hb dX8_addInFace_36 rfl (lv_at hl 1 rfl) ?_
      refine lv_iload_n hx hb dX8_addInFace_37 rfl (lv_at hl 2 rfl) ?_
      refine lv_iload_n hx hb dX8_addInFace_38 rfl (lv_at hl 3 rfl) ?_
      obtain ⟨r_7, hcr_7, hf⟩ := bd1_s hf
      refine backI (runV0 C (c_X8_between l D cA a_m m_s m_past m_pasts m_text m_typed r_1.1 r_1.2.1 r_1.2.2 m_before m_endA m_endB m_from m_queue m_ring m_ringSize m_ringNodes m_rings m_path m_pathSize m_old m_lastRing m_bestNodes m_bestInside m_bestFits m_far m_xs m_ys p1 p2 N r_7 hcr_7) cf_X8_between km_X8_103 ⟨rfl, rfl, by decide, by decide⟩ ⟨Nat.zero_le _, Nat.zero_le _⟩ (va_recv hK.1 hP (ci := 8) (q0 := 0) rfl rfl) (hP.sub [0, 1, 2, 3, 4, 5, 6, 7, 8, 9, 10, 11, 12, 13, 14, 15, 16, 17, 18] rfl) hK hl.1 rfl rfl (Nat.le_of_ble_eq_true rfl) dX8_addInFace_39) ?_
      refine lv_bipush (v := (-9)) hx hb dX8_addInFace_42 (by decide) ?_
      refine lv_icmp_ne (tgt := 61) hx hb dX8_addInFace_44 (by decide) (fun c_8 => ?_) (fun c_8 => ?_)
      · have hf := ite_t c_8 hf
        refine lv_bipush (v := (-2)) hx hb dX8_addInFace_61 (by decide) ?_
        have eR := some_i hf
        exact W.iret hx hb hr (fun t ht hW => ⟨⟨(-2), (), rfl, fst_e eR, by rw [← eR, ht]; exact hP, by rw [← eR]; exact hD⟩, hS.F ht⟩) hS.2.2 dX8_addInFace_63 (hlocks := hlk)
      · have hf := ite_fn c_8 hf
        refine lv_iload hx hb dX8_addInFace_47 (lv_at hl 0 rfl) ?_
        refine lv_iload_n hx hb dX8_addInFace_49 rfl (lv_at hl 2 rfl) ?_
        refine lv_ishr hx hb dX8_addInFace_50 ?_
        refine lv_iload hx hb dX8_addInFace_51 (lv_at hl 0 rfl) ?_
        refine lv_iload_n hx hb dX8_addInFace_53 rfl (lv_at hl 3 rfl) ?_
        refine lv_ishr hx hb dX8_addInFace_54 ?_
        refine lv_iand hx hb dX8_addInFace_55 ?_
        refine lv_iconst (v := 1) hx hb dX8_addInFace_56 (by decide) ?_
        refine lv_iand hx hb dX8_addInFace_57 ?_
        refine lv_if_ne (tgt := 64) hx hb dX8_addInFace_58 (by decide) (fun c_9 => ?_) (fun c_9 => ?_)
        · have hf := ite_t c_9 hf
          refine lv_aload_n hx hb dX8_addInFace_64 rfl (lv_at hl 1 rfl) ?_
          refine va_get (D := D) (ci := 8) (C := RX8) (T := TX8) (N := 27) hx hb hT kwX8 hown hK.1 hP 0 rfl rfl 0 (by decide) (hT _ kf_X8_7) (fun _ h9 => h9) rfl dX8_addInFace_65 ?_
          refine lv_iconst (v := 1) hx hb dX8_addInFace_68 (by decide) ?_
          obtain ⟨h_10, hf⟩ := chk_s hf
          refine va_iald hx hb hK.1 hP 1 0 rfl rfl (inb_in h_10) dX8_addInFace_69 ?_
          refine lv_bipush (v := 20) hx hb dX8_addInFace_70 (by decide) ?_
          refine lv_icmp_ne (tgt := 78) hx hb dX8_addInFace_72 (by decide) (fun c_11 => ?_) (fun c_11 => ?_)
          · have hf := ite_t c_11 hf
            refine lv_aload_n hx hb dX8_addInFace_78 rfl (lv_at hl 1 rfl) ?_
            obtain ⟨r_12, hcr_12, hf⟩ := bd1_s hf
            refine backWv (w2 := (wX8 cA a_m m_s r_12.1 r_12.2 m_text m_typed r_1.1 r_1.2.1 r_1.2.2 m_before m_endA m_endB m_from m_queue m_ring m_ringSize m_ringNodes m_rings m_path m_pathSize m_old m_lastRing m_bestNodes m_bestInside m_bestFits m_far m_xs m_ys)) (runVw C (c_X8_notes l D cA a_m m_s m_past m_pasts m_text m_typed r_1.1 r_1.2.1 r_1.2.2 m_before m_endA m_endB m_from m_queue m_ring m_ringSize m_ringNodes m_rings m_path m_pathSize m_old m_lastRing m_bestNodes m_bestInside m_bestFits m_far m_xs m_ys _ N r_12 hcr_12) cf_X8_notes km_X8_90 ⟨rfl, rfl, by decide, by decide⟩ ⟨Nat.zero_le _, Nat.zero_le _⟩ (va_recv hK.1 hP (ci := 8) (q0 := 0) rfl rfl) (hP.sub [0, 1, 2, 3, 4, 5, 6, 7, 8, 9, 10, 11, 12, 13, 14, 15, 16, 17, 18] rfl) (hD.sub [0, 1, 2, 3, 4, 5, 6, 7, 8, 9, 10, 11, 12, 13, 14, 15, 16, 17, 18] rfl rfl) hK hl.1 rfl rfl (Nat.le_of_ble_eq_true rfl) dX8_addInFace_79) hP hD hS hA [0, 1, 2, 3, 4, 5, 6, 7, 8, 9, 10, 11, 12, 13, 14, 15, 16, 17, 18] rfl [] rfl rfl (by decide) [0, 1, 2, 3, 4, 5, 6, 7, 8, 9, 10, 11, 12, 13, 14, 15, 16, 17, 18] rfl rfl (fun H locs hP hD hS => ?_)
            refine lv_aload_n hx hb dX8_addInFace_82 rfl (lv_at hl 1 rfl) ?_
            refine lv_iload_n hx hb dX8_addInFace_83 rfl (lv_at hl 4 rfl) ?_
            refine lv_iload_n hx hb dX8_addInFace_84 rfl (lv_at hl 2 rfl) ?_
            obtain ⟨r_13, hcr_13, hf⟩ := bd1_s hf
            refine backI (runV0 C (c_X8_corner l D cA a_m m_s r_12.1 r_12.2 m_text m_typed r_1.1 r_1.2.1 r_1.2.2 m_before m_endA m_endB m_from m_queue m_ring m_ringSize m_ringNodes m_rings m_path m_pathSize m_old m_lastRing m_bestNodes m_bestInside m_bestFits m_far m_xs m_ys p3 p1 N r_13 hcr_13) cf_X8_corner km_X8_143 ⟨rfl, rfl, by decide, by decide⟩ ⟨Nat.zero_le _, Nat.zero_le _⟩ (va_recv hK.1 hP (ci := 8) (q0 := 0) rfl rfl) (hP.sub [0, 1, 2, 3, 4, 5, 6, 7, 8, 9, 10, 11, 12, 13, 14, 15, 16, 17, 18] rfl) hK hl.1 rfl rfl (Nat.le_of_ble_eq_true rfl) dX8_addInFace_85) ?_
            refine lv_istore (lv' := [(5, .int r_13), (4, .int r_6), (0, .ref (a_m 0)), (1, .int p1), (2, .int p2), (3, .int p3)]) hx hb dX8_addInFace_88 hl (by decide) rfl (fun ls hl => ?_)
            refine lv_aload_n hx hb dX8_addInFace_90 rfl (lv_at hl 2 rfl) ?_
            refine lv_iload_n hx hb dX8_addInFace_91 rfl (lv_at hl 3 rfl) ?_
            refine lv_iload_n hx hb dX8_addInFace_92 rfl (lv_at hl 4 rfl) ?_
            refine lv_iload hx hb dX8_addInFace_93 (lv_at hl 0 rfl) ?_
            refine lv_aload_n hx hb dX8_addInFace_95 rfl (lv_at hl 2 rfl) ?_
            refine lv_iload_n hx hb dX8_addInFace_96 rfl (lv_at hl 5 rfl) ?_
            refine lv_iload_n hx hb dX8_addInFace_97 rfl (lv_at hl 4 rfl) ?_
            obtain ⟨r_14, hcr_14, hf⟩ := bd1_s hf
            refine backI (runV0 C (c_X8_corner l D cA a_m m_s r_12.1 r_12.2 m_text m_typed r_1.1 r_1.2.1 r_1.2.2 m_before m_endA m_endB m_from m_queue m_ring m_ringSize m_ringNodes m_rings m_path m_pathSize m_old m_lastRing m_bestNodes m_bestInside m_bestFits m_far m_xs m_ys p3 p2 N r_14 hcr_14) cf_X8_corner km_X8_143 ⟨rfl, rfl, by decide, by decide⟩ ⟨Nat.zero_le _, Nat.zero_le _⟩ (va_recv hK.1 hP (ci := 8) (q0 := 0) rfl rfl) (hP.sub [0, 1, 2, 3, 4, 5, 6, 7, 8, 9, 10, 11, 12, 13, 14, 15, 16, 17, 18] rfl) hK hl.1 rfl rfl (Nat.le_of_ble_eq_true rfl) dX8_addInFace_98) ?_
            obtain ⟨r_15, hcr_15, hf⟩ := bd1_s hf
            refine backWi (w2 := (wX8 cA a_m r_15.2 r_12.1 r_12.2 m_text m_typed r_1.1 r_1.2.1 r_1.2.2 m_before m_endA m_endB m_from m_queue m_ring m_ringSize m_ringNodes m_rings m_path m_pathSize m_old m_lastRing m_bestNodes m_bestInside m_bestFits m_far m_xs m_ys)) (runVw C (c_X8_joins l D cA a_m m_s r_12.1 r_12.2 m_text m_typed r_1.1 r_1.2.1 r_1.2.2 m_before m_endA m_endB m_from m_queue m_ring m_ringSize m_ringNodes m_rings m_path m_pathSize m_old m_lastRing m_bestNodes m_bestInside m_bestFits m_far m_xs m_ys p1 p2 r_13 r_14 _ N r_15 hcr_15) cf_X8_joins km_X8_109 ⟨rfl, rfl, by decide, by decide⟩ ⟨Nat.zero_le _, Nat.zero_le _⟩ (va_recv hK.1 hP (ci := 8) (q0 := 0) rfl rfl) (hP.sub [0, 1, 2, 3, 4, 5, 6, 7, 8, 9, 10, 11, 12, 13, 14, 15, 16, 17, 18] rfl) (hD.sub [0, 1, 2, 3, 4, 5, 6, 7, 8, 9, 10, 11, 12, 13, 14, 15, 16, 17, 18] rfl rfl) hK hl.1 rfl rfl (Nat.le_of_ble_eq_true rfl) dX8_addInFace_101) hP hD hS hA [0, 1, 2, 3, 4, 5, 6, 7, 8, 9, 10, 11, 12, 13, 14, 15, 16, 17, 18] rfl [] rfl rfl (by decide) [0, 1, 2, 3, 4, 5, 6, 7, 8, 9, 10, 11, 12, 13, 14, 15, 16, 17, 18] rfl rfl (fun H locs hP hD hS => ?_)
            have eR := some_i hf
            exact W.iret hx hb hr (fun t ht hW => ⟨⟨r_15.1, (), rfl, fst_e eR, by rw [← eR, ht]; exact hP, by rw [← eR]; exact hD⟩, hS.F ht⟩) hS.2.2 dX8_addInFace_104 (hlocks := hlk)
          · have hf := ite_fn c_11 hf
            refine lv_bipush (v := (-3)) hx hb dX8_addInFace_75 (by decide) ?_
            have eR := some_i hf
            exact W.iret hx hb hr (fun t ht hW => ⟨⟨(-3), (), rfl, fst_e eR, by rw [← eR, ht]; exact hP, by rw [← eR]; exact hD⟩, hS.F ht⟩) hS.2.2 dX8_addInFace_77 (hlocks := hlk)
        · have hf := ite_fn c_9 hf
          refine lv_bipush (v := (-2)) hx hb dX8_addInFace_61 (by decide) ?_
          have eR := some_i hf
          exact W.iret hx hb hr (fun t ht hW => ⟨⟨(-2), (), rfl, fst_e eR, by rw [← eR, ht]; exact hP, by rw [← eR]; exact hD⟩, hS.F ht⟩) hS.2.2 dX8_addInFace_63 (hlocks := hlk)
    · have hf := ite_fn c_5 hf
      refine lv_iconst (v := (-1)) hx hb dX8_addInFace_27 (by decide) ?_
      have eR := some_i hf
      exact W.iret hx hb hr (fun t ht hW => ⟨⟨(-1), (), rfl, fst_e eR, by rw [← eR, ht]; exact hP, by rw [← eR]; exact hD⟩, hS.F ht⟩) hS.2.2 dX8_addInFace_28 (hlocks := hlk)
set_option maxRecDepth 100000 in
set_option maxHeartbeats 4000000 in
theorem c_X8_adds (l : Launch) (D : va_G) (cA : Nat → ClassId) (a_m : Nat → Nat) (m_s : Nat → Int32) (m_past : Nat → Int32) (m_pasts : Int32) (m_text : Nat → Int32) (m_typed : Int32) (m_faceOfSide : Nat → Int32) (m_firstSide : Nat → Int32) (m_faces : Int32) (m_before : Nat → Int32) (m_endA : Nat → Int32) (m_endB : Nat → Int32) (m_from : Nat → Int32) (m_queue : Nat → Int32) (m_ring : Nat → Int32) (m_ringSize : Nat → Int32) (m_ringNodes : Nat → Int32) (m_rings : Int32) (m_path : Nat → Int32) (m_pathSize : Int32) (m_old : Nat → Int32) (m_lastRing : Int32) (m_bestNodes : Int32) (m_bestInside : Int32) (m_bestFits : Int32) (m_far : Nat → Int32) (m_xs : Nat → UInt32) (m_ys : Nat → UInt32) (p1 : Int32) (p2 : Int32) (sz N : Nat) (ρ : (Nat → Int32) × (Nat → Int32) × (Nat → Int32)) (hf : f_X8_adds N m_ring m_ringSize m_ringNodes p1 p2 = some ρ) : Met l yX8_adds (Cond.code yX8_adds cX8_adds 3 (Option.none : Option Jvm.ClassFile.FieldType) :: lw_g) ({ frames := 0, cells := 0, slots := 0, locals := 0 } : Room) (PcW D (tyA cA) (wX8 cA a_m m_s m_past m_pasts m_text m_typed m_faceOfSide m_firstSide m_faces m_before m_endA m_endB m_from m_queue m_ring m_ringSize m_ringNodes m_rings m_path m_pathSize m_old m_lastRing m_bestNodes m_bestInside m_bestFits m_far m_xs m_ys) sz [.ref (a_m 0), .int p1, .int p2]) (va_Qv (fun (_ : Unit) => True) (fun _ t => va_P D vwCl (wX8 cA a_m m_s m_past m_pasts m_text m_typed m_faceOfSide m_firstSide m_faces m_before m_endA m_endB m_from m_queue ρ.1 ρ.2.1 ρ.2.2 m_rings m_path m_pathSize m_old m_lastRing m_bestNodes m_bestInside m_bestFits m_far m_xs m_ys) t.heap ∧ va_D (va_A (wX8 cA a_m m_s m_past m_pasts m_text m_typed m_faceOfSide m_firstSide m_faces m_before m_endA m_endB m_from m_queue m_ring m_ringSize m_ringNodes m_rings m_path m_pathSize m_old m_lastRing m_bestNodes m_bestInside m_bestFits m_far m_xs m_ys) sz) (wX8 cA a_m m_s m_past m_pasts m_text m_typed m_faceOfSide m_firstSide m_faces m_before m_endA m_endB m_from m_queue ρ.1 ρ.2.1 ρ.2.2 m_rings m_path m_pathSize m_old m_lastRing m_bestNodes m_bestInside m_bestFits m_far m_xs m_ys)) (va_A (wX8 cA a_m m_s m_past m_pasts m_text m_typed m_faceOfSide m_firstSide m_faces m_before m_endA m_endB m_from m_queue m_ring m_ringSize m_ringNodes m_rings m_path m_pathSize m_old m_lastRing m_bestNodes m_bestInside m_bestFits m_far m_xs m_ys) sz)) 0 0 (va_A (wX8 cA a_m m_s m_past m_pasts m_text m_typed m_faceOfSide m_firstSide m_faces m_before m_endA m_endB m_from m_queue m_ring m_ringSize m_ringNodes m_rings m_path m_pathSize m_old m_lastRing m_bestNodes m_bestInside m_bestFits m_far m_xs m_ys) sz) := by
  refine mkW (QQ := fun A => va_Qv (fun (_ : Unit) => True) (fun _ t => va_P D vwCl (wX8 cA a_m m_s m_past m_pasts m_text m_typed m_faceOfSide m_firstSide m_faces m_before m_endA m_endB m_from m_queue ρ.1 ρ.2.1 ρ.2.2 m_rings m_path m_pathSize m_old m_lastRing m_bestNodes m_bestInside m_bestFits m_far m_xs m_ys) t.heap ∧ va_D A (wX8 cA a_m m_s m_past m_pasts m_text m_typed m_faceOfSide m_firstSide m_faces m_before m_endA m_endB m_from m_queue ρ.1 ρ.2.1 ρ.2.2 m_rings m_path m_pathSize m_old m_lastRing m_bestNodes m_bestInside m_bestFits m_far m_xs m_ys)) A) (by decide) (Nat.le_of_ble_eq_true rfl) fun p e s m below meth c ls A C hl hP hK hD hA hS => ?_
  obtain ⟨hx, hb, hml, hown, hT, hr, hlk⟩ := id C
  have hl : lv_has ls 3 [(0, .ref (a_m 0)), (1, .int p1), (2, .int p2)] := hl
  refine lv_aload_n hx hb dX8_adds_0 rfl (lv_at hl 0 rfl) ?_
  refine va_get (D := D) (ci := 8) (C := RX8) (T := TX8) (N := 27) hx hb hT kwX8 hown hK.1 hP 0 rfl rfl 13 (by decide) (hT _ kf_X8_41) (fun _ h9 => h9) rfl dX8_adds_1 ?_
  refine lv_bipush (v := 10) hx hb dX8_adds_4 (by decide) ?_
  refine lv_iload_n hx hb dX8_adds_6 rfl (lv_at hl 1 rfl) ?_
  refine lv_imul hx hb dX8_adds_7 ?_
  refine lv_aload_n hx hb dX8_adds_8 rfl (lv_at hl 0 rfl) ?_
  refine va_get (D := D) (ci := 8) (C := RX8) (T := TX8) (N := 27) hx hb hT kwX8 hown hK.1 hP 0 rfl rfl 14 (by decide) (hT _ kf_X8_44) (fun _ h9 => h9) rfl dX8_adds_9 ?_
  refine lv_iload_n hx hb dX8_adds_12 rfl (lv_at hl 1 rfl) ?_
  obtain ⟨h_1, hf⟩ := chk_s hf
  refine va_iald hx hb hK.1 hP 12 0 rfl rfl (inb_in h_1) dX8_adds_13 ?_
  refine lv_iadd hx hb dX8_adds_14 ?_
  refine lv_iload_n hx hb dX8_adds_15 rfl (lv_at hl 2 rfl) ?_
  obtain ⟨h_2, hf⟩ := chk_s hf
  refine va_iast hx hb hK.1 hP hD hS 11 0 rfl rfl (inb_in h_2) dX8_adds_16 (fun H locs hP hD hS => ?_)
  have hP : va_P D vwCl (wX8 cA a_m m_s m_past m_pasts m_text m_typed m_faceOfSide m_firstSide m_faces m_before m_endA m_endB m_from m_queue (upd m_ring ((10 * p1) + (m_ringSize p1.toNatClampNeg)).toNatClampNeg p2) m_ringSize m_ringNodes m_rings m_path m_pathSize m_old m_lastRing m_bestNodes m_bestInside m_bestFits m_far m_xs m_ys) H := hP
  have hD : va_D A (wX8 cA a_m m_s m_past m_pasts m_text m_typed m_faceOfSide m_firstSide m_faces m_before m_endA m_endB m_from m_queue (upd m_ring ((10 * p1) + (m_ringSize p1.toNatClampNeg)).toNatClampNeg p2) m_ringSize m_ringNodes m_rings m_path m_pathSize m_old m_lastRing m_bestNodes m_bestInside m_bestFits m_far m_xs m_ys) := hD
  refine lv_aload_n hx hb dX8_adds_17 rfl (lv_at hl 0 rfl) ?_
  refine va_get (D := D) (ci := 8) (C := RX8) (T := TX8) (N := 27) hx hb hT kwX8 hown hK.1 hP 0 rfl rfl 14 (by decide) (hT _ kf_X8_44) (fun _ h9 => h9) rfl dX8_adds_18 ?_
  refine lv_iload_n hx hb dX8_adds_21 rfl (lv_at hl 1 rfl) ?_
  refine lv_dup2_11 hx hb dX8_adds_22 rfl rfl ?_
  obtain ⟨h_3, hf⟩ := chk_s hf
  refine va_iald hx hb hK.1 hP 12 0 rfl rfl (inb_in h_3) dX8_adds_23 ?_
  refine lv_iconst (v := 1) hx hb dX8_adds_24 (by decide) ?_
  refine lv_iadd hx hb dX8_adds_25 ?_
  obtain ⟨h_4, hf⟩ := chk_s hf
  refine va_iast hx hb hK.1 hP hD hS 12 0 rfl rfl (inb_in h_4) dX8_adds_26 (fun H locs hP hD hS => ?_)
  have hP : va_P D vwCl (wX8 cA a_m m_s m_past m_pasts m_text m_typed m_faceOfSide m_firstSide m_faces m_before m_endA m_endB m_from m_queue (upd m_ring ((10 * p1) + (m_ringSize p1.toNatClampNeg)).toNatClampNeg p2) (upd m_ringSize p1.toNatClampNeg ((m_ringSize p1.toNatClampNeg) + 1)) m_ringNodes m_rings m_path m_pathSize m_old m_lastRing m_bestNodes m_bestInside m_bestFits m_far m_xs m_ys) H := hP
  have hD : va_D A (wX8 cA a_m m_s m_past m_pasts m_text m_typed m_faceOfSide m_firstSide m_faces m_before m_endA m_endB m_from m_queue (upd m_ring ((10 * p1) + (m_ringSize p1.toNatClampNeg)).toNatClampNeg p2) (upd m_ringSize p1.toNatClampNeg ((m_ringSize p1.toNatClampNeg) + 1)) m_ringNodes m_rings m_path m_pathSize m_old m_lastRing m_bestNodes m_bestInside m_bestFits m_far m_xs m_ys) := hD
  refine lv_aload_n hx hb dX8_adds_27 rfl (lv_at hl 0 rfl) ?_
  refine va_get (D := D) (ci := 8) (C := RX8) (T := TX8) (N := 27) hx hb hT kwX8 hown hK.1 hP 0 rfl rfl 15 (by decide) (hT _ kf_X8_47) (fun _ h9 => h9) rfl dX8_adds_28 ?_
  refine lv_iload_n hx hb dX8_adds_31 rfl (lv_at hl 1 rfl) ?_
  refine lv_dup2_11 hx hb dX8_adds_32 rfl rfl ?_
  obtain ⟨h_5, hf⟩ := chk_s hf
  refine va_iald hx hb hK.1 hP 13 0 rfl rfl (inb_in h_5) dX8_adds_33 ?_
  refine lv_iconst (v := 1) hx hb dX8_adds_34 (by decide) ?_
  refine lv_iload_n hx hb dX8_adds_35 rfl (lv_at hl 2 rfl) ?_
  refine lv_ishl hx hb dX8_adds_36 ?_
  refine lv_ior hx hb dX8_adds_37 ?_
  obtain ⟨h_6, hf⟩ := chk_s hf
  refine va_iast hx hb hK.1 hP hD hS 13 0 rfl rfl (inb_in h_6) dX8_adds_38 (fun H locs hP hD hS => ?_)
  have hP : va_P D vwCl (wX8 cA a_m m_s m_past m_pasts m_text m_typed m_faceOfSide m_firstSide m_faces m_before m_endA m_endB m_from m_queue (upd m_ring ((10 * p1) + (m_ringSize p1.toNatClampNeg)).toNatClampNeg p2) (upd m_ringSize p1.toNatClampNeg ((m_ringSize p1.toNatClampNeg) + 1)) (upd m_ringNodes p1.toNatClampNeg ((m_ringNodes p1.toNatClampNeg) ||| ((1 : Int32) <<< (p2 &&& 31)))) m_rings m_path m_pathSize m_old m_lastRing m_bestNodes m_bestInside m_bestFits m_far m_xs m_ys) H := hP
  have hD : va_D A (wX8 cA a_m m_s m_past m_pasts m_text m_typed m_faceOfSide m_firstSide m_faces m_before m_endA m_endB m_from m_queue (upd m_ring ((10 * p1) + (m_ringSize p1.toNatClampNeg)).toNatClampNeg p2) (upd m_ringSize p1.toNatClampNeg ((m_ringSize p1.toNatClampNeg) + 1)) (upd m_ringNodes p1.toNatClampNeg ((m_ringNodes p1.toNatClampNeg) ||| ((1 : Int32) <<< (p2 &&& 31)))) m_rings m_path m_pathSize m_old m_lastRing m_bestNodes m_bestInside m_bestFits m_far m_xs m_ys) := hD
  have eR := some_i hf
  exact W.vret hx hb hr (fun t ht hW => ⟨⟨(), rfl, trivial, by rw [← eR, ht]; exact hP, by rw [← eR]; exact hD⟩, hS.F ht⟩) hS.2.2 dX8_adds_39 (hlocks := hlk)
