set_option maxRecDepth 100000 in
set_option maxHeartbeats 4000000 in
theorem c_J6_bitCount_0f7a4 (l : Launch) (D : va_G) (cA : Nat → ClassId) (p0 : Int32) (N : Nat) (ρ : Int32) (hf : f_J6_bitCount_0f7a4 N p0 = some ρ) : Met l yJ6_bitCount_0f7a4 (Cond.code yJ6_bitCount_0f7a4 cJ6_bitCount_0f7a4 1 (Option.some Jvm.ClassFile.FieldType.int) :: lw_g) ({ frames := 0, cells := 0, slots := 0, locals := 0 } : Room) (PcS D (tyA cA) ([] : va_W) [.int p0]) (vp_Si (fun r => r = ρ)) 0 0 (fun _ => False) := by
  refine mkS (by decide +kernel) (Nat.le_of_ble_eq_true rfl) fun p e s m below meth c ls C hl hP hK => ?_
  obtain ⟨hx, hb, hml, hown, hT, hr, hlk⟩ := id C
  have hl : lv_has ls 1 [(0, .int p0)] := hl
  refine lv_iload_n hx hb dJ6_bitCount_0f7a4_0 rfl (lv_at hl 0 rfl) ?_
  refine lv_iload_n hx hb dJ6_bitCount_0f7a4_1 rfl (lv_at hl 0 rfl) ?_
  refine lv_iconst (v := 1) hx hb dJ6_bitCount_0f7a4_2 (by decide) ?_
  refine lv_iushr (v := ((p0 : Int32).toUInt32 >>> ((1 : Int32).toUInt32 &&& Int32.toUInt32 31)).toInt32) hx hb dJ6_bitCount_0f7a4_3 rfl ?_
  refine lv_ldcw hx hb hown (hT _ ko_2_112) dJ6_bitCount_0f7a4_4 ?_
  refine lv_iand hx hb dJ6_bitCount_0f7a4_7 ?_
  refine lv_isub hx hb dJ6_bitCount_0f7a4_8 ?_
  refine lv_topi (fun x0_1 ex0_1 => ?_)
  have hf := nm_t ex0_1 hf
  refine lv_istore_n (lv' := [(0, .int x0_1)]) hx hb dJ6_bitCount_0f7a4_9 rfl hl (by decide) rfl (fun ls hl => ?_)
  refine lv_iload_n hx hb dJ6_bitCount_0f7a4_10 rfl (lv_at hl 0 rfl) ?_
  refine lv_ldcw hx hb hown (hT _ ko_2_113) dJ6_bitCount_0f7a4_11 ?_
  refine lv_iand hx hb dJ6_bitCount_0f7a4_14 ?_
  refine lv_iload_n hx hb dJ6_bitCount_0f7a4_15 rfl (lv_at hl 0 rfl) ?_
  refine lv_iconst (v := 2) hx hb dJ6_bitCount_0f7a4_16 (by decide) ?_
  refine lv_iushr (v := ((x0_1 : Int32).toUInt32 >>> ((2 : Int32).toUInt32 &&& Int32.toUInt32 31)).toInt32) hx hb dJ6_bitCount_0f7a4_17 rfl ?_
  refine lv_ldcw hx hb hown (hT _ ko_2_113) dJ6_bitCount_0f7a4_18 ?_
  refine lv_iand hx hb dJ6_bitCount_0f7a4_21 ?_
  refine lv_iadd hx hb dJ6_bitCount_0f7a4_22 ?_
  refine lv_topi (fun x0_2 ex0_2 => ?_)
  have hf := nm_t ex0_2 hf
  refine lv_istore_n (lv' := [(0, .int x0_2)]) hx hb dJ6_bitCount_0f7a4_23 rfl hl (by decide) rfl (fun ls hl => ?_)
  refine lv_iload_n hx hb dJ6_bitCount_0f7a4_24 rfl (lv_at hl 0 rfl) ?_
  refine lv_iload_n hx hb dJ6_bitCount_0f7a4_25 rfl (lv_at hl 0 rfl) ?_
  refine lv_iconst (v := 4) hx hb dJ6_bitCount_0f7a4_26 (by decide) ?_
  refine lv_iushr (v := ((x0_2 : Int32).toUInt32 >>> ((4 : Int32).toUInt32 &&& Int32.toUInt32 31)).toInt32) hx hb dJ6_bitCount_0f7a4_27 rfl ?_
  refine lv_iadd hx hb dJ6_bitCount_0f7a4_28 ?_
  refine lv_ldcw hx hb hown (hT _ ko_2_114) dJ6_bitCount_0f7a4_29 ?_
  refine lv_iand hx hb dJ6_bitCount_0f7a4_32 ?_
  refine lv_topi (fun x0_3 ex0_3 => ?_)
  have hf := nm_t ex0_3 hf
  refine lv_istore_n (lv' := [(0, .int x0_3)]) hx hb dJ6_bitCount_0f7a4_33 rfl hl (by decide) rfl (fun ls hl => ?_)
  refine lv_iload_n hx hb dJ6_bitCount_0f7a4_34 rfl (lv_at hl 0 rfl) ?_
  refine lv_iload_n hx hb dJ6_bitCount_0f7a4_35 rfl (lv_at hl 0 rfl) ?_
  refine lv_bipush (v := 8) hx hb dJ6_bitCount_0f7a4_36 (by decide) ?_
  refine lv_iushr (v := ((x0_3 : Int32).toUInt32 >>> ((8 : Int32).toUInt32 &&& Int32.toUInt32 31)).toInt32) hx hb dJ6_bitCount_0f7a4_38 rfl ?_
  refine lv_iadd hx hb dJ6_bitCount_0f7a4_39 ?_
  refine lv_topi (fun x0_4 ex0_4 => ?_)
  have hf := nm_t ex0_4 hf
  refine lv_istore_n (lv' := [(0, .int x0_4)]) hx hb dJ6_bitCount_0f7a4_40 rfl hl (by decide) rfl (fun ls hl => ?_)
  refine lv_iload_n hx hb dJ6_bitCount_0f7a4_41 rfl (lv_at hl 0 rfl) ?_
  refine lv_iload_n hx hb dJ6_bitCount_0f7a4_42 rfl (lv_at hl 0 rfl) ?_
  refine lv_bipush (v := 16) hx hb dJ6_bitCount_0f7a4_43 (by decide) ?_
  refine lv_iushr (v := ((x0_4 : Int32).toUInt32 >>> ((16 : Int32).toUInt32 &&& Int32.toUInt32 31)).toInt32) hx hb dJ6_bitCount_0f7a4_45 rfl ?_
  refine lv_iadd hx hb dJ6_bitCount_0f7a4_46 ?_
  refine lv_topi (fun x0_5 ex0_5 => ?_)
  have hf := nm_t ex0_5 hf
  refine lv_istore_n (lv' := [(0, .int x0_5)]) hx hb dJ6_bitCount_0f7a4_47 rfl hl (by decide) rfl (fun ls hl => ?_)
  refine lv_iload_n hx hb dJ6_bitCount_0f7a4_48 rfl (lv_at hl 0 rfl) ?_
  refine lv_bipush (v := 63) hx hb dJ6_bitCount_0f7a4_49 (by decide) ?_
  refine lv_iand hx hb dJ6_bitCount_0f7a4_51 ?_
  exact W.iret hx hb hr (fun t ht hW => ⟨_, rfl, some_i hf, ht⟩) (fun _ h => by cases h) dJ6_bitCount_0f7a4_52 (hlocks := hlk)
set_option maxRecDepth 100000 in
set_option maxHeartbeats 4000000 in
theorem c_Jxf58ca_isNaN_12338 (l : Launch) (D : va_G) (cA : Nat → ClassId) (p0 : UInt32) (N : Nat) (ρ : Int32) (hf : f_Jxf58ca_isNaN_12338 N p0 = some ρ) : Met l yJxf58ca_isNaN_12338 (Cond.code yJxf58ca_isNaN_12338 cJxf58ca_isNaN_12338 1 (Option.some Jvm.ClassFile.FieldType.boolean) :: lw_g) ({ frames := 0, cells := 0, slots := 0, locals := 0 } : Room) (PcS D (tyA cA) ([] : va_W) [.float p0]) (vp_Si (fun r => r = ρ)) 0 0 (fun _ => False) := by
  refine mkSF (by decide +kernel) (Nat.le_of_ble_eq_true rfl) fun p e s m below meth c ls C hl hP hK => ?_
  obtain ⟨hx, hb, hml, hown, hT, hr, hlk⟩ := id C
  have hl : lv_has ls 1 [(0, .float p0)] := hl
  refine lv_fload_n hx hb dJxf58ca_isNaN_12338_0 rfl (lv_at hl 0 rfl) ?_
  refine lv_fload_n hx hb dJxf58ca_isNaN_12338_1 rfl (lv_at hl 0 rfl) ?_
  refine lv_fcmp hx hb dJxf58ca_isNaN_12338_2 ?_
  refine lv_if_eq (tgt := 10) hx hb dJxf58ca_isNaN_12338_3 (by decide) (fun c_1 => ?_) (fun c_1 => ?_)
  · have hf := ite_t c_1 hf
    refine lv_iconst (v := 0) hx hb dJxf58ca_isNaN_12338_10 (by decide) ?_
    exact W.zret hx hb hr (by decide) (fun t ht hW => ⟨_, rfl, some_i hf, ht⟩) (fun _ h => by cases h) dJxf58ca_isNaN_12338_11 (hlocks := hlk)
  · have hf := ite_f c_1 hf
    refine lv_iconst (v := 1) hx hb dJxf58ca_isNaN_12338_6 (by decide) ?_
    refine lv_goto (tgt := 11) hx hb dJxf58ca_isNaN_12338_7 (by decide) ?_
    exact W.zret hx hb hr (by decide) (fun t ht hW => ⟨_, rfl, some_i hf, ht⟩) (fun _ h => by cases h) dJxf58ca_isNaN_12338_11 (hlocks := hlk)
set_option maxRecDepth 100000 in
set_option maxHeartbeats 4000000 in
theorem c_Jxf58ca_floatToIntBits_5c35a (l : Launch) (D : va_G) (cA : Nat → ClassId) (p0 : UInt32) (N : Nat) (ρ : Int32) (hf : f_Jxf58ca_floatToIntBits_5c35a N p0 = some ρ) : Met l yJxf58ca_floatToIntBits_5c35a (Cond.code yJxf58ca_floatToIntBits_5c35a cJxf58ca_floatToIntBits_5c35a 1 (Option.some Jvm.ClassFile.FieldType.int) :: lw_g) ({ frames := 1, cells := 0, slots := 0, locals := 23 } : Room) (PcS D (tyA cA) ([] : va_W) [.float p0]) (vp_Si (fun r => r = ρ)) 0 0 (fun _ => False) := by
  refine mkSF (by decide +kernel) (Nat.le_of_ble_eq_true rfl) fun p e s m below meth c ls C hl hP hK => ?_
  obtain ⟨hx, hb, hml, hown, hT, hr, hlk⟩ := id C
  have hl : lv_has ls 1 [(0, .float p0)] := hl
  refine lv_fload_n hx hb dJxf58ca_floatToIntBits_5c35a_0 rfl (lv_at hl 0 rfl) ?_
  obtain ⟨r_1, hcr_1, hf⟩ := bd1_s hf
  refine backI (runS0 C (c_Jxf58ca_isNaN_12338 l D cA p0 N r_1 hcr_1) cf_Jxf58ca_isNaN_12338 km_Jxf58ca_59 ⟨rfl, rfl, by decide, by decide⟩ ⟨Nat.zero_le _, Nat.zero_le _⟩ (hP.sub [] rfl) hK hl.1 rfl rfl (Nat.le_of_ble_eq_true rfl) dJxf58ca_floatToIntBits_5c35a_1) ?_
  refine lv_if_ne (tgt := 12) hx hb dJxf58ca_floatToIntBits_5c35a_4 (by decide) (fun c_2 => ?_) (fun c_2 => ?_)
  · have hf := ite_t c_2 hf
    refine lv_ldc hx hb hown (hT _ ko_5_205) dJxf58ca_floatToIntBits_5c35a_12 ?_
    exact W.iret hx hb hr (fun t ht hW => ⟨_, rfl, some_i hf, ht⟩) (fun _ h => by cases h) dJxf58ca_floatToIntBits_5c35a_14 (hlocks := hlk)
  · have hf := ite_fn c_2 hf
    refine lv_fload_n hx hb dJxf58ca_floatToIntBits_5c35a_7 rfl (lv_at hl 0 rfl) ?_
    refine vn_f2i hx hb (hml.trans hl.1.symm) hown (hT _ km_Jxf58ca_74) (hT _ kv_Float_floatToRawIntBits) (hT _ kt_Float_floatToRawIntBits) (hT _ kin_Jxf58ca) (by decide) (Nat.le_of_ble_eq_true rfl) dJxf58ca_floatToIntBits_5c35a_8 ?_
    exact W.iret hx hb hr (fun t ht hW => ⟨_, rfl, some_i hf, ht⟩) (fun _ h => by cases h) dJxf58ca_floatToIntBits_5c35a_11 (hlocks := hlk)
set_option maxRecDepth 100000 in
set_option maxHeartbeats 4000000 in
theorem c_X1_areJoined (l : Launch) (D : va_G) (cA : Nat → ClassId) (a_g : Nat → Nat) (g_nodes : Int32) (g_edges : Int32) (g_outer : Int32) (g_low : Nat → Int32) (g_high : Nat → Int32) (g_degree : Nat → Int32) (g_turns : Nat → Int32) (p1 : Int32) (p2 : Int32) (N : Nat) (ρ : Int32) (hf : f_X1_areJoined N g_edges g_low g_high p1 p2 = some ρ) : Met l yX1_areJoined (Cond.code yX1_areJoined cX1_areJoined 4 (Option.some Jvm.ClassFile.FieldType.boolean) :: lw_g) ({ frames := 1, cells := 0, slots := 0, locals := 21 } : Room) (PcS D (tyA cA) (wX1 cA a_g g_nodes g_edges g_outer g_low g_high g_degree g_turns) [.ref (a_g 0), .int p1, .int p2]) (vp_Si (fun r => r = ρ)) 0 0 (fun _ => False) := by
  refine mkS (by decide +kernel) (Nat.le_of_ble_eq_true rfl) fun p e s m below meth c ls C hl hP hK => ?_
  obtain ⟨hx, hb, hml, hown, hT, hr, hlk⟩ := id C
  have hl : lv_has ls 4 [(0, .ref (a_g 0)), (1, .int p1), (2, .int p2)] := hl
  have B2 : ∀ (n2 : Nat), ∀ (x1 : Int32) (x2 : Int32) (x3 : Int32) (ls : Array Slot), lv_has ls 4 [(0, .ref (a_g 0)), (1, .int x1), (2, .int x2), (3, .int x3)] → f_X1_areJoined_b2 N g_edges g_low g_high n2 x1 x2 x3 = some ρ → W p l e ({ frames := 1, cells := 0, slots := 0, locals := 21 } : Room) s m ([.ref (a_g 0), .int p1, .int p2] : List Value).toArray below meth c s.heap [] 0 0 (MQ below (vp_Si (fun r => r = ρ)) ([.ref (a_g 0), .int p1, .int p2] : List Value).toArray s 0 0 (fun _ => False)) (F0 m 2 ls []) := by
    intro n2
    induction n2 with
    | zero =>
      intro x1 x2 x3 ls hl hf
      cases (show (none : Option (Int32)) = some ρ from hf)
    | succ n2 ih2 =>
      have B40 : ∀ (x1 : Int32) (x2 : Int32) (x3 : Int32) (ls : Array Slot), lv_has ls 4 [(0, .ref (a_g 0)), (1, .int x1), (2, .int x2), (3, .int x3)] → f_X1_areJoined_b40 N g_edges g_low g_high (f_X1_areJoined_b2 N g_edges g_low g_high n2) x1 x2 x3 = some ρ → W p l e ({ frames := 1, cells := 0, slots := 0, locals := 21 } : Room) s m ([.ref (a_g 0), .int p1, .int p2] : List Value).toArray below meth c s.heap [] 0 0 (MQ below (vp_Si (fun r => r = ρ)) ([.ref (a_g 0), .int p1, .int p2] : List Value).toArray s 0 0 (fun _ => False)) (F0 m 40 ls []) := by
        intro x1 x2 x3 ls hl hf
        refine lv_iinc (v := (x3 + 1)) (lv' := [(3, .int (x3 + 1)), (0, .ref (a_g 0)), (1, .int x1), (2, .int x2)]) hx hb dX1_areJoined_40 hl (k := 3) rfl rfl (by decide) rfl (fun ls hl => ?_)
        refine lv_goto (tgt := 2) hx hb dX1_areJoined_43 (by decide) ?_
        exact ih2 x1 x2 (x3 + 1) _ (lv_sub hl [1, 2, 3, 0] rfl) hf
      intro x1 x2 x3 ls hl hf
      refine lv_iload_n hx hb dX1_areJoined_2 rfl (lv_at hl 3 rfl) ?_
      refine lv_aload_n hx hb dX1_areJoined_3 rfl (lv_at hl 0 rfl) ?_
      refine va_get (D := D) (ci := 1) (C := RX1) (T := TX1) (N := 7) hx hb hT kwX1 hown hK.1 hP 0 rfl rfl 1 (by decide) (hT _ kf_X1_28) (fun _ h9 => h9) rfl dX1_areJoined_4 ?_
      refine lv_icmp_ge (tgt := 46) hx hb dX1_areJoined_7 (by decide) (fun c_1 => ?_) (fun c_1 => ?_)
      · have hf := ite_t c_1 hf
        refine lv_iconst (v := 0) hx hb dX1_areJoined_46 (by decide) ?_
        exact W.zret hx hb hr (by decide) (fun t ht hW => ⟨_, rfl, some_i hf, ht⟩) (fun _ h => by cases h) dX1_areJoined_47 (hlocks := hlk)
      · have hf := ite_f c_1 hf
        refine lv_aload_n hx hb dX1_areJoined_10 rfl (lv_at hl 0 rfl) ?_
        refine va_get (D := D) (ci := 1) (C := RX1) (T := TX1) (N := 7) hx hb hT kwX1 hown hK.1 hP 0 rfl rfl 3 (by decide) (hT _ kf_X1_15) (fun _ h9 => h9) rfl dX1_areJoined_11 ?_
        refine lv_iload_n hx hb dX1_areJoined_14 rfl (lv_at hl 3 rfl) ?_
        obtain ⟨h_2, hf⟩ := chk_s hf
        refine va_iald hx hb hK.1 hP 1 0 rfl rfl (inb_in h_2) dX1_areJoined_15 ?_
        refine lv_iload_n hx hb dX1_areJoined_16 rfl (lv_at hl 1 rfl) ?_
        refine lv_iload_n hx hb dX1_areJoined_17 rfl (lv_at hl 2 rfl) ?_
        refine va_mmin hx hb (hml.trans hl.1.symm) hown (hT _ km_X1_50) (hT _ kt_J9_min_7cf53) (hT _ kin_J9) (hT _ kc_J9_min_7cf53) (by decide) (Nat.le_of_ble_eq_true rfl) (Nat.zero_le _) (Nat.zero_le _) dX1_areJoined_18 ?_
        refine lv_icmp_ne (tgt := 40) hx hb dX1_areJoined_21 (by decide) (fun c_3 => ?_) (fun c_3 => ?_)
        · have hf := ite_t c_3 hf
          exact B40 x1 x2 x3 _ (lv_sub hl [0, 1, 2, 3] rfl) hf
        · have hf := ite_fn c_3 hf
          refine lv_aload_n hx hb dX1_areJoined_24 rfl (lv_at hl 0 rfl) ?_
          refine va_get (D := D) (ci := 1) (C := RX1) (T := TX1) (N := 7) hx hb hT kwX1 hown hK.1 hP 0 rfl rfl 4 (by decide) (hT _ kf_X1_19) (fun _ h9 => h9) rfl dX1_areJoined_25 ?_
          refine lv_iload_n hx hb dX1_areJoined_28 rfl (lv_at hl 3 rfl) ?_
          obtain ⟨h_4, hf⟩ := chk_s hf
          refine va_iald hx hb hK.1 hP 2 0 rfl rfl (inb_in h_4) dX1_areJoined_29 ?_
          refine lv_iload_n hx hb dX1_areJoined_30 rfl (lv_at hl 1 rfl) ?_
          refine lv_iload_n hx hb dX1_areJoined_31 rfl (lv_at hl 2 rfl) ?_
          refine va_mmax hx hb (hml.trans hl.1.symm) hown (hT _ km_X1_56) (hT _ kt_J9_max_7cf53) (hT _ kin_J9) (hT _ kc_J9_max_7cf53) (by decide) (Nat.le_of_ble_eq_true rfl) (Nat.zero_le _) (Nat.zero_le _) dX1_areJoined_32 ?_
          refine lv_icmp_ne (tgt := 40) hx hb dX1_areJoined_35 (by decide) (fun c_5 => ?_) (fun c_5 => ?_)
          · have hf := ite_t c_5 hf
            exact B40 x1 x2 x3 _ (lv_sub hl [0, 1, 2, 3] rfl) hf
          · have hf := ite_fn c_5 hf
            refine lv_iconst (v := 1) hx hb dX1_areJoined_38 (by decide) ?_
            exact W.zret hx hb hr (by decide) (fun t ht hW => ⟨_, rfl, some_i hf, ht⟩) (fun _ h => by cases h) dX1_areJoined_39 (hlocks := hlk)
  refine lv_iconst (v := 0) hx hb dX1_areJoined_0 (by decide) ?_
  refine lv_istore_n (lv' := [(3, .int 0), (0, .ref (a_g 0)), (1, .int p1), (2, .int p2)]) hx hb dX1_areJoined_1 rfl hl (by decide) rfl (fun ls hl => ?_)
  exact B2 N p1 p2 0 _ (lv_sub hl [1, 2, 3, 0] rfl) hf
set_option maxRecDepth 100000 in
set_option maxHeartbeats 4000000 in
theorem c_X1_closeSlots (l : Launch) (D : va_G) (cA : Nat → ClassId) (a_g : Nat → Nat) (g_nodes : Int32) (g_edges : Int32) (g_outer : Int32) (g_low : Nat → Int32) (g_high : Nat → Int32) (g_degree : Nat → Int32) (g_turns : Nat → Int32) (p1 : Int32) (p2 : Int32) (sz N : Nat) (ρ : (Nat → Int32) × (Nat → Int32)) (hf : f_X1_closeSlots N g_degree g_turns p1 p2 = some ρ) : Met l yX1_closeSlots (Cond.code yX1_closeSlots cX1_closeSlots 7 (Option.none : Option Jvm.ClassFile.FieldType) :: lw_g) ({ frames := 0, cells := 0, slots := 0, locals := 0 } : Room) (PcW D (tyA cA) (wX1 cA a_g g_nodes g_edges g_outer g_low g_high g_degree g_turns) sz [.ref (a_g 0), .int p1, .int p2]) (va_Qv (fun (_ : Unit) => True) (fun _ t => va_P D vwCl (wX1 cA a_g g_nodes g_edges g_outer g_low g_high ρ.1 ρ.2) t.heap ∧ va_D (va_A (wX1 cA a_g g_nodes g_edges g_outer g_low g_high g_degree g_turns) sz) (wX1 cA a_g g_nodes g_edges g_outer g_low g_high ρ.1 ρ.2)) (va_A (wX1 cA a_g g_nodes g_edges g_outer g_low g_high g_degree g_turns) sz)) 0 0 (va_A (wX1 cA a_g g_nodes g_edges g_outer g_low g_high g_degree g_turns) sz) := by
  refine mkW (QQ := fun A => va_Qv (fun (_ : Unit) => True) (fun _ t => va_P D vwCl (wX1 cA a_g g_nodes g_edges g_outer g_low g_high ρ.1 ρ.2) t.heap ∧ va_D A (wX1 cA a_g g_nodes g_edges g_outer g_low g_high ρ.1 ρ.2)) A) (by decide) (Nat.le_of_ble_eq_true rfl) fun p e s m below meth c ls A C hl hP hK hD hA hS => ?_
  obtain ⟨hx, hb, hml, hown, hT, hr, hlk⟩ := id C
  have hl : lv_has ls 7 [(0, .ref (a_g 0)), (1, .int p1), (2, .int p2)] := hl
  have B72 : ∀ (x1 : Int32) (x4 : Int32) (g_degree : Nat → Int32) (g_turns : Nat → Int32) (H : Heap) (locs : List Loc) (ls : Array Slot), lv_has ls 7 [(0, .ref (a_g 0)), (1, .int x1), (4, .int x4)] → va_P D vwCl (wX1 cA a_g g_nodes g_edges g_outer g_low g_high g_degree g_turns) H → va_D A (wX1 cA a_g g_nodes g_edges g_outer g_low g_high g_degree g_turns) → va_S A s.heap H locs → f_X1_closeSlots_b72 N x1 x4 g_degree g_turns = some ρ → W p l e ({ frames := 0, cells := 0, slots := 0, locals := 0 } : Room) s m ([.ref (a_g 0), .int p1, .int p2] : List Value).toArray below meth c H locs 0 0 (MQ below (va_Qv (fun (_ : Unit) => True) (fun _ t => va_P D vwCl (wX1 cA a_g g_nodes g_edges g_outer g_low g_high ρ.1 ρ.2) t.heap ∧ va_D A (wX1 cA a_g g_nodes g_edges g_outer g_low g_high ρ.1 ρ.2)) A) ([.ref (a_g 0), .int p1, .int p2] : List Value).toArray s 0 0 A) (F0 m 72 ls []) := by
    intro x1 x4 g_degree g_turns H locs ls hl hP hD hS hf
    refine lv_aload_n hx hb dX1_closeSlots_72 rfl (lv_at hl 0 rfl) ?_
    refine va_get (D := D) (ci := 1) (C := RX1) (T := TX1) (N := 7) hx hb hT kwX1 hown hK.1 hP 0 rfl rfl 5 (by decide) (hT _ kf_X1_22) (fun _ h9 => h9) rfl dX1_closeSlots_73 ?_
    refine lv_iload_n hx hb dX1_closeSlots_76 rfl (lv_at hl 1 rfl) ?_
    refine lv_iload hx hb dX1_closeSlots_77 (lv_at hl 2 rfl) ?_
    obtain ⟨h_9, hf⟩ := chk_s hf
    refine va_iast hx hb hK.1 hP hD hS 3 0 rfl rfl (inb_in h_9) dX1_closeSlots_79 (fun H locs hP hD hS => ?_)
    have hP : va_P D vwCl (wX1 cA a_g g_nodes g_edges g_outer g_low g_high (upd g_degree x1.toNatClampNeg x4) g_turns) H := hP
    have hD : va_D A (wX1 cA a_g g_nodes g_edges g_outer g_low g_high (upd g_degree x1.toNatClampNeg x4) g_turns) := hD
    have eR := some_i hf
    exact W.vret hx hb hr (fun t ht hW => ⟨⟨(), rfl, trivial, by rw [← eR, ht]; exact hP, by rw [← eR]; exact hD⟩, hS.F ht⟩) hS.2.2 dX1_closeSlots_80 (hlocks := hlk)
  have B11 : ∀ (n11 : Nat), ∀ (x1 : Int32) (x2 : Int32) (x3 : Int32) (x4 : Int32) (x5 : Int32) (g_degree : Nat → Int32) (g_turns : Nat → Int32) (H : Heap) (locs : List Loc) (ls : Array Slot), lv_has ls 7 [(0, .ref (a_g 0)), (1, .int x1), (2, .int x2), (3, .int x3), (4, .int x4), (5, .int x5)] → va_P D vwCl (wX1 cA a_g g_nodes g_edges g_outer g_low g_high g_degree g_turns) H → va_D A (wX1 cA a_g g_nodes g_edges g_outer g_low g_high g_degree g_turns) → va_S A s.heap H locs → f_X1_closeSlots_b11 N n11 x1 x2 x3 x4 x5 g_degree g_turns = some ρ → W p l e ({ frames := 0, cells := 0, slots := 0, locals := 0 } : Room) s m ([.ref (a_g 0), .int p1, .int p2] : List Value).toArray below meth c H locs 0 0 (MQ below (va_Qv (fun (_ : Unit) => True) (fun _ t => va_P D vwCl (wX1 cA a_g g_nodes g_edges g_outer g_low g_high ρ.1 ρ.2) t.heap ∧ va_D A (wX1 cA a_g g_nodes g_edges g_outer g_low g_high ρ.1 ρ.2)) A) ([.ref (a_g 0), .int p1, .int p2] : List Value).toArray s 0 0 A) (F0 m 11 ls []) := by
    intro n11
    induction n11 with
    | zero =>
      intro x1 x2 x3 x4 x5 g_degree g_turns H locs ls hl hP hD hS hf
      cases (show (none : Option ((Nat → Int32) × (Nat → Int32))) = some ρ from hf)
    | succ n11 ih11 =>
      have B66 : ∀ (x1 : Int32) (x2 : Int32) (x3 : Int32) (x4 : Int32) (x5 : Int32) (g_degree : Nat → Int32) (g_turns : Nat → Int32) (H : Heap) (locs : List Loc) (ls : Array Slot), lv_has ls 7 [(0, .ref (a_g 0)), (1, .int x1), (2, .int x2), (3, .int x3), (4, .int x4), (5, .int x5)] → va_P D vwCl (wX1 cA a_g g_nodes g_edges g_outer g_low g_high g_degree g_turns) H → va_D A (wX1 cA a_g g_nodes g_edges g_outer g_low g_high g_degree g_turns) → va_S A s.heap H locs → f_X1_closeSlots_b66 N (f_X1_closeSlots_b11 N n11) x1 x2 x3 x4 x5 g_degree g_turns = some ρ → W p l e ({ frames := 0, cells := 0, slots := 0, locals := 0 } : Room) s m ([.ref (a_g 0), .int p1, .int p2] : List Value).toArray below meth c H locs 0 0 (MQ below (va_Qv (fun (_ : Unit) => True) (fun _ t => va_P D vwCl (wX1 cA a_g g_nodes g_edges g_outer g_low g_high ρ.1 ρ.2) t.heap ∧ va_D A (wX1 cA a_g g_nodes g_edges g_outer g_low g_high ρ.1 ρ.2)) A) ([.ref (a_g 0), .int p1, .int p2] : List Value).toArray s 0 0 A) (F0 m 66 ls []) := by
        intro x1 x2 x3 x4 x5 g_degree g_turns H locs ls hl hP hD hS hf
        refine lv_iinc (v := (x5 + 1)) (lv' := [(5, .int (x5 + 1)), (0, .ref (a_g 0)), (1, .int x1), (2, .int x2), (3, .int x3), (4, .int x4)]) hx hb dX1_closeSlots_66 hl (k := 5) rfl rfl (by decide) rfl (fun ls hl => ?_)
        refine lv_goto (tgt := 11) hx hb dX1_closeSlots_69 (by decide) ?_
        exact ih11 x1 x2 x3 x4 (x5 + 1) g_degree g_turns _ _ _ (lv_sub hl [1, 2, 3, 4, 5, 0] rfl) hP hD hS hf
      have B62 : ∀ (x1 : Int32) (x2 : Int32) (x3 : Int32) (x4 : Int32) (x5 : Int32) (y1 : Int32) (y2 : Int32) (g_degree : Nat → Int32) (g_turns : Nat → Int32) (H : Heap) (locs : List Loc) (ls : Array Slot), lv_has ls 7 [(0, .ref (a_g 0)), (1, .int x1), (2, .int x2), (3, .int x3), (4, .int x4), (5, .int x5)] → va_P D vwCl (wX1 cA a_g g_nodes g_edges g_outer g_low g_high g_degree g_turns) H → va_D A (wX1 cA a_g g_nodes g_edges g_outer g_low g_high g_degree g_turns) → va_S A s.heap H locs → f_X1_closeSlots_b62 N (f_X1_closeSlots_b11 N n11) x1 x2 x3 x4 x5 y1 y2 g_degree g_turns = some ρ → W p l e ({ frames := 0, cells := 0, slots := 0, locals := 0 } : Room) s m ([.ref (a_g 0), .int p1, .int p2] : List Value).toArray below meth c H locs 0 0 (MQ below (va_Qv (fun (_ : Unit) => True) (fun _ t => va_P D vwCl (wX1 cA a_g g_nodes g_edges g_outer g_low g_high ρ.1 ρ.2) t.heap ∧ va_D A (wX1 cA a_g g_nodes g_edges g_outer g_low g_high ρ.1 ρ.2)) A) ([.ref (a_g 0), .int p1, .int p2] : List Value).toArray s 0 0 A) (F0 m 62 ls [.int y2, .int y1, .ref (a_g 4)]) := by
        intro x1 x2 x3 x4 x5 y1 y2 g_degree g_turns H locs ls hl hP hD hS hf
        obtain ⟨h_8, hf⟩ := chk_s hf
        refine va_iast hx hb hK.1 hP hD hS 4 0 rfl rfl (inb_in h_8) dX1_closeSlots_62 (fun H locs hP hD hS => ?_)
        have hP : va_P D vwCl (wX1 cA a_g g_nodes g_edges g_outer g_low g_high g_degree (upd g_turns y1.toNatClampNeg y2)) H := hP
        have hD : va_D A (wX1 cA a_g g_nodes g_edges g_outer g_low g_high g_degree (upd g_turns y1.toNatClampNeg y2)) := hD
        refine lv_iinc (v := (x4 + 1)) (lv' := [(4, .int (x4 + 1)), (0, .ref (a_g 0)), (1, .int x1), (2, .int x2), (3, .int x3), (5, .int x5)]) hx hb dX1_closeSlots_63 hl (k := 4) rfl rfl (by decide) rfl (fun ls hl => ?_)
        exact B66 x1 x2 x3 (x4 + 1) x5 g_degree (upd g_turns y1.toNatClampNeg y2) _ _ _ (lv_sub hl [1, 2, 3, 4, 0, 5] rfl) hP hD hS hf
      intro x1 x2 x3 x4 x5 g_degree g_turns H locs ls hl hP hD hS hf
      refine lv_iload hx hb dX1_closeSlots_11 (lv_at hl 5 rfl) ?_
      refine lv_aload_n hx hb dX1_closeSlots_13 rfl (lv_at hl 0 rfl) ?_
      refine va_get (D := D) (ci := 1) (C := RX1) (T := TX1) (N := 7) hx hb hT kwX1 hown hK.1 hP 0 rfl rfl 5 (by decide) (hT _ kf_X1_22) (fun _ h9 => h9) rfl dX1_closeSlots_14 ?_
      refine lv_iload_n hx hb dX1_closeSlots_17 rfl (lv_at hl 1 rfl) ?_
      obtain ⟨h_2, hf⟩ := chk_s hf
      refine va_iald hx hb hK.1 hP 3 0 rfl rfl (inb_in h_2) dX1_closeSlots_18 ?_
      refine lv_icmp_ge (tgt := 72) hx hb dX1_closeSlots_19 (by decide) (fun c_3 => ?_) (fun c_3 => ?_)
      · have hf := ite_t c_3 hf
        exact B72 x1 x4 g_degree g_turns _ _ _ (lv_sub hl [0, 1, 4] rfl) hP hD hS hf
      · have hf := ite_f c_3 hf
        refine lv_aload_n hx hb dX1_closeSlots_22 rfl (lv_at hl 0 rfl) ?_
        refine va_get (D := D) (ci := 1) (C := RX1) (T := TX1) (N := 7) hx hb hT kwX1 hown hK.1 hP 0 rfl rfl 6 (by decide) (hT _ kf_X1_25) (fun _ h9 => h9) rfl dX1_closeSlots_23 ?_
        refine lv_iload_n hx hb dX1_closeSlots_26 rfl (lv_at hl 3 rfl) ?_
        refine lv_iload hx hb dX1_closeSlots_27 (lv_at hl 5 rfl) ?_
        refine lv_iadd hx hb dX1_closeSlots_29 ?_
        obtain ⟨h_4, hf⟩ := chk_s hf
        refine va_iald hx hb hK.1 hP 4 0 rfl rfl (inb_in h_4) dX1_closeSlots_30 ?_
        refine lv_topi (fun x6_5 ex6_5 => ?_)
        have hf := nm_t ex6_5 hf
        refine lv_istore (lv' := [(6, .int x6_5), (0, .ref (a_g 0)), (1, .int x1), (2, .int x2), (3, .int x3), (4, .int x4), (5, .int x5)]) hx hb dX1_closeSlots_31 hl (by decide) rfl (fun ls hl => ?_)
        refine lv_iload hx hb dX1_closeSlots_33 (lv_at hl 0 rfl) ?_
        refine lv_iload_n hx hb dX1_closeSlots_35 rfl (lv_at hl 3 rfl) ?_
        refine lv_icmp_eq (tgt := 66) hx hb dX1_closeSlots_36 (by decide) (fun c_6 => ?_) (fun c_6 => ?_)
        · have hf := ite_t c_6 hf
          exact B66 x1 x2 x3 x4 x5 g_degree g_turns _ _ _ (lv_sub hl [1, 2, 3, 4, 5, 6] rfl) hP hD hS hf
        · have hf := ite_f c_6 hf
          refine lv_aload_n hx hb dX1_closeSlots_39 rfl (lv_at hl 1 rfl) ?_
          refine va_get (D := D) (ci := 1) (C := RX1) (T := TX1) (N := 7) hx hb hT kwX1 hown hK.1 hP 0 rfl rfl 6 (by decide) (hT _ kf_X1_25) (fun _ h9 => h9) rfl dX1_closeSlots_40 ?_
          refine lv_iload_n hx hb dX1_closeSlots_43 rfl (lv_at hl 4 rfl) ?_
          refine lv_iload hx hb dX1_closeSlots_44 (lv_at hl 5 rfl) ?_
          refine lv_iadd hx hb dX1_closeSlots_46 ?_
          refine lv_iload hx hb dX1_closeSlots_47 (lv_at hl 0 rfl) ?_
          refine lv_iload_n hx hb dX1_closeSlots_49 rfl (lv_at hl 3 rfl) ?_
          refine lv_icmp_le (tgt := 60) hx hb dX1_closeSlots_50 (by decide) (fun c_7 => ?_) (fun c_7 => ?_)
          · have hf := ite_t c_7 hf
            refine lv_iload hx hb dX1_closeSlots_60 (lv_at hl 0 rfl) ?_
            exact B62 x1 x2 x3 x4 x5 (x3 + x4) x6_5 g_degree g_turns _ _ _ (lv_sub hl [1, 2, 3, 4, 5, 6] rfl) hP hD hS hf
          · have hf := ite_f c_7 hf
            refine lv_iload hx hb dX1_closeSlots_53 (lv_at hl 0 rfl) ?_
            refine lv_iconst (v := 1) hx hb dX1_closeSlots_55 (by decide) ?_
            refine lv_isub hx hb dX1_closeSlots_56 ?_
            refine lv_goto (tgt := 62) hx hb dX1_closeSlots_57 (by decide) ?_
            exact B62 x1 x2 x3 x4 x5 (x3 + x4) (x6_5 - 1) g_degree g_turns _ _ _ (lv_sub hl [1, 2, 3, 4, 5, 6] rfl) hP hD hS hf
  refine lv_iload_n hx hb dX1_closeSlots_0 rfl (lv_at hl 1 rfl) ?_
  refine lv_bipush (v := 8) hx hb dX1_closeSlots_1 (by decide) ?_
  refine lv_imul hx hb dX1_closeSlots_3 ?_
  refine lv_topi (fun x3_1 ex3_1 => ?_)
  have hf := nm_t ex3_1 hf
  refine lv_istore_n (lv' := [(3, .int x3_1), (0, .ref (a_g 0)), (1, .int p1), (2, .int p2)]) hx hb dX1_closeSlots_4 rfl hl (by decide) rfl (fun ls hl => ?_)
  refine lv_iconst (v := 0) hx hb dX1_closeSlots_5 (by decide) ?_
  refine lv_istore (lv' := [(4, .int 0), (3, .int x3_1), (0, .ref (a_g 0)), (1, .int p1), (2, .int p2)]) hx hb dX1_closeSlots_6 hl (by decide) rfl (fun ls hl => ?_)
  refine lv_iconst (v := 0) hx hb dX1_closeSlots_8 (by decide) ?_
  refine lv_istore (lv' := [(5, .int 0), (4, .int 0), (3, .int x3_1), (0, .ref (a_g 0)), (1, .int p1), (2, .int p2)]) hx hb dX1_closeSlots_9 hl (by decide) rfl (fun ls hl => ?_)
  exact B11 N p1 p2 x3_1 0 0 g_degree g_turns _ _ _ (lv_sub hl [3, 4, 5, 2, 1, 0] rfl) hP hD hS hf
set_option maxRecDepth 100000 in
set_option maxHeartbeats 4000000 in
theorem c_X1_openSlot (l : Launch) (D : va_G) (cA : Nat → ClassId) (a_g : Nat → Nat) (g_nodes : Int32) (g_edges : Int32) (g_outer : Int32) (g_low : Nat → Int32) (g_high : Nat → Int32) (g_degree : Nat → Int32) (g_turns : Nat → Int32) (p1 : Int32) (p2 : Int32) (p3 : Int32) (sz N : Nat) (ρ : (Nat → Int32) × (Nat → Int32)) (hf : f_X1_openSlot N g_degree g_turns p1 p2 p3 = some ρ) : Met l yX1_openSlot (Cond.code yX1_openSlot cX1_openSlot 6 (Option.none : Option Jvm.ClassFile.FieldType) :: lw_g) ({ frames := 0, cells := 0, slots := 0, locals := 0 } : Room) (PcW D (tyA cA) (wX1 cA a_g g_nodes g_edges g_outer g_low g_high g_degree g_turns) sz [.ref (a_g 0), .int p1, .int p2, .int p3]) (va_Qv (fun (_ : Unit) => True) (fun _ t => va_P D vwCl (wX1 cA a_g g_nodes g_edges g_outer g_low g_high ρ.1 ρ.2) t.heap ∧ va_D (va_A (wX1 cA a_g g_nodes g_edges g_outer g_low g_high g_degree g_turns) sz) (wX1 cA a_g g_nodes g_edges g_outer g_low g_high ρ.1 ρ.2)) (va_A (wX1 cA a_g g_nodes g_edges g_outer g_low g_high g_degree g_turns) sz)) 0 0 (va_A (wX1 cA a_g g_nodes g_edges g_outer g_low g_high g_degree g_turns) sz) := by
  refine mkW (QQ := fun A => va_Qv (fun (_ : Unit) => True) (fun _ t => va_P D vwCl (wX1 cA a_g g_nodes g_edges g_outer g_low g_high ρ.1 ρ.2) t.heap ∧ va_D A (wX1 cA a_g g_nodes g_edges g_outer g_low g_high ρ.1 ρ.2)) A) (by decide) (Nat.le_of_ble_eq_true rfl) fun p e s m below meth c ls A C hl hP hK hD hA hS => ?_
  obtain ⟨hx, hb, hml, hown, hT, hr, hlk⟩ := id C
  have hl : lv_has ls 6 [(0, .ref (a_g 0)), (1, .int p1), (2, .int p2), (3, .int p3)] := hl
  have B74 : ∀ (x1 : Int32) (x2 : Int32) (x3 : Int32) (x4 : Int32) (g_degree : Nat → Int32) (g_turns : Nat → Int32) (H : Heap) (locs : List Loc) (ls : Array Slot), lv_has ls 6 [(0, .ref (a_g 0)), (1, .int x1), (2, .int x2), (3, .int x3), (4, .int x4)] → va_P D vwCl (wX1 cA a_g g_nodes g_edges g_outer g_low g_high g_degree g_turns) H → va_D A (wX1 cA a_g g_nodes g_edges g_outer g_low g_high g_degree g_turns) → va_S A s.heap H locs → f_X1_openSlot_b74 N x1 x2 x3 x4 g_degree g_turns = some ρ → W p l e ({ frames := 0, cells := 0, slots := 0, locals := 0 } : Room) s m ([.ref (a_g 0), .int p1, .int p2, .int p3] : List Value).toArray below meth c H locs 0 0 (MQ below (va_Qv (fun (_ : Unit) => True) (fun _ t => va_P D vwCl (wX1 cA a_g g_nodes g_edges g_outer g_low g_high ρ.1 ρ.2) t.heap ∧ va_D A (wX1 cA a_g g_nodes g_edges g_outer g_low g_high ρ.1 ρ.2)) A) ([.ref (a_g 0), .int p1, .int p2, .int p3] : List Value).toArray s 0 0 A) (F0 m 74 ls []) := by
    intro x1 x2 x3 x4 g_degree g_turns H locs ls hl hP hD hS hf
    refine lv_aload_n hx hb dX1_openSlot_74 rfl (lv_at hl 0 rfl) ?_
    refine va_get (D := D) (ci := 1) (C := RX1) (T := TX1) (N := 7) hx hb hT kwX1 hown hK.1 hP 0 rfl rfl 6 (by decide) (hT _ kf_X1_25) (fun _ h9 => h9) rfl dX1_openSlot_75 ?_
    refine lv_iload hx hb dX1_openSlot_78 (lv_at hl 4 rfl) ?_
    refine lv_iload_n hx hb dX1_openSlot_80 rfl (lv_at hl 2 rfl) ?_
    refine lv_iadd hx hb dX1_openSlot_81 ?_
    refine lv_iload_n hx hb dX1_openSlot_82 rfl (lv_at hl 3 rfl) ?_
    obtain ⟨h_12, hf⟩ := chk_s hf
    refine va_iast hx hb hK.1 hP hD hS 4 0 rfl rfl (inb_in h_12) dX1_openSlot_83 (fun H locs hP hD hS => ?_)
    have hP : va_P D vwCl (wX1 cA a_g g_nodes g_edges g_outer g_low g_high g_degree (upd g_turns (x4 + x2).toNatClampNeg x3)) H := hP
    have hD : va_D A (wX1 cA a_g g_nodes g_edges g_outer g_low g_high g_degree (upd g_turns (x4 + x2).toNatClampNeg x3)) := hD
    refine lv_aload_n hx hb dX1_openSlot_84 rfl (lv_at hl 0 rfl) ?_
    refine va_get (D := D) (ci := 1) (C := RX1) (T := TX1) (N := 7) hx hb hT kwX1 hown hK.1 hP 0 rfl rfl 5 (by decide) (hT _ kf_X1_22) (fun _ h9 => h9) rfl dX1_openSlot_85 ?_
    refine lv_iload_n hx hb dX1_openSlot_88 rfl (lv_at hl 1 rfl) ?_
    refine lv_dup2_11 hx hb dX1_openSlot_89 rfl rfl ?_
    obtain ⟨h_13, hf⟩ := chk_s hf
    refine va_iald hx hb hK.1 hP 3 0 rfl rfl (inb_in h_13) dX1_openSlot_90 ?_
    refine lv_iconst (v := 1) hx hb dX1_openSlot_91 (by decide) ?_
    refine lv_iadd hx hb dX1_openSlot_92 ?_
    obtain ⟨h_14, hf⟩ := chk_s hf
    refine va_iast hx hb hK.1 hP hD hS 3 0 rfl rfl (inb_in h_14) dX1_openSlot_93 (fun H locs hP hD hS => ?_)
    have hP : va_P D vwCl (wX1 cA a_g g_nodes g_edges g_outer g_low g_high (upd g_degree x1.toNatClampNeg ((g_degree x1.toNatClampNeg) + 1)) (upd g_turns (x4 + x2).toNatClampNeg x3)) H := hP
    have hD : va_D A (wX1 cA a_g g_nodes g_edges g_outer g_low g_high (upd g_degree x1.toNatClampNeg ((g_degree x1.toNatClampNeg) + 1)) (upd g_turns (x4 + x2).toNatClampNeg x3)) := hD
    have eR := some_i hf
    exact W.vret hx hb hr (fun t ht hW => ⟨⟨(), rfl, trivial, by rw [← eR, ht]; exact hP, by rw [← eR]; exact hD⟩, hS.F ht⟩) hS.2.2 dX1_openSlot_94 (hlocks := hlk)
  have B40 : ∀ (n40 : Nat), ∀ (x1 : Int32) (x2 : Int32) (x3 : Int32) (x4 : Int32) (x5 : Int32) (g_degree : Nat → Int32) (g_turns : Nat → Int32) (H : Heap) (locs : List Loc) (ls : Array Slot), lv_has ls 6 [(0, .ref (a_g 0)), (1, .int x1), (2, .int x2), (3, .int x3), (4, .int x4), (5, .int x5)] → va_P D vwCl (wX1 cA a_g g_nodes g_edges g_outer g_low g_high g_degree g_turns) H → va_D A (wX1 cA a_g g_nodes g_edges g_outer g_low g_high g_degree g_turns) → va_S A s.heap H locs → f_X1_openSlot_b40 N n40 x1 x2 x3 x4 x5 g_degree g_turns = some ρ → W p l e ({ frames := 0, cells := 0, slots := 0, locals := 0 } : Room) s m ([.ref (a_g 0), .int p1, .int p2, .int p3] : List Value).toArray below meth c H locs 0 0 (MQ below (va_Qv (fun (_ : Unit) => True) (fun _ t => va_P D vwCl (wX1 cA a_g g_nodes g_edges g_outer g_low g_high ρ.1 ρ.2) t.heap ∧ va_D A (wX1 cA a_g g_nodes g_edges g_outer g_low g_high ρ.1 ρ.2)) A) ([.ref (a_g 0), .int p1, .int p2, .int p3] : List Value).toArray s 0 0 A) (F0 m 40 ls []) := by
    intro n40
    induction n40 with
    | zero =>
      intro x1 x2 x3 x4 x5 g_degree g_turns H locs ls hl hP hD hS hf
      cases (show (none : Option ((Nat → Int32) × (Nat → Int32))) = some ρ from hf)
    | succ n40 ih40 =>
      intro x1 x2 x3 x4 x5 g_degree g_turns H locs ls hl hP hD hS hf
      refine lv_iload hx hb dX1_openSlot_40 (lv_at hl 5 rfl) ?_
      refine lv_iload_n hx hb dX1_openSlot_42 rfl (lv_at hl 2 rfl) ?_
      refine lv_icmp_le (tgt := 74) hx hb dX1_openSlot_43 (by decide) (fun c_9 => ?_) (fun c_9 => ?_)
      · have hf := ite_t c_9 hf
        exact B74 x1 x2 x3 x4 g_degree g_turns _ _ _ (lv_sub hl [0, 1, 2, 3, 4] rfl) hP hD hS hf
      · have hf := ite_f c_9 hf
        refine lv_aload_n hx hb dX1_openSlot_46 rfl (lv_at hl 0 rfl) ?_
        refine va_get (D := D) (ci := 1) (C := RX1) (T := TX1) (N := 7) hx hb hT kwX1 hown hK.1 hP 0 rfl rfl 6 (by decide) (hT _ kf_X1_25) (fun _ h9 => h9) rfl dX1_openSlot_47 ?_
        refine lv_iload hx hb dX1_openSlot_50 (lv_at hl 4 rfl) ?_
        refine lv_iload hx hb dX1_openSlot_52 (lv_at hl 5 rfl) ?_
        refine lv_iadd hx hb dX1_openSlot_54 ?_
        refine lv_aload_n hx hb dX1_openSlot_55 rfl (lv_at hl 0 rfl) ?_
        refine va_get (D := D) (ci := 1) (C := RX1) (T := TX1) (N := 7) hx hb hT kwX1 hown hK.1 hP 0 rfl rfl 6 (by decide) (hT _ kf_X1_25) (fun _ h9 => h9) rfl dX1_openSlot_56 ?_
        refine lv_iload hx hb dX1_openSlot_59 (lv_at hl 4 rfl) ?_
        refine lv_iload hx hb dX1_openSlot_61 (lv_at hl 5 rfl) ?_
        refine lv_iadd hx hb dX1_openSlot_63 ?_
        refine lv_iconst (v := 1) hx hb dX1_openSlot_64 (by decide) ?_
        refine lv_isub hx hb dX1_openSlot_65 ?_
        obtain ⟨h_10, hf⟩ := chk_s hf
        refine va_iald hx hb hK.1 hP 4 0 rfl rfl (inb_in h_10) dX1_openSlot_66 ?_
        obtain ⟨h_11, hf⟩ := chk_s hf
        refine va_iast hx hb hK.1 hP hD hS 4 0 rfl rfl (inb_in h_11) dX1_openSlot_67 (fun H locs hP hD hS => ?_)
        have hP : va_P D vwCl (wX1 cA a_g g_nodes g_edges g_outer g_low g_high g_degree (upd g_turns (x4 + x5).toNatClampNeg (g_turns ((x4 + x5) - 1).toNatClampNeg))) H := hP
        have hD : va_D A (wX1 cA a_g g_nodes g_edges g_outer g_low g_high g_degree (upd g_turns (x4 + x5).toNatClampNeg (g_turns ((x4 + x5) - 1).toNatClampNeg))) := hD
        refine lv_iinc (v := (x5 + (-1))) (lv' := [(5, .int (x5 + (-1))), (0, .ref (a_g 0)), (1, .int x1), (2, .int x2), (3, .int x3), (4, .int x4)]) hx hb dX1_openSlot_68 hl (k := 5) rfl rfl (by decide) rfl (fun ls hl => ?_)
        refine lv_goto (tgt := 40) hx hb dX1_openSlot_71 (by decide) ?_
        exact ih40 x1 x2 x3 x4 (x5 + (-1)) g_degree (upd g_turns (x4 + x5).toNatClampNeg (g_turns ((x4 + x5) - 1).toNatClampNeg)) _ _ _ (lv_sub hl [1, 2, 3, 4, 5, 0] rfl) hP hD hS hf
  refine lv_iload_n hx hb dX1_openSlot_0 rfl (lv_at hl 2 rfl) ?_
  refine lv_if_lt (tgt := 25) hx hb dX1_openSlot_1 (by decide) (fun c_1 => ?_) (fun c_1 => ?_)
  · have hf := ite_t c_1 hf
    have eR := some_i hf
    exact W.vret hx hb hr (fun t ht hW => ⟨⟨(), rfl, trivial, by rw [← eR, ht]; exact hP, by rw [← eR]; exact hD⟩, hS.F ht⟩) hS.2.2 dX1_openSlot_25 (hlocks := hlk)
  · have hf := ite_f c_1 hf
    refine lv_iload_n hx hb dX1_openSlot_4 rfl (lv_at hl 2 rfl) ?_
    refine lv_aload_n hx hb dX1_openSlot_5 rfl (lv_at hl 0 rfl) ?_
    refine va_get (D := D) (ci := 1) (C := RX1) (T := TX1) (N := 7) hx hb hT kwX1 hown hK.1 hP 0 rfl rfl 5 (by decide) (hT _ kf_X1_22) (fun _ h9 => h9) rfl dX1_openSlot_6 ?_
    refine lv_iload_n hx hb dX1_openSlot_9 rfl (lv_at hl 1 rfl) ?_
    obtain ⟨h_2, hf⟩ := chk_s hf
    refine va_iald hx hb hK.1 hP 3 0 rfl rfl (inb_in h_2) dX1_openSlot_10 ?_
    refine lv_icmp_gt (tgt := 25) hx hb dX1_openSlot_11 (by decide) (fun c_3 => ?_) (fun c_3 => ?_)
    · have hf := ite_t c_3 hf
      have eR := some_i hf
      exact W.vret hx hb hr (fun t ht hW => ⟨⟨(), rfl, trivial, by rw [← eR, ht]; exact hP, by rw [← eR]; exact hD⟩, hS.F ht⟩) hS.2.2 dX1_openSlot_25 (hlocks := hlk)
    · have hf := ite_f c_3 hf
      refine lv_aload_n hx hb dX1_openSlot_14 rfl (lv_at hl 0 rfl) ?_
      refine va_get (D := D) (ci := 1) (C := RX1) (T := TX1) (N := 7) hx hb hT kwX1 hown hK.1 hP 0 rfl rfl 5 (by decide) (hT _ kf_X1_22) (fun _ h9 => h9) rfl dX1_openSlot_15 ?_
      refine lv_iload_n hx hb dX1_openSlot_18 rfl (lv_at hl 1 rfl) ?_
      obtain ⟨h_4, hf⟩ := chk_s hf
      refine va_iald hx hb hK.1 hP 3 0 rfl rfl (inb_in h_4) dX1_openSlot_19 ?_
      refine lv_bipush (v := 8) hx hb dX1_openSlot_20 (by decide) ?_
      refine lv_icmp_lt (tgt := 26) hx hb dX1_openSlot_22 (by decide) (fun c_5 => ?_) (fun c_5 => ?_)
      · have hf := ite_t c_5 hf
        refine lv_iload_n hx hb dX1_openSlot_26 rfl (lv_at hl 1 rfl) ?_
        refine lv_bipush (v := 8) hx hb dX1_openSlot_27 (by decide) ?_
        refine lv_imul hx hb dX1_openSlot_29 ?_
        refine lv_topi (fun x4_6 ex4_6 => ?_)
        have hf := nm_t ex4_6 hf
        refine lv_istore (lv' := [(4, .int x4_6), (0, .ref (a_g 0)), (1, .int p1), (2, .int p2), (3, .int p3)]) hx hb dX1_openSlot_30 hl (by decide) rfl (fun ls hl => ?_)
        refine lv_aload_n hx hb dX1_openSlot_32 rfl (lv_at hl 1 rfl) ?_
        refine va_get (D := D) (ci := 1) (C := RX1) (T := TX1) (N := 7) hx hb hT kwX1 hown hK.1 hP 0 rfl rfl 5 (by decide) (hT _ kf_X1_22) (fun _ h9 => h9) rfl dX1_openSlot_33 ?_
        refine lv_iload_n hx hb dX1_openSlot_36 rfl (lv_at hl 2 rfl) ?_
        obtain ⟨h_7, hf⟩ := chk_s hf
        refine va_iald hx hb hK.1 hP 3 0 rfl rfl (inb_in h_7) dX1_openSlot_37 ?_
        refine lv_topi (fun x5_8 ex5_8 => ?_)
        have hf := nm_t ex5_8 hf
        refine lv_istore (lv' := [(5, .int x5_8), (4, .int x4_6), (0, .ref (a_g 0)), (1, .int p1), (2, .int p2), (3, .int p3)]) hx hb dX1_openSlot_38 hl (by decide) rfl (fun ls hl => ?_)
        exact B40 N p1 p2 p3 x4_6 x5_8 g_degree g_turns _ _ _ (lv_sub hl [2, 3, 4, 5, 1, 0] rfl) hP hD hS hf
      · have hf := ite_f c_5 hf
        have eR := some_i hf
        exact W.vret hx hb hr (fun t ht hW => ⟨⟨(), rfl, trivial, by rw [← eR, ht]; exact hP, by rw [← eR]; exact hD⟩, hS.F ht⟩) hS.2.2 dX1_openSlot_25 (hlocks := hlk)
set_option maxRecDepth 100000 in
set_option maxHeartbeats 4000000 in
theorem c_X1_connect (l : Launch) (D : va_G) (cA : Nat → ClassId) (a_g : Nat → Nat) (g_nodes : Int32) (g_edges : Int32) (g_outer : Int32) (g_low : Nat → Int32) (g_high : Nat → Int32) (g_degree : Nat → Int32) (g_turns : Nat → Int32) (p1 : Int32) (p2 : Int32) (p3 : Int32) (p4 : Int32) (sz N : Nat) (ρ : Int32 × Int32 × (Nat → Int32) × (Nat → Int32) × (Nat → Int32) × (Nat → Int32)) (hf : f_X1_connect N g_edges g_low g_high g_degree g_turns p1 p2 p3 p4 = some ρ) : Met l yX1_connect (Cond.code yX1_connect cX1_connect 6 (Option.some Jvm.ClassFile.FieldType.int) :: lw_g) ({ frames := 1, cells := 0, slots := 0, locals := 25 } : Room) (PcW D (tyA cA) (wX1 cA a_g g_nodes g_edges g_outer g_low g_high g_degree g_turns) sz [.ref (a_g 0), .int p1, .int p2, .int p3, .int p4]) (va_Qi (fun r (_ : Unit) => r = ρ.1) (fun _ t => va_P D vwCl (wX1 cA a_g g_nodes ρ.2.1 g_outer ρ.2.2.1 ρ.2.2.2.1 ρ.2.2.2.2.1 ρ.2.2.2.2.2) t.heap ∧ va_D (va_A (wX1 cA a_g g_nodes g_edges g_outer g_low g_high g_degree g_turns) sz) (wX1 cA a_g g_nodes ρ.2.1 g_outer ρ.2.2.1 ρ.2.2.2.1 ρ.2.2.2.2.1 ρ.2.2.2.2.2)) (va_A (wX1 cA a_g g_nodes g_edges g_outer g_low g_high g_degree g_turns) sz)) 0 0 (va_A (wX1 cA a_g g_nodes g_edges g_outer g_low g_high g_degree g_turns) sz) := by
  refine mkW (QQ := fun A => va_Qi (fun r (_ : Unit) => r = ρ.1) (fun _ t => va_P D vwCl (wX1 cA a_g g_nodes ρ.2.1 g_outer ρ.2.2.1 ρ.2.2.2.1 ρ.2.2.2.2.1 ρ.2.2.2.2.2) t.heap ∧ va_D A (wX1 cA a_g g_nodes ρ.2.1 g_outer ρ.2.2.1 ρ.2.2.2.1 ρ.2.2.2.2.1 ρ.2.2.2.2.2)) A) (by decide) (Nat.le_of_ble_eq_true rfl) fun p e s m below meth c ls A C hl hP hK hD hA hS => ?_
  obtain ⟨hx, hb, hml, hown, hT, hr, hlk⟩ := id C
  have hl : lv_has ls 6 [(0, .ref (a_g 0)), (1, .int p1), (2, .int p2), (3, .int p3), (4, .int p4)] := hl
  refine lv_aload_n hx hb dX1_connect_0 rfl (lv_at hl 0 rfl) ?_
  refine va_get (D := D) (ci := 1) (C := RX1) (T := TX1) (N := 7) hx hb hT kwX1 hown hK.1 hP 0 rfl rfl 1 (by decide) (hT _ kf_X1_28) (fun _ h9 => h9) rfl dX1_connect_1 ?_
  refine lv_istore (lv' := [(5, .int g_edges), (0, .ref (a_g 0)), (1, .int p1), (2, .int p2), (3, .int p3), (4, .int p4)]) hx hb dX1_connect_4 hl (by decide) rfl (fun ls hl => ?_)
  refine lv_aload_n hx hb dX1_connect_6 rfl (lv_at hl 1 rfl) ?_
  refine va_get (D := D) (ci := 1) (C := RX1) (T := TX1) (N := 7) hx hb hT kwX1 hown hK.1 hP 0 rfl rfl 3 (by decide) (hT _ kf_X1_15) (fun _ h9 => h9) rfl dX1_connect_7 ?_
  refine lv_iload hx hb dX1_connect_10 (lv_at hl 0 rfl) ?_
  refine lv_iload_n hx hb dX1_connect_12 rfl (lv_at hl 2 rfl) ?_
  refine lv_iload_n hx hb dX1_connect_13 rfl (lv_at hl 3 rfl) ?_
  refine va_mmin hx hb (hml.trans hl.1.symm) hown (hT _ km_X1_50) (hT _ kt_J9_min_7cf53) (hT _ kin_J9) (hT _ kc_J9_min_7cf53) (by decide) (Nat.le_of_ble_eq_true rfl) (Nat.zero_le _) (Nat.zero_le _) dX1_connect_14 ?_
  obtain ⟨h_1, hf⟩ := chk_s hf
  refine va_iast hx hb hK.1 hP hD hS 1 0 rfl rfl (inb_in h_1) dX1_connect_17 (fun H locs hP hD hS => ?_)
  have hP : va_P D vwCl (wX1 cA a_g g_nodes g_edges g_outer (upd g_low g_edges.toNatClampNeg (if p2 < p1 then p2 else p1)) g_high g_degree g_turns) H := hP
  have hD : va_D A (wX1 cA a_g g_nodes g_edges g_outer (upd g_low g_edges.toNatClampNeg (if p2 < p1 then p2 else p1)) g_high g_degree g_turns) := hD
  refine lv_aload_n hx hb dX1_connect_18 rfl (lv_at hl 1 rfl) ?_
  refine va_get (D := D) (ci := 1) (C := RX1) (T := TX1) (N := 7) hx hb hT kwX1 hown hK.1 hP 0 rfl rfl 4 (by decide) (hT _ kf_X1_19) (fun _ h9 => h9) rfl dX1_connect_19 ?_
  refine lv_iload hx hb dX1_connect_22 (lv_at hl 0 rfl) ?_
  refine lv_iload_n hx hb dX1_connect_24 rfl (lv_at hl 2 rfl) ?_
  refine lv_iload_n hx hb dX1_connect_25 rfl (lv_at hl 3 rfl) ?_
  refine va_mmax hx hb (hml.trans hl.1.symm) hown (hT _ km_X1_56) (hT _ kt_J9_max_7cf53) (hT _ kin_J9) (hT _ kc_J9_max_7cf53) (by decide) (Nat.le_of_ble_eq_true rfl) (Nat.zero_le _) (Nat.zero_le _) dX1_connect_26 ?_
  obtain ⟨h_2, hf⟩ := chk_s hf
  refine va_iast hx hb hK.1 hP hD hS 2 0 rfl rfl (inb_in h_2) dX1_connect_29 (fun H locs hP hD hS => ?_)
  have hP : va_P D vwCl (wX1 cA a_g g_nodes g_edges g_outer (upd g_low g_edges.toNatClampNeg (if p2 < p1 then p2 else p1)) (upd g_high g_edges.toNatClampNeg (if p1 < p2 then p2 else p1)) g_degree g_turns) H := hP
  have hD : va_D A (wX1 cA a_g g_nodes g_edges g_outer (upd g_low g_edges.toNatClampNeg (if p2 < p1 then p2 else p1)) (upd g_high g_edges.toNatClampNeg (if p1 < p2 then p2 else p1)) g_degree g_turns) := hD
  refine lv_aload_n hx hb dX1_connect_30 rfl (lv_at hl 1 rfl) ?_
  refine lv_dup hx hb dX1_connect_31 rfl ?_
  refine va_get (D := D) (ci := 1) (C := RX1) (T := TX1) (N := 7) hx hb hT kwX1 hown hK.1 hP 0 rfl rfl 1 (by decide) (hT _ kf_X1_28) (fun _ h9 => h9) rfl dX1_connect_32 ?_
  refine lv_iconst (v := 1) hx hb dX1_connect_35 (by decide) ?_
  refine lv_iadd hx hb dX1_connect_36 ?_
  refine va_put (D := D) (ci := 1) (v := .int (g_edges + 1)) (ty := .int) (C := RX1) (T := TX1) (N := 7) hx hb hT kwX1 tyX1 tyX1_ok nmX1 hown hK.1 hP hD hS 0 rfl rfl 1 (by decide) (hT _ kf_X1_28) (fun _ h9 => h9) rfl (by decide +kernel) rfl rfl (Nat.le_of_ble_eq_true rfl) dX1_connect_37 (fun H locs hP hD hS => ?_)
  have hP : va_P D vwCl (wX1 cA a_g g_nodes (g_edges + 1) g_outer (upd g_low g_edges.toNatClampNeg (if p2 < p1 then p2 else p1)) (upd g_high g_edges.toNatClampNeg (if p1 < p2 then p2 else p1)) g_degree g_turns) H := hP
  have hD : va_D A (wX1 cA a_g g_nodes (g_edges + 1) g_outer (upd g_low g_edges.toNatClampNeg (if p2 < p1 then p2 else p1)) (upd g_high g_edges.toNatClampNeg (if p1 < p2 then p2 else p1)) g_degree g_turns) := hD
  refine lv_aload_n hx hb dX1_connect_40 rfl (lv_at hl 1 rfl) ?_
  refine lv_iload_n hx hb dX1_connect_41 rfl (lv_at hl 2 rfl) ?_
  refine lv_iload_n hx hb dX1_connect_42 rfl (lv_at hl 4 rfl) ?_
  refine lv_iload hx hb dX1_connect_43 (lv_at hl 0 rfl) ?_
  obtain ⟨r_3, hcr_3, hf⟩ := bd1_s hf
  refine backWv (w2 := (wX1 cA a_g g_nodes (g_edges + 1) g_outer (upd g_low g_edges.toNatClampNeg (if p2 < p1 then p2 else p1)) (upd g_high g_edges.toNatClampNeg (if p1 < p2 then p2 else p1)) r_3.1 r_3.2)) (runVw C (c_X1_openSlot l D cA a_g g_nodes (g_edges + 1) g_outer (upd g_low g_edges.toNatClampNeg (if p2 < p1 then p2 else p1)) (upd g_high g_edges.toNatClampNeg (if p1 < p2 then p2 else p1)) g_degree g_turns p1 p3 g_edges _ N r_3 hcr_3) cf_X1_openSlot km_X1_62 ⟨rfl, rfl, by decide, by decide⟩ ⟨Nat.zero_le _, Nat.zero_le _⟩ (va_recv hK.1 hP (ci := 1) (q0 := 0) rfl rfl) (hP.sub [0, 1, 2, 3, 4] rfl) (hD.sub [0, 1, 2, 3, 4] rfl rfl) hK hl.1 rfl rfl (Nat.le_of_ble_eq_true rfl) dX1_connect_45) hP hD hS hA [0, 1, 2, 3, 4] rfl [] rfl rfl (by decide) [0, 1, 2, 3, 4] rfl rfl (fun H locs hP hD hS => ?_)
  refine lv_aload_n hx hb dX1_connect_48 rfl (lv_at hl 1 rfl) ?_
  refine lv_iload_n hx hb dX1_connect_49 rfl (lv_at hl 3 rfl) ?_
  refine lv_iload hx hb dX1_connect_50 (lv_at hl 5 rfl) ?_
  refine lv_iload hx hb dX1_connect_52 (lv_at hl 0 rfl) ?_
  obtain ⟨r_4, hcr_4, hf⟩ := bd1_s hf
  refine backWv (w2 := (wX1 cA a_g g_nodes (g_edges + 1) g_outer (upd g_low g_edges.toNatClampNeg (if p2 < p1 then p2 else p1)) (upd g_high g_edges.toNatClampNeg (if p1 < p2 then p2 else p1)) r_4.1 r_4.2)) (runVw C (c_X1_openSlot l D cA a_g g_nodes (g_edges + 1) g_outer (upd g_low g_edges.toNatClampNeg (if p2 < p1 then p2 else p1)) (upd g_high g_edges.toNatClampNeg (if p1 < p2 then p2 else p1)) r_3.1 r_3.2 p2 p4 g_edges _ N r_4 hcr_4) cf_X1_openSlot km_X1_62 ⟨rfl, rfl, by decide, by decide⟩ ⟨Nat.zero_le _, Nat.zero_le _⟩ (va_recv hK.1 hP (ci := 1) (q0 := 0) rfl rfl) (hP.sub [0, 1, 2, 3, 4] rfl) (hD.sub [0, 1, 2, 3, 4] rfl rfl) hK hl.1 rfl rfl (Nat.le_of_ble_eq_true rfl) dX1_connect_54) hP hD hS hA [0, 1, 2, 3, 4] rfl [] rfl rfl (by decide) [0, 1, 2, 3, 4] rfl rfl (fun H locs hP hD hS => ?_)
  refine lv_iload hx hb dX1_connect_57 (lv_at hl 0 rfl) ?_
  have eR := some_i hf
  exact W.iret hx hb hr (fun t ht hW => ⟨⟨g_edges, (), rfl, fst_e eR, by rw [← eR, ht]; exact hP, by rw [← eR]; exact hD⟩, hS.F ht⟩) hS.2.2 dX1_connect_59 (hlocks := hlk)
set_option maxRecDepth 100000 in
set_option maxHeartbeats 4000000 in
theorem c_X1_copyFrom (l : Launch) (D : va_G) (cA : Nat → ClassId) (a_g : Nat → Nat) (a_h : Nat → Nat) (g_nodes : Int32) (g_edges : Int32) (g_outer : Int32) (g_low : Nat → Int32) (g_high : Nat → Int32) (g_degree : Nat → Int32) (g_turns : Nat → Int32) (h_nodes : Int32) (h_edges : Int32) (h_outer : Int32) (h_low : Nat → Int32) (h_high : Nat → Int32) (h_degree : Nat → Int32) (h_turns : Nat → Int32) (sz N : Nat) (ρ : Int32 × Int32 × Int32 × (Nat → Int32) × (Nat → Int32) × (Nat → Int32) × (Nat → Int32)) (hf : f_X1_copyFrom N g_nodes g_edges g_outer g_low g_high g_degree g_turns h_nodes h_edges h_outer h_low h_high h_degree h_turns = some ρ) : Met l yX1_copyFrom (Cond.code yX1_copyFrom cX1_copyFrom 2 (Option.none : Option Jvm.ClassFile.FieldType) :: lw_g) ({ frames := 1, cells := 0, slots := 0, locals := 60 } : Room) (PcW D (tyA cA) (wX1 cA a_g g_nodes g_edges g_outer g_low g_high g_degree g_turns ++ (wX1 cA a_h h_nodes h_edges h_outer h_low h_high h_degree h_turns)) sz [.ref (a_g 0), .ref (a_h 0)]) (va_Qv (fun (_ : Unit) => True) (fun _ t => va_P D vwCl (wX1 cA a_g ρ.1 ρ.2.1 ρ.2.2.1 ρ.2.2.2.1 ρ.2.2.2.2.1 ρ.2.2.2.2.2.1 ρ.2.2.2.2.2.2 ++ (wX1 cA a_h h_nodes h_edges h_outer h_low h_high h_degree h_turns)) t.heap ∧ va_D (va_A (wX1 cA a_g g_nodes g_edges g_outer g_low g_high g_degree g_turns ++ (wX1 cA a_h h_nodes h_edges h_outer h_low h_high h_degree h_turns)) sz) (wX1 cA a_g ρ.1 ρ.2.1 ρ.2.2.1 ρ.2.2.2.1 ρ.2.2.2.2.1 ρ.2.2.2.2.2.1 ρ.2.2.2.2.2.2 ++ (wX1 cA a_h h_nodes h_edges h_outer h_low h_high h_degree h_turns))) (va_A (wX1 cA a_g g_nodes g_edges g_outer g_low g_high g_degree g_turns ++ (wX1 cA a_h h_nodes h_edges h_outer h_low h_high h_degree h_turns)) sz)) 0 0 (va_A (wX1 cA a_g g_nodes g_edges g_outer g_low g_high g_degree g_turns ++ (wX1 cA a_h h_nodes h_edges h_outer h_low h_high h_degree h_turns)) sz) := by
  refine mkW (QQ := fun A => va_Qv (fun (_ : Unit) => True) (fun _ t => va_P D vwCl (wX1 cA a_g ρ.1 ρ.2.1 ρ.2.2.1 ρ.2.2.2.1 ρ.2.2.2.2.1 ρ.2.2.2.2.2.1 ρ.2.2.2.2.2.2 ++ (wX1 cA a_h h_nodes h_edges h_outer h_low h_high h_degree h_turns)) t.heap ∧ va_D A (wX1 cA a_g ρ.1 ρ.2.1 ρ.2.2.1 ρ.2.2.2.1 ρ.2.2.2.2.1 ρ.2.2.2.2.2.1 ρ.2.2.2.2.2.2 ++ (wX1 cA a_h h_nodes h_edges h_outer h_low h_high h_degree h_turns))) A) (by decide) (Nat.le_of_ble_eq_true rfl) fun p e s m below meth c ls A C hl hP hK hD hA hS => ?_
  obtain ⟨hx, hb, hml, hown, hT, hr, hlk⟩ := id C
  have hl : lv_has ls 2 [(0, .ref (a_g 0)), (1, .ref (a_h 0))] := hl
  refine lv_aload_n hx hb dX1_copyFrom_0 rfl (lv_at hl 0 rfl) ?_
  refine lv_aload_n hx hb dX1_copyFrom_1 rfl (lv_at hl 1 rfl) ?_
  refine va_get (D := D) (ci := 1) (C := RX1) (T := TX1) (N := 7) hx hb hT kwX1 hown hK.1 hP 5 rfl rfl 0 (by decide) (hT _ kf_X1_9) (fun _ h9 => h9) rfl dX1_copyFrom_2 ?_
  refine va_put (D := D) (ci := 1) (v := .int h_nodes) (ty := .int) (C := RX1) (T := TX1) (N := 7) hx hb hT kwX1 tyX1 tyX1_ok nmX1 hown hK.1 hP hD hS 0 rfl rfl 0 (by decide) (hT _ kf_X1_9) (fun _ h9 => h9) rfl (by decide +kernel) rfl rfl (Nat.le_of_ble_eq_true rfl) dX1_copyFrom_5 (fun H locs hP hD hS => ?_)
  have hP : va_P D vwCl (wX1 cA a_g h_nodes g_edges g_outer g_low g_high g_degree g_turns ++ (wX1 cA a_h h_nodes h_edges h_outer h_low h_high h_degree h_turns)) H := hP
  have hD : va_D A (wX1 cA a_g h_nodes g_edges g_outer g_low g_high g_degree g_turns ++ (wX1 cA a_h h_nodes h_edges h_outer h_low h_high h_degree h_turns)) := hD
  refine lv_aload_n hx hb dX1_copyFrom_8 rfl (lv_at hl 0 rfl) ?_
  refine lv_aload_n hx hb dX1_copyFrom_9 rfl (lv_at hl 1 rfl) ?_
  refine va_get (D := D) (ci := 1) (C := RX1) (T := TX1) (N := 7) hx hb hT kwX1 hown hK.1 hP 5 rfl rfl 1 (by decide) (hT _ kf_X1_28) (fun _ h9 => h9) rfl dX1_copyFrom_10 ?_
  refine va_put (D := D) (ci := 1) (v := .int h_edges) (ty := .int) (C := RX1) (T := TX1) (N := 7) hx hb hT kwX1 tyX1 tyX1_ok nmX1 hown hK.1 hP hD hS 0 rfl rfl 1 (by decide) (hT _ kf_X1_28) (fun _ h9 => h9) rfl (by decide +kernel) rfl rfl (Nat.le_of_ble_eq_true rfl) dX1_copyFrom_13 (fun H locs hP hD hS => ?_)
  have hP : va_P D vwCl (wX1 cA a_g h_nodes h_edges g_outer g_low g_high g_degree g_turns ++ (wX1 cA a_h h_nodes h_edges h_outer h_low h_high h_degree h_turns)) H := hP
  have hD : va_D A (wX1 cA a_g h_nodes h_edges g_outer g_low g_high g_degree g_turns ++ (wX1 cA a_h h_nodes h_edges h_outer h_low h_high h_degree h_turns)) := hD
  refine lv_aload_n hx hb dX1_copyFrom_16 rfl (lv_at hl 0 rfl) ?_
  refine lv_aload_n hx hb dX1_copyFrom_17 rfl (lv_at hl 1 rfl) ?_
  refine va_get (D := D) (ci := 1) (C := RX1) (T := TX1) (N := 7) hx hb hT kwX1 hown hK.1 hP 5 rfl rfl 2 (by decide) (hT _ kf_X1_37) (fun _ h9 => h9) rfl dX1_copyFrom_18 ?_
  refine va_put (D := D) (ci := 1) (v := .int h_outer) (ty := .int) (C := RX1) (T := TX1) (N := 7) hx hb hT kwX1 tyX1 tyX1_ok nmX1 hown hK.1 hP hD hS 0 rfl rfl 2 (by decide) (hT _ kf_X1_37) (fun _ h9 => h9) rfl (by decide +kernel) rfl rfl (Nat.le_of_ble_eq_true rfl) dX1_copyFrom_21 (fun H locs hP hD hS => ?_)
  have hP : va_P D vwCl (wX1 cA a_g h_nodes h_edges h_outer g_low g_high g_degree g_turns ++ (wX1 cA a_h h_nodes h_edges h_outer h_low h_high h_degree h_turns)) H := hP
  have hD : va_D A (wX1 cA a_g h_nodes h_edges h_outer g_low g_high g_degree g_turns ++ (wX1 cA a_h h_nodes h_edges h_outer h_low h_high h_degree h_turns)) := hD
  refine lv_aload_n hx hb dX1_copyFrom_24 rfl (lv_at hl 1 rfl) ?_
  refine va_get (D := D) (ci := 1) (C := RX1) (T := TX1) (N := 7) hx hb hT kwX1 hown hK.1 hP 5 rfl rfl 3 (by decide) (hT _ kf_X1_15) (fun _ h9 => h9) rfl dX1_copyFrom_25 ?_
  refine lv_iconst (v := 0) hx hb dX1_copyFrom_28 (by decide) ?_
  refine lv_aload_n hx hb dX1_copyFrom_29 rfl (lv_at hl 0 rfl) ?_
  refine va_get (D := D) (ci := 1) (C := RX1) (T := TX1) (N := 7) hx hb hT kwX1 hown hK.1 hP 0 rfl rfl 3 (by decide) (hT _ kf_X1_15) (fun _ h9 => h9) rfl dX1_copyFrom_30 ?_
  refine lv_iconst (v := 0) hx hb dX1_copyFrom_33 (by decide) ?_
  refine lv_bipush (v := 20) hx hb dX1_copyFrom_34 (by decide) ?_
  obtain ⟨h_1, hf⟩ := chk_s hf
  obtain ⟨h_1a, h_1b, h_1c, h_1d, h_1e⟩ := cpok_n h_1
  refine va_copyi hx hb (hml.trans hl.1.symm) hown (hT _ km_X1_40) (hT _ kv_System_arraycopy) (hT _ kt_System_arraycopy) (hT _ kin_J10) hK.1 hP hD hS 6 1 0 0 rfl rfl rfl rfl rfl h_1a h_1b h_1c h_1d h_1e (fun _ _ => rfl) (by decide) (Nat.le_of_ble_eq_true rfl) dX1_copyFrom_36 (fun H locs hP hD hS => ?_)
  have hP : va_P D vwCl (wX1 cA a_g h_nodes h_edges h_outer (va_cpy h_low g_low (0 : Int32).toNatClampNeg (0 : Int32).toNatClampNeg (20 : Int32).toNatClampNeg) g_high g_degree g_turns ++ (wX1 cA a_h h_nodes h_edges h_outer h_low h_high h_degree h_turns)) H := hP
  have hD : va_D A (wX1 cA a_g h_nodes h_edges h_outer (va_cpy h_low g_low (0 : Int32).toNatClampNeg (0 : Int32).toNatClampNeg (20 : Int32).toNatClampNeg) g_high g_degree g_turns ++ (wX1 cA a_h h_nodes h_edges h_outer h_low h_high h_degree h_turns)) := hD
  refine lv_aload_n hx hb dX1_copyFrom_39 rfl (lv_at hl 1 rfl) ?_
  refine va_get (D := D) (ci := 1) (C := RX1) (T := TX1) (N := 7) hx hb hT kwX1 hown hK.1 hP 5 rfl rfl 4 (by decide) (hT _ kf_X1_19) (fun _ h9 => h9) rfl dX1_copyFrom_40 ?_
  refine lv_iconst (v := 0) hx hb dX1_copyFrom_43 (by decide) ?_
  refine lv_aload_n hx hb dX1_copyFrom_44 rfl (lv_at hl 0 rfl) ?_
  refine va_get (D := D) (ci := 1) (C := RX1) (T := TX1) (N := 7) hx hb hT kwX1 hown hK.1 hP 0 rfl rfl 4 (by decide) (hT _ kf_X1_19) (fun _ h9 => h9) rfl dX1_copyFrom_45 ?_
  refine lv_iconst (v := 0) hx hb dX1_copyFrom_48 (by decide) ?_
  refine lv_bipush (v := 20) hx hb dX1_copyFrom_49 (by decide) ?_
  obtain ⟨h_2, hf⟩ := chk_s hf
  obtain ⟨h_2a, h_2b, h_2c, h_2d, h_2e⟩ := cpok_n h_2
  refine va_copyi hx hb (hml.trans hl.1.symm) hown (hT _ km_X1_40) (hT _ kv_System_arraycopy) (hT _ kt_System_arraycopy) (hT _ kin_J10) hK.1 hP hD hS 7 2 0 0 rfl rfl rfl rfl rfl h_2a h_2b h_2c h_2d h_2e (fun _ _ => rfl) (by decide) (Nat.le_of_ble_eq_true rfl) dX1_copyFrom_51 (fun H locs hP hD hS => ?_)
  have hP : va_P D vwCl (wX1 cA a_g h_nodes h_edges h_outer (va_cpy h_low g_low (0 : Int32).toNatClampNeg (0 : Int32).toNatClampNeg (20 : Int32).toNatClampNeg) (va_cpy h_high g_high (0 : Int32).toNatClampNeg (0 : Int32).toNatClampNeg (20 : Int32).toNatClampNeg) g_degree g_turns ++ (wX1 cA a_h h_nodes h_edges h_outer h_low h_high h_degree h_turns)) H := hP
  have hD : va_D A (wX1 cA a_g h_nodes h_edges h_outer (va_cpy h_low g_low (0 : Int32).toNatClampNeg (0 : Int32).toNatClampNeg (20 : Int32).toNatClampNeg) (va_cpy h_high g_high (0 : Int32).toNatClampNeg (0 : Int32).toNatClampNeg (20 : Int32).toNatClampNeg) g_degree g_turns ++ (wX1 cA a_h h_nodes h_edges h_outer h_low h_high h_degree h_turns)) := hD
  refine lv_aload_n hx hb dX1_copyFrom_54 rfl (lv_at hl 1 rfl) ?_
  refine va_get (D := D) (ci := 1) (C := RX1) (T := TX1) (N := 7) hx hb hT kwX1 hown hK.1 hP 5 rfl rfl 5 (by decide) (hT _ kf_X1_22) (fun _ h9 => h9) rfl dX1_copyFrom_55 ?_
  refine lv_iconst (v := 0) hx hb dX1_copyFrom_58 (by decide) ?_
  refine lv_aload_n hx hb dX1_copyFrom_59 rfl (lv_at hl 0 rfl) ?_
  refine va_get (D := D) (ci := 1) (C := RX1) (T := TX1) (N := 7) hx hb hT kwX1 hown hK.1 hP 0 rfl rfl 5 (by decide) (hT _ kf_X1_22) (fun _ h9 => h9) rfl dX1_copyFrom_60 ?_
  refine lv_iconst (v := 0) hx hb dX1_copyFrom_63 (by decide) ?_
  refine lv_bipush (v := 9) hx hb dX1_copyFrom_64 (by decide) ?_
  obtain ⟨h_3, hf⟩ := chk_s hf
  obtain ⟨h_3a, h_3b, h_3c, h_3d, h_3e⟩ := cpok_n h_3
  refine va_copyi hx hb (hml.trans hl.1.symm) hown (hT _ km_X1_40) (hT _ kv_System_arraycopy) (hT _ kt_System_arraycopy) (hT _ kin_J10) hK.1 hP hD hS 8 3 0 0 rfl rfl rfl rfl rfl h_3a h_3b h_3c h_3d h_3e (fun _ _ => rfl) (by decide) (Nat.le_of_ble_eq_true rfl) dX1_copyFrom_66 (fun H locs hP hD hS => ?_)
  have hP : va_P D vwCl (wX1 cA a_g h_nodes h_edges h_outer (va_cpy h_low g_low (0 : Int32).toNatClampNeg (0 : Int32).toNatClampNeg (20 : Int32).toNatClampNeg) (va_cpy h_high g_high (0 : Int32).toNatClampNeg (0 : Int32).toNatClampNeg (20 : Int32).toNatClampNeg) (va_cpy h_degree g_degree (0 : Int32).toNatClampNeg (0 : Int32).toNatClampNeg (9 : Int32).toNatClampNeg) g_turns ++ (wX1 cA a_h h_nodes h_edges h_outer h_low h_high h_degree h_turns)) H := hP
  have hD : va_D A (wX1 cA a_g h_nodes h_edges h_outer (va_cpy h_low g_low (0 : Int32).toNatClampNeg (0 : Int32).toNatClampNeg (20 : Int32).toNatClampNeg) (va_cpy h_high g_high (0 : Int32).toNatClampNeg (0 : Int32).toNatClampNeg (20 : Int32).toNatClampNeg) (va_cpy h_degree g_degree (0 : Int32).toNatClampNeg (0 : Int32).toNatClampNeg (9 : Int32).toNatClampNeg) g_turns ++ (wX1 cA a_h h_nodes h_edges h_outer h_low h_high h_degree h_turns)) := hD
  refine lv_aload_n hx hb dX1_copyFrom_69 rfl (lv_at hl 1 rfl) ?_
  refine va_get (D := D) (ci := 1) (C := RX1) (T := TX1) (N := 7) hx hb hT kwX1 hown hK.1 hP 5 rfl rfl 6 (by decide) (hT _ kf_X1_25) (fun _ h9 => h9) rfl dX1_copyFrom_70 ?_
  refine lv_iconst (v := 0) hx hb dX1_copyFrom_73 (by decide) ?_
  refine lv_aload_n hx hb dX1_copyFrom_74 rfl (lv_at hl 0 rfl) ?_
  refine va_get (D := D) (ci := 1) (C := RX1) (T := TX1) (N := 7) hx hb hT kwX1 hown hK.1 hP 0 rfl rfl 6 (by decide) (hT _ kf_X1_25) (fun _ h9 => h9) rfl dX1_copyFrom_75 ?_
  refine lv_iconst (v := 0) hx hb dX1_copyFrom_78 (by decide) ?_
  refine lv_bipush (v := 72) hx hb dX1_copyFrom_79 (by decide) ?_
  obtain ⟨h_4, hf⟩ := chk_s hf
  obtain ⟨h_4a, h_4b, h_4c, h_4d, h_4e⟩ := cpok_n h_4
  refine va_copyi hx hb (hml.trans hl.1.symm) hown (hT _ km_X1_40) (hT _ kv_System_arraycopy) (hT _ kt_System_arraycopy) (hT _ kin_J10) hK.1 hP hD hS 9 4 0 0 rfl rfl rfl rfl rfl h_4a h_4b h_4c h_4d h_4e (fun _ _ => rfl) (by decide) (Nat.le_of_ble_eq_true rfl) dX1_copyFrom_81 (fun H locs hP hD hS => ?_)
  have hP : va_P D vwCl (wX1 cA a_g h_nodes h_edges h_outer (va_cpy h_low g_low (0 : Int32).toNatClampNeg (0 : Int32).toNatClampNeg (20 : Int32).toNatClampNeg) (va_cpy h_high g_high (0 : Int32).toNatClampNeg (0 : Int32).toNatClampNeg (20 : Int32).toNatClampNeg) (va_cpy h_degree g_degree (0 : Int32).toNatClampNeg (0 : Int32).toNatClampNeg (9 : Int32).toNatClampNeg) (va_cpy h_turns g_turns (0 : Int32).toNatClampNeg (0 : Int32).toNatClampNeg (72 : Int32).toNatClampNeg) ++ (wX1 cA a_h h_nodes h_edges h_outer h_low h_high h_degree h_turns)) H := hP
  have hD : va_D A (wX1 cA a_g h_nodes h_edges h_outer (va_cpy h_low g_low (0 : Int32).toNatClampNeg (0 : Int32).toNatClampNeg (20 : Int32).toNatClampNeg) (va_cpy h_high g_high (0 : Int32).toNatClampNeg (0 : Int32).toNatClampNeg (20 : Int32).toNatClampNeg) (va_cpy h_degree g_degree (0 : Int32).toNatClampNeg (0 : Int32).toNatClampNeg (9 : Int32).toNatClampNeg) (va_cpy h_turns g_turns (0 : Int32).toNatClampNeg (0 : Int32).toNatClampNeg (72 : Int32).toNatClampNeg) ++ (wX1 cA a_h h_nodes h_edges h_outer h_low h_high h_degree h_turns)) := hD
  have eR := some_i hf
  exact W.vret hx hb hr (fun t ht hW => ⟨⟨(), rfl, trivial, by rw [← eR, ht]; exact hP, by rw [← eR]; exact hD⟩, hS.F ht⟩) hS.2.2 dX1_copyFrom_84 (hlocks := hlk)
set_option maxRecDepth 100000 in
set_option maxHeartbeats 4000000 in
theorem c_X1_edgeAt (l : Launch) (D : va_G) (cA : Nat → ClassId) (a_g : Nat → Nat) (g_nodes : Int32) (g_edges : Int32) (g_outer : Int32) (g_low : Nat → Int32) (g_high : Nat → Int32) (g_degree : Nat → Int32) (g_turns : Nat → Int32) (p1 : Int32) (p2 : Int32) (N : Nat) (ρ : Int32) (hf : f_X1_edgeAt N g_turns p1 p2 = some ρ) : Met l yX1_edgeAt (Cond.code yX1_edgeAt cX1_edgeAt 3 (Option.some Jvm.ClassFile.FieldType.int) :: lw_g) ({ frames := 0, cells := 0, slots := 0, locals := 0 } : Room) (PcS D (tyA cA) (wX1 cA a_g g_nodes g_edges g_outer g_low g_high g_degree g_turns) [.ref (a_g 0), .int p1, .int p2]) (vp_Si (fun r => r = ρ)) 0 0 (fun _ => False) := by
  refine mkS (by decide +kernel) (Nat.le_of_ble_eq_true rfl) fun p e s m below meth c ls C hl hP hK => ?_
  obtain ⟨hx, hb, hml, hown, hT, hr, hlk⟩ := id C
  have hl : lv_has ls 3 [(0, .ref (a_g 0)), (1, .int p1), (2, .int p2)] := hl
  refine lv_aload_n hx hb dX1_edgeAt_0 rfl (lv_at hl 0 rfl) ?_
  refine va_get (D := D) (ci := 1) (C := RX1) (T := TX1) (N := 7) hx hb hT kwX1 hown hK.1 hP 0 rfl rfl 6 (by decide) (hT _ kf_X1_25) (fun _ h9 => h9) rfl dX1_edgeAt_1 ?_
  refine lv_iload_n hx hb dX1_edgeAt_4 rfl (lv_at hl 1 rfl) ?_
  refine lv_bipush (v := 8) hx hb dX1_edgeAt_5 (by decide) ?_
  refine lv_imul hx hb dX1_edgeAt_7 ?_
  refine lv_iload_n hx hb dX1_edgeAt_8 rfl (lv_at hl 2 rfl) ?_
  refine lv_iadd hx hb dX1_edgeAt_9 ?_
  obtain ⟨h_1, hf⟩ := chk_s hf
  refine va_iald hx hb hK.1 hP 4 0 rfl rfl (inb_in h_1) dX1_edgeAt_10 ?_
  exact W.iret hx hb hr (fun t ht hW => ⟨_, rfl, some_i hf, ht⟩) (fun _ h => by cases h) dX1_edgeAt_11 (hlocks := hlk)
set_option maxRecDepth 100000 in
set_option maxHeartbeats 4000000 in
theorem c_X1_slotOf (l : Launch) (D : va_G) (cA : Nat → ClassId) (a_g : Nat → Nat) (g_nodes : Int32) (g_edges : Int32) (g_outer : Int32) (g_low : Nat → Int32) (g_high : Nat → Int32) (g_degree : Nat → Int32) (g_turns : Nat → Int32) (p1 : Int32) (p2 : Int32) (N : Nat) (ρ : Int32) (hf : f_X1_slotOf N g_degree g_turns p1 p2 = some ρ) : Met l yX1_slotOf (Cond.code yX1_slotOf cX1_slotOf 4 (Option.some Jvm.ClassFile.FieldType.int) :: lw_g) ({ frames := 1, cells := 0, slots := 0, locals := 22 } : Room) (PcS D (tyA cA) (wX1 cA a_g g_nodes g_edges g_outer g_low g_high g_degree g_turns) [.ref (a_g 0), .int p1, .int p2]) (vp_Si (fun r => r = ρ)) 0 0 (fun _ => False) := by
  refine mkS (by decide +kernel) (Nat.le_of_ble_eq_true rfl) fun p e s m below meth c ls C hl hP hK => ?_
  obtain ⟨hx, hb, hml, hown, hT, hr, hlk⟩ := id C
  have hl : lv_has ls 4 [(0, .ref (a_g 0)), (1, .int p1), (2, .int p2)] := hl
  have B2 : ∀ (n2 : Nat), ∀ (x1 : Int32) (x2 : Int32) (x3 : Int32) (ls : Array Slot), lv_has ls 4 [(0, .ref (a_g 0)), (1, .int x1), (2, .int x2), (3, .int x3)] → f_X1_slotOf_b2 N g_degree g_turns n2 x1 x2 x3 = some ρ → W p l e ({ frames := 1, cells := 0, slots := 0, locals := 22 } : Room) s m ([.ref (a_g 0), .int p1, .int p2] : List Value).toArray below meth c s.heap [] 0 0 (MQ below (vp_Si (fun r => r = ρ)) ([.ref (a_g 0), .int p1, .int p2] : List Value).toArray s 0 0 (fun _ => False)) (F0 m 2 ls []) := by
    intro n2
    induction n2 with
    | zero =>
      intro x1 x2 x3 ls hl hf
      cases (show (none : Option (Int32)) = some ρ from hf)
    | succ n2 ih2 =>
      intro x1 x2 x3 ls hl hf
      refine lv_iload_n hx hb dX1_slotOf_2 rfl (lv_at hl 3 rfl) ?_
      refine lv_aload_n hx hb dX1_slotOf_3 rfl (lv_at hl 0 rfl) ?_
      refine va_get (D := D) (ci := 1) (C := RX1) (T := TX1) (N := 7) hx hb hT kwX1 hown hK.1 hP 0 rfl rfl 5 (by decide) (hT _ kf_X1_22) (fun _ h9 => h9) rfl dX1_slotOf_4 ?_
      refine lv_iload_n hx hb dX1_slotOf_7 rfl (lv_at hl 1 rfl) ?_
      obtain ⟨h_1, hf⟩ := chk_s hf
      refine va_iald hx hb hK.1 hP 3 0 rfl rfl (inb_in h_1) dX1_slotOf_8 ?_
      refine lv_icmp_ge (tgt := 30) hx hb dX1_slotOf_9 (by decide) (fun c_2 => ?_) (fun c_2 => ?_)
      · have hf := ite_t c_2 hf
        refine lv_iconst (v := (-1)) hx hb dX1_slotOf_30 (by decide) ?_
        exact W.iret hx hb hr (fun t ht hW => ⟨_, rfl, some_i hf, ht⟩) (fun _ h => by cases h) dX1_slotOf_31 (hlocks := hlk)
      · have hf := ite_f c_2 hf
        refine lv_aload_n hx hb dX1_slotOf_12 rfl (lv_at hl 0 rfl) ?_
        refine lv_iload_n hx hb dX1_slotOf_13 rfl (lv_at hl 1 rfl) ?_
        refine lv_iload_n hx hb dX1_slotOf_14 rfl (lv_at hl 3 rfl) ?_
        obtain ⟨r_3, hcr_3, hf⟩ := bd1_s hf
        refine backI (runV0 C (c_X1_edgeAt l D cA a_g g_nodes g_edges g_outer g_low g_high g_degree g_turns x1 x3 N r_3 hcr_3) cf_X1_edgeAt km_X1_59 ⟨rfl, rfl, by decide, by decide⟩ ⟨Nat.zero_le _, Nat.zero_le _⟩ (va_recv hK.1 hP (ci := 1) (q0 := 0) rfl rfl) (hP.sub [0, 1, 2, 3, 4] rfl) hK hl.1 rfl rfl (Nat.le_of_ble_eq_true rfl) dX1_slotOf_15) ?_
        refine lv_iload_n hx hb dX1_slotOf_18 rfl (lv_at hl 2 rfl) ?_
        refine lv_icmp_ne (tgt := 24) hx hb dX1_slotOf_19 (by decide) (fun c_4 => ?_) (fun c_4 => ?_)
        · have hf := ite_t c_4 hf
          refine lv_iinc (v := (x3 + 1)) (lv' := [(3, .int (x3 + 1)), (0, .ref (a_g 0)), (1, .int x1), (2, .int x2)]) hx hb dX1_slotOf_24 hl (k := 3) rfl rfl (by decide) rfl (fun ls hl => ?_)
          refine lv_goto (tgt := 2) hx hb dX1_slotOf_27 (by decide) ?_
          exact ih2 x1 x2 (x3 + 1) _ (lv_sub hl [1, 2, 3, 0] rfl) hf
        · have hf := ite_fn c_4 hf
          refine lv_iload_n hx hb dX1_slotOf_22 rfl (lv_at hl 3 rfl) ?_
          exact W.iret hx hb hr (fun t ht hW => ⟨_, rfl, some_i hf, ht⟩) (fun _ h => by cases h) dX1_slotOf_23 (hlocks := hlk)
  refine lv_iconst (v := 0) hx hb dX1_slotOf_0 (by decide) ?_
  refine lv_istore_n (lv' := [(3, .int 0), (0, .ref (a_g 0)), (1, .int p1), (2, .int p2)]) hx hb dX1_slotOf_1 rfl hl (by decide) rfl (fun ls hl => ?_)
  exact B2 N p1 p2 0 _ (lv_sub hl [1, 2, 3, 0] rfl) hf
set_option maxRecDepth 100000 in
set_option maxHeartbeats 4000000 in
theorem c_X1_exchange (l : Launch) (D : va_G) (cA : Nat → ClassId) (a_g : Nat → Nat) (g_nodes : Int32) (g_edges : Int32) (g_outer : Int32) (g_low : Nat → Int32) (g_high : Nat → Int32) (g_degree : Nat → Int32) (g_turns : Nat → Int32) (p1 : Int32) (p2 : Int32) (p3 : Int32) (sz N : Nat) (ρ : (Nat → Int32)) (hf : f_X1_exchange N g_degree g_turns p1 p2 p3 = some ρ) : Met l yX1_exchange (Cond.code yX1_exchange cX1_exchange 6 (Option.none : Option Jvm.ClassFile.FieldType) :: lw_g) ({ frames := 2, cells := 0, slots := 0, locals := 45 } : Room) (PcW D (tyA cA) (wX1 cA a_g g_nodes g_edges g_outer g_low g_high g_degree g_turns) sz [.ref (a_g 0), .int p1, .int p2, .int p3]) (va_Qv (fun (_ : Unit) => True) (fun _ t => va_P D vwCl (wX1 cA a_g g_nodes g_edges g_outer g_low g_high g_degree ρ) t.heap ∧ va_D (va_A (wX1 cA a_g g_nodes g_edges g_outer g_low g_high g_degree g_turns) sz) (wX1 cA a_g g_nodes g_edges g_outer g_low g_high g_degree ρ)) (va_A (wX1 cA a_g g_nodes g_edges g_outer g_low g_high g_degree g_turns) sz)) 0 0 (va_A (wX1 cA a_g g_nodes g_edges g_outer g_low g_high g_degree g_turns) sz) := by
  refine mkW (QQ := fun A => va_Qv (fun (_ : Unit) => True) (fun _ t => va_P D vwCl (wX1 cA a_g g_nodes g_edges g_outer g_low g_high g_degree ρ) t.heap ∧ va_D A (wX1 cA a_g g_nodes g_edges g_outer g_low g_high g_degree ρ)) A) (by decide) (Nat.le_of_ble_eq_true rfl) fun p e s m below meth c ls A C hl hP hK hD hA hS => ?_
  obtain ⟨hx, hb, hml, hown, hT, hr, hlk⟩ := id C
  have hl : lv_has ls 6 [(0, .ref (a_g 0)), (1, .int p1), (2, .int p2), (3, .int p3)] := hl
  refine lv_aload_n hx hb dX1_exchange_0 rfl (lv_at hl 0 rfl) ?_
  refine lv_iload_n hx hb dX1_exchange_1 rfl (lv_at hl 1 rfl) ?_
  refine lv_iload_n hx hb dX1_exchange_2 rfl (lv_at hl 2 rfl) ?_
  obtain ⟨r_1, hcr_1, hf⟩ := bd1_s hf
  refine backI (runV0 C (c_X1_slotOf l D cA a_g g_nodes g_edges g_outer g_low g_high g_degree g_turns p1 p2 N r_1 hcr_1) cf_X1_slotOf km_X1_70 ⟨rfl, rfl, by decide, by decide⟩ ⟨Nat.zero_le _, Nat.zero_le _⟩ (va_recv hK.1 hP (ci := 1) (q0 := 0) rfl rfl) (hP.sub [0, 1, 2, 3, 4] rfl) hK hl.1 rfl rfl (Nat.le_of_ble_eq_true rfl) dX1_exchange_3) ?_
  refine lv_istore (lv' := [(4, .int r_1), (0, .ref (a_g 0)), (1, .int p1), (2, .int p2), (3, .int p3)]) hx hb dX1_exchange_6 hl (by decide) rfl (fun ls hl => ?_)
  refine lv_aload_n hx hb dX1_exchange_8 rfl (lv_at hl 1 rfl) ?_
  refine lv_iload_n hx hb dX1_exchange_9 rfl (lv_at hl 2 rfl) ?_
  refine lv_iload_n hx hb dX1_exchange_10 rfl (lv_at hl 4 rfl) ?_
  obtain ⟨r_2, hcr_2, hf⟩ := bd1_s hf
  refine backI (runV0 C (c_X1_slotOf l D cA a_g g_nodes g_edges g_outer g_low g_high g_degree g_turns p1 p3 N r_2 hcr_2) cf_X1_slotOf km_X1_70 ⟨rfl, rfl, by decide, by decide⟩ ⟨Nat.zero_le _, Nat.zero_le _⟩ (va_recv hK.1 hP (ci := 1) (q0 := 0) rfl rfl) (hP.sub [0, 1, 2, 3, 4] rfl) hK hl.1 rfl rfl (Nat.le_of_ble_eq_true rfl) dX1_exchange_11) ?_
  refine lv_istore (lv' := [(5, .int r_2), (4, .int r_1), (0, .ref (a_g 0)), (1, .int p1), (2, .int p2), (3, .int p3)]) hx hb dX1_exchange_14 hl (by decide) rfl (fun ls hl => ?_)
  refine lv_iload hx hb dX1_exchange_16 (lv_at hl 1 rfl) ?_
  refine lv_if_lt (tgt := 52) hx hb dX1_exchange_18 (by decide) (fun c_3 => ?_) (fun c_3 => ?_)
  · have hf := ite_t c_3 hf
    have eR := some_i hf
    exact W.vret hx hb hr (fun t ht hW => ⟨⟨(), rfl, trivial, by rw [← eR, ht]; exact hP, by rw [← eR]; exact hD⟩, hS.F ht⟩) hS.2.2 dX1_exchange_52 (hlocks := hlk)
  · have hf := ite_f c_3 hf
    refine lv_iload hx hb dX1_exchange_21 (lv_at hl 0 rfl) ?_
    refine lv_if_lt (tgt := 52) hx hb dX1_exchange_23 (by decide) (fun c_4 => ?_) (fun c_4 => ?_)
    · have hf := ite_t c_4 hf
      have eR := some_i hf
      exact W.vret hx hb hr (fun t ht hW => ⟨⟨(), rfl, trivial, by rw [← eR, ht]; exact hP, by rw [← eR]; exact hD⟩, hS.F ht⟩) hS.2.2 dX1_exchange_52 (hlocks := hlk)
    · have hf := ite_f c_4 hf
      refine lv_aload_n hx hb dX1_exchange_26 rfl (lv_at hl 2 rfl) ?_
      refine va_get (D := D) (ci := 1) (C := RX1) (T := TX1) (N := 7) hx hb hT kwX1 hown hK.1 hP 0 rfl rfl 6 (by decide) (hT _ kf_X1_25) (fun _ h9 => h9) rfl dX1_exchange_27 ?_
      refine lv_iload_n hx hb dX1_exchange_30 rfl (lv_at hl 3 rfl) ?_
      refine lv_bipush (v := 8) hx hb dX1_exchange_31 (by decide) ?_
      refine lv_imul hx hb dX1_exchange_33 ?_
      refine lv_iload hx hb dX1_exchange_34 (lv_at hl 1 rfl) ?_
      refine lv_iadd hx hb dX1_exchange_36 ?_
      refine lv_iload_n hx hb dX1_exchange_37 rfl (lv_at hl 5 rfl) ?_
      obtain ⟨h_5, hf⟩ := chk_s hf
      refine va_iast hx hb hK.1 hP hD hS 4 0 rfl rfl (inb_in h_5) dX1_exchange_38 (fun H locs hP hD hS => ?_)
      have hP : va_P D vwCl (wX1 cA a_g g_nodes g_edges g_outer g_low g_high g_degree (upd g_turns ((p1 * 8) + r_1).toNatClampNeg p3)) H := hP
      have hD : va_D A (wX1 cA a_g g_nodes g_edges g_outer g_low g_high g_degree (upd g_turns ((p1 * 8) + r_1).toNatClampNeg p3)) := hD
      refine lv_aload_n hx hb dX1_exchange_39 rfl (lv_at hl 2 rfl) ?_
      refine va_get (D := D) (ci := 1) (C := RX1) (T := TX1) (N := 7) hx hb hT kwX1 hown hK.1 hP 0 rfl rfl 6 (by decide) (hT _ kf_X1_25) (fun _ h9 => h9) rfl dX1_exchange_40 ?_
      refine lv_iload_n hx hb dX1_exchange_43 rfl (lv_at hl 3 rfl) ?_
      refine lv_bipush (v := 8) hx hb dX1_exchange_44 (by decide) ?_
      refine lv_imul hx hb dX1_exchange_46 ?_
      refine lv_iload hx hb dX1_exchange_47 (lv_at hl 0 rfl) ?_
      refine lv_iadd hx hb dX1_exchange_49 ?_
      refine lv_iload_n hx hb dX1_exchange_50 rfl (lv_at hl 4 rfl) ?_
      obtain ⟨h_6, hf⟩ := chk_s hf
      refine va_iast hx hb hK.1 hP hD hS 4 0 rfl rfl (inb_in h_6) dX1_exchange_51 (fun H locs hP hD hS => ?_)
      have hP : va_P D vwCl (wX1 cA a_g g_nodes g_edges g_outer g_low g_high g_degree (upd (upd g_turns ((p1 * 8) + r_1).toNatClampNeg p3) ((p1 * 8) + r_2).toNatClampNeg p2)) H := hP
      have hD : va_D A (wX1 cA a_g g_nodes g_edges g_outer g_low g_high g_degree (upd (upd g_turns ((p1 * 8) + r_1).toNatClampNeg p3) ((p1 * 8) + r_2).toNatClampNeg p2)) := hD
      have eR := some_i hf
      exact W.vret hx hb hr (fun t ht hW => ⟨⟨(), rfl, trivial, by rw [← eR, ht]; exact hP, by rw [← eR]; exact hD⟩, hS.F ht⟩) hS.2.2 dX1_exchange_52 (hlocks := hlk)
set_option maxRecDepth 100000 in
set_option maxHeartbeats 4000000 in
theorem c_X7_bit (l : Launch) (D : va_G) (cA : Nat → ClassId) (p0 : Int32) (N : Nat) (ρ : Int32) (hf : f_X7_bit N p0 = some ρ) : Met l yX7_bit (Cond.code yX7_bit cX7_bit 1 (Option.some Jvm.ClassFile.FieldType.int) :: lw_g) ({ frames := 0, cells := 0, slots := 0, locals := 0 } : Room) (PcS D (tyA cA) ([] : va_W) [.int p0]) (vp_Si (fun r => r = ρ)) 0 0 (fun _ => False) := by
  refine mkS (by decide +kernel) (Nat.le_of_ble_eq_true rfl) fun p e s m below meth c ls C hl hP hK => ?_
  obtain ⟨hx, hb, hml, hown, hT, hr, hlk⟩ := id C
  have hl : lv_has ls 1 [(0, .int p0)] := hl
  refine lv_iconst (v := 1) hx hb dX7_bit_0 (by decide) ?_
  refine lv_iload_n hx hb dX7_bit_1 rfl (lv_at hl 0 rfl) ?_
  refine lv_ishl hx hb dX7_bit_2 ?_
  exact W.iret hx hb hr (fun t ht hW => ⟨_, rfl, some_i hf, ht⟩) (fun _ h => by cases h) dX7_bit_3 (hlocks := hlk)
set_option maxRecDepth 100000 in
set_option maxHeartbeats 4000000 in
theorem c_X1_fillLinks (l : Launch) (D : va_G) (cA : Nat → ClassId) (a_g : Nat → Nat) (a_nr : Nat) (g_nodes : Int32) (g_edges : Int32) (g_outer : Int32) (g_low : Nat → Int32) (g_high : Nat → Int32) (g_degree : Nat → Int32) (g_turns : Nat → Int32) (nr_a : Nat → Int32) (sz N : Nat) (ρ : (Nat → Int32)) (hf : f_X1_fillLinks N g_edges g_low g_high nr_a = some ρ) : Met l yX1_fillLinks (Cond.code yX1_fillLinks cX1_fillLinks 3 (Option.none : Option Jvm.ClassFile.FieldType) :: lw_g) ({ frames := 1, cells := 0, slots := 0, locals := 23 } : Room) (PcW D (tyA cA) (wX1 cA a_g g_nodes g_edges g_outer g_low g_high g_degree g_turns ++ (wA cA a_nr nr_a)) sz [.ref (a_g 0), .ref a_nr]) (va_Qv (fun (_ : Unit) => True) (fun _ t => va_P D vwCl (wX1 cA a_g g_nodes g_edges g_outer g_low g_high g_degree g_turns ++ (wA cA a_nr ρ)) t.heap ∧ va_D (va_A (wX1 cA a_g g_nodes g_edges g_outer g_low g_high g_degree g_turns ++ (wA cA a_nr nr_a)) sz) (wX1 cA a_g g_nodes g_edges g_outer g_low g_high g_degree g_turns ++ (wA cA a_nr ρ))) (va_A (wX1 cA a_g g_nodes g_edges g_outer g_low g_high g_degree g_turns ++ (wA cA a_nr nr_a)) sz)) 0 0 (va_A (wX1 cA a_g g_nodes g_edges g_outer g_low g_high g_degree g_turns ++ (wA cA a_nr nr_a)) sz) := by
  refine mkW (QQ := fun A => va_Qv (fun (_ : Unit) => True) (fun _ t => va_P D vwCl (wX1 cA a_g g_nodes g_edges g_outer g_low g_high g_degree g_turns ++ (wA cA a_nr ρ)) t.heap ∧ va_D A (wX1 cA a_g g_nodes g_edges g_outer g_low g_high g_degree g_turns ++ (wA cA a_nr ρ))) A) (by decide) (Nat.le_of_ble_eq_true rfl) fun p e s m below meth c ls A C hl hP hK hD hA hS => ?_
  obtain ⟨hx, hb, hml, hown, hT, hr, hlk⟩ := id C
  have hl : lv_has ls 3 [(0, .ref (a_g 0)), (1, .ref a_nr)] := hl
  have B7 : ∀ (n7 : Nat), ∀ (x2 : Int32) (nr_a : Nat → Int32) (H : Heap) (locs : List Loc) (ls : Array Slot), lv_has ls 3 [(0, .ref (a_g 0)), (1, .ref a_nr), (2, .int x2)] → va_P D vwCl (wX1 cA a_g g_nodes g_edges g_outer g_low g_high g_degree g_turns ++ (wA cA a_nr nr_a)) H → va_D A (wX1 cA a_g g_nodes g_edges g_outer g_low g_high g_degree g_turns ++ (wA cA a_nr nr_a)) → va_S A s.heap H locs → f_X1_fillLinks_b7 N g_edges g_low g_high n7 x2 nr_a = some ρ → W p l e ({ frames := 1, cells := 0, slots := 0, locals := 23 } : Room) s m ([.ref (a_g 0), .ref a_nr] : List Value).toArray below meth c H locs 0 0 (MQ below (va_Qv (fun (_ : Unit) => True) (fun _ t => va_P D vwCl (wX1 cA a_g g_nodes g_edges g_outer g_low g_high g_degree g_turns ++ (wA cA a_nr ρ)) t.heap ∧ va_D A (wX1 cA a_g g_nodes g_edges g_outer g_low g_high g_degree g_turns ++ (wA cA a_nr ρ))) A) ([.ref (a_g 0), .ref a_nr] : List Value).toArray s 0 0 A) (F0 m 7 ls []) := by
    intro n7
    induction n7 with
    | zero =>
      intro x2 nr_a H locs ls hl hP hD hS hf
      cases (show (none : Option ((Nat → Int32))) = some ρ from hf)
    | succ n7 ih7 =>
      intro x2 nr_a H locs ls hl hP hD hS hf
      refine lv_iload_n hx hb dX1_fillLinks_7 rfl (lv_at hl 2 rfl) ?_
      refine lv_aload_n hx hb dX1_fillLinks_8 rfl (lv_at hl 0 rfl) ?_
      refine va_get (D := D) (ci := 1) (C := RX1) (T := TX1) (N := 7) hx hb hT kwX1 hown hK.1 hP 0 rfl rfl 1 (by decide) (hT _ kf_X1_28) (fun _ h9 => h9) rfl dX1_fillLinks_9 ?_
      refine lv_icmp_ge (tgt := 61) hx hb dX1_fillLinks_12 (by decide) (fun c_1 => ?_) (fun c_1 => ?_)
      · have hf := ite_t c_1 hf
        have eR := some_i hf
        exact W.vret hx hb hr (fun t ht hW => ⟨⟨(), rfl, trivial, by rw [← eR, ht]; exact hP, by rw [← eR]; exact hD⟩, hS.F ht⟩) hS.2.2 dX1_fillLinks_61 (hlocks := hlk)
      · have hf := ite_f c_1 hf
        refine lv_aload_n hx hb dX1_fillLinks_15 rfl (lv_at hl 1 rfl) ?_
        refine lv_aload_n hx hb dX1_fillLinks_16 rfl (lv_at hl 0 rfl) ?_
        refine va_get (D := D) (ci := 1) (C := RX1) (T := TX1) (N := 7) hx hb hT kwX1 hown hK.1 hP 0 rfl rfl 3 (by decide) (hT _ kf_X1_15) (fun _ h9 => h9) rfl dX1_fillLinks_17 ?_
        refine lv_iload_n hx hb dX1_fillLinks_20 rfl (lv_at hl 2 rfl) ?_
        obtain ⟨h_2, hf⟩ := chk_s hf
        refine va_iald hx hb hK.1 hP 1 0 rfl rfl (inb_in h_2) dX1_fillLinks_21 ?_
        refine lv_dup2_11 hx hb dX1_fillLinks_22 rfl rfl ?_
        obtain ⟨h_3, hf⟩ := chk_s hf
        refine va_iald hx hb hK.1 hP 5 0 rfl rfl (inb_in h_3) dX1_fillLinks_23 ?_
        refine lv_aload_n hx hb dX1_fillLinks_24 rfl (lv_at hl 0 rfl) ?_
        refine va_get (D := D) (ci := 1) (C := RX1) (T := TX1) (N := 7) hx hb hT kwX1 hown hK.1 hP 0 rfl rfl 4 (by decide) (hT _ kf_X1_19) (fun _ h9 => h9) rfl dX1_fillLinks_25 ?_
        refine lv_iload_n hx hb dX1_fillLinks_28 rfl (lv_at hl 2 rfl) ?_
        obtain ⟨h_4, hf⟩ := chk_s hf
        refine va_iald hx hb hK.1 hP 2 0 rfl rfl (inb_in h_4) dX1_fillLinks_29 ?_
        obtain ⟨r_5, hcr_5, hf⟩ := bd1_s hf
        refine backI (runN0 C (c_X7_bit l D cA (g_high x2.toNatClampNeg) N r_5 hcr_5) cf_X7_bit kn_X1_77 ⟨rfl, rfl, by decide, by decide⟩ ⟨Nat.zero_le _, Nat.zero_le _⟩ (hP.sub [] rfl) hK hl.1 rfl rfl (Nat.le_of_ble_eq_true rfl) dX1_fillLinks_30) ?_
        refine lv_ior hx hb dX1_fillLinks_33 ?_
        obtain ⟨h_6, hf⟩ := chk_s hf
        refine va_iast hx hb hK.1 hP hD hS 5 0 rfl rfl (inb_in h_6) dX1_fillLinks_34 (fun H locs hP hD hS => ?_)
        have hP : va_P D vwCl (wX1 cA a_g g_nodes g_edges g_outer g_low g_high g_degree g_turns ++ (wA cA a_nr (upd nr_a (g_low x2.toNatClampNeg).toNatClampNeg ((nr_a (g_low x2.toNatClampNeg).toNatClampNeg) ||| r_5)))) H := hP
        have hD : va_D A (wX1 cA a_g g_nodes g_edges g_outer g_low g_high g_degree g_turns ++ (wA cA a_nr (upd nr_a (g_low x2.toNatClampNeg).toNatClampNeg ((nr_a (g_low x2.toNatClampNeg).toNatClampNeg) ||| r_5)))) := hD
        refine lv_aload_n hx hb dX1_fillLinks_35 rfl (lv_at hl 1 rfl) ?_
        refine lv_aload_n hx hb dX1_fillLinks_36 rfl (lv_at hl 0 rfl) ?_
        refine va_get (D := D) (ci := 1) (C := RX1) (T := TX1) (N := 7) hx hb hT kwX1 hown hK.1 hP 0 rfl rfl 4 (by decide) (hT _ kf_X1_19) (fun _ h9 => h9) rfl dX1_fillLinks_37 ?_
        refine lv_iload_n hx hb dX1_fillLinks_40 rfl (lv_at hl 2 rfl) ?_
        obtain ⟨h_7, hf⟩ := chk_s hf
        refine va_iald hx hb hK.1 hP 2 0 rfl rfl (inb_in h_7) dX1_fillLinks_41 ?_
        refine lv_dup2_11 hx hb dX1_fillLinks_42 rfl rfl ?_
        obtain ⟨h_8, hf⟩ := chk_s hf
        refine va_iald hx hb hK.1 hP 5 0 rfl rfl (inb_in h_8) dX1_fillLinks_43 ?_
        refine lv_aload_n hx hb dX1_fillLinks_44 rfl (lv_at hl 0 rfl) ?_
        refine va_get (D := D) (ci := 1) (C := RX1) (T := TX1) (N := 7) hx hb hT kwX1 hown hK.1 hP 0 rfl rfl 3 (by decide) (hT _ kf_X1_15) (fun _ h9 => h9) rfl dX1_fillLinks_45 ?_
        refine lv_iload_n hx hb dX1_fillLinks_48 rfl (lv_at hl 2 rfl) ?_
        obtain ⟨h_9, hf⟩ := chk_s hf
        refine va_iald hx hb hK.1 hP 1 0 rfl rfl (inb_in h_9) dX1_fillLinks_49 ?_
        obtain ⟨r_10, hcr_10, hf⟩ := bd1_s hf
        refine backI (runN0 C (c_X7_bit l D cA (g_low x2.toNatClampNeg) N r_10 hcr_10) cf_X7_bit kn_X1_77 ⟨rfl, rfl, by decide, by decide⟩ ⟨Nat.zero_le _, Nat.zero_le _⟩ (hP.sub [] rfl) hK hl.1 rfl rfl (Nat.le_of_ble_eq_true rfl) dX1_fillLinks_50) ?_
        refine lv_ior hx hb dX1_fillLinks_53 ?_
        obtain ⟨h_11, hf⟩ := chk_s hf
        refine va_iast hx hb hK.1 hP hD hS 5 0 rfl rfl (inb_in h_11) dX1_fillLinks_54 (fun H locs hP hD hS => ?_)
        have hP : va_P D vwCl (wX1 cA a_g g_nodes g_edges g_outer g_low g_high g_degree g_turns ++ (wA cA a_nr (upd (upd nr_a (g_low x2.toNatClampNeg).toNatClampNeg ((nr_a (g_low x2.toNatClampNeg).toNatClampNeg) ||| r_5)) (g_high x2.toNatClampNeg).toNatClampNeg (((upd nr_a (g_low x2.toNatClampNeg).toNatClampNeg ((nr_a (g_low x2.toNatClampNeg).toNatClampNeg) ||| r_5)) (g_high x2.toNatClampNeg).toNatClampNeg) ||| r_10)))) H := hP
        have hD : va_D A (wX1 cA a_g g_nodes g_edges g_outer g_low g_high g_degree g_turns ++ (wA cA a_nr (upd (upd nr_a (g_low x2.toNatClampNeg).toNatClampNeg ((nr_a (g_low x2.toNatClampNeg).toNatClampNeg) ||| r_5)) (g_high x2.toNatClampNeg).toNatClampNeg (((upd nr_a (g_low x2.toNatClampNeg).toNatClampNeg ((nr_a (g_low x2.toNatClampNeg).toNatClampNeg) ||| r_5)) (g_high x2.toNatClampNeg).toNatClampNeg) ||| r_10)))) := hD
        refine lv_iinc (v := (x2 + 1)) (lv' := [(2, .int (x2 + 1)), (0, .ref (a_g 0)), (1, .ref a_nr)]) hx hb dX1_fillLinks_55 hl (k := 2) rfl rfl (by decide) rfl (fun ls hl => ?_)
        refine lv_goto (tgt := 7) hx hb dX1_fillLinks_58 (by decide) ?_
        exact ih7 (x2 + 1) (upd (upd nr_a (g_low x2.toNatClampNeg).toNatClampNeg ((nr_a (g_low x2.toNatClampNeg).toNatClampNeg) ||| r_5)) (g_high x2.toNatClampNeg).toNatClampNeg (((upd nr_a (g_low x2.toNatClampNeg).toNatClampNeg ((nr_a (g_low x2.toNatClampNeg).toNatClampNeg) ||| r_5)) (g_high x2.toNatClampNeg).toNatClampNeg) ||| r_10)) _ _ _ (lv_sub hl [1, 2, 0] rfl) hP hD hS hf
  refine lv_aload_n hx hb dX1_fillLinks_0 rfl (lv_at hl 1 rfl) ?_
  refine lv_iconst (v := 0) hx hb dX1_fillLinks_1 (by decide) ?_
  refine backWv (w2 := (wX1 cA a_g g_nodes g_edges g_outer g_low g_high g_degree g_turns ++ (wA cA a_nr (filled 9 (0 : Int32) nr_a)))) (runSw C (c_J7_fill_53178 l D cA a_nr 9 (by decide) nr_a (0 : Int32) _) cf_J7_fill_53178 km_X1_31 ⟨rfl, rfl, by decide, by decide⟩ ⟨Nat.zero_le _, Nat.zero_le _⟩ (hP.sub [5] rfl) (hD.sub [5] rfl rfl) hK hl.1 rfl rfl (Nat.le_of_ble_eq_true rfl) dX1_fillLinks_2) hP hD hS hA [5] rfl [0, 1, 2, 3, 4] rfl rfl (by decide) [0, 1, 2, 3, 4, 5] rfl rfl (fun H locs hP hD hS => ?_)
  refine lv_iconst (v := 0) hx hb dX1_fillLinks_5 (by decide) ?_
  refine lv_istore_n (lv' := [(2, .int 0), (0, .ref (a_g 0)), (1, .ref a_nr)]) hx hb dX1_fillLinks_6 rfl hl (by decide) rfl (fun ls hl => ?_)
  exact B7 N 0 (filled 9 (0 : Int32) nr_a) _ _ _ (lv_sub hl [1, 2, 0] rfl) hP hD hS hf
set_option maxRecDepth 100000 in
set_option maxHeartbeats 4000000 in
theorem c_X1_tailOf (l : Launch) (D : va_G) (cA : Nat → ClassId) (a_g : Nat → Nat) (g_nodes : Int32) (g_edges : Int32) (g_outer : Int32) (g_low : Nat → Int32) (g_high : Nat → Int32) (g_degree : Nat → Int32) (g_turns : Nat → Int32) (p1 : Int32) (N : Nat) (ρ : Int32) (hf : f_X1_tailOf N g_low g_high p1 = some ρ) : Met l yX1_tailOf (Cond.code yX1_tailOf cX1_tailOf 2 (Option.some Jvm.ClassFile.FieldType.int) :: lw_g) ({ frames := 0, cells := 0, slots := 0, locals := 0 } : Room) (PcS D (tyA cA) (wX1 cA a_g g_nodes g_edges g_outer g_low g_high g_degree g_turns) [.ref (a_g 0), .int p1]) (vp_Si (fun r => r = ρ)) 0 0 (fun _ => False) := by
  refine mkS (by decide +kernel) (Nat.le_of_ble_eq_true rfl) fun p e s m below meth c ls C hl hP hK => ?_
  obtain ⟨hx, hb, hml, hown, hT, hr, hlk⟩ := id C
  have hl : lv_has ls 2 [(0, .ref (a_g 0)), (1, .int p1)] := hl
  refine lv_iload_n hx hb dX1_tailOf_0 rfl (lv_at hl 1 rfl) ?_
  refine lv_iconst (v := 2) hx hb dX1_tailOf_1 (by decide) ?_
  refine lv_irem hx hb dX1_tailOf_2 (by decide) ?_
  refine lv_if_ne (tgt := 17) hx hb dX1_tailOf_3 (by decide) (fun c_1 => ?_) (fun c_1 => ?_)
  · have hf := ite_t c_1 hf
    refine lv_aload_n hx hb dX1_tailOf_17 rfl (lv_at hl 0 rfl) ?_
    refine va_get (D := D) (ci := 1) (C := RX1) (T := TX1) (N := 7) hx hb hT kwX1 hown hK.1 hP 0 rfl rfl 4 (by decide) (hT _ kf_X1_19) (fun _ h9 => h9) rfl dX1_tailOf_18 ?_
    refine lv_iload_n hx hb dX1_tailOf_21 rfl (lv_at hl 1 rfl) ?_
    refine lv_iconst (v := 2) hx hb dX1_tailOf_22 (by decide) ?_
    refine lv_idiv hx hb dX1_tailOf_23 (by decide) ?_
    obtain ⟨h_2, hf⟩ := chk_s hf
    refine va_iald hx hb hK.1 hP 2 0 rfl rfl (inb_in h_2) dX1_tailOf_24 ?_
    exact W.iret hx hb hr (fun t ht hW => ⟨_, rfl, some_i hf, ht⟩) (fun _ h => by cases h) dX1_tailOf_25 (hlocks := hlk)
  · have hf := ite_fn c_1 hf
    refine lv_aload_n hx hb dX1_tailOf_6 rfl (lv_at hl 0 rfl) ?_
    refine va_get (D := D) (ci := 1) (C := RX1) (T := TX1) (N := 7) hx hb hT kwX1 hown hK.1 hP 0 rfl rfl 3 (by decide) (hT _ kf_X1_15) (fun _ h9 => h9) rfl dX1_tailOf_7 ?_
    refine lv_iload_n hx hb dX1_tailOf_10 rfl (lv_at hl 1 rfl) ?_
    refine lv_iconst (v := 2) hx hb dX1_tailOf_11 (by decide) ?_
    refine lv_idiv hx hb dX1_tailOf_12 (by decide) ?_
    obtain ⟨h_3, hf⟩ := chk_s hf
    refine va_iald hx hb hK.1 hP 1 0 rfl rfl (inb_in h_3) dX1_tailOf_13 ?_
    refine lv_goto (tgt := 25) hx hb dX1_tailOf_14 (by decide) ?_
    exact W.iret hx hb hr (fun t ht hW => ⟨_, rfl, some_i hf, ht⟩) (fun _ h => by cases h) dX1_tailOf_25 (hlocks := hlk)
set_option maxRecDepth 100000 in
set_option maxHeartbeats 4000000 in
theorem c_X1_following (l : Launch) (D : va_G) (cA : Nat → ClassId) (a_g : Nat → Nat) (g_nodes : Int32) (g_edges : Int32) (g_outer : Int32) (g_low : Nat → Int32) (g_high : Nat → Int32) (g_degree : Nat → Int32) (g_turns : Nat → Int32) (p1 : Int32) (N : Nat) (ρ : Int32) (hf : f_X1_following N g_low g_high g_degree g_turns p1 = some ρ) : Met l yX1_following (Cond.code yX1_following cX1_following 5 (Option.some Jvm.ClassFile.FieldType.int) :: lw_g) ({ frames := 2, cells := 0, slots := 0, locals := 45 } : Room) (PcS D (tyA cA) (wX1 cA a_g g_nodes g_edges g_outer g_low g_high g_degree g_turns) [.ref (a_g 0), .int p1]) (vp_Si (fun r => r = ρ)) 0 0 (fun _ => False) := by
  refine mkS (by decide +kernel) (Nat.le_of_ble_eq_true rfl) fun p e s m below meth c ls C hl hP hK => ?_
  obtain ⟨hx, hb, hml, hown, hT, hr, hlk⟩ := id C
  have hl : lv_has ls 5 [(0, .ref (a_g 0)), (1, .int p1)] := hl
  have B36 : ∀ (x2 : Int32) (y1 : Int32) (y2 : Int32) (ls : Array Slot), lv_has ls 5 [(0, .ref (a_g 0)), (2, .int x2)] → f_X1_following_b36 N g_low g_high g_degree g_turns x2 y1 y2 = some ρ → W p l e ({ frames := 2, cells := 0, slots := 0, locals := 45 } : Room) s m ([.ref (a_g 0), .int p1] : List Value).toArray below meth c s.heap [] 0 0 (MQ below (vp_Si (fun r => r = ρ)) ([.ref (a_g 0), .int p1] : List Value).toArray s 0 0 (fun _ => False)) (F0 m 36 ls [.int y2, .int y1, .ref (a_g 0)]) := by
    intro x2 y1 y2 ls hl hf
    obtain ⟨r_6, hcr_6, hf⟩ := bd1_s hf
    refine backI (runV0 C (c_X1_edgeAt l D cA a_g g_nodes g_edges g_outer g_low g_high g_degree g_turns y1 y2 N r_6 hcr_6) cf_X1_edgeAt km_X1_59 ⟨rfl, rfl, by decide, by decide⟩ ⟨Nat.zero_le _, Nat.zero_le _⟩ (va_recv hK.1 hP (ci := 1) (q0 := 0) rfl rfl) (hP.sub [0, 1, 2, 3, 4] rfl) hK hl.1 rfl rfl (Nat.le_of_ble_eq_true rfl) dX1_following_36) ?_
    refine lv_istore (lv' := [(4, .int r_6), (0, .ref (a_g 0)), (2, .int x2)]) hx hb dX1_following_39 hl (by decide) rfl (fun ls hl => ?_)
    refine lv_aload_n hx hb dX1_following_41 rfl (lv_at hl 1 rfl) ?_
    refine va_get (D := D) (ci := 1) (C := RX1) (T := TX1) (N := 7) hx hb hT kwX1 hown hK.1 hP 0 rfl rfl 3 (by decide) (hT _ kf_X1_15) (fun _ h9 => h9) rfl dX1_following_42 ?_
    refine lv_iload hx hb dX1_following_45 (lv_at hl 0 rfl) ?_
    obtain ⟨h_7, hf⟩ := chk_s hf
    refine va_iald hx hb hK.1 hP 1 0 rfl rfl (inb_in h_7) dX1_following_47 ?_
    refine lv_iload_n hx hb dX1_following_48 rfl (lv_at hl 2 rfl) ?_
    refine lv_icmp_ne (tgt := 59) hx hb dX1_following_49 (by decide) (fun c_8 => ?_) (fun c_8 => ?_)
    · have hf := ite_t c_8 hf
      refine lv_iconst (v := 2) hx hb dX1_following_59 (by decide) ?_
      refine lv_iload hx hb dX1_following_60 (lv_at hl 0 rfl) ?_
      refine lv_imul hx hb dX1_following_62 ?_
      refine lv_iconst (v := 1) hx hb dX1_following_63 (by decide) ?_
      refine lv_iadd hx hb dX1_following_64 ?_
      exact W.iret hx hb hr (fun t ht hW => ⟨_, rfl, some_i hf, ht⟩) (fun _ h => by cases h) dX1_following_65 (hlocks := hlk)
    · have hf := ite_fn c_8 hf
      refine lv_iconst (v := 2) hx hb dX1_following_52 (by decide) ?_
      refine lv_iload hx hb dX1_following_53 (lv_at hl 0 rfl) ?_
      refine lv_imul hx hb dX1_following_55 ?_
      refine lv_goto (tgt := 65) hx hb dX1_following_56 (by decide) ?_
      exact W.iret hx hb hr (fun t ht hW => ⟨_, rfl, some_i hf, ht⟩) (fun _ h => by cases h) dX1_following_65 (hlocks := hlk)
  refine lv_aload_n hx hb dX1_following_0 rfl (lv_at hl 0 rfl) ?_
  refine lv_iload_n hx hb dX1_following_1 rfl (lv_at hl 1 rfl) ?_
  refine lv_iconst (v := 1) hx hb dX1_following_2 (by decide) ?_
  refine lv_ixor hx hb dX1_following_3 ?_
  obtain ⟨r_1, hcr_1, hf⟩ := bd1_s hf
  refine backI (runV0 C (c_X1_tailOf l D cA a_g g_nodes g_edges g_outer g_low g_high g_degree g_turns (p1 ^^^ 1) N r_1 hcr_1) cf_X1_tailOf km_X1_73 ⟨rfl, rfl, by decide, by decide⟩ ⟨Nat.zero_le _, Nat.zero_le _⟩ (va_recv hK.1 hP (ci := 1) (q0 := 0) rfl rfl) (hP.sub [0, 1, 2, 3, 4] rfl) hK hl.1 rfl rfl (Nat.le_of_ble_eq_true rfl) dX1_following_4) ?_
  refine lv_istore_n (lv' := [(2, .int r_1), (0, .ref (a_g 0)), (1, .int p1)]) hx hb dX1_following_7 rfl hl (by decide) rfl (fun ls hl => ?_)
  refine lv_aload_n hx hb dX1_following_8 rfl (lv_at hl 1 rfl) ?_
  refine lv_iload_n hx hb dX1_following_9 rfl (lv_at hl 0 rfl) ?_
  refine lv_iload_n hx hb dX1_following_10 rfl (lv_at hl 2 rfl) ?_
  refine lv_iconst (v := 2) hx hb dX1_following_11 (by decide) ?_
  refine lv_idiv hx hb dX1_following_12 (by decide) ?_
  obtain ⟨r_2, hcr_2, hf⟩ := bd1_s hf
  refine backI (runV0 C (c_X1_slotOf l D cA a_g g_nodes g_edges g_outer g_low g_high g_degree g_turns r_1 (p1 / 2) N r_2 hcr_2) cf_X1_slotOf km_X1_70 ⟨rfl, rfl, by decide, by decide⟩ ⟨Nat.zero_le _, Nat.zero_le _⟩ (va_recv hK.1 hP (ci := 1) (q0 := 0) rfl rfl) (hP.sub [0, 1, 2, 3, 4] rfl) hK hl.1 rfl rfl (Nat.le_of_ble_eq_true rfl) dX1_following_13) ?_
  refine lv_iconst (v := 1) hx hb dX1_following_16 (by decide) ?_
  refine lv_iadd hx hb dX1_following_17 ?_
  refine lv_topi (fun x3_3 ex3_3 => ?_)
  have hf := nm_t ex3_3 hf
  refine lv_istore_n (lv' := [(3, .int x3_3), (2, .int r_1), (0, .ref (a_g 0)), (1, .int p1)]) hx hb dX1_following_18 rfl hl (by decide) rfl (fun ls hl => ?_)
  refine lv_aload_n hx hb dX1_following_19 rfl (lv_at hl 2 rfl) ?_
  refine lv_iload_n hx hb dX1_following_20 rfl (lv_at hl 1 rfl) ?_
  refine lv_iload_n hx hb dX1_following_21 rfl (lv_at hl 0 rfl) ?_
  refine lv_aload_n hx hb dX1_following_22 rfl (lv_at hl 2 rfl) ?_
  refine va_get (D := D) (ci := 1) (C := RX1) (T := TX1) (N := 7) hx hb hT kwX1 hown hK.1 hP 0 rfl rfl 5 (by decide) (hT _ kf_X1_22) (fun _ h9 => h9) rfl dX1_following_23 ?_
  refine lv_iload_n hx hb dX1_following_26 rfl (lv_at hl 1 rfl) ?_
  obtain ⟨h_4, hf⟩ := chk_s hf
  refine va_iald hx hb hK.1 hP 3 0 rfl rfl (inb_in h_4) dX1_following_27 ?_
  refine lv_icmp_ge (tgt := 35) hx hb dX1_following_28 (by decide) (fun c_5 => ?_) (fun c_5 => ?_)
  · have hf := ite_t c_5 hf
    refine lv_iconst (v := 0) hx hb dX1_following_35 (by decide) ?_
    exact B36 r_1 r_1 0 _ (lv_sub hl [2, 1] rfl) hf
  · have hf := ite_f c_5 hf
    refine lv_iload_n hx hb dX1_following_31 rfl (lv_at hl 0 rfl) ?_
    refine lv_goto (tgt := 36) hx hb dX1_following_32 (by decide) ?_
    exact B36 r_1 r_1 x3_3 _ (lv_sub hl [2, 1] rfl) hf
set_option maxRecDepth 100000 in
set_option maxHeartbeats 4000000 in
theorem c_X1_hasDirected (l : Launch) (D : va_G) (cA : Nat → ClassId) (a_g : Nat → Nat) (g_nodes : Int32) (g_edges : Int32) (g_outer : Int32) (g_low : Nat → Int32) (g_high : Nat → Int32) (g_degree : Nat → Int32) (g_turns : Nat → Int32) (p1 : Int32) (N : Nat) (ρ : Int32) (hf : f_X1_hasDirected N g_edges p1 = some ρ) : Met l yX1_hasDirected (Cond.code yX1_hasDirected cX1_hasDirected 2 (Option.some Jvm.ClassFile.FieldType.boolean) :: lw_g) ({ frames := 0, cells := 0, slots := 0, locals := 0 } : Room) (PcS D (tyA cA) (wX1 cA a_g g_nodes g_edges g_outer g_low g_high g_degree g_turns) [.ref (a_g 0), .int p1]) (vp_Si (fun r => r = ρ)) 0 0 (fun _ => False) := by
  refine mkS (by decide +kernel) (Nat.le_of_ble_eq_true rfl) fun p e s m below meth c ls C hl hP hK => ?_
  obtain ⟨hx, hb, hml, hown, hT, hr, hlk⟩ := id C
  have hl : lv_has ls 2 [(0, .ref (a_g 0)), (1, .int p1)] := hl
  refine lv_iload_n hx hb dX1_hasDirected_0 rfl (lv_at hl 1 rfl) ?_
  refine lv_if_lt (tgt := 18) hx hb dX1_hasDirected_1 (by decide) (fun c_1 => ?_) (fun c_1 => ?_)
  · have hf := ite_t c_1 hf
    refine lv_iconst (v := 0) hx hb dX1_hasDirected_18 (by decide) ?_
    exact W.zret hx hb hr (by decide) (fun t ht hW => ⟨_, rfl, some_i hf, ht⟩) (fun _ h => by cases h) dX1_hasDirected_19 (hlocks := hlk)
  · have hf := ite_f c_1 hf
    refine lv_iload_n hx hb dX1_hasDirected_4 rfl (lv_at hl 1 rfl) ?_
    refine lv_iconst (v := 2) hx hb dX1_hasDirected_5 (by decide) ?_
    refine lv_aload_n hx hb dX1_hasDirected_6 rfl (lv_at hl 0 rfl) ?_
    refine va_get (D := D) (ci := 1) (C := RX1) (T := TX1) (N := 7) hx hb hT kwX1 hown hK.1 hP 0 rfl rfl 1 (by decide) (hT _ kf_X1_28) (fun _ h9 => h9) rfl dX1_hasDirected_7 ?_
    refine lv_imul hx hb dX1_hasDirected_10 ?_
    refine lv_icmp_ge (tgt := 18) hx hb dX1_hasDirected_11 (by decide) (fun c_2 => ?_) (fun c_2 => ?_)
    · have hf := ite_t c_2 hf
      refine lv_iconst (v := 0) hx hb dX1_hasDirected_18 (by decide) ?_
      exact W.zret hx hb hr (by decide) (fun t ht hW => ⟨_, rfl, some_i hf, ht⟩) (fun _ h => by cases h) dX1_hasDirected_19 (hlocks := hlk)
    · have hf := ite_f c_2 hf
      refine lv_iconst (v := 1) hx hb dX1_hasDirected_14 (by decide) ?_
      refine lv_goto (tgt := 19) hx hb dX1_hasDirected_15 (by decide) ?_
      exact W.zret hx hb hr (by decide) (fun t ht hW => ⟨_, rfl, some_i hf, ht⟩) (fun _ h => by cases h) dX1_hasDirected_19 (hlocks := hlk)
set_option maxRecDepth 100000 in
set_option maxHeartbeats 4000000 in
theorem c_X1_hasEdge (l : Launch) (D : va_G) (cA : Nat → ClassId) (a_g : Nat → Nat) (g_nodes : Int32) (g_edges : Int32) (g_outer : Int32) (g_low : Nat → Int32) (g_high : Nat → Int32) (g_degree : Nat → Int32) (g_turns : Nat → Int32) (p1 : Int32) (N : Nat) (ρ : Int32) (hf : f_X1_hasEdge N g_edges p1 = some ρ) : Met l yX1_hasEdge (Cond.code yX1_hasEdge cX1_hasEdge 2 (Option.some Jvm.ClassFile.FieldType.boolean) :: lw_g) ({ frames := 0, cells := 0, slots := 0, locals := 0 } : Room) (PcS D (tyA cA) (wX1 cA a_g g_nodes g_edges g_outer g_low g_high g_degree g_turns) [.ref (a_g 0), .int p1]) (vp_Si (fun r => r = ρ)) 0 0 (fun _ => False) := by
  refine mkS (by decide +kernel) (Nat.le_of_ble_eq_true rfl) fun p e s m below meth c ls C hl hP hK => ?_
  obtain ⟨hx, hb, hml, hown, hT, hr, hlk⟩ := id C
  have hl : lv_has ls 2 [(0, .ref (a_g 0)), (1, .int p1)] := hl
  refine lv_iload_n hx hb dX1_hasEdge_0 rfl (lv_at hl 1 rfl) ?_
  refine lv_if_lt (tgt := 16) hx hb dX1_hasEdge_1 (by decide) (fun c_1 => ?_) (fun c_1 => ?_)
  · have hf := ite_t c_1 hf
    refine lv_iconst (v := 0) hx hb dX1_hasEdge_16 (by decide) ?_
    exact W.zret hx hb hr (by decide) (fun t ht hW => ⟨_, rfl, some_i hf, ht⟩) (fun _ h => by cases h) dX1_hasEdge_17 (hlocks := hlk)
  · have hf := ite_f c_1 hf
    refine lv_iload_n hx hb dX1_hasEdge_4 rfl (lv_at hl 1 rfl) ?_
    refine lv_aload_n hx hb dX1_hasEdge_5 rfl (lv_at hl 0 rfl) ?_
    refine va_get (D := D) (ci := 1) (C := RX1) (T := TX1) (N := 7) hx hb hT kwX1 hown hK.1 hP 0 rfl rfl 1 (by decide) (hT _ kf_X1_28) (fun _ h9 => h9) rfl dX1_hasEdge_6 ?_
    refine lv_icmp_ge (tgt := 16) hx hb dX1_hasEdge_9 (by decide) (fun c_2 => ?_) (fun c_2 => ?_)
    · have hf := ite_t c_2 hf
      refine lv_iconst (v := 0) hx hb dX1_hasEdge_16 (by decide) ?_
      exact W.zret hx hb hr (by decide) (fun t ht hW => ⟨_, rfl, some_i hf, ht⟩) (fun _ h => by cases h) dX1_hasEdge_17 (hlocks := hlk)
    · have hf := ite_f c_2 hf
      refine lv_iconst (v := 1) hx hb dX1_hasEdge_12 (by decide) ?_
      refine lv_goto (tgt := 17) hx hb dX1_hasEdge_13 (by decide) ?_
      exact W.zret hx hb hr (by decide) (fun t ht hW => ⟨_, rfl, some_i hf, ht⟩) (fun _ h => by cases h) dX1_hasEdge_17 (hlocks := hlk)
set_option maxRecDepth 100000 in
set_option maxHeartbeats 4000000 in
theorem c_X1_hasNode (l : Launch) (D : va_G) (cA : Nat → ClassId) (a_g : Nat → Nat) (g_nodes : Int32) (g_edges : Int32) (g_outer : Int32) (g_low : Nat → Int32) (g_high : Nat → Int32) (g_degree : Nat → Int32) (g_turns : Nat → Int32) (p1 : Int32) (N : Nat) (ρ : Int32) (hf : f_X1_hasNode N g_nodes p1 = some ρ) : Met l yX1_hasNode (Cond.code yX1_hasNode cX1_hasNode 2 (Option.some Jvm.ClassFile.FieldType.boolean) :: lw_g) ({ frames := 0, cells := 0, slots := 0, locals := 0 } : Room) (PcS D (tyA cA) (wX1 cA a_g g_nodes g_edges g_outer g_low g_high g_degree g_turns) [.ref (a_g 0), .int p1]) (vp_Si (fun r => r = ρ)) 0 0 (fun _ => False) := by
  refine mkS (by decide +kernel) (Nat.le_of_ble_eq_true rfl) fun p e s m below meth c ls C hl hP hK => ?_
  obtain ⟨hx, hb, hml, hown, hT, hr, hlk⟩ := id C
  have hl : lv_has ls 2 [(0, .ref (a_g 0)), (1, .int p1)] := hl
  refine lv_iload_n hx hb dX1_hasNode_0 rfl (lv_at hl 1 rfl) ?_
  refine lv_if_lt (tgt := 16) hx hb dX1_hasNode_1 (by decide) (fun c_1 => ?_) (fun c_1 => ?_)
  · have hf := ite_t c_1 hf
    refine lv_iconst (v := 0) hx hb dX1_hasNode_16 (by decide) ?_
    exact W.zret hx hb hr (by decide) (fun t ht hW => ⟨_, rfl, some_i hf, ht⟩) (fun _ h => by cases h) dX1_hasNode_17 (hlocks := hlk)
  · have hf := ite_f c_1 hf
    refine lv_iload_n hx hb dX1_hasNode_4 rfl (lv_at hl 1 rfl) ?_
    refine lv_aload_n hx hb dX1_hasNode_5 rfl (lv_at hl 0 rfl) ?_
    refine va_get (D := D) (ci := 1) (C := RX1) (T := TX1) (N := 7) hx hb hT kwX1 hown hK.1 hP 0 rfl rfl 0 (by decide) (hT _ kf_X1_9) (fun _ h9 => h9) rfl dX1_hasNode_6 ?_
    refine lv_icmp_ge (tgt := 16) hx hb dX1_hasNode_9 (by decide) (fun c_2 => ?_) (fun c_2 => ?_)
    · have hf := ite_t c_2 hf
      refine lv_iconst (v := 0) hx hb dX1_hasNode_16 (by decide) ?_
      exact W.zret hx hb hr (by decide) (fun t ht hW => ⟨_, rfl, some_i hf, ht⟩) (fun _ h => by cases h) dX1_hasNode_17 (hlocks := hlk)
    · have hf := ite_f c_2 hf
      refine lv_iconst (v := 1) hx hb dX1_hasNode_12 (by decide) ?_
      refine lv_goto (tgt := 17) hx hb dX1_hasNode_13 (by decide) ?_
      exact W.zret hx hb hr (by decide) (fun t ht hW => ⟨_, rfl, some_i hf, ht⟩) (fun _ h => by cases h) dX1_hasNode_17 (hlocks := hlk)
set_option maxRecDepth 100000 in
set_option maxHeartbeats 4000000 in
theorem c_X1_isEnd (l : Launch) (D : va_G) (cA : Nat → ClassId) (a_g : Nat → Nat) (g_nodes : Int32) (g_edges : Int32) (g_outer : Int32) (g_low : Nat → Int32) (g_high : Nat → Int32) (g_degree : Nat → Int32) (g_turns : Nat → Int32) (p1 : Int32) (p2 : Int32) (N : Nat) (ρ : Int32) (hf : f_X1_isEnd N g_edges g_low g_high p1 p2 = some ρ) : Met l yX1_isEnd (Cond.code yX1_isEnd cX1_isEnd 3 (Option.some Jvm.ClassFile.FieldType.boolean) :: lw_g) ({ frames := 1, cells := 0, slots := 0, locals := 21 } : Room) (PcS D (tyA cA) (wX1 cA a_g g_nodes g_edges g_outer g_low g_high g_degree g_turns) [.ref (a_g 0), .int p1, .int p2]) (vp_Si (fun r => r = ρ)) 0 0 (fun _ => False) := by
  refine mkS (by decide +kernel) (Nat.le_of_ble_eq_true rfl) fun p e s m below meth c ls C hl hP hK => ?_
  obtain ⟨hx, hb, hml, hown, hT, hr, hlk⟩ := id C
  have hl : lv_has ls 3 [(0, .ref (a_g 0)), (1, .int p1), (2, .int p2)] := hl
  have B28 : ∀ (ls : Array Slot), lv_has ls 3 [] → f_X1_isEnd_b28 N g_edges g_low g_high = some ρ → W p l e ({ frames := 1, cells := 0, slots := 0, locals := 21 } : Room) s m ([.ref (a_g 0), .int p1, .int p2] : List Value).toArray below meth c s.heap [] 0 0 (MQ below (vp_Si (fun r => r = ρ)) ([.ref (a_g 0), .int p1, .int p2] : List Value).toArray s 0 0 (fun _ => False)) (F0 m 28 ls []) := by
    intro  ls hl hf
    refine lv_iconst (v := 1) hx hb dX1_isEnd_28 (by decide) ?_
    refine lv_goto (tgt := 33) hx hb dX1_isEnd_29 (by decide) ?_
    exact W.zret hx hb hr (by decide) (fun t ht hW => ⟨_, rfl, some_i hf, ht⟩) (fun _ h => by cases h) dX1_isEnd_33 (hlocks := hlk)
  refine lv_aload_n hx hb dX1_isEnd_0 rfl (lv_at hl 0 rfl) ?_
  refine lv_iload_n hx hb dX1_isEnd_1 rfl (lv_at hl 1 rfl) ?_
  obtain ⟨r_1, hcr_1, hf⟩ := bd1_s hf
  refine backI (runV0 C (c_X1_hasEdge l D cA a_g g_nodes g_edges g_outer g_low g_high g_degree g_turns p1 N r_1 hcr_1) cf_X1_hasEdge km_X1_46 ⟨rfl, rfl, by decide, by decide⟩ ⟨Nat.zero_le _, Nat.zero_le _⟩ (va_recv hK.1 hP (ci := 1) (q0 := 0) rfl rfl) (hP.sub [0, 1, 2, 3, 4] rfl) hK hl.1 rfl rfl (Nat.le_of_ble_eq_true rfl) dX1_isEnd_2) ?_
  refine lv_if_eq (tgt := 32) hx hb dX1_isEnd_5 (by decide) (fun c_2 => ?_) (fun c_2 => ?_)
  · have hf := ite_t c_2 hf
    refine lv_iconst (v := 0) hx hb dX1_isEnd_32 (by decide) ?_
    exact W.zret hx hb hr (by decide) (fun t ht hW => ⟨_, rfl, some_i hf, ht⟩) (fun _ h => by cases h) dX1_isEnd_33 (hlocks := hlk)
  · have hf := ite_f c_2 hf
    refine lv_aload_n hx hb dX1_isEnd_8 rfl (lv_at hl 0 rfl) ?_
    refine va_get (D := D) (ci := 1) (C := RX1) (T := TX1) (N := 7) hx hb hT kwX1 hown hK.1 hP 0 rfl rfl 3 (by decide) (hT _ kf_X1_15) (fun _ h9 => h9) rfl dX1_isEnd_9 ?_
    refine lv_iload_n hx hb dX1_isEnd_12 rfl (lv_at hl 1 rfl) ?_
    obtain ⟨h_3, hf⟩ := chk_s hf
    refine va_iald hx hb hK.1 hP 1 0 rfl rfl (inb_in h_3) dX1_isEnd_13 ?_
    refine lv_iload_n hx hb dX1_isEnd_14 rfl (lv_at hl 2 rfl) ?_
    refine lv_icmp_eq (tgt := 28) hx hb dX1_isEnd_15 (by decide) (fun c_4 => ?_) (fun c_4 => ?_)
    · have hf := ite_t c_4 hf
      exact B28  _ (lv_sub hl [] rfl) hf
    · have hf := ite_f c_4 hf
      refine lv_aload_n hx hb dX1_isEnd_18 rfl (lv_at hl 0 rfl) ?_
      refine va_get (D := D) (ci := 1) (C := RX1) (T := TX1) (N := 7) hx hb hT kwX1 hown hK.1 hP 0 rfl rfl 4 (by decide) (hT _ kf_X1_19) (fun _ h9 => h9) rfl dX1_isEnd_19 ?_
      refine lv_iload_n hx hb dX1_isEnd_22 rfl (lv_at hl 1 rfl) ?_
      obtain ⟨h_5, hf⟩ := chk_s hf
      refine va_iald hx hb hK.1 hP 2 0 rfl rfl (inb_in h_5) dX1_isEnd_23 ?_
      refine lv_iload_n hx hb dX1_isEnd_24 rfl (lv_at hl 2 rfl) ?_
      refine lv_icmp_ne (tgt := 32) hx hb dX1_isEnd_25 (by decide) (fun c_6 => ?_) (fun c_6 => ?_)
      · have hf := ite_t c_6 hf
        refine lv_iconst (v := 0) hx hb dX1_isEnd_32 (by decide) ?_
        exact W.zret hx hb hr (by decide) (fun t ht hW => ⟨_, rfl, some_i hf, ht⟩) (fun _ h => by cases h) dX1_isEnd_33 (hlocks := hlk)
      · have hf := ite_fn c_6 hf
        exact B28  _ (lv_sub hl [] rfl) hf
set_option maxRecDepth 100000 in
set_option maxHeartbeats 4000000 in
theorem c_X1_makeEmpty (l : Launch) (D : va_G) (cA : Nat → ClassId) (a_g : Nat → Nat) (g_nodes : Int32) (g_edges : Int32) (g_outer : Int32) (g_low : Nat → Int32) (g_high : Nat → Int32) (g_degree : Nat → Int32) (g_turns : Nat → Int32) (p1 : Int32) (sz N : Nat) (ρ : Int32 × Int32 × (Nat → Int32)) (hf : f_X1_makeEmpty N g_nodes g_edges g_degree p1 = some ρ) : Met l yX1_makeEmpty (Cond.code yX1_makeEmpty cX1_makeEmpty 2 (Option.none : Option Jvm.ClassFile.FieldType) :: lw_g) ({ frames := 1, cells := 0, slots := 0, locals := 23 } : Room) (PcW D (tyA cA) (wX1 cA a_g g_nodes g_edges g_outer g_low g_high g_degree g_turns) sz [.ref (a_g 0), .int p1]) (va_Qv (fun (_ : Unit) => True) (fun _ t => va_P D vwCl (wX1 cA a_g ρ.1 ρ.2.1 g_outer g_low g_high ρ.2.2 g_turns) t.heap ∧ va_D (va_A (wX1 cA a_g g_nodes g_edges g_outer g_low g_high g_degree g_turns) sz) (wX1 cA a_g ρ.1 ρ.2.1 g_outer g_low g_high ρ.2.2 g_turns)) (va_A (wX1 cA a_g g_nodes g_edges g_outer g_low g_high g_degree g_turns) sz)) 0 0 (va_A (wX1 cA a_g g_nodes g_edges g_outer g_low g_high g_degree g_turns) sz) := by
  refine mkW (QQ := fun A => va_Qv (fun (_ : Unit) => True) (fun _ t => va_P D vwCl (wX1 cA a_g ρ.1 ρ.2.1 g_outer g_low g_high ρ.2.2 g_turns) t.heap ∧ va_D A (wX1 cA a_g ρ.1 ρ.2.1 g_outer g_low g_high ρ.2.2 g_turns)) A) (by decide) (Nat.le_of_ble_eq_true rfl) fun p e s m below meth c ls A C hl hP hK hD hA hS => ?_
  obtain ⟨hx, hb, hml, hown, hT, hr, hlk⟩ := id C
  have hl : lv_has ls 2 [(0, .ref (a_g 0)), (1, .int p1)] := hl
  refine lv_aload_n hx hb dX1_makeEmpty_0 rfl (lv_at hl 0 rfl) ?_
  refine lv_iload_n hx hb dX1_makeEmpty_1 rfl (lv_at hl 1 rfl) ?_
  refine va_put (D := D) (ci := 1) (v := .int p1) (ty := .int) (C := RX1) (T := TX1) (N := 7) hx hb hT kwX1 tyX1 tyX1_ok nmX1 hown hK.1 hP hD hS 0 rfl rfl 0 (by decide) (hT _ kf_X1_9) (fun _ h9 => h9) rfl (by decide +kernel) rfl rfl (Nat.le_of_ble_eq_true rfl) dX1_makeEmpty_2 (fun H locs hP hD hS => ?_)
  have hP : va_P D vwCl (wX1 cA a_g p1 g_edges g_outer g_low g_high g_degree g_turns) H := hP
  have hD : va_D A (wX1 cA a_g p1 g_edges g_outer g_low g_high g_degree g_turns) := hD
  refine lv_aload_n hx hb dX1_makeEmpty_5 rfl (lv_at hl 0 rfl) ?_
  refine lv_iconst (v := 0) hx hb dX1_makeEmpty_6 (by decide) ?_
  refine va_put (D := D) (ci := 1) (v := .int 0) (ty := .int) (C := RX1) (T := TX1) (N := 7) hx hb hT kwX1 tyX1 tyX1_ok nmX1 hown hK.1 hP hD hS 0 rfl rfl 1 (by decide) (hT _ kf_X1_28) (fun _ h9 => h9) rfl (by decide +kernel) rfl rfl (Nat.le_of_ble_eq_true rfl) dX1_makeEmpty_7 (fun H locs hP hD hS => ?_)
  have hP : va_P D vwCl (wX1 cA a_g p1 0 g_outer g_low g_high g_degree g_turns) H := hP
  have hD : va_D A (wX1 cA a_g p1 0 g_outer g_low g_high g_degree g_turns) := hD
  refine lv_aload_n hx hb dX1_makeEmpty_10 rfl (lv_at hl 0 rfl) ?_
  refine va_get (D := D) (ci := 1) (C := RX1) (T := TX1) (N := 7) hx hb hT kwX1 hown hK.1 hP 0 rfl rfl 5 (by decide) (hT _ kf_X1_22) (fun _ h9 => h9) rfl dX1_makeEmpty_11 ?_
  refine lv_iconst (v := 0) hx hb dX1_makeEmpty_14 (by decide) ?_
  refine backWv (w2 := (wX1 cA a_g p1 0 g_outer g_low g_high (filled 9 (0 : Int32) g_degree) g_turns)) (runSw C (c_J7_fill_53178 l D cA (a_g 3) 9 (by decide) g_degree (0 : Int32) _) cf_J7_fill_53178 km_X1_31 ⟨rfl, rfl, by decide, by decide⟩ ⟨Nat.zero_le _, Nat.zero_le _⟩ (hP.sub [3] rfl) (hD.sub [3] rfl rfl) hK hl.1 rfl rfl (Nat.le_of_ble_eq_true rfl) dX1_makeEmpty_15) hP hD hS hA [3] rfl [0, 1, 2, 4] rfl rfl (by decide) [0, 1, 2, 4, 3] rfl rfl (fun H locs hP hD hS => ?_)
  have eR := some_i hf
  exact W.vret hx hb hr (fun t ht hW => ⟨⟨(), rfl, trivial, by rw [← eR, ht]; exact hP, by rw [← eR]; exact hD⟩, hS.F ht⟩) hS.2.2 dX1_makeEmpty_18 (hlocks := hlk)
set_option maxRecDepth 100000 in
set_option maxHeartbeats 4000000 in
theorem c_X1_removeAt (l : Launch) (D : va_G) (cA : Nat → ClassId) (a_g : Nat → Nat) (g_nodes : Int32) (g_edges : Int32) (g_outer : Int32) (g_low : Nat → Int32) (g_high : Nat → Int32) (g_degree : Nat → Int32) (g_turns : Nat → Int32) (p1 : Int32) (sz N : Nat) (ρ : Int32 × (Nat → Int32) × (Nat → Int32) × (Nat → Int32) × (Nat → Int32)) (hf : f_X1_removeAt N g_nodes g_edges g_low g_high g_degree g_turns p1 = some ρ) : Met l yX1_removeAt (Cond.code yX1_removeAt cX1_removeAt 3 (Option.none : Option Jvm.ClassFile.FieldType) :: lw_g) ({ frames := 1, cells := 0, slots := 0, locals := 26 } : Room) (PcW D (tyA cA) (wX1 cA a_g g_nodes g_edges g_outer g_low g_high g_degree g_turns) sz [.ref (a_g 0), .int p1]) (va_Qv (fun (_ : Unit) => True) (fun _ t => va_P D vwCl (wX1 cA a_g g_nodes ρ.1 g_outer ρ.2.1 ρ.2.2.1 ρ.2.2.2.1 ρ.2.2.2.2) t.heap ∧ va_D (va_A (wX1 cA a_g g_nodes g_edges g_outer g_low g_high g_degree g_turns) sz) (wX1 cA a_g g_nodes ρ.1 g_outer ρ.2.1 ρ.2.2.1 ρ.2.2.2.1 ρ.2.2.2.2)) (va_A (wX1 cA a_g g_nodes g_edges g_outer g_low g_high g_degree g_turns) sz)) 0 0 (va_A (wX1 cA a_g g_nodes g_edges g_outer g_low g_high g_degree g_turns) sz) := by
  refine mkW (QQ := fun A => va_Qv (fun (_ : Unit) => True) (fun _ t => va_P D vwCl (wX1 cA a_g g_nodes ρ.1 g_outer ρ.2.1 ρ.2.2.1 ρ.2.2.2.1 ρ.2.2.2.2) t.heap ∧ va_D A (wX1 cA a_g g_nodes ρ.1 g_outer ρ.2.1 ρ.2.2.1 ρ.2.2.2.1 ρ.2.2.2.2)) A) (by decide) (Nat.le_of_ble_eq_true rfl) fun p e s m below meth c ls A C hl hP hK hD hA hS => ?_
  obtain ⟨hx, hb, hml, hown, hT, hr, hlk⟩ := id C
  have hl : lv_has ls 3 [(0, .ref (a_g 0)), (1, .int p1)] := hl
  have B34 : ∀ (n34 : Nat), ∀ (x2 : Int32) (g_edges : Int32) (g_low : Nat → Int32) (g_high : Nat → Int32) (g_degree : Nat → Int32) (g_turns : Nat → Int32) (H : Heap) (locs : List Loc) (ls : Array Slot), lv_has ls 3 [(0, .ref (a_g 0)), (2, .int x2)] → va_P D vwCl (wX1 cA a_g g_nodes g_edges g_outer g_low g_high g_degree g_turns) H → va_D A (wX1 cA a_g g_nodes g_edges g_outer g_low g_high g_degree g_turns) → va_S A s.heap H locs → f_X1_removeAt_b34 N g_nodes n34 x2 g_edges g_low g_high g_degree g_turns = some ρ → W p l e ({ frames := 1, cells := 0, slots := 0, locals := 26 } : Room) s m ([.ref (a_g 0), .int p1] : List Value).toArray below meth c H locs 0 0 (MQ below (va_Qv (fun (_ : Unit) => True) (fun _ t => va_P D vwCl (wX1 cA a_g g_nodes ρ.1 g_outer ρ.2.1 ρ.2.2.1 ρ.2.2.2.1 ρ.2.2.2.2) t.heap ∧ va_D A (wX1 cA a_g g_nodes ρ.1 g_outer ρ.2.1 ρ.2.2.1 ρ.2.2.2.1 ρ.2.2.2.2)) A) ([.ref (a_g 0), .int p1] : List Value).toArray s 0 0 A) (F0 m 34 ls []) := by
    intro n34
    induction n34 with
    | zero =>
      intro x2 g_edges g_low g_high g_degree g_turns H locs ls hl hP hD hS hf
      cases (show (none : Option (Int32 × (Nat → Int32) × (Nat → Int32) × (Nat → Int32) × (Nat → Int32))) = some ρ from hf)
    | succ n34 ih34 =>
      intro x2 g_edges g_low g_high g_degree g_turns H locs ls hl hP hD hS hf
      refine lv_iload_n hx hb dX1_removeAt_34 rfl (lv_at hl 1 rfl) ?_
      refine lv_aload_n hx hb dX1_removeAt_35 rfl (lv_at hl 0 rfl) ?_
      refine va_get (D := D) (ci := 1) (C := RX1) (T := TX1) (N := 7) hx hb hT kwX1 hown hK.1 hP 0 rfl rfl 1 (by decide) (hT _ kf_X1_28) (fun _ h9 => h9) rfl dX1_removeAt_36 ?_
      refine lv_icmp_ge (tgt := 76) hx hb dX1_removeAt_39 (by decide) (fun c_3 => ?_) (fun c_3 => ?_)
      · have hf := ite_t c_3 hf
        have eR := some_i hf
        exact W.vret hx hb hr (fun t ht hW => ⟨⟨(), rfl, trivial, by rw [← eR, ht]; exact hP, by rw [← eR]; exact hD⟩, hS.F ht⟩) hS.2.2 dX1_removeAt_76 (hlocks := hlk)
      · have hf := ite_f c_3 hf
        refine lv_aload_n hx hb dX1_removeAt_42 rfl (lv_at hl 0 rfl) ?_
        refine va_get (D := D) (ci := 1) (C := RX1) (T := TX1) (N := 7) hx hb hT kwX1 hown hK.1 hP 0 rfl rfl 3 (by decide) (hT _ kf_X1_15) (fun _ h9 => h9) rfl dX1_removeAt_43 ?_
        refine lv_iload_n hx hb dX1_removeAt_46 rfl (lv_at hl 1 rfl) ?_
        refine lv_aload_n hx hb dX1_removeAt_47 rfl (lv_at hl 0 rfl) ?_
        refine va_get (D := D) (ci := 1) (C := RX1) (T := TX1) (N := 7) hx hb hT kwX1 hown hK.1 hP 0 rfl rfl 3 (by decide) (hT _ kf_X1_15) (fun _ h9 => h9) rfl dX1_removeAt_48 ?_
        refine lv_iload_n hx hb dX1_removeAt_51 rfl (lv_at hl 1 rfl) ?_
        refine lv_iconst (v := 1) hx hb dX1_removeAt_52 (by decide) ?_
        refine lv_iadd hx hb dX1_removeAt_53 ?_
        obtain ⟨h_4, hf⟩ := chk_s hf
        refine va_iald hx hb hK.1 hP 1 0 rfl rfl (inb_in h_4) dX1_removeAt_54 ?_
        obtain ⟨h_5, hf⟩ := chk_s hf
        refine va_iast hx hb hK.1 hP hD hS 1 0 rfl rfl (inb_in h_5) dX1_removeAt_55 (fun H locs hP hD hS => ?_)
        have hP : va_P D vwCl (wX1 cA a_g g_nodes g_edges g_outer (upd g_low x2.toNatClampNeg (g_low (x2 + 1).toNatClampNeg)) g_high g_degree g_turns) H := hP
        have hD : va_D A (wX1 cA a_g g_nodes g_edges g_outer (upd g_low x2.toNatClampNeg (g_low (x2 + 1).toNatClampNeg)) g_high g_degree g_turns) := hD
        refine lv_aload_n hx hb dX1_removeAt_56 rfl (lv_at hl 0 rfl) ?_
        refine va_get (D := D) (ci := 1) (C := RX1) (T := TX1) (N := 7) hx hb hT kwX1 hown hK.1 hP 0 rfl rfl 4 (by decide) (hT _ kf_X1_19) (fun _ h9 => h9) rfl dX1_removeAt_57 ?_
        refine lv_iload_n hx hb dX1_removeAt_60 rfl (lv_at hl 1 rfl) ?_
        refine lv_aload_n hx hb dX1_removeAt_61 rfl (lv_at hl 0 rfl) ?_
        refine va_get (D := D) (ci := 1) (C := RX1) (T := TX1) (N := 7) hx hb hT kwX1 hown hK.1 hP 0 rfl rfl 4 (by decide) (hT _ kf_X1_19) (fun _ h9 => h9) rfl dX1_removeAt_62 ?_
        refine lv_iload_n hx hb dX1_removeAt_65 rfl (lv_at hl 1 rfl) ?_
        refine lv_iconst (v := 1) hx hb dX1_removeAt_66 (by decide) ?_
        refine lv_iadd hx hb dX1_removeAt_67 ?_
        obtain ⟨h_6, hf⟩ := chk_s hf
        refine va_iald hx hb hK.1 hP 2 0 rfl rfl (inb_in h_6) dX1_removeAt_68 ?_
        obtain ⟨h_7, hf⟩ := chk_s hf
        refine va_iast hx hb hK.1 hP hD hS 2 0 rfl rfl (inb_in h_7) dX1_removeAt_69 (fun H locs hP hD hS => ?_)
        have hP : va_P D vwCl (wX1 cA a_g g_nodes g_edges g_outer (upd g_low x2.toNatClampNeg (g_low (x2 + 1).toNatClampNeg)) (upd g_high x2.toNatClampNeg (g_high (x2 + 1).toNatClampNeg)) g_degree g_turns) H := hP
        have hD : va_D A (wX1 cA a_g g_nodes g_edges g_outer (upd g_low x2.toNatClampNeg (g_low (x2 + 1).toNatClampNeg)) (upd g_high x2.toNatClampNeg (g_high (x2 + 1).toNatClampNeg)) g_degree g_turns) := hD
        refine lv_iinc (v := (x2 + 1)) (lv' := [(2, .int (x2 + 1)), (0, .ref (a_g 0))]) hx hb dX1_removeAt_70 hl (k := 1) rfl rfl (by decide) rfl (fun ls hl => ?_)
        refine lv_goto (tgt := 34) hx hb dX1_removeAt_73 (by decide) ?_
        exact ih34 (x2 + 1) g_edges (upd g_low x2.toNatClampNeg (g_low (x2 + 1).toNatClampNeg)) (upd g_high x2.toNatClampNeg (g_high (x2 + 1).toNatClampNeg)) g_degree g_turns _ _ _ (lv_sub hl [1, 0] rfl) hP hD hS hf
  have B22 : ∀ (x1 : Int32) (g_edges : Int32) (g_low : Nat → Int32) (g_high : Nat → Int32) (g_degree : Nat → Int32) (g_turns : Nat → Int32) (H : Heap) (locs : List Loc) (ls : Array Slot), lv_has ls 3 [(0, .ref (a_g 0)), (1, .int x1)] → va_P D vwCl (wX1 cA a_g g_nodes g_edges g_outer g_low g_high g_degree g_turns) H → va_D A (wX1 cA a_g g_nodes g_edges g_outer g_low g_high g_degree g_turns) → va_S A s.heap H locs → f_X1_removeAt_b22 N g_nodes x1 g_edges g_low g_high g_degree g_turns = some ρ → W p l e ({ frames := 1, cells := 0, slots := 0, locals := 26 } : Room) s m ([.ref (a_g 0), .int p1] : List Value).toArray below meth c H locs 0 0 (MQ below (va_Qv (fun (_ : Unit) => True) (fun _ t => va_P D vwCl (wX1 cA a_g g_nodes ρ.1 g_outer ρ.2.1 ρ.2.2.1 ρ.2.2.2.1 ρ.2.2.2.2) t.heap ∧ va_D A (wX1 cA a_g g_nodes ρ.1 g_outer ρ.2.1 ρ.2.2.1 ρ.2.2.2.1 ρ.2.2.2.2)) A) ([.ref (a_g 0), .int p1] : List Value).toArray s 0 0 A) (F0 m 22 ls []) := by
    intro x1 g_edges g_low g_high g_degree g_turns H locs ls hl hP hD hS hf
    refine lv_aload_n hx hb dX1_removeAt_22 rfl (lv_at hl 0 rfl) ?_
    refine lv_dup hx hb dX1_removeAt_23 rfl ?_
    refine va_get (D := D) (ci := 1) (C := RX1) (T := TX1) (N := 7) hx hb hT kwX1 hown hK.1 hP 0 rfl rfl 1 (by decide) (hT _ kf_X1_28) (fun _ h9 => h9) rfl dX1_removeAt_24 ?_
    refine lv_iconst (v := 1) hx hb dX1_removeAt_27 (by decide) ?_
    refine lv_isub hx hb dX1_removeAt_28 ?_
    refine va_put (D := D) (ci := 1) (v := .int (g_edges - 1)) (ty := .int) (C := RX1) (T := TX1) (N := 7) hx hb hT kwX1 tyX1 tyX1_ok nmX1 hown hK.1 hP hD hS 0 rfl rfl 1 (by decide) (hT _ kf_X1_28) (fun _ h9 => h9) rfl (by decide +kernel) rfl rfl (Nat.le_of_ble_eq_true rfl) dX1_removeAt_29 (fun H locs hP hD hS => ?_)
    have hP : va_P D vwCl (wX1 cA a_g g_nodes (g_edges - 1) g_outer g_low g_high g_degree g_turns) H := hP
    have hD : va_D A (wX1 cA a_g g_nodes (g_edges - 1) g_outer g_low g_high g_degree g_turns) := hD
    refine lv_iload_n hx hb dX1_removeAt_32 rfl (lv_at hl 1 rfl) ?_
    refine lv_istore_n (lv' := [(2, .int x1), (0, .ref (a_g 0)), (1, .int x1)]) hx hb dX1_removeAt_33 rfl hl (by decide) rfl (fun ls hl => ?_)
    exact B34 N x1 (g_edges - 1) g_low g_high g_degree g_turns _ _ _ (lv_sub hl [1, 0] rfl) hP hD hS hf
  have B2 : ∀ (n2 : Nat), ∀ (x1 : Int32) (x2 : Int32) (g_edges : Int32) (g_low : Nat → Int32) (g_high : Nat → Int32) (g_degree : Nat → Int32) (g_turns : Nat → Int32) (H : Heap) (locs : List Loc) (ls : Array Slot), lv_has ls 3 [(0, .ref (a_g 0)), (1, .int x1), (2, .int x2)] → va_P D vwCl (wX1 cA a_g g_nodes g_edges g_outer g_low g_high g_degree g_turns) H → va_D A (wX1 cA a_g g_nodes g_edges g_outer g_low g_high g_degree g_turns) → va_S A s.heap H locs → f_X1_removeAt_b2 N g_nodes n2 x1 x2 g_edges g_low g_high g_degree g_turns = some ρ → W p l e ({ frames := 1, cells := 0, slots := 0, locals := 26 } : Room) s m ([.ref (a_g 0), .int p1] : List Value).toArray below meth c H locs 0 0 (MQ below (va_Qv (fun (_ : Unit) => True) (fun _ t => va_P D vwCl (wX1 cA a_g g_nodes ρ.1 g_outer ρ.2.1 ρ.2.2.1 ρ.2.2.2.1 ρ.2.2.2.2) t.heap ∧ va_D A (wX1 cA a_g g_nodes ρ.1 g_outer ρ.2.1 ρ.2.2.1 ρ.2.2.2.1 ρ.2.2.2.2)) A) ([.ref (a_g 0), .int p1] : List Value).toArray s 0 0 A) (F0 m 2 ls []) := by
    intro n2
    induction n2 with
    | zero =>
      intro x1 x2 g_edges g_low g_high g_degree g_turns H locs ls hl hP hD hS hf
      cases (show (none : Option (Int32 × (Nat → Int32) × (Nat → Int32) × (Nat → Int32) × (Nat → Int32))) = some ρ from hf)
    | succ n2 ih2 =>
      intro x1 x2 g_edges g_low g_high g_degree g_turns H locs ls hl hP hD hS hf
      refine lv_iload_n hx hb dX1_removeAt_2 rfl (lv_at hl 2 rfl) ?_
      refine lv_aload_n hx hb dX1_removeAt_3 rfl (lv_at hl 0 rfl) ?_
      refine va_get (D := D) (ci := 1) (C := RX1) (T := TX1) (N := 7) hx hb hT kwX1 hown hK.1 hP 0 rfl rfl 0 (by decide) (hT _ kf_X1_9) (fun _ h9 => h9) rfl dX1_removeAt_4 ?_
      refine lv_icmp_ge (tgt := 22) hx hb dX1_removeAt_7 (by decide) (fun c_1 => ?_) (fun c_1 => ?_)
      · have hf := ite_t c_1 hf
        exact B22 x1 g_edges g_low g_high g_degree g_turns _ _ _ (lv_sub hl [0, 1] rfl) hP hD hS hf
      · have hf := ite_f c_1 hf
        refine lv_aload_n hx hb dX1_removeAt_10 rfl (lv_at hl 0 rfl) ?_
        refine lv_iload_n hx hb dX1_removeAt_11 rfl (lv_at hl 2 rfl) ?_
        refine lv_iload_n hx hb dX1_removeAt_12 rfl (lv_at hl 1 rfl) ?_
        obtain ⟨r_2, hcr_2, hf⟩ := bd1_s hf
        refine backWv (w2 := (wX1 cA a_g g_nodes g_edges g_outer g_low g_high r_2.1 r_2.2)) (runVw C (c_X1_closeSlots l D cA a_g g_nodes g_edges g_outer g_low g_high g_degree g_turns x2 x1 _ N r_2 hcr_2) cf_X1_closeSlots km_X1_66 ⟨rfl, rfl, by decide, by decide⟩ ⟨Nat.zero_le _, Nat.zero_le _⟩ (va_recv hK.1 hP (ci := 1) (q0 := 0) rfl rfl) (hP.sub [0, 1, 2, 3, 4] rfl) (hD.sub [0, 1, 2, 3, 4] rfl rfl) hK hl.1 rfl rfl (Nat.le_of_ble_eq_true rfl) dX1_removeAt_13) hP hD hS hA [0, 1, 2, 3, 4] rfl [] rfl rfl (by decide) [0, 1, 2, 3, 4] rfl rfl (fun H locs hP hD hS => ?_)
        refine lv_iinc (v := (x2 + 1)) (lv' := [(2, .int (x2 + 1)), (0, .ref (a_g 0)), (1, .int x1)]) hx hb dX1_removeAt_16 hl (k := 2) rfl rfl (by decide) rfl (fun ls hl => ?_)
        refine lv_goto (tgt := 2) hx hb dX1_removeAt_19 (by decide) ?_
        exact ih2 x1 (x2 + 1) g_edges g_low g_high r_2.1 r_2.2 _ _ _ (lv_sub hl [1, 2, 0] rfl) hP hD hS hf
  refine lv_iconst (v := 0) hx hb dX1_removeAt_0 (by decide) ?_
  refine lv_istore_n (lv' := [(2, .int 0), (0, .ref (a_g 0)), (1, .int p1)]) hx hb dX1_removeAt_1 rfl hl (by decide) rfl (fun ls hl => ?_)
  exact B2 N p1 0 g_edges g_low g_high g_degree g_turns _ _ _ (lv_sub hl [1, 2, 0] rfl) hP hD hS hf
set_option maxRecDepth 100000 in
set_option maxHeartbeats 4000000 in
theorem c_X1_reverseAll (l : Launch) (D : va_G) (cA : Nat → ClassId) (a_g : Nat → Nat) (g_nodes : Int32) (g_edges : Int32) (g_outer : Int32) (g_low : Nat → Int32) (g_high : Nat → Int32) (g_degree : Nat → Int32) (g_turns : Nat → Int32) (sz N : Nat) (ρ : (Nat → Int32)) (hf : f_X1_reverseAll N g_nodes g_degree g_turns = some ρ) : Met l yX1_reverseAll (Cond.code yX1_reverseAll cX1_reverseAll 5 (Option.none : Option Jvm.ClassFile.FieldType) :: lw_g) ({ frames := 0, cells := 0, slots := 0, locals := 0 } : Room) (PcW D (tyA cA) (wX1 cA a_g g_nodes g_edges g_outer g_low g_high g_degree g_turns) sz [.ref (a_g 0)]) (va_Qv (fun (_ : Unit) => True) (fun _ t => va_P D vwCl (wX1 cA a_g g_nodes g_edges g_outer g_low g_high g_degree ρ) t.heap ∧ va_D (va_A (wX1 cA a_g g_nodes g_edges g_outer g_low g_high g_degree g_turns) sz) (wX1 cA a_g g_nodes g_edges g_outer g_low g_high g_degree ρ)) (va_A (wX1 cA a_g g_nodes g_edges g_outer g_low g_high g_degree g_turns) sz)) 0 0 (va_A (wX1 cA a_g g_nodes g_edges g_outer g_low g_high g_degree g_turns) sz) := by
  refine mkW (QQ := fun A => va_Qv (fun (_ : Unit) => True) (fun _ t => va_P D vwCl (wX1 cA a_g g_nodes g_edges g_outer g_low g_high g_degree ρ) t.heap ∧ va_D A (wX1 cA a_g g_nodes g_edges g_outer g_low g_high g_degree ρ)) A) (by decide) (Nat.le_of_ble_eq_true rfl) fun p e s m below meth c ls A C hl hP hK hD hA hS => ?_
  obtain ⟨hx, hb, hml, hown, hT, hr, hlk⟩ := id C
  have hl : lv_has ls 5 [(0, .ref (a_g 0))] := hl
  have B2 : ∀ (n2 : Nat), ∀ (x1 : Int32) (g_turns : Nat → Int32) (H : Heap) (locs : List Loc) (ls : Array Slot), lv_has ls 5 [(0, .ref (a_g 0)), (1, .int x1)] → va_P D vwCl (wX1 cA a_g g_nodes g_edges g_outer g_low g_high g_degree g_turns) H → va_D A (wX1 cA a_g g_nodes g_edges g_outer g_low g_high g_degree g_turns) → va_S A s.heap H locs → f_X1_reverseAll_b2 N g_nodes g_degree n2 x1 g_turns = some ρ → W p l e ({ frames := 0, cells := 0, slots := 0, locals := 0 } : Room) s m ([.ref (a_g 0)] : List Value).toArray below meth c H locs 0 0 (MQ below (va_Qv (fun (_ : Unit) => True) (fun _ t => va_P D vwCl (wX1 cA a_g g_nodes g_edges g_outer g_low g_high g_degree ρ) t.heap ∧ va_D A (wX1 cA a_g g_nodes g_edges g_outer g_low g_high g_degree ρ)) A) ([.ref (a_g 0)] : List Value).toArray s 0 0 A) (F0 m 2 ls []) := by
    intro n2
    induction n2 with
    | zero =>
      intro x1 g_turns H locs ls hl hP hD hS hf
      cases (show (none : Option ((Nat → Int32))) = some ρ from hf)
    | succ n2 ih2 =>
      have B68 : ∀ (x1 : Int32) (g_turns : Nat → Int32) (H : Heap) (locs : List Loc) (ls : Array Slot), lv_has ls 5 [(0, .ref (a_g 0)), (1, .int x1)] → va_P D vwCl (wX1 cA a_g g_nodes g_edges g_outer g_low g_high g_degree g_turns) H → va_D A (wX1 cA a_g g_nodes g_edges g_outer g_low g_high g_degree g_turns) → va_S A s.heap H locs → f_X1_reverseAll_b68 N g_nodes g_degree (f_X1_reverseAll_b2 N g_nodes g_degree n2) x1 g_turns = some ρ → W p l e ({ frames := 0, cells := 0, slots := 0, locals := 0 } : Room) s m ([.ref (a_g 0)] : List Value).toArray below meth c H locs 0 0 (MQ below (va_Qv (fun (_ : Unit) => True) (fun _ t => va_P D vwCl (wX1 cA a_g g_nodes g_edges g_outer g_low g_high g_degree ρ) t.heap ∧ va_D A (wX1 cA a_g g_nodes g_edges g_outer g_low g_high g_degree ρ)) A) ([.ref (a_g 0)] : List Value).toArray s 0 0 A) (F0 m 68 ls []) := by
        intro x1 g_turns H locs ls hl hP hD hS hf
        refine lv_iinc (v := (x1 + 1)) (lv' := [(1, .int (x1 + 1)), (0, .ref (a_g 0))]) hx hb dX1_reverseAll_68 hl (k := 1) rfl rfl (by decide) rfl (fun ls hl => ?_)
        refine lv_goto (tgt := 2) hx hb dX1_reverseAll_71 (by decide) ?_
        exact ih2 (x1 + 1) g_turns _ _ _ (lv_sub hl [1, 0] rfl) hP hD hS hf
      have B26 : ∀ (n26 : Nat), ∀ (x1 : Int32) (x2 : Int32) (x3 : Int32) (g_turns : Nat → Int32) (H : Heap) (locs : List Loc) (ls : Array Slot), lv_has ls 5 [(0, .ref (a_g 0)), (1, .int x1), (2, .int x2), (3, .int x3)] → va_P D vwCl (wX1 cA a_g g_nodes g_edges g_outer g_low g_high g_degree g_turns) H → va_D A (wX1 cA a_g g_nodes g_edges g_outer g_low g_high g_degree g_turns) → va_S A s.heap H locs → f_X1_reverseAll_b26 N g_nodes g_degree (f_X1_reverseAll_b2 N g_nodes g_degree n2) n26 x1 x2 x3 g_turns = some ρ → W p l e ({ frames := 0, cells := 0, slots := 0, locals := 0 } : Room) s m ([.ref (a_g 0)] : List Value).toArray below meth c H locs 0 0 (MQ below (va_Qv (fun (_ : Unit) => True) (fun _ t => va_P D vwCl (wX1 cA a_g g_nodes g_edges g_outer g_low g_high g_degree ρ) t.heap ∧ va_D A (wX1 cA a_g g_nodes g_edges g_outer g_low g_high g_degree ρ)) A) ([.ref (a_g 0)] : List Value).toArray s 0 0 A) (F0 m 26 ls []) := by
        intro n26
        induction n26 with
        | zero =>
          intro x1 x2 x3 g_turns H locs ls hl hP hD hS hf
          cases (show (none : Option ((Nat → Int32))) = some ρ from hf)
        | succ n26 ih26 =>
          intro x1 x2 x3 g_turns H locs ls hl hP hD hS hf
          refine lv_iload_n hx hb dX1_reverseAll_26 rfl (lv_at hl 2 rfl) ?_
          refine lv_iload_n hx hb dX1_reverseAll_27 rfl (lv_at hl 3 rfl) ?_
          refine lv_icmp_ge (tgt := 68) hx hb dX1_reverseAll_28 (by decide) (fun c_5 => ?_) (fun c_5 => ?_)
          · have hf := ite_t c_5 hf
            exact B68 x1 g_turns _ _ _ (lv_sub hl [0, 1] rfl) hP hD hS hf
          · have hf := ite_f c_5 hf
            refine lv_aload_n hx hb dX1_reverseAll_31 rfl (lv_at hl 0 rfl) ?_
            refine va_get (D := D) (ci := 1) (C := RX1) (T := TX1) (N := 7) hx hb hT kwX1 hown hK.1 hP 0 rfl rfl 6 (by decide) (hT _ kf_X1_25) (fun _ h9 => h9) rfl dX1_reverseAll_32 ?_
            refine lv_iload_n hx hb dX1_reverseAll_35 rfl (lv_at hl 2 rfl) ?_
            obtain ⟨h_6, hf⟩ := chk_s hf
            refine va_iald hx hb hK.1 hP 4 0 rfl rfl (inb_in h_6) dX1_reverseAll_36 ?_
            refine lv_topi (fun x4_7 ex4_7 => ?_)
            have hf := nm_t ex4_7 hf
            refine lv_istore (lv' := [(4, .int x4_7), (0, .ref (a_g 0)), (1, .int x1), (2, .int x2), (3, .int x3)]) hx hb dX1_reverseAll_37 hl (by decide) rfl (fun ls hl => ?_)
            refine lv_aload_n hx hb dX1_reverseAll_39 rfl (lv_at hl 1 rfl) ?_
            refine va_get (D := D) (ci := 1) (C := RX1) (T := TX1) (N := 7) hx hb hT kwX1 hown hK.1 hP 0 rfl rfl 6 (by decide) (hT _ kf_X1_25) (fun _ h9 => h9) rfl dX1_reverseAll_40 ?_
            refine lv_iload_n hx hb dX1_reverseAll_43 rfl (lv_at hl 3 rfl) ?_
            refine lv_aload_n hx hb dX1_reverseAll_44 rfl (lv_at hl 1 rfl) ?_
            refine va_get (D := D) (ci := 1) (C := RX1) (T := TX1) (N := 7) hx hb hT kwX1 hown hK.1 hP 0 rfl rfl 6 (by decide) (hT _ kf_X1_25) (fun _ h9 => h9) rfl dX1_reverseAll_45 ?_
            refine lv_iload_n hx hb dX1_reverseAll_48 rfl (lv_at hl 4 rfl) ?_
            obtain ⟨h_8, hf⟩ := chk_s hf
            refine va_iald hx hb hK.1 hP 4 0 rfl rfl (inb_in h_8) dX1_reverseAll_49 ?_
            obtain ⟨h_9, hf⟩ := chk_s hf
            refine va_iast hx hb hK.1 hP hD hS 4 0 rfl rfl (inb_in h_9) dX1_reverseAll_50 (fun H locs hP hD hS => ?_)
            have hP : va_P D vwCl (wX1 cA a_g g_nodes g_edges g_outer g_low g_high g_degree (upd g_turns x2.toNatClampNeg (g_turns x3.toNatClampNeg))) H := hP
            have hD : va_D A (wX1 cA a_g g_nodes g_edges g_outer g_low g_high g_degree (upd g_turns x2.toNatClampNeg (g_turns x3.toNatClampNeg))) := hD
            refine lv_aload_n hx hb dX1_reverseAll_51 rfl (lv_at hl 1 rfl) ?_
            refine va_get (D := D) (ci := 1) (C := RX1) (T := TX1) (N := 7) hx hb hT kwX1 hown hK.1 hP 0 rfl rfl 6 (by decide) (hT _ kf_X1_25) (fun _ h9 => h9) rfl dX1_reverseAll_52 ?_
            refine lv_iload_n hx hb dX1_reverseAll_55 rfl (lv_at hl 4 rfl) ?_
            refine lv_iload hx hb dX1_reverseAll_56 (lv_at hl 0 rfl) ?_
            obtain ⟨h_10, hf⟩ := chk_s hf
            refine va_iast hx hb hK.1 hP hD hS 4 0 rfl rfl (inb_in h_10) dX1_reverseAll_58 (fun H locs hP hD hS => ?_)
            have hP : va_P D vwCl (wX1 cA a_g g_nodes g_edges g_outer g_low g_high g_degree (upd (upd g_turns x2.toNatClampNeg (g_turns x3.toNatClampNeg)) x3.toNatClampNeg x4_7)) H := hP
            have hD : va_D A (wX1 cA a_g g_nodes g_edges g_outer g_low g_high g_degree (upd (upd g_turns x2.toNatClampNeg (g_turns x3.toNatClampNeg)) x3.toNatClampNeg x4_7)) := hD
            refine lv_iinc (v := (x2 + 1)) (lv' := [(2, .int (x2 + 1)), (4, .int x4_7), (0, .ref (a_g 0)), (1, .int x1), (3, .int x3)]) hx hb dX1_reverseAll_59 hl (k := 3) rfl rfl (by decide) rfl (fun ls hl => ?_)
            refine lv_iinc (v := (x3 + (-1))) (lv' := [(3, .int (x3 + (-1))), (2, .int (x2 + 1)), (4, .int x4_7), (0, .ref (a_g 0)), (1, .int x1)]) hx hb dX1_reverseAll_62 hl (k := 4) rfl rfl (by decide) rfl (fun ls hl => ?_)
            refine lv_goto (tgt := 26) hx hb dX1_reverseAll_65 (by decide) ?_
            exact ih26 x1 (x2 + 1) (x3 + (-1)) (upd (upd g_turns x2.toNatClampNeg (g_turns x3.toNatClampNeg)) x3.toNatClampNeg x4_7) _ _ _ (lv_sub hl [3, 4, 1, 0] rfl) hP hD hS hf
      intro x1 g_turns H locs ls hl hP hD hS hf
      refine lv_iload_n hx hb dX1_reverseAll_2 rfl (lv_at hl 1 rfl) ?_
      refine lv_aload_n hx hb dX1_reverseAll_3 rfl (lv_at hl 0 rfl) ?_
      refine va_get (D := D) (ci := 1) (C := RX1) (T := TX1) (N := 7) hx hb hT kwX1 hown hK.1 hP 0 rfl rfl 0 (by decide) (hT _ kf_X1_9) (fun _ h9 => h9) rfl dX1_reverseAll_4 ?_
      refine lv_icmp_ge (tgt := 74) hx hb dX1_reverseAll_7 (by decide) (fun c_1 => ?_) (fun c_1 => ?_)
      · have hf := ite_t c_1 hf
        have eR := some_i hf
        exact W.vret hx hb hr (fun t ht hW => ⟨⟨(), rfl, trivial, by rw [← eR, ht]; exact hP, by rw [← eR]; exact hD⟩, hS.F ht⟩) hS.2.2 dX1_reverseAll_74 (hlocks := hlk)
      · have hf := ite_f c_1 hf
        refine lv_iload_n hx hb dX1_reverseAll_10 rfl (lv_at hl 1 rfl) ?_
        refine lv_bipush (v := 8) hx hb dX1_reverseAll_11 (by decide) ?_
        refine lv_imul hx hb dX1_reverseAll_13 ?_
        refine lv_topi (fun x2_2 ex2_2 => ?_)
        have hf := nm_t ex2_2 hf
        refine lv_istore_n (lv' := [(2, .int x2_2), (0, .ref (a_g 0)), (1, .int x1)]) hx hb dX1_reverseAll_14 rfl hl (by decide) rfl (fun ls hl => ?_)
        refine lv_iload_n hx hb dX1_reverseAll_15 rfl (lv_at hl 0 rfl) ?_
        refine lv_aload_n hx hb dX1_reverseAll_16 rfl (lv_at hl 1 rfl) ?_
        refine va_get (D := D) (ci := 1) (C := RX1) (T := TX1) (N := 7) hx hb hT kwX1 hown hK.1 hP 0 rfl rfl 5 (by decide) (hT _ kf_X1_22) (fun _ h9 => h9) rfl dX1_reverseAll_17 ?_
        refine lv_iload_n hx hb dX1_reverseAll_20 rfl (lv_at hl 2 rfl) ?_
        obtain ⟨h_3, hf⟩ := chk_s hf
        refine va_iald hx hb hK.1 hP 3 0 rfl rfl (inb_in h_3) dX1_reverseAll_21 ?_
        refine lv_iadd hx hb dX1_reverseAll_22 ?_
        refine lv_iconst (v := 1) hx hb dX1_reverseAll_23 (by decide) ?_
        refine lv_isub hx hb dX1_reverseAll_24 ?_
        refine lv_topi (fun x3_4 ex3_4 => ?_)
        have hf := nm_t ex3_4 hf
        refine lv_istore_n (lv' := [(3, .int x3_4), (2, .int x2_2), (0, .ref (a_g 0)), (1, .int x1)]) hx hb dX1_reverseAll_25 rfl hl (by decide) rfl (fun ls hl => ?_)
        exact B26 N x1 x2_2 x3_4 g_turns _ _ _ (lv_sub hl [2, 3, 1, 0] rfl) hP hD hS hf
  refine lv_iconst (v := 0) hx hb dX1_reverseAll_0 (by decide) ?_
  refine lv_istore_n (lv' := [(1, .int 0), (0, .ref (a_g 0))]) hx hb dX1_reverseAll_1 rfl hl (by decide) rfl (fun ls hl => ?_)
  exact B2 N 0 g_turns _ _ _ (lv_sub hl [1, 0] rfl) hP hD hS hf
set_option maxRecDepth 100000 in
set_option maxHeartbeats 4000000 in
theorem c_X7_bitsOf (l : Launch) (D : va_G) (cA : Nat → ClassId) (p0 : UInt32) (N : Nat) (ρ : Int32) (hf : f_X7_bitsOf N p0 = some ρ) : Met l yX7_bitsOf (Cond.code yX7_bitsOf cX7_bitsOf 4 (Option.some Jvm.ClassFile.FieldType.int) :: lw_g) ({ frames := 0, cells := 0, slots := 0, locals := 0 } : Room) (PcS D (tyA cA) ([] : va_W) [.float p0]) (vp_Si (fun r => r = ρ)) 0 0 (fun _ => False) := by
  refine mkS (by decide +kernel) (Nat.le_of_ble_eq_true rfl) fun p e s m below meth c ls C hl hP hK => ?_
  obtain ⟨hx, hb, hml, hown, hT, hr, hlk⟩ := id C
  have hl : lv_has ls 4 [(0, .float p0)] := hl
  have B37 : ∀ (x1 : UInt32) (x2 : Int32) (ls : Array Slot), lv_has ls 4 [(1, .float x1), (2, .int x2)] → f_X7_bitsOf_b37 N x1 x2 = some ρ → W p l e ({ frames := 0, cells := 0, slots := 0, locals := 0 } : Room) s m ([.float p0] : List Value).toArray below meth c s.heap [] 0 0 (MQ below (vp_Si (fun r => r = ρ)) ([.float p0] : List Value).toArray s 0 0 (fun _ => False)) (F0 m 37 ls []) := by
    intro x1 x2 ls hl hf
    refine lv_fload_n hx hb dX7_bitsOf_37 rfl (lv_at hl 0 rfl) ?_
    refine lv_f2i hx hb dX7_bitsOf_38 ?_
    refine lv_topi (fun x3_6 ex3_6 => ?_)
    have hf := nm_t ex3_6 hf
    refine lv_istore_n (lv' := [(3, .int x3_6), (1, .float x1), (2, .int x2)]) hx hb dX7_bitsOf_39 rfl hl (by decide) rfl (fun ls hl => ?_)
    refine lv_iload_n hx hb dX7_bitsOf_40 rfl (lv_at hl 0 rfl) ?_
    refine lv_ldcw hx hb hown (hT _ ko_3_235) dX7_bitsOf_41 ?_
    refine lv_icmp_ge (tgt := 51) hx hb dX7_bitsOf_44 (by decide) (fun c_7 => ?_) (fun c_7 => ?_)
    · have hf := ite_t c_7 hf
      refine lv_iload_n hx hb dX7_bitsOf_51 rfl (lv_at hl 2 rfl) ?_
      refine lv_bipush (v := 23) hx hb dX7_bitsOf_52 (by decide) ?_
      refine lv_ishl hx hb dX7_bitsOf_54 ?_
      refine lv_iload_n hx hb dX7_bitsOf_55 rfl (lv_at hl 0 rfl) ?_
      refine lv_ldcw hx hb hown (hT _ ko_3_235) dX7_bitsOf_56 ?_
      refine lv_isub hx hb dX7_bitsOf_59 ?_
      refine lv_iadd hx hb dX7_bitsOf_60 ?_
      exact W.iret hx hb hr (fun t ht hW => ⟨_, rfl, some_i hf, ht⟩) (fun _ h => by cases h) dX7_bitsOf_61 (hlocks := hlk)
    · have hf := ite_f c_7 hf
      refine lv_iload_n hx hb dX7_bitsOf_47 rfl (lv_at hl 0 rfl) ?_
      refine lv_goto (tgt := 61) hx hb dX7_bitsOf_48 (by decide) ?_
      exact W.iret hx hb hr (fun t ht hW => ⟨_, rfl, some_i hf, ht⟩) (fun _ h => by cases h) dX7_bitsOf_61 (hlocks := hlk)
  have B14 : ∀ (n14 : Nat), ∀ (x1 : UInt32) (x2 : Int32) (ls : Array Slot), lv_has ls 4 [(1, .float x1), (2, .int x2)] → f_X7_bitsOf_b14 N n14 x1 x2 = some ρ → W p l e ({ frames := 0, cells := 0, slots := 0, locals := 0 } : Room) s m ([.float p0] : List Value).toArray below meth c s.heap [] 0 0 (MQ below (vp_Si (fun r => r = ρ)) ([.float p0] : List Value).toArray s 0 0 (fun _ => False)) (F0 m 14 ls []) := by
    intro n14
    induction n14 with
    | zero =>
      intro x1 x2 ls hl hf
      cases (show (none : Option (Int32)) = some ρ from hf)
    | succ n14 ih14 =>
      intro x1 x2 ls hl hf
      refine lv_fload_n hx hb dX7_bitsOf_14 rfl (lv_at hl 0 rfl) ?_
      refine lv_ldcfw hx hb hown (hT _ ko_3_234) dX7_bitsOf_15 ?_
      refine lv_fcmp hx hb dX7_bitsOf_18 ?_
      refine lv_if_ge (tgt := 37) hx hb dX7_bitsOf_19 (by decide) (fun c_2 => ?_) (fun c_2 => ?_)
      · have hf := ite_t c_2 hf
        exact B37 x1 x2 _ (lv_sub hl [0, 1] rfl) hf
      · have hf := ite_f c_2 hf
        refine lv_iload_n hx hb dX7_bitsOf_22 rfl (lv_at hl 1 rfl) ?_
        refine lv_iconst (v := 1) hx hb dX7_bitsOf_23 (by decide) ?_
        refine lv_icmp_le (tgt := 37) hx hb dX7_bitsOf_24 (by decide) (fun c_3 => ?_) (fun c_3 => ?_)
        · have hf := ite_t c_3 hf
          exact B37 x1 x2 _ (lv_sub hl [0, 1] rfl) hf
        · have hf := ite_f c_3 hf
          refine lv_fload_n hx hb dX7_bitsOf_27 rfl (lv_at hl 0 rfl) ?_
          refine lv_fconst2 hx hb dX7_bitsOf_28 ?_
          obtain ⟨h_4, hf⟩ := chk_s hf
          refine lv_fmul hx hb dX7_bitsOf_29 (nn_n h_4) ?_
          refine lv_topf (fun x1_5 ex1_5 => ?_)
          have hf := nm_t ex1_5 hf
          refine lv_fstore_n (lv' := [(1, .float x1_5), (2, .int x2)]) hx hb dX7_bitsOf_30 rfl hl (by decide) rfl (fun ls hl => ?_)
          refine lv_iinc (v := (x2 + (-1))) (lv' := [(2, .int (x2 + (-1))), (1, .float x1_5)]) hx hb dX7_bitsOf_31 hl (k := 1) rfl rfl (by decide) rfl (fun ls hl => ?_)
          refine lv_goto (tgt := 14) hx hb dX7_bitsOf_34 (by decide) ?_
          exact ih14 x1_5 (x2 + (-1)) _ (lv_sub hl [1, 0] rfl) hf
  refine lv_fload_n hx hb dX7_bitsOf_0 rfl (lv_at hl 0 rfl) ?_
  refine lv_fconst0 hx hb dX7_bitsOf_1 ?_
  refine lv_fcmp hx hb dX7_bitsOf_2 ?_
  refine lv_if_gt (tgt := 8) hx hb dX7_bitsOf_3 (by decide) (fun c_1 => ?_) (fun c_1 => ?_)
  · have hf := ite_t c_1 hf
    refine lv_fload_n hx hb dX7_bitsOf_8 rfl (lv_at hl 0 rfl) ?_
    refine lv_fstore_n (lv' := [(1, .float p0), (0, .float p0)]) hx hb dX7_bitsOf_9 rfl hl (by decide) rfl (fun ls hl => ?_)
    refine lv_sipush (v := 150) hx hb dX7_bitsOf_10 (by decide) ?_
    refine lv_istore_n (lv' := [(2, .int 150), (1, .float p0), (0, .float p0)]) hx hb dX7_bitsOf_13 rfl hl (by decide) rfl (fun ls hl => ?_)
    exact B14 N p0 150 _ (lv_sub hl [1, 0] rfl) hf
  · have hf := ite_f c_1 hf
    refine lv_iconst (v := 0) hx hb dX7_bitsOf_6 (by decide) ?_
    exact W.iret hx hb hr (fun t ht hW => ⟨_, rfl, some_i hf, ht⟩) (fun _ h => by cases h) dX7_bitsOf_7 (hlocks := hlk)
set_option maxRecDepth 100000 in
set_option maxHeartbeats 4000000 in
theorem c_X7_contains (l : Launch) (D : va_G) (cA : Nat → ClassId) (p0 : Int32) (p1 : Int32) (N : Nat) (ρ : Int32) (hf : f_X7_contains N p0 p1 = some ρ) : Met l yX7_contains (Cond.code yX7_contains cX7_contains 2 (Option.some Jvm.ClassFile.FieldType.boolean) :: lw_g) ({ frames := 0, cells := 0, slots := 0, locals := 0 } : Room) (PcS D (tyA cA) ([] : va_W) [.int p0, .int p1]) (vp_Si (fun r => r = ρ)) 0 0 (fun _ => False) := by
  refine mkS (by decide +kernel) (Nat.le_of_ble_eq_true rfl) fun p e s m below meth c ls C hl hP hK => ?_
  obtain ⟨hx, hb, hml, hown, hT, hr, hlk⟩ := id C
  have hl : lv_has ls 2 [(0, .int p0), (1, .int p1)] := hl
  refine lv_iload_n hx hb dX7_contains_0 rfl (lv_at hl 0 rfl) ?_
  refine lv_iload_n hx hb dX7_contains_1 rfl (lv_at hl 1 rfl) ?_
  refine lv_ishr hx hb dX7_contains_2 ?_
  refine lv_iconst (v := 1) hx hb dX7_contains_3 (by decide) ?_
  refine lv_iand hx hb dX7_contains_4 ?_
  refine lv_if_eq (tgt := 12) hx hb dX7_contains_5 (by decide) (fun c_1 => ?_) (fun c_1 => ?_)
  · have hf := ite_t c_1 hf
    refine lv_iconst (v := 0) hx hb dX7_contains_12 (by decide) ?_
    exact W.zret hx hb hr (by decide) (fun t ht hW => ⟨_, rfl, some_i hf, ht⟩) (fun _ h => by cases h) dX7_contains_13 (hlocks := hlk)
  · have hf := ite_f c_1 hf
    refine lv_iconst (v := 1) hx hb dX7_contains_8 (by decide) ?_
    refine lv_goto (tgt := 13) hx hb dX7_contains_9 (by decide) ?_
    exact W.zret hx hb hr (by decide) (fun t ht hW => ⟨_, rfl, some_i hf, ht⟩) (fun _ h => by cases h) dX7_contains_13 (hlocks := hlk)
set_option maxRecDepth 100000 in
set_option maxHeartbeats 4000000 in
theorem c_X7_isRounds (l : Launch) (D : va_G) (cA : Nat → ClassId) (p0 : Int32) (N : Nat) (ρ : Int32) (hf : f_X7_isRounds N p0 = some ρ) : Met l yX7_isRounds (Cond.code yX7_isRounds cX7_isRounds 1 (Option.some Jvm.ClassFile.FieldType.boolean) :: lw_g) ({ frames := 0, cells := 0, slots := 0, locals := 0 } : Room) (PcS D (tyA cA) ([] : va_W) [.int p0]) (vp_Si (fun r => r = ρ)) 0 0 (fun _ => False) := by
  refine mkS (by decide +kernel) (Nat.le_of_ble_eq_true rfl) fun p e s m below meth c ls C hl hP hK => ?_
  obtain ⟨hx, hb, hml, hown, hT, hr, hlk⟩ := id C
  have hl : lv_has ls 1 [(0, .int p0)] := hl
  refine lv_iload_n hx hb dX7_isRounds_0 rfl (lv_at hl 0 rfl) ?_
  refine lv_if_lt (tgt := 14) hx hb dX7_isRounds_1 (by decide) (fun c_1 => ?_) (fun c_1 => ?_)
  · have hf := ite_t c_1 hf
    refine lv_iconst (v := 0) hx hb dX7_isRounds_14 (by decide) ?_
    exact W.zret hx hb hr (by decide) (fun t ht hW => ⟨_, rfl, some_i hf, ht⟩) (fun _ h => by cases h) dX7_isRounds_15 (hlocks := hlk)
  · have hf := ite_f c_1 hf
    refine lv_iload_n hx hb dX7_isRounds_4 rfl (lv_at hl 0 rfl) ?_
    refine lv_bipush (v := 50) hx hb dX7_isRounds_5 (by decide) ?_
    refine lv_icmp_gt (tgt := 14) hx hb dX7_isRounds_7 (by decide) (fun c_2 => ?_) (fun c_2 => ?_)
    · have hf := ite_t c_2 hf
      refine lv_iconst (v := 0) hx hb dX7_isRounds_14 (by decide) ?_
      exact W.zret hx hb hr (by decide) (fun t ht hW => ⟨_, rfl, some_i hf, ht⟩) (fun _ h => by cases h) dX7_isRounds_15 (hlocks := hlk)
    · have hf := ite_f c_2 hf
      refine lv_iconst (v := 1) hx hb dX7_isRounds_10 (by decide) ?_
      refine lv_goto (tgt := 15) hx hb dX7_isRounds_11 (by decide) ?_
      exact W.zret hx hb hr (by decide) (fun t ht hW => ⟨_, rfl, some_i hf, ht⟩) (fun _ h => by cases h) dX7_isRounds_15 (hlocks := hlk)
set_option maxRecDepth 100000 in
set_option maxHeartbeats 4000000 in
theorem c_X7_neighboursOf (l : Launch) (D : va_G) (cA : Nat → ClassId) (a_nr : Nat) (nr_a : Nat → Int32) (p0 : Int32) (N : Nat) (ρ : Int32) (hf : f_X7_neighboursOf N nr_a p0 = some ρ) : Met l yX7_neighboursOf (Cond.code yX7_neighboursOf cX7_neighboursOf 4 (Option.some Jvm.ClassFile.FieldType.int) :: lw_g) ({ frames := 1, cells := 0, slots := 0, locals := 21 } : Room) (PcS D (tyA cA) (wA cA a_nr nr_a) [.int p0, .ref a_nr]) (vp_Si (fun r => r = ρ)) 0 0 (fun _ => False) := by
  refine mkS (by decide +kernel) (Nat.le_of_ble_eq_true rfl) fun p e s m below meth c ls C hl hP hK => ?_
  obtain ⟨hx, hb, hml, hown, hT, hr, hlk⟩ := id C
  have hl : lv_has ls 4 [(0, .int p0), (1, .ref a_nr)] := hl
  have B4 : ∀ (n4 : Nat), ∀ (x0 : Int32) (x2 : Int32) (x3 : Int32) (ls : Array Slot), lv_has ls 4 [(0, .int x0), (1, .ref a_nr), (2, .int x2), (3, .int x3)] → f_X7_neighboursOf_b4 N nr_a n4 x0 x2 x3 = some ρ → W p l e ({ frames := 1, cells := 0, slots := 0, locals := 21 } : Room) s m ([.int p0, .ref a_nr] : List Value).toArray below meth c s.heap [] 0 0 (MQ below (vp_Si (fun r => r = ρ)) ([.int p0, .ref a_nr] : List Value).toArray s 0 0 (fun _ => False)) (F0 m 4 ls []) := by
    intro n4
    induction n4 with
    | zero =>
      intro x0 x2 x3 ls hl hf
      cases (show (none : Option (Int32)) = some ρ from hf)
    | succ n4 ih4 =>
      have B24 : ∀ (x0 : Int32) (x2 : Int32) (x3 : Int32) (ls : Array Slot), lv_has ls 4 [(0, .int x0), (1, .ref a_nr), (2, .int x2), (3, .int x3)] → f_X7_neighboursOf_b24 N nr_a (f_X7_neighboursOf_b4 N nr_a n4) x0 x2 x3 = some ρ → W p l e ({ frames := 1, cells := 0, slots := 0, locals := 21 } : Room) s m ([.int p0, .ref a_nr] : List Value).toArray below meth c s.heap [] 0 0 (MQ below (vp_Si (fun r => r = ρ)) ([.int p0, .ref a_nr] : List Value).toArray s 0 0 (fun _ => False)) (F0 m 24 ls []) := by
        intro x0 x2 x3 ls hl hf
        refine lv_iinc (v := (x3 + 1)) (lv' := [(3, .int (x3 + 1)), (0, .int x0), (1, .ref a_nr), (2, .int x2)]) hx hb dX7_neighboursOf_24 hl (k := 3) rfl rfl (by decide) rfl (fun ls hl => ?_)
        refine lv_goto (tgt := 4) hx hb dX7_neighboursOf_27 (by decide) ?_
        exact ih4 x0 x2 (x3 + 1) _ (lv_sub hl [1, 2, 3, 0] rfl) hf
      intro x0 x2 x3 ls hl hf
      refine lv_iload_n hx hb dX7_neighboursOf_4 rfl (lv_at hl 3 rfl) ?_
      refine lv_bipush (v := 9) hx hb dX7_neighboursOf_5 (by decide) ?_
      refine lv_icmp_ge (tgt := 30) hx hb dX7_neighboursOf_7 (by decide) (fun c_1 => ?_) (fun c_1 => ?_)
      · have hf := ite_t c_1 hf
        refine lv_iload_n hx hb dX7_neighboursOf_30 rfl (lv_at hl 2 rfl) ?_
        exact W.iret hx hb hr (fun t ht hW => ⟨_, rfl, some_i hf, ht⟩) (fun _ h => by cases h) dX7_neighboursOf_31 (hlocks := hlk)
      · have hf := ite_f c_1 hf
        refine lv_iload_n hx hb dX7_neighboursOf_10 rfl (lv_at hl 0 rfl) ?_
        refine lv_iload_n hx hb dX7_neighboursOf_11 rfl (lv_at hl 3 rfl) ?_
        obtain ⟨r_2, hcr_2, hf⟩ := bd1_s hf
        refine backI (runS0 C (c_X7_contains l D cA x0 x3 N r_2 hcr_2) cf_X7_contains km_X7_233 ⟨rfl, rfl, by decide, by decide⟩ ⟨Nat.zero_le _, Nat.zero_le _⟩ (hP.sub [] rfl) hK hl.1 rfl rfl (Nat.le_of_ble_eq_true rfl) dX7_neighboursOf_12) ?_
        refine lv_if_eq (tgt := 24) hx hb dX7_neighboursOf_15 (by decide) (fun c_3 => ?_) (fun c_3 => ?_)
        · have hf := ite_t c_3 hf
          exact B24 x0 x2 x3 _ (lv_sub hl [0, 1, 2, 3] rfl) hf
        · have hf := ite_f c_3 hf
          refine lv_iload_n hx hb dX7_neighboursOf_18 rfl (lv_at hl 2 rfl) ?_
          refine lv_aload_n hx hb dX7_neighboursOf_19 rfl (lv_at hl 1 rfl) ?_
          refine lv_iload_n hx hb dX7_neighboursOf_20 rfl (lv_at hl 3 rfl) ?_
          obtain ⟨h_4, hf⟩ := chk_s hf
          refine va_iald hx hb hK.1 hP 0 0 rfl rfl (inb_in h_4) dX7_neighboursOf_21 ?_
          refine lv_ior hx hb dX7_neighboursOf_22 ?_
          refine lv_topi (fun x2_5 ex2_5 => ?_)
          have hf := nm_t ex2_5 hf
          refine lv_istore_n (lv' := [(2, .int x2_5), (0, .int x0), (1, .ref a_nr), (3, .int x3)]) hx hb dX7_neighboursOf_23 rfl hl (by decide) rfl (fun ls hl => ?_)
          exact B24 x0 x2_5 x3 _ (lv_sub hl [1, 2, 0, 3] rfl) hf
  refine lv_iconst (v := 0) hx hb dX7_neighboursOf_0 (by decide) ?_
  refine lv_istore_n (lv' := [(2, .int 0), (0, .int p0), (1, .ref a_nr)]) hx hb dX7_neighboursOf_1 rfl hl (by decide) rfl (fun ls hl => ?_)
  refine lv_iconst (v := 0) hx hb dX7_neighboursOf_2 (by decide) ?_
  refine lv_istore_n (lv' := [(3, .int 0), (2, .int 0), (0, .int p0), (1, .ref a_nr)]) hx hb dX7_neighboursOf_3 rfl hl (by decide) rfl (fun ls hl => ?_)
  exact B4 N p0 0 0 _ (lv_sub hl [2, 3, 1, 0] rfl) hf
set_option maxRecDepth 100000 in
set_option maxHeartbeats 4000000 in
theorem c_X7_smallestOf (l : Launch) (D : va_G) (cA : Nat → ClassId) (p0 : Int32) (N : Nat) (ρ : Int32) (hf : f_X7_smallestOf N p0 = some ρ) : Met l yX7_smallestOf (Cond.code yX7_smallestOf cX7_smallestOf 2 (Option.some Jvm.ClassFile.FieldType.int) :: lw_g) ({ frames := 1, cells := 0, slots := 0, locals := 21 } : Room) (PcS D (tyA cA) ([] : va_W) [.int p0]) (vp_Si (fun r => r = ρ)) 0 0 (fun _ => False) := by
  refine mkS (by decide +kernel) (Nat.le_of_ble_eq_true rfl) fun p e s m below meth c ls C hl hP hK => ?_
  obtain ⟨hx, hb, hml, hown, hT, hr, hlk⟩ := id C
  have hl : lv_has ls 2 [(0, .int p0)] := hl
  have B2 : ∀ (n2 : Nat), ∀ (x0 : Int32) (x1 : Int32) (ls : Array Slot), lv_has ls 2 [(0, .int x0), (1, .int x1)] → f_X7_smallestOf_b2 N n2 x0 x1 = some ρ → W p l e ({ frames := 1, cells := 0, slots := 0, locals := 21 } : Room) s m ([.int p0] : List Value).toArray below meth c s.heap [] 0 0 (MQ below (vp_Si (fun r => r = ρ)) ([.int p0] : List Value).toArray s 0 0 (fun _ => False)) (F0 m 2 ls []) := by
    intro n2
    induction n2 with
    | zero =>
      intro x0 x1 ls hl hf
      cases (show (none : Option (Int32)) = some ρ from hf)
    | succ n2 ih2 =>
      intro x0 x1 ls hl hf
      refine lv_iload_n hx hb dX7_smallestOf_2 rfl (lv_at hl 1 rfl) ?_
      refine lv_bipush (v := 9) hx hb dX7_smallestOf_3 (by decide) ?_
      refine lv_icmp_ge (tgt := 24) hx hb dX7_smallestOf_5 (by decide) (fun c_1 => ?_) (fun c_1 => ?_)
      · have hf := ite_t c_1 hf
        refine lv_iconst (v := (-1)) hx hb dX7_smallestOf_24 (by decide) ?_
        exact W.iret hx hb hr (fun t ht hW => ⟨_, rfl, some_i hf, ht⟩) (fun _ h => by cases h) dX7_smallestOf_25 (hlocks := hlk)
      · have hf := ite_f c_1 hf
        refine lv_iload_n hx hb dX7_smallestOf_8 rfl (lv_at hl 0 rfl) ?_
        refine lv_iload_n hx hb dX7_smallestOf_9 rfl (lv_at hl 1 rfl) ?_
        obtain ⟨r_2, hcr_2, hf⟩ := bd1_s hf
        refine backI (runS0 C (c_X7_contains l D cA x0 x1 N r_2 hcr_2) cf_X7_contains km_X7_233 ⟨rfl, rfl, by decide, by decide⟩ ⟨Nat.zero_le _, Nat.zero_le _⟩ (hP.sub [] rfl) hK hl.1 rfl rfl (Nat.le_of_ble_eq_true rfl) dX7_smallestOf_10) ?_
        refine lv_if_eq (tgt := 18) hx hb dX7_smallestOf_13 (by decide) (fun c_3 => ?_) (fun c_3 => ?_)
        · have hf := ite_t c_3 hf
          refine lv_iinc (v := (x1 + 1)) (lv' := [(1, .int (x1 + 1)), (0, .int x0)]) hx hb dX7_smallestOf_18 hl (k := 1) rfl rfl (by decide) rfl (fun ls hl => ?_)
          refine lv_goto (tgt := 2) hx hb dX7_smallestOf_21 (by decide) ?_
          exact ih2 x0 (x1 + 1) _ (lv_sub hl [1, 0] rfl) hf
        · have hf := ite_f c_3 hf
          refine lv_iload_n hx hb dX7_smallestOf_16 rfl (lv_at hl 1 rfl) ?_
          exact W.iret hx hb hr (fun t ht hW => ⟨_, rfl, some_i hf, ht⟩) (fun _ h => by cases h) dX7_smallestOf_17 (hlocks := hlk)
  refine lv_iconst (v := 0) hx hb dX7_smallestOf_0 (by decide) ?_
  refine lv_istore_n (lv' := [(1, .int 0), (0, .int p0)]) hx hb dX7_smallestOf_1 rfl hl (by decide) rfl (fun ls hl => ?_)
  exact B2 N p0 0 _ (lv_sub hl [1, 0] rfl) hf
set_option maxRecDepth 100000 in
set_option maxHeartbeats 4000000 in
theorem c_X7_spread (l : Launch) (D : va_G) (cA : Nat → ClassId) (a_nr : Nat) (nr_a : Nat → Int32) (p0 : Int32) (p1 : Int32) (N : Nat) (ρ : Int32) (hf : f_X7_spread N nr_a p0 p1 = some ρ) : Met l yX7_spread (Cond.code yX7_spread cX7_spread 6 (Option.some Jvm.ClassFile.FieldType.int) :: lw_g) ({ frames := 2, cells := 0, slots := 0, locals := 44 } : Room) (PcS D (tyA cA) (wA cA a_nr nr_a) [.int p0, .int p1, .ref a_nr]) (vp_Si (fun r => r = ρ)) 0 0 (fun _ => False) := by
  refine mkS (by decide +kernel) (Nat.le_of_ble_eq_true rfl) fun p e s m below meth c ls C hl hP hK => ?_
  obtain ⟨hx, hb, hml, hown, hT, hr, hlk⟩ := id C
  have hl : lv_has ls 6 [(0, .int p0), (1, .int p1), (2, .ref a_nr)] := hl
  have B8 : ∀ (n8 : Nat), ∀ (x1 : Int32) (x3 : Int32) (x4 : Int32) (ls : Array Slot), lv_has ls 6 [(1, .int x1), (2, .ref a_nr), (3, .int x3), (4, .int x4)] → f_X7_spread_b8 N nr_a n8 x1 x3 x4 = some ρ → W p l e ({ frames := 2, cells := 0, slots := 0, locals := 44 } : Room) s m ([.int p0, .int p1, .ref a_nr] : List Value).toArray below meth c s.heap [] 0 0 (MQ below (vp_Si (fun r => r = ρ)) ([.int p0, .int p1, .ref a_nr] : List Value).toArray s 0 0 (fun _ => False)) (F0 m 8 ls []) := by
    intro n8
    induction n8 with
    | zero =>
      intro x1 x3 x4 ls hl hf
      cases (show (none : Option (Int32)) = some ρ from hf)
    | succ n8 ih8 =>
      intro x1 x3 x4 ls hl hf
      refine lv_iload hx hb dX7_spread_8 (lv_at hl 3 rfl) ?_
      refine lv_bipush (v := 9) hx hb dX7_spread_10 (by decide) ?_
      refine lv_icmp_ge (tgt := 43) hx hb dX7_spread_12 (by decide) (fun c_2 => ?_) (fun c_2 => ?_)
      · have hf := ite_t c_2 hf
        refine lv_iload_n hx hb dX7_spread_43 rfl (lv_at hl 2 rfl) ?_
        exact W.iret hx hb hr (fun t ht hW => ⟨_, rfl, some_i hf, ht⟩) (fun _ h => by cases h) dX7_spread_44 (hlocks := hlk)
      · have hf := ite_f c_2 hf
        refine lv_iload_n hx hb dX7_spread_15 rfl (lv_at hl 2 rfl) ?_
        refine lv_iload_n hx hb dX7_spread_16 rfl (lv_at hl 2 rfl) ?_
        refine lv_aload_n hx hb dX7_spread_17 rfl (lv_at hl 1 rfl) ?_
        obtain ⟨r_3, hcr_3, hf⟩ := bd1_s hf
        refine backI (runS0 C (c_X7_neighboursOf l D cA a_nr nr_a x3 N r_3 hcr_3) cf_X7_neighboursOf km_X7_273 ⟨rfl, rfl, by decide, by decide⟩ ⟨Nat.zero_le _, Nat.zero_le _⟩ (hP.sub [0] rfl) hK hl.1 rfl rfl (Nat.le_of_ble_eq_true rfl) dX7_spread_18) ?_
        refine lv_iload_n hx hb dX7_spread_21 rfl (lv_at hl 0 rfl) ?_
        refine lv_iand hx hb dX7_spread_22 ?_
        refine lv_ior hx hb dX7_spread_23 ?_
        refine lv_topi (fun x5_4 ex5_4 => ?_)
        have hf := nm_t ex5_4 hf
        refine lv_istore (lv' := [(5, .int x5_4), (1, .int x1), (2, .ref a_nr), (3, .int x3), (4, .int x4)]) hx hb dX7_spread_24 hl (by decide) rfl (fun ls hl => ?_)
        refine lv_iload hx hb dX7_spread_26 (lv_at hl 0 rfl) ?_
        refine lv_iload_n hx hb dX7_spread_28 rfl (lv_at hl 3 rfl) ?_
        refine lv_icmp_ne (tgt := 34) hx hb dX7_spread_29 (by decide) (fun c_5 => ?_) (fun c_5 => ?_)
        · have hf := ite_t c_5 hf
          refine lv_iload hx hb dX7_spread_34 (lv_at hl 0 rfl) ?_
          refine lv_istore_n (lv' := [(3, .int x5_4), (5, .int x5_4), (1, .int x1), (2, .ref a_nr), (4, .int x4)]) hx hb dX7_spread_36 rfl hl (by decide) rfl (fun ls hl => ?_)
          refine lv_iinc (v := (x4 + 1)) (lv' := [(4, .int (x4 + 1)), (3, .int x5_4), (5, .int x5_4), (1, .int x1), (2, .ref a_nr)]) hx hb dX7_spread_37 hl (k := 4) rfl rfl (by decide) rfl (fun ls hl => ?_)
          refine lv_goto (tgt := 8) hx hb dX7_spread_40 (by decide) ?_
          exact ih8 x1 x5_4 (x4 + 1) _ (lv_sub hl [3, 4, 1, 0] rfl) hf
        · have hf := ite_fn c_5 hf
          refine lv_iload_n hx hb dX7_spread_32 rfl (lv_at hl 3 rfl) ?_
          exact W.iret hx hb hr (fun t ht hW => ⟨_, rfl, some_i hf, ht⟩) (fun _ h => by cases h) dX7_spread_33 (hlocks := hlk)
  refine lv_iload_n hx hb dX7_spread_0 rfl (lv_at hl 0 rfl) ?_
  obtain ⟨r_1, hcr_1, hf⟩ := bd1_s hf
  refine backI (runS0 C (c_X7_bit l D cA p0 N r_1 hcr_1) cf_X7_bit km_X7_217 ⟨rfl, rfl, by decide, by decide⟩ ⟨Nat.zero_le _, Nat.zero_le _⟩ (hP.sub [] rfl) hK hl.1 rfl rfl (Nat.le_of_ble_eq_true rfl) dX7_spread_1) ?_
  refine lv_istore_n (lv' := [(3, .int r_1), (0, .int p0), (1, .int p1), (2, .ref a_nr)]) hx hb dX7_spread_4 rfl hl (by decide) rfl (fun ls hl => ?_)
  refine lv_iconst (v := 0) hx hb dX7_spread_5 (by decide) ?_
  refine lv_istore (lv' := [(4, .int 0), (3, .int r_1), (0, .int p0), (1, .int p1), (2, .ref a_nr)]) hx hb dX7_spread_6 hl (by decide) rfl (fun ls hl => ?_)
  exact B8 N p1 r_1 0 _ (lv_sub hl [3, 4, 1, 0] rfl) hf
set_option maxRecDepth 100000 in
set_option maxHeartbeats 4000000 in
theorem c_X7_toggleLink (l : Launch) (D : va_G) (cA : Nat → ClassId) (a_nr : Nat) (nr_a : Nat → Int32) (p1 : Int32) (p2 : Int32) (sz N : Nat) (ρ : (Nat → Int32)) (hf : f_X7_toggleLink N nr_a p1 p2 = some ρ) : Met l yX7_toggleLink (Cond.code yX7_toggleLink cX7_toggleLink 3 (Option.none : Option Jvm.ClassFile.FieldType) :: lw_g) ({ frames := 1, cells := 0, slots := 0, locals := 20 } : Room) (PcW D (tyA cA) (wA cA a_nr nr_a) sz [.ref a_nr, .int p1, .int p2]) (va_Qv (fun (_ : Unit) => True) (fun _ t => va_P D vwCl (wA cA a_nr ρ) t.heap ∧ va_D (va_A (wA cA a_nr nr_a) sz) (wA cA a_nr ρ)) (va_A (wA cA a_nr nr_a) sz)) 0 0 (va_A (wA cA a_nr nr_a) sz) := by
  refine mkW (QQ := fun A => va_Qv (fun (_ : Unit) => True) (fun _ t => va_P D vwCl (wA cA a_nr ρ) t.heap ∧ va_D A (wA cA a_nr ρ)) A) (by decide) (Nat.le_of_ble_eq_true rfl) fun p e s m below meth c ls A C hl hP hK hD hA hS => ?_
  obtain ⟨hx, hb, hml, hown, hT, hr, hlk⟩ := id C
  have hl : lv_has ls 3 [(0, .ref a_nr), (1, .int p1), (2, .int p2)] := hl
  refine lv_aload_n hx hb dX7_toggleLink_0 rfl (lv_at hl 0 rfl) ?_
  refine lv_iload_n hx hb dX7_toggleLink_1 rfl (lv_at hl 1 rfl) ?_
  refine lv_dup2_11 hx hb dX7_toggleLink_2 rfl rfl ?_
  obtain ⟨h_1, hf⟩ := chk_s hf
  refine va_iald hx hb hK.1 hP 0 0 rfl rfl (inb_in h_1) dX7_toggleLink_3 ?_
  refine lv_iload_n hx hb dX7_toggleLink_4 rfl (lv_at hl 2 rfl) ?_
  obtain ⟨r_2, hcr_2, hf⟩ := bd1_s hf
  refine backI (runS0 C (c_X7_bit l D cA p2 N r_2 hcr_2) cf_X7_bit km_X7_217 ⟨rfl, rfl, by decide, by decide⟩ ⟨Nat.zero_le _, Nat.zero_le _⟩ (hP.sub [] rfl) hK hl.1 rfl rfl (Nat.le_of_ble_eq_true rfl) dX7_toggleLink_5) ?_
  refine lv_ixor hx hb dX7_toggleLink_8 ?_
  obtain ⟨h_3, hf⟩ := chk_s hf
  refine va_iast hx hb hK.1 hP hD hS 0 0 rfl rfl (inb_in h_3) dX7_toggleLink_9 (fun H locs hP hD hS => ?_)
  have hP : va_P D vwCl (wA cA a_nr (upd nr_a p1.toNatClampNeg ((nr_a p1.toNatClampNeg) ^^^ r_2))) H := hP
  have hD : va_D A (wA cA a_nr (upd nr_a p1.toNatClampNeg ((nr_a p1.toNatClampNeg) ^^^ r_2))) := hD
  refine lv_aload_n hx hb dX7_toggleLink_10 rfl (lv_at hl 0 rfl) ?_
  refine lv_iload_n hx hb dX7_toggleLink_11 rfl (lv_at hl 2 rfl) ?_
  refine lv_dup2_11 hx hb dX7_toggleLink_12 rfl rfl ?_
  obtain ⟨h_4, hf⟩ := chk_s hf
  refine va_iald hx hb hK.1 hP 0 0 rfl rfl (inb_in h_4) dX7_toggleLink_13 ?_
  refine lv_iload_n hx hb dX7_toggleLink_14 rfl (lv_at hl 1 rfl) ?_
  obtain ⟨r_5, hcr_5, hf⟩ := bd1_s hf
  refine backI (runS0 C (c_X7_bit l D cA p1 N r_5 hcr_5) cf_X7_bit km_X7_217 ⟨rfl, rfl, by decide, by decide⟩ ⟨Nat.zero_le _, Nat.zero_le _⟩ (hP.sub [] rfl) hK hl.1 rfl rfl (Nat.le_of_ble_eq_true rfl) dX7_toggleLink_15) ?_
  refine lv_ixor hx hb dX7_toggleLink_18 ?_
  obtain ⟨h_6, hf⟩ := chk_s hf
  refine va_iast hx hb hK.1 hP hD hS 0 0 rfl rfl (inb_in h_6) dX7_toggleLink_19 (fun H locs hP hD hS => ?_)
  have hP : va_P D vwCl (wA cA a_nr (upd (upd nr_a p1.toNatClampNeg ((nr_a p1.toNatClampNeg) ^^^ r_2)) p2.toNatClampNeg (((upd nr_a p1.toNatClampNeg ((nr_a p1.toNatClampNeg) ^^^ r_2)) p2.toNatClampNeg) ^^^ r_5))) H := hP
  have hD : va_D A (wA cA a_nr (upd (upd nr_a p1.toNatClampNeg ((nr_a p1.toNatClampNeg) ^^^ r_2)) p2.toNatClampNeg (((upd nr_a p1.toNatClampNeg ((nr_a p1.toNatClampNeg) ^^^ r_2)) p2.toNatClampNeg) ^^^ r_5))) := hD
  have eR := some_i hf
  exact W.vret hx hb hr (fun t ht hW => ⟨⟨(), rfl, trivial, by rw [← eR, ht]; exact hP, by rw [← eR]; exact hD⟩, hS.F ht⟩) hS.2.2 dX7_toggleLink_20 (hlocks := hlk)
