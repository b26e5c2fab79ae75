set_option maxRecDepth 100000 in
set_option maxHeartbeats 4000000 in
theorem c_X3_distance (l : Launch) (D : va_G) (cA : Nat → ClassId) (p0 : UInt32) (p1 : UInt32) (N : Nat) (ρ : UInt32) (hf : f_X3_distance N p0 p1 = some ρ) : Met l yX3_distance (Cond.code yX3_distance cX3_distance 3 (Option.some Jvm.ClassFile.FieldType.float) :: lw_g) ({ frames := 0, cells := 0, slots := 0, locals := 0 } : Room) (PcS D (tyA cA) ([] : va_W) [.float p0, .float p1]) (vp_Sf (fun r => r = ρ)) 0 0 (fun _ => False) := by
  refine mkS (by decide +kernel) (Nat.le_of_ble_eq_true rfl) fun p e s m below meth c ls C hl hP hK => ?_
  obtain ⟨hx, hb, hml, hown, hT, hr, hlk⟩ := id C
  have hl : lv_has ls 3 [(0, .float p0), (1, .float p1)] := hl
  refine lv_fload_n hx hb dX3_distance_0 rfl (lv_at hl 0 rfl) ?_
  refine lv_fload_n hx hb dX3_distance_1 rfl (lv_at hl 1 rfl) ?_
  obtain ⟨h_1, hf⟩ := chk_s hf
  refine lv_fsub hx hb dX3_distance_2 (nn_n h_1) ?_
  refine lv_topf (fun x2_2 ex2_2 => ?_)
  have hf := nm_t ex2_2 hf
  refine lv_fstore_n (lv' := [(2, .float x2_2), (0, .float p0), (1, .float p1)]) hx hb dX3_distance_3 rfl hl (by decide) rfl (fun ls hl => ?_)
  refine lv_fload_n hx hb dX3_distance_4 rfl (lv_at hl 0 rfl) ?_
  refine lv_fconst0 hx hb dX3_distance_5 ?_
  refine lv_fcmp hx hb dX3_distance_6 ?_
  refine lv_if_ge (tgt := 15) hx hb dX3_distance_7 (by decide) (fun c_3 => ?_) (fun c_3 => ?_)
  · have hf := ite_t c_3 hf
    refine lv_fload_n hx hb dX3_distance_15 rfl (lv_at hl 0 rfl) ?_
    exact W.fret hx hb hr (fun t ht hW => ⟨_, rfl, some_i hf, ht⟩) (fun _ h => by cases h) dX3_distance_16 (hlocks := hlk)
  · have hf := ite_f c_3 hf
    refine lv_fload_n hx hb dX3_distance_10 rfl (lv_at hl 0 rfl) ?_
    refine lv_fneg hx hb dX3_distance_11 ?_
    refine lv_goto (tgt := 16) hx hb dX3_distance_12 (by decide) ?_
    exact W.fret hx hb hr (fun t ht hW => ⟨_, rfl, some_i hf, ht⟩) (fun _ h => by cases h) dX3_distance_16 (hlocks := hlk)
set_option maxRecDepth 100000 in
set_option maxHeartbeats 4000000 in
theorem c_X3_addLengths (l : Launch) (D : va_G) (cA : Nat → ClassId) (a_la : Nat → Nat) (a_g : Nat → Nat) (la_x : Nat → UInt32) (la_y : Nat → UInt32) (g_nodes : Int32) (g_edges : Int32) (g_outer : Int32) (g_low : Nat → Int32) (g_high : Nat → Int32) (g_degree : Nat → Int32) (g_turns : Nat → Int32) (N : Nat) (ρ : UInt32) (hf : f_X3_addLengths N g_edges g_low g_high la_x la_y = some ρ) : Met l yX3_addLengths (Cond.code yX3_addLengths cX3_addLengths 6 (Option.some Jvm.ClassFile.FieldType.float) :: lw_g) ({ frames := 1, cells := 0, slots := 0, locals := 22 } : Room) (PcS D (tyA cA) (wX3 cA a_la la_x la_y ++ (wX1 cA a_g g_nodes g_edges g_outer g_low g_high g_degree g_turns)) [.ref (a_la 0), .ref (a_g 0)]) (vp_Sf (fun r => r = ρ)) 0 0 (fun _ => False) := by
  refine mkS (by decide +kernel) (Nat.le_of_ble_eq_true rfl) fun p e s m below meth c ls C hl hP hK => ?_
  obtain ⟨hx, hb, hml, hown, hT, hr, hlk⟩ := id C
  have hl : lv_has ls 6 [(0, .ref (a_la 0)), (1, .ref (a_g 0))] := hl
  have B4 : ∀ (n4 : Nat), ∀ (x2 : UInt32) (x3 : Int32) (ls : Array Slot), lv_has ls 6 [(0, .ref (a_la 0)), (1, .ref (a_g 0)), (2, .float x2), (3, .int x3)] → f_X3_addLengths_b4 N g_edges g_low g_high la_x la_y n4 x2 x3 = some ρ → W p l e ({ frames := 1, cells := 0, slots := 0, locals := 22 } : Room) s m ([.ref (a_la 0), .ref (a_g 0)] : List Value).toArray below meth c s.heap [] 0 0 (MQ below (vp_Sf (fun r => r = ρ)) ([.ref (a_la 0), .ref (a_g 0)] : List Value).toArray s 0 0 (fun _ => False)) (F0 m 4 ls []) := by
    intro n4
    induction n4 with
    | zero =>
      intro x2 x3 ls hl hf
      cases (show (none : Option (UInt32)) = some ρ from hf)
    | succ n4 ih4 =>
      have B82 : ∀ (x3 : Int32) (y0 : UInt32) (y1 : UInt32) (ls : Array Slot), lv_has ls 6 [(0, .ref (a_la 0)), (1, .ref (a_g 0)), (3, .int x3)] → f_X3_addLengths_b82 N g_edges g_low g_high la_x la_y (f_X3_addLengths_b4 N g_edges g_low g_high la_x la_y n4) x3 y0 y1 = some ρ → W p l e ({ frames := 1, cells := 0, slots := 0, locals := 22 } : Room) s m ([.ref (a_la 0), .ref (a_g 0)] : List Value).toArray below meth c s.heap [] 0 0 (MQ below (vp_Sf (fun r => r = ρ)) ([.ref (a_la 0), .ref (a_g 0)] : List Value).toArray s 0 0 (fun _ => False)) (F0 m 82 ls [.float y1, .float y0]) := by
        intro x3 y0 y1 ls hl hf
        obtain ⟨h_14, hf⟩ := chk_s hf
        refine lv_fadd hx hb dX3_addLengths_82 (nn_n h_14) ?_
        refine lv_topf (fun x2_15 ex2_15 => ?_)
        have hf := nm_t ex2_15 hf
        refine lv_fstore_n (lv' := [(2, .float x2_15), (0, .ref (a_la 0)), (1, .ref (a_g 0)), (3, .int x3)]) hx hb dX3_addLengths_83 rfl hl (by decide) rfl (fun ls hl => ?_)
        refine lv_iinc (v := (x3 + 1)) (lv' := [(3, .int (x3 + 1)), (2, .float x2_15), (0, .ref (a_la 0)), (1, .ref (a_g 0))]) hx hb dX3_addLengths_84 hl (k := 3) rfl rfl (by decide) rfl (fun ls hl => ?_)
        refine lv_goto (tgt := 4) hx hb dX3_addLengths_87 (by decide) ?_
        exact ih4 x2_15 (x3 + 1) _ (lv_sub hl [2, 3, 1, 0] rfl) hf
      intro x2 x3 ls hl hf
      refine lv_iload_n hx hb dX3_addLengths_4 rfl (lv_at hl 3 rfl) ?_
      refine lv_aload_n hx hb dX3_addLengths_5 rfl (lv_at hl 1 rfl) ?_
      refine va_get (D := D) (ci := 1) (C := RX1) (T := TX1) (N := 7) hx hb hT kwX1 hown hK.1 hP 3 rfl rfl 1 (by decide) (hT _ kf_X3_81) (fun _ h9 => h9) rfl dX3_addLengths_6 ?_
      refine lv_icmp_ge (tgt := 90) hx hb dX3_addLengths_9 (by decide) (fun c_2 => ?_) (fun c_2 => ?_)
      · have hf := ite_t c_2 hf
        refine lv_fload_n hx hb dX3_addLengths_90 rfl (lv_at hl 2 rfl) ?_
        exact W.fret hx hb hr (fun t ht hW => ⟨_, rfl, some_i hf, ht⟩) (fun _ h => by cases h) dX3_addLengths_91 (hlocks := hlk)
      · have hf := ite_f c_2 hf
        refine lv_aload_n hx hb dX3_addLengths_12 rfl (lv_at hl 0 rfl) ?_
        refine va_get (D := D) (ci := 3) (C := RX3) (T := TX3) (N := 2) hx hb hT kwX3 hown hK.1 hP 0 rfl rfl 0 (by decide) (hT _ kf_X3_9) (fun _ h9 => h9) rfl dX3_addLengths_13 ?_
        refine lv_aload_n hx hb dX3_addLengths_16 rfl (lv_at hl 1 rfl) ?_
        refine va_get (D := D) (ci := 1) (C := RX1) (T := TX1) (N := 7) hx hb hT kwX1 hown hK.1 hP 3 rfl rfl 3 (by decide) (hT _ kf_X3_75) (fun _ h9 => h9) rfl dX3_addLengths_17 ?_
        refine lv_iload_n hx hb dX3_addLengths_20 rfl (lv_at hl 3 rfl) ?_
        obtain ⟨h_3, hf⟩ := chk_s hf
        refine va_iald hx hb hK.1 hP 4 0 rfl rfl (inb_in h_3) dX3_addLengths_21 ?_
        obtain ⟨h_4, hf⟩ := chk_s hf
        refine va_fald hx hb hK.1 hP 1 1 rfl rfl (inb_in h_4) dX3_addLengths_22 ?_
        refine lv_aload_n hx hb dX3_addLengths_23 rfl (lv_at hl 0 rfl) ?_
        refine va_get (D := D) (ci := 3) (C := RX3) (T := TX3) (N := 2) hx hb hT kwX3 hown hK.1 hP 0 rfl rfl 0 (by decide) (hT _ kf_X3_9) (fun _ h9 => h9) rfl dX3_addLengths_24 ?_
        refine lv_aload_n hx hb dX3_addLengths_27 rfl (lv_at hl 1 rfl) ?_
        refine va_get (D := D) (ci := 1) (C := RX1) (T := TX1) (N := 7) hx hb hT kwX1 hown hK.1 hP 3 rfl rfl 4 (by decide) (hT _ kf_X3_78) (fun _ h9 => h9) rfl dX3_addLengths_28 ?_
        refine lv_iload_n hx hb dX3_addLengths_31 rfl (lv_at hl 3 rfl) ?_
        obtain ⟨h_5, hf⟩ := chk_s hf
        refine va_iald hx hb hK.1 hP 5 0 rfl rfl (inb_in h_5) dX3_addLengths_32 ?_
        obtain ⟨h_6, hf⟩ := chk_s hf
        refine va_fald hx hb hK.1 hP 1 1 rfl rfl (inb_in h_6) dX3_addLengths_33 ?_
        obtain ⟨r_7, hcr_7, hf⟩ := bd1_s hf
        refine backF (runS0 C (c_X3_distance l D cA (la_x (g_low x3.toNatClampNeg).toNatClampNeg) (la_x (g_high x3.toNatClampNeg).toNatClampNeg) N r_7 hcr_7) cf_X3_distance km_X3_96 ⟨rfl, rfl, by decide, by decide⟩ ⟨Nat.zero_le _, Nat.zero_le _⟩ (hP.sub [] rfl) hK hl.1 rfl rfl (Nat.le_of_ble_eq_true rfl) dX3_addLengths_34) ?_
        refine lv_fstore (lv' := [(4, .float r_7), (0, .ref (a_la 0)), (1, .ref (a_g 0)), (2, .float x2), (3, .int x3)]) hx hb dX3_addLengths_37 hl (by decide) rfl (fun ls hl => ?_)
        refine lv_aload_n hx hb dX3_addLengths_39 rfl (lv_at hl 1 rfl) ?_
        refine va_get (D := D) (ci := 3) (C := RX3) (T := TX3) (N := 2) hx hb hT kwX3 hown hK.1 hP 0 rfl rfl 1 (by decide) (hT _ kf_X3_15) (fun _ h9 => h9) rfl dX3_addLengths_40 ?_
        refine lv_aload_n hx hb dX3_addLengths_43 rfl (lv_at hl 2 rfl) ?_
        refine va_get (D := D) (ci := 1) (C := RX1) (T := TX1) (N := 7) hx hb hT kwX1 hown hK.1 hP 3 rfl rfl 3 (by decide) (hT _ kf_X3_75) (fun _ h9 => h9) rfl dX3_addLengths_44 ?_
        refine lv_iload_n hx hb dX3_addLengths_47 rfl (lv_at hl 4 rfl) ?_
        obtain ⟨h_8, hf⟩ := chk_s hf
        refine va_iald hx hb hK.1 hP 4 0 rfl rfl (inb_in h_8) dX3_addLengths_48 ?_
        obtain ⟨h_9, hf⟩ := chk_s hf
        refine va_fald hx hb hK.1 hP 2 1 rfl rfl (inb_in h_9) dX3_addLengths_49 ?_
        refine lv_aload_n hx hb dX3_addLengths_50 rfl (lv_at hl 1 rfl) ?_
        refine va_get (D := D) (ci := 3) (C := RX3) (T := TX3) (N := 2) hx hb hT kwX3 hown hK.1 hP 0 rfl rfl 1 (by decide) (hT _ kf_X3_15) (fun _ h9 => h9) rfl dX3_addLengths_51 ?_
        refine lv_aload_n hx hb dX3_addLengths_54 rfl (lv_at hl 2 rfl) ?_
        refine va_get (D := D) (ci := 1) (C := RX1) (T := TX1) (N := 7) hx hb hT kwX1 hown hK.1 hP 3 rfl rfl 4 (by decide) (hT _ kf_X3_78) (fun _ h9 => h9) rfl dX3_addLengths_55 ?_
        refine lv_iload_n hx hb dX3_addLengths_58 rfl (lv_at hl 4 rfl) ?_
        obtain ⟨h_10, hf⟩ := chk_s hf
        refine va_iald hx hb hK.1 hP 5 0 rfl rfl (inb_in h_10) dX3_addLengths_59 ?_
        obtain ⟨h_11, hf⟩ := chk_s hf
        refine va_fald hx hb hK.1 hP 2 1 rfl rfl (inb_in h_11) dX3_addLengths_60 ?_
        obtain ⟨r_12, hcr_12, hf⟩ := bd1_s hf
        refine backF (runS0 C (c_X3_distance l D cA (la_y (g_low x3.toNatClampNeg).toNatClampNeg) (la_y (g_high x3.toNatClampNeg).toNatClampNeg) N r_12 hcr_12) cf_X3_distance km_X3_96 ⟨rfl, rfl, by decide, by decide⟩ ⟨Nat.zero_le _, Nat.zero_le _⟩ (hP.sub [] rfl) hK hl.1 rfl rfl (Nat.le_of_ble_eq_true rfl) dX3_addLengths_61) ?_
        refine lv_fstore (lv' := [(5, .float r_12), (4, .float r_7), (0, .ref (a_la 0)), (1, .ref (a_g 0)), (2, .float x2), (3, .int x3)]) hx hb dX3_addLengths_64 hl (by decide) rfl (fun ls hl => ?_)
        refine lv_fload_n hx hb dX3_addLengths_66 rfl (lv_at hl 4 rfl) ?_
        refine lv_fload hx hb dX3_addLengths_67 (lv_at hl 1 rfl) ?_
        refine lv_fload hx hb dX3_addLengths_69 (lv_at hl 0 rfl) ?_
        refine lv_fcmp hx hb dX3_addLengths_71 ?_
        refine lv_if_lt (tgt := 80) hx hb dX3_addLengths_72 (by decide) (fun c_13 => ?_) (fun c_13 => ?_)
        · have hf := ite_t c_13 hf
          refine lv_fload hx hb dX3_addLengths_80 (lv_at hl 0 rfl) ?_
          exact B82 x3 x2 r_12 _ (lv_sub hl [2, 3, 5] rfl) hf
        · have hf := ite_f c_13 hf
          refine lv_fload hx hb dX3_addLengths_75 (lv_at hl 1 rfl) ?_
          refine lv_goto (tgt := 82) hx hb dX3_addLengths_77 (by decide) ?_
          exact B82 x3 x2 r_7 _ (lv_sub hl [2, 3, 5] rfl) hf
  refine lv_fconst0 hx hb dX3_addLengths_0 ?_
  refine lv_topf (fun x2_1 ex2_1 => ?_)
  have hf := nm_t ex2_1 hf
  refine lv_fstore_n (lv' := [(2, .float x2_1), (0, .ref (a_la 0)), (1, .ref (a_g 0))]) hx hb dX3_addLengths_1 rfl hl (by decide) rfl (fun ls hl => ?_)
  refine lv_iconst (v := 0) hx hb dX3_addLengths_2 (by decide) ?_
  refine lv_istore_n (lv' := [(3, .int 0), (2, .float x2_1), (0, .ref (a_la 0)), (1, .ref (a_g 0))]) hx hb dX3_addLengths_3 rfl hl (by decide) rfl (fun ls hl => ?_)
  exact B4 N x2_1 0 _ (lv_sub hl [2, 3, 1, 0] rfl) hf
set_option maxRecDepth 100000 in
set_option maxHeartbeats 4000000 in
theorem c_X3_areOpposite (l : Launch) (D : va_G) (cA : Nat → ClassId) (p0 : UInt32) (p1 : UInt32) (N : Nat) (ρ : Int32) (hf : f_X3_areOpposite N p0 p1 = some ρ) : Met l yX3_areOpposite (Cond.code yX3_areOpposite cX3_areOpposite 2 (Option.some Jvm.ClassFile.FieldType.boolean) :: lw_g) ({ frames := 0, cells := 0, slots := 0, locals := 0 } : Room) (PcS D (tyA cA) ([] : va_W) [.float p0, .float p1]) (vp_Si (fun r => r = ρ)) 0 0 (fun _ => False) := by
  refine mkS (by decide +kernel) (Nat.le_of_ble_eq_true rfl) fun p e s m below meth c ls C hl hP hK => ?_
  obtain ⟨hx, hb, hml, hown, hT, hr, hlk⟩ := id C
  have hl : lv_has ls 2 [(0, .float p0), (1, .float p1)] := hl
  have B24 : ∀ (ls : Array Slot), lv_has ls 2 [] → f_X3_areOpposite_b24 N = some ρ → W p l e ({ frames := 0, cells := 0, slots := 0, locals := 0 } : Room) s m ([.float p0, .float p1] : List Value).toArray below meth c s.heap [] 0 0 (MQ below (vp_Si (fun r => r = ρ)) ([.float p0, .float p1] : List Value).toArray s 0 0 (fun _ => False)) (F0 m 24 ls []) := by
    intro  ls hl hf
    refine lv_iconst (v := 1) hx hb dX3_areOpposite_24 (by decide) ?_
    refine lv_goto (tgt := 29) hx hb dX3_areOpposite_25 (by decide) ?_
    exact W.zret hx hb hr (by decide) (fun t ht hW => ⟨_, rfl, some_i hf, ht⟩) (fun _ h => by cases h) dX3_areOpposite_29 (hlocks := hlk)
  have B12 : ∀ (x0 : UInt32) (x1 : UInt32) (ls : Array Slot), lv_has ls 2 [(0, .float x0), (1, .float x1)] → f_X3_areOpposite_b12 N x0 x1 = some ρ → W p l e ({ frames := 0, cells := 0, slots := 0, locals := 0 } : Room) s m ([.float p0, .float p1] : List Value).toArray below meth c s.heap [] 0 0 (MQ below (vp_Si (fun r => r = ρ)) ([.float p0, .float p1] : List Value).toArray s 0 0 (fun _ => False)) (F0 m 12 ls []) := by
    intro x0 x1 ls hl hf
    refine lv_fload_n hx hb dX3_areOpposite_12 rfl (lv_at hl 0 rfl) ?_
    refine lv_fconst0 hx hb dX3_areOpposite_13 ?_
    refine lv_fcmp hx hb dX3_areOpposite_14 ?_
    refine lv_if_ge (tgt := 28) hx hb dX3_areOpposite_15 (by decide) (fun c_3 => ?_) (fun c_3 => ?_)
    · have hf := ite_t c_3 hf
      refine lv_iconst (v := 0) hx hb dX3_areOpposite_28 (by decide) ?_
      exact W.zret hx hb hr (by decide) (fun t ht hW => ⟨_, rfl, some_i hf, ht⟩) (fun _ h => by cases h) dX3_areOpposite_29 (hlocks := hlk)
    · have hf := ite_f c_3 hf
      refine lv_fload_n hx hb dX3_areOpposite_18 rfl (lv_at hl 1 rfl) ?_
      refine lv_fconst0 hx hb dX3_areOpposite_19 ?_
      refine lv_fcmp hx hb dX3_areOpposite_20 ?_
      refine lv_if_le (tgt := 28) hx hb dX3_areOpposite_21 (by decide) (fun c_4 => ?_) (fun c_4 => ?_)
      · have hf := ite_t c_4 hf
        refine lv_iconst (v := 0) hx hb dX3_areOpposite_28 (by decide) ?_
        exact W.zret hx hb hr (by decide) (fun t ht hW => ⟨_, rfl, some_i hf, ht⟩) (fun _ h => by cases h) dX3_areOpposite_29 (hlocks := hlk)
      · have hf := ite_f c_4 hf
        exact B24  _ (lv_sub hl [] rfl) hf
  refine lv_fload_n hx hb dX3_areOpposite_0 rfl (lv_at hl 0 rfl) ?_
  refine lv_fconst0 hx hb dX3_areOpposite_1 ?_
  refine lv_fcmp hx hb dX3_areOpposite_2 ?_
  refine lv_if_le (tgt := 12) hx hb dX3_areOpposite_3 (by decide) (fun c_1 => ?_) (fun c_1 => ?_)
  · have hf := ite_t c_1 hf
    exact B12 p0 p1 _ (lv_sub hl [0, 1] rfl) hf
  · have hf := ite_f c_1 hf
    refine lv_fload_n hx hb dX3_areOpposite_6 rfl (lv_at hl 1 rfl) ?_
    refine lv_fconst0 hx hb dX3_areOpposite_7 ?_
    refine lv_fcmp hx hb dX3_areOpposite_8 ?_
    refine lv_if_lt (tgt := 24) hx hb dX3_areOpposite_9 (by decide) (fun c_2 => ?_) (fun c_2 => ?_)
    · have hf := ite_t c_2 hf
      exact B24  _ (lv_sub hl [] rfl) hf
    · have hf := ite_f c_2 hf
      exact B12 p0 p1 _ (lv_sub hl [0, 1] rfl) hf
set_option maxRecDepth 100000 in
set_option maxHeartbeats 4000000 in
theorem c_X3_pinOuterNodes (l : Launch) (D : va_G) (cA : Nat → ClassId) (a_la : Nat → Nat) (a_g : Nat → Nat) (a_f : Nat → Nat) (la_x : Nat → UInt32) (la_y : Nat → UInt32) (g_nodes : Int32) (g_edges : Int32) (g_outer : Int32) (g_low : Nat → Int32) (g_high : Nat → Int32) (g_degree : Nat → Int32) (g_turns : Nat → Int32) (f_number : Int32) (f_components : Int32) (f_genus : Int32) (f_next : Nat → Int32) (f_owner : Nat → Int32) (f_first : Nat → Int32) (f_length : Nat → Int32) (f_nodeSet : Nat → Int32) (f_near : Nat → Int32) (sz N : Nat) (ρ : Int32 × (Nat → UInt32) × (Nat → UInt32)) (hf : f_X3_pinOuterNodes N f_next f_first f_length g_outer g_low g_high la_x la_y = some ρ) : Met l yX3_pinOuterNodes (Cond.code yX3_pinOuterNodes cX3_pinOuterNodes 8 (Option.some Jvm.ClassFile.FieldType.int) :: lw_g) ({ frames := 1, cells := 0, slots := 0, locals := 21 } : Room) (PcW D (tyA cA) (wX3 cA a_la la_x la_y ++ (wX1 cA a_g g_nodes g_edges g_outer g_low g_high g_degree g_turns ++ (wX0 cA a_f f_number f_components f_genus f_next f_owner f_first f_length f_nodeSet f_near))) sz [.ref (a_la 0), .ref (a_g 0), .ref (a_f 0)]) (va_Qi (fun r (_ : Unit) => r = ρ.1) (fun _ t => va_P D vwCl (wX3 cA a_la ρ.2.1 ρ.2.2 ++ (wX1 cA a_g g_nodes g_edges g_outer g_low g_high g_degree g_turns ++ (wX0 cA a_f f_number f_components f_genus f_next f_owner f_first f_length f_nodeSet f_near))) t.heap ∧ va_D (va_A (wX3 cA a_la la_x la_y ++ (wX1 cA a_g g_nodes g_edges g_outer g_low g_high g_degree g_turns ++ (wX0 cA a_f f_number f_components f_genus f_next f_owner f_first f_length f_nodeSet f_near))) sz) (wX3 cA a_la ρ.2.1 ρ.2.2 ++ (wX1 cA a_g g_nodes g_edges g_outer g_low g_high g_degree g_turns ++ (wX0 cA a_f f_number f_components f_genus f_next f_owner f_first f_length f_nodeSet f_near)))) (va_A (wX3 cA a_la la_x la_y ++ (wX1 cA a_g g_nodes g_edges g_outer g_low g_high g_degree g_turns ++ (wX0 cA a_f f_number f_components f_genus f_next f_owner f_first f_length f_nodeSet f_near))) sz)) 0 0 (va_A (wX3 cA a_la la_x la_y ++ (wX1 cA a_g g_nodes g_edges g_outer g_low g_high g_degree g_turns ++ (wX0 cA a_f f_number f_components f_genus f_next f_owner f_first f_length f_nodeSet f_near))) sz) := by
  refine mkW (QQ := fun A => va_Qi (fun r (_ : Unit) => r = ρ.1) (fun _ t => va_P D vwCl (wX3 cA a_la ρ.2.1 ρ.2.2 ++ (wX1 cA a_g g_nodes g_edges g_outer g_low g_high g_degree g_turns ++ (wX0 cA a_f f_number f_components f_genus f_next f_owner f_first f_length f_nodeSet f_near))) t.heap ∧ va_D A (wX3 cA a_la ρ.2.1 ρ.2.2 ++ (wX1 cA a_g g_nodes g_edges g_outer g_low g_high g_degree g_turns ++ (wX0 cA a_f f_number f_components f_genus f_next f_owner f_first f_length f_nodeSet f_near)))) A) (by decide) (Nat.le_of_ble_eq_true rfl) fun p e s m below meth c ls A C hl hP hK hD hA hS => ?_
  obtain ⟨hx, hb, hml, hown, hT, hr, hlk⟩ := id C
  have hl : lv_has ls 8 [(0, .ref (a_la 0)), (1, .ref (a_g 0)), (2, .ref (a_f 0))] := hl
  have B19 : ∀ (n19 : Nat), ∀ (x3 : Int32) (x4 : Int32) (x5 : Int32) (x6 : Int32) (la_x : Nat → UInt32) (la_y : Nat → UInt32) (H : Heap) (locs : List Loc) (ls : Array Slot), lv_has ls 8 [(0, .ref (a_la 0)), (1, .ref (a_g 0)), (2, .ref (a_f 0)), (3, .int x3), (4, .int x4), (5, .int x5), (6, .int x6)] → va_P D vwCl (wX3 cA a_la la_x la_y ++ (wX1 cA a_g g_nodes g_edges g_outer g_low g_high g_degree g_turns ++ (wX0 cA a_f f_number f_components f_genus f_next f_owner f_first f_length f_nodeSet f_near))) H → va_D A (wX3 cA a_la la_x la_y ++ (wX1 cA a_g g_nodes g_edges g_outer g_low g_high g_degree g_turns ++ (wX0 cA a_f f_number f_components f_genus f_next f_owner f_first f_length f_nodeSet f_near))) → va_S A s.heap H locs → f_X3_pinOuterNodes_b19 N f_next f_first f_length g_outer g_low g_high n19 x3 x4 x5 x6 la_x la_y = some ρ → W p l e ({ frames := 1, cells := 0, slots := 0, locals := 21 } : Room) s m ([.ref (a_la 0), .ref (a_g 0), .ref (a_f 0)] : List Value).toArray below meth c H locs 0 0 (MQ below (va_Qi (fun r (_ : Unit) => r = ρ.1) (fun _ t => va_P D vwCl (wX3 cA a_la ρ.2.1 ρ.2.2 ++ (wX1 cA a_g g_nodes g_edges g_outer g_low g_high g_degree g_turns ++ (wX0 cA a_f f_number f_components f_genus f_next f_owner f_first f_length f_nodeSet f_near))) t.heap ∧ va_D A (wX3 cA a_la ρ.2.1 ρ.2.2 ++ (wX1 cA a_g g_nodes g_edges g_outer g_low g_high g_degree g_turns ++ (wX0 cA a_f f_number f_components f_genus f_next f_owner f_first f_length f_nodeSet f_near)))) A) ([.ref (a_la 0), .ref (a_g 0), .ref (a_f 0)] : List Value).toArray s 0 0 A) (F0 m 19 ls []) := by
    intro n19
    induction n19 with
    | zero =>
      intro x3 x4 x5 x6 la_x la_y H locs ls hl hP hD hS hf
      cases (show (none : Option (Int32 × (Nat → UInt32) × (Nat → UInt32))) = some ρ from hf)
    | succ n19 ih19 =>
      have B84 : ∀ (x3 : Int32) (x4 : Int32) (x5 : Int32) (x6 : Int32) (la_x : Nat → UInt32) (la_y : Nat → UInt32) (H : Heap) (locs : List Loc) (ls : Array Slot), lv_has ls 8 [(0, .ref (a_la 0)), (1, .ref (a_g 0)), (2, .ref (a_f 0)), (3, .int x3), (4, .int x4), (5, .int x5), (6, .int x6)] → va_P D vwCl (wX3 cA a_la la_x la_y ++ (wX1 cA a_g g_nodes g_edges g_outer g_low g_high g_degree g_turns ++ (wX0 cA a_f f_number f_components f_genus f_next f_owner f_first f_length f_nodeSet f_near))) H → va_D A (wX3 cA a_la la_x la_y ++ (wX1 cA a_g g_nodes g_edges g_outer g_low g_high g_degree g_turns ++ (wX0 cA a_f f_number f_components f_genus f_next f_owner f_first f_length f_nodeSet f_near))) → va_S A s.heap H locs → f_X3_pinOuterNodes_b84 N f_next f_first f_length g_outer g_low g_high (f_X3_pinOuterNodes_b19 N f_next f_first f_length g_outer g_low g_high n19) x3 x4 x5 x6 la_x la_y = some ρ → W p l e ({ frames := 1, cells := 0, slots := 0, locals := 21 } : Room) s m ([.ref (a_la 0), .ref (a_g 0), .ref (a_f 0)] : List Value).toArray below meth c H locs 0 0 (MQ below (va_Qi (fun r (_ : Unit) => r = ρ.1) (fun _ t => va_P D vwCl (wX3 cA a_la ρ.2.1 ρ.2.2 ++ (wX1 cA a_g g_nodes g_edges g_outer g_low g_high g_degree g_turns ++ (wX0 cA a_f f_number f_components f_genus f_next f_owner f_first f_length f_nodeSet f_near))) t.heap ∧ va_D A (wX3 cA a_la ρ.2.1 ρ.2.2 ++ (wX1 cA a_g g_nodes g_edges g_outer g_low g_high g_degree g_turns ++ (wX0 cA a_f f_number f_components f_genus f_next f_owner f_first f_length f_nodeSet f_near)))) A) ([.ref (a_la 0), .ref (a_g 0), .ref (a_f 0)] : List Value).toArray s 0 0 A) (F0 m 84 ls []) := by
        intro x3 x4 x5 x6 la_x la_y H locs ls hl hP hD hS hf
        refine lv_aload_n hx hb dX3_pinOuterNodes_84 rfl (lv_at hl 2 rfl) ?_
        refine va_get (D := D) (ci := 0) (C := RX0) (T := TX0) (N := 9) hx hb hT kwX0 hown hK.1 hP 8 rfl rfl 3 (by decide) (hT _ kf_X3_68) (fun _ h9 => h9) rfl dX3_pinOuterNodes_85 ?_
        refine lv_iload hx hb dX3_pinOuterNodes_88 (lv_at hl 5 rfl) ?_
        obtain ⟨h_12, hf⟩ := chk_s hf
        refine va_iald hx hb hK.1 hP 9 0 rfl rfl (inb_in h_12) dX3_pinOuterNodes_90 ?_
        refine lv_topi (fun x5_13 ex5_13 => ?_)
        have hf := nm_t ex5_13 hf
        refine lv_istore (lv' := [(5, .int x5_13), (0, .ref (a_la 0)), (1, .ref (a_g 0)), (2, .ref (a_f 0)), (3, .int x3), (4, .int x4), (6, .int x6)]) hx hb dX3_pinOuterNodes_91 hl (by decide) rfl (fun ls hl => ?_)
        refine lv_iinc (v := (x6 + 1)) (lv' := [(6, .int (x6 + 1)), (5, .int x5_13), (0, .ref (a_la 0)), (1, .ref (a_g 0)), (2, .ref (a_f 0)), (3, .int x3), (4, .int x4)]) hx hb dX3_pinOuterNodes_93 hl (k := 6) rfl rfl (by decide) rfl (fun ls hl => ?_)
        refine lv_goto (tgt := 19) hx hb dX3_pinOuterNodes_96 (by decide) ?_
        exact ih19 x3 x4 x5_13 (x6 + 1) la_x la_y _ _ _ (lv_sub hl [2, 3, 4, 5, 6, 1, 0] rfl) hP hD hS hf
      intro x3 x4 x5 x6 la_x la_y H locs ls hl hP hD hS hf
      refine lv_iload hx hb dX3_pinOuterNodes_19 (lv_at hl 6 rfl) ?_
      refine lv_aload_n hx hb dX3_pinOuterNodes_21 rfl (lv_at hl 2 rfl) ?_
      refine va_get (D := D) (ci := 0) (C := RX0) (T := TX0) (N := 9) hx hb hT kwX0 hown hK.1 hP 8 rfl rfl 6 (by decide) (hT _ kf_X3_58) (fun _ h9 => h9) rfl dX3_pinOuterNodes_22 ?_
      refine lv_aload_n hx hb dX3_pinOuterNodes_25 rfl (lv_at hl 1 rfl) ?_
      refine va_get (D := D) (ci := 1) (C := RX1) (T := TX1) (N := 7) hx hb hT kwX1 hown hK.1 hP 3 rfl rfl 2 (by decide) (hT _ kf_X3_24) (fun _ h9 => h9) rfl dX3_pinOuterNodes_26 ?_
      obtain ⟨h_3, hf⟩ := chk_s hf
      refine va_iald hx hb hK.1 hP 12 0 rfl rfl (inb_in h_3) dX3_pinOuterNodes_29 ?_
      refine lv_icmp_ge (tgt := 99) hx hb dX3_pinOuterNodes_30 (by decide) (fun c_4 => ?_) (fun c_4 => ?_)
      · have hf := ite_t c_4 hf
        refine lv_iload_n hx hb dX3_pinOuterNodes_99 rfl (lv_at hl 3 rfl) ?_
        have eR := some_i hf
        exact W.iret hx hb hr (fun t ht hW => ⟨⟨x3, (), rfl, fst_e eR, by rw [← eR, ht]; exact hP, by rw [← eR]; exact hD⟩, hS.F ht⟩) hS.2.2 dX3_pinOuterNodes_100 (hlocks := hlk)
      · have hf := ite_f c_4 hf
        refine lv_aload_n hx hb dX3_pinOuterNodes_33 rfl (lv_at hl 1 rfl) ?_
        refine lv_iload hx hb dX3_pinOuterNodes_34 (lv_at hl 5 rfl) ?_
        obtain ⟨r_5, hcr_5, hf⟩ := bd1_s hf
        refine backI (runV0 C (c_X1_tailOf l D cA a_g g_nodes g_edges g_outer g_low g_high g_degree g_turns x5 N r_5 hcr_5) cf_X1_tailOf km_X3_61 ⟨rfl, rfl, by decide, by decide⟩ ⟨Nat.zero_le _, Nat.zero_le _⟩ (va_recv hK.1 hP (ci := 1) (q0 := 3) rfl rfl) (hP.sub [3, 4, 5, 6, 7] rfl) hK hl.1 rfl rfl (Nat.le_of_ble_eq_true rfl) dX3_pinOuterNodes_36) ?_
        refine lv_istore (lv' := [(7, .int r_5), (0, .ref (a_la 0)), (1, .ref (a_g 0)), (2, .ref (a_f 0)), (3, .int x3), (4, .int x4), (5, .int x5), (6, .int x6)]) hx hb dX3_pinOuterNodes_39 hl (by decide) rfl (fun ls hl => ?_)
        refine lv_iload_n hx hb dX3_pinOuterNodes_41 rfl (lv_at hl 4 rfl) ?_
        refine lv_iload hx hb dX3_pinOuterNodes_42 (lv_at hl 0 rfl) ?_
        obtain ⟨r_6, hcr_6, hf⟩ := bd1_s hf
        refine backI (runN0 C (c_X7_contains l D cA x3 r_5 N r_6 hcr_6) cf_X7_contains kn_X3_43 ⟨rfl, rfl, by decide, by decide⟩ ⟨Nat.zero_le _, Nat.zero_le _⟩ (hP.sub [] rfl) hK hl.1 rfl rfl (Nat.le_of_ble_eq_true rfl) dX3_pinOuterNodes_44) ?_
        refine lv_if_ne (tgt := 84) hx hb dX3_pinOuterNodes_47 (by decide) (fun c_7 => ?_) (fun c_7 => ?_)
        · have hf := ite_t c_7 hf
          exact B84 x3 x4 x5 x6 la_x la_y _ _ _ (lv_sub hl [1, 2, 3, 4, 5, 6, 7] rfl) hP hD hS hf
        · have hf := ite_fn c_7 hf
          refine lv_aload_n hx hb dX3_pinOuterNodes_50 rfl (lv_at hl 1 rfl) ?_
          refine va_get (D := D) (ci := 3) (C := RX3) (T := TX3) (N := 2) hx hb hT kwX3 hown hK.1 hP 0 rfl rfl 0 (by decide) (hT _ kf_X3_9) (fun _ h9 => h9) rfl dX3_pinOuterNodes_51 ?_
          refine lv_iload hx hb dX3_pinOuterNodes_54 (lv_at hl 0 rfl) ?_
          refine lv_iload hx hb dX3_pinOuterNodes_56 (lv_at hl 5 rfl) ?_
          refine lv_i2f hx hb dX3_pinOuterNodes_58 ?_
          obtain ⟨h_8, hf⟩ := chk_s hf
          refine va_fast hx hb hK.1 hP hD hS 1 1 rfl rfl (inb_in h_8) dX3_pinOuterNodes_59 (fun H locs hP hD hS => ?_)
          have hP : va_P D vwCl (wX3 cA a_la (vf_upd la_x r_5.toNatClampNeg (FP.i2f x4)) la_y ++ (wX1 cA a_g g_nodes g_edges g_outer g_low g_high g_degree g_turns ++ (wX0 cA a_f f_number f_components f_genus f_next f_owner f_first f_length f_nodeSet f_near))) H := hP
          have hD : va_D A (wX3 cA a_la (vf_upd la_x r_5.toNatClampNeg (FP.i2f x4)) la_y ++ (wX1 cA a_g g_nodes g_edges g_outer g_low g_high g_degree g_turns ++ (wX0 cA a_f f_number f_components f_genus f_next f_owner f_first f_length f_nodeSet f_near))) := hD
          refine lv_aload_n hx hb dX3_pinOuterNodes_60 rfl (lv_at hl 1 rfl) ?_
          refine va_get (D := D) (ci := 3) (C := RX3) (T := TX3) (N := 2) hx hb hT kwX3 hown hK.1 hP 0 rfl rfl 1 (by decide) (hT _ kf_X3_15) (fun _ h9 => h9) rfl dX3_pinOuterNodes_61 ?_
          refine lv_iload hx hb dX3_pinOuterNodes_64 (lv_at hl 0 rfl) ?_
          refine lv_iload hx hb dX3_pinOuterNodes_66 (lv_at hl 5 rfl) ?_
          refine lv_iload hx hb dX3_pinOuterNodes_68 (lv_at hl 5 rfl) ?_
          refine lv_imul hx hb dX3_pinOuterNodes_70 ?_
          refine lv_i2f hx hb dX3_pinOuterNodes_71 ?_
          obtain ⟨h_9, hf⟩ := chk_s hf
          refine va_fast hx hb hK.1 hP hD hS 2 1 rfl rfl (inb_in h_9) dX3_pinOuterNodes_72 (fun H locs hP hD hS => ?_)
          have hP : va_P D vwCl (wX3 cA a_la (vf_upd la_x r_5.toNatClampNeg (FP.i2f x4)) (vf_upd la_y r_5.toNatClampNeg (FP.i2f (x4 * x4))) ++ (wX1 cA a_g g_nodes g_edges g_outer g_low g_high g_degree g_turns ++ (wX0 cA a_f f_number f_components f_genus f_next f_owner f_first f_length f_nodeSet f_near))) H := hP
          have hD : va_D A (wX3 cA a_la (vf_upd la_x r_5.toNatClampNeg (FP.i2f x4)) (vf_upd la_y r_5.toNatClampNeg (FP.i2f (x4 * x4))) ++ (wX1 cA a_g g_nodes g_edges g_outer g_low g_high g_degree g_turns ++ (wX0 cA a_f f_number f_components f_genus f_next f_owner f_first f_length f_nodeSet f_near))) := hD
          refine lv_iload_n hx hb dX3_pinOuterNodes_73 rfl (lv_at hl 4 rfl) ?_
          refine lv_iload hx hb dX3_pinOuterNodes_74 (lv_at hl 0 rfl) ?_
          obtain ⟨r_10, hcr_10, hf⟩ := bd1_s hf
          refine backI (runN0 C (c_X7_bit l D cA r_5 N r_10 hcr_10) cf_X7_bit kn_X3_65 ⟨rfl, rfl, by decide, by decide⟩ ⟨Nat.zero_le _, Nat.zero_le _⟩ (hP.sub [] rfl) hK hl.1 rfl rfl (Nat.le_of_ble_eq_true rfl) dX3_pinOuterNodes_76) ?_
          refine lv_ior hx hb dX3_pinOuterNodes_79 ?_
          refine lv_topi (fun x3_11 ex3_11 => ?_)
          have hf := nm_t ex3_11 hf
          refine lv_istore_n (lv' := [(3, .int x3_11), (7, .int r_5), (0, .ref (a_la 0)), (1, .ref (a_g 0)), (2, .ref (a_f 0)), (4, .int x4), (5, .int x5), (6, .int x6)]) hx hb dX3_pinOuterNodes_80 rfl hl (by decide) rfl (fun ls hl => ?_)
          refine lv_iinc (v := (x4 + 1)) (lv' := [(4, .int (x4 + 1)), (3, .int x3_11), (7, .int r_5), (0, .ref (a_la 0)), (1, .ref (a_g 0)), (2, .ref (a_f 0)), (5, .int x5), (6, .int x6)]) hx hb dX3_pinOuterNodes_81 hl (k := 5) rfl rfl (by decide) rfl (fun ls hl => ?_)
          exact B84 x3_11 (x4 + 1) x5 x6 (vf_upd la_x r_5.toNatClampNeg (FP.i2f x4)) (vf_upd la_y r_5.toNatClampNeg (FP.i2f (x4 * x4))) _ _ _ (lv_sub hl [3, 4, 5, 1, 0, 6, 7] rfl) hP hD hS hf
  refine lv_iconst (v := 0) hx hb dX3_pinOuterNodes_0 (by decide) ?_
  refine lv_istore_n (lv' := [(3, .int 0), (0, .ref (a_la 0)), (1, .ref (a_g 0)), (2, .ref (a_f 0))]) hx hb dX3_pinOuterNodes_1 rfl hl (by decide) rfl (fun ls hl => ?_)
  refine lv_iconst (v := 0) hx hb dX3_pinOuterNodes_2 (by decide) ?_
  refine lv_istore (lv' := [(4, .int 0), (3, .int 0), (0, .ref (a_la 0)), (1, .ref (a_g 0)), (2, .ref (a_f 0))]) hx hb dX3_pinOuterNodes_3 hl (by decide) rfl (fun ls hl => ?_)
  refine lv_aload_n hx hb dX3_pinOuterNodes_5 rfl (lv_at hl 4 rfl) ?_
  refine va_get (D := D) (ci := 0) (C := RX0) (T := TX0) (N := 9) hx hb hT kwX0 hown hK.1 hP 8 rfl rfl 5 (by decide) (hT _ kf_X3_55) (fun _ h9 => h9) rfl dX3_pinOuterNodes_6 ?_
  refine lv_aload_n hx hb dX3_pinOuterNodes_9 rfl (lv_at hl 3 rfl) ?_
  refine va_get (D := D) (ci := 1) (C := RX1) (T := TX1) (N := 7) hx hb hT kwX1 hown hK.1 hP 3 rfl rfl 2 (by decide) (hT _ kf_X3_24) (fun _ h9 => h9) rfl dX3_pinOuterNodes_10 ?_
  obtain ⟨h_1, hf⟩ := chk_s hf
  refine va_iald hx hb hK.1 hP 11 0 rfl rfl (inb_in h_1) dX3_pinOuterNodes_13 ?_
  refine lv_topi (fun x5_2 ex5_2 => ?_)
  have hf := nm_t ex5_2 hf
  refine lv_istore (lv' := [(5, .int x5_2), (4, .int 0), (3, .int 0), (0, .ref (a_la 0)), (1, .ref (a_g 0)), (2, .ref (a_f 0))]) hx hb dX3_pinOuterNodes_14 hl (by decide) rfl (fun ls hl => ?_)
  refine lv_iconst (v := 0) hx hb dX3_pinOuterNodes_16 (by decide) ?_
  refine lv_istore (lv' := [(6, .int 0), (5, .int x5_2), (4, .int 0), (3, .int 0), (0, .ref (a_la 0)), (1, .ref (a_g 0)), (2, .ref (a_f 0))]) hx hb dX3_pinOuterNodes_17 hl (by decide) rfl (fun ls hl => ?_)
  exact B19 N 0 0 x5_2 0 la_x la_y _ _ _ (lv_sub hl [4, 5, 6, 3, 2, 1, 0] rfl) hP hD hS hf
set_option maxRecDepth 100000 in
set_option maxHeartbeats 4000000 in
theorem c_X3_relax (l : Launch) (D : va_G) (cA : Nat → ClassId) (a_la : Nat → Nat) (a_g : Nat → Nat) (la_x : Nat → UInt32) (la_y : Nat → UInt32) (g_nodes : Int32) (g_edges : Int32) (g_outer : Int32) (g_low : Nat → Int32) (g_high : Nat → Int32) (g_degree : Nat → Int32) (g_turns : Nat → Int32) (p2 : Int32) (sz N : Nat) (ρ : (Nat → UInt32) × (Nat → UInt32)) (hf : f_X3_relax N g_low g_high g_degree g_turns la_x la_y p2 = some ρ) : Met l yX3_relax (Cond.code yX3_relax cX3_relax 9 (Option.none : Option Jvm.ClassFile.FieldType) :: lw_g) ({ frames := 1, cells := 0, slots := 0, locals := 22 } : Room) (PcW D (tyA cA) (wX3 cA a_la la_x la_y ++ (wX1 cA a_g g_nodes g_edges g_outer g_low g_high g_degree g_turns)) sz [.ref (a_la 0), .ref (a_g 0), .int p2]) (va_Qv (fun (_ : Unit) => True) (fun _ t => va_P D vwCl (wX3 cA a_la ρ.1 ρ.2 ++ (wX1 cA a_g g_nodes g_edges g_outer g_low g_high g_degree g_turns)) t.heap ∧ va_D (va_A (wX3 cA a_la la_x la_y ++ (wX1 cA a_g g_nodes g_edges g_outer g_low g_high g_degree g_turns)) sz) (wX3 cA a_la ρ.1 ρ.2 ++ (wX1 cA a_g g_nodes g_edges g_outer g_low g_high g_degree g_turns))) (va_A (wX3 cA a_la la_x la_y ++ (wX1 cA a_g g_nodes g_edges g_outer g_low g_high g_degree g_turns)) sz)) 0 0 (va_A (wX3 cA a_la la_x la_y ++ (wX1 cA a_g g_nodes g_edges g_outer g_low g_high g_degree g_turns)) sz) := by
  refine mkW (QQ := fun A => va_Qv (fun (_ : Unit) => True) (fun _ t => va_P D vwCl (wX3 cA a_la ρ.1 ρ.2 ++ (wX1 cA a_g g_nodes g_edges g_outer g_low g_high g_degree g_turns)) t.heap ∧ va_D A (wX3 cA a_la ρ.1 ρ.2 ++ (wX1 cA a_g g_nodes g_edges g_outer g_low g_high g_degree g_turns))) A) (by decide) (Nat.le_of_ble_eq_true rfl) fun p e s m below meth c ls A C hl hP hK hD hA hS => ?_
  obtain ⟨hx, hb, hml, hown, hT, hr, hlk⟩ := id C
  have hl : lv_has ls 9 [(0, .ref (a_la 0)), (1, .ref (a_g 0)), (2, .int p2)] := hl
  have B90 : ∀ (x2 : Int32) (x3 : UInt32) (x4 : UInt32) (x5 : Int32) (la_x : Nat → UInt32) (la_y : Nat → UInt32) (H : Heap) (locs : List Loc) (ls : Array Slot), lv_has ls 9 [(0, .ref (a_la 0)), (2, .int x2), (3, .float x3), (4, .float x4), (5, .int x5)] → va_P D vwCl (wX3 cA a_la la_x la_y ++ (wX1 cA a_g g_nodes g_edges g_outer g_low g_high g_degree g_turns)) H → va_D A (wX3 cA a_la la_x la_y ++ (wX1 cA a_g g_nodes g_edges g_outer g_low g_high g_degree g_turns)) → va_S A s.heap H locs → f_X3_relax_b90 N g_low g_high g_degree g_turns x2 x3 x4 x5 la_x la_y = some ρ → W p l e ({ frames := 1, cells := 0, slots := 0, locals := 22 } : Room) s m ([.ref (a_la 0), .ref (a_g 0), .int p2] : List Value).toArray below meth c H locs 0 0 (MQ below (va_Qv (fun (_ : Unit) => True) (fun _ t => va_P D vwCl (wX3 cA a_la ρ.1 ρ.2 ++ (wX1 cA a_g g_nodes g_edges g_outer g_low g_high g_degree g_turns)) t.heap ∧ va_D A (wX3 cA a_la ρ.1 ρ.2 ++ (wX1 cA a_g g_nodes g_edges g_outer g_low g_high g_degree g_turns))) A) ([.ref (a_la 0), .ref (a_g 0), .int p2] : List Value).toArray s 0 0 A) (F0 m 90 ls []) := by
    intro x2 x3 x4 x5 la_x la_y H locs ls hl hP hD hS hf
    refine lv_iload hx hb dX3_relax_90 (lv_at hl 4 rfl) ?_
    refine lv_if_le (tgt := 118) hx hb dX3_relax_92 (by decide) (fun c_17 => ?_) (fun c_17 => ?_)
    · have hf := ite_t c_17 hf
      have eR := some_i hf
      exact W.vret hx hb hr (fun t ht hW => ⟨⟨(), rfl, trivial, by rw [← eR, ht]; exact hP, by rw [← eR]; exact hD⟩, hS.F ht⟩) hS.2.2 dX3_relax_118 (hlocks := hlk)
    · have hf := ite_f c_17 hf
      refine lv_aload_n hx hb dX3_relax_95 rfl (lv_at hl 0 rfl) ?_
      refine va_get (D := D) (ci := 3) (C := RX3) (T := TX3) (N := 2) hx hb hT kwX3 hown hK.1 hP 0 rfl rfl 0 (by decide) (hT _ kf_X3_9) (fun _ h9 => h9) rfl dX3_relax_96 ?_
      refine lv_iload_n hx hb dX3_relax_99 rfl (lv_at hl 1 rfl) ?_
      refine lv_fload_n hx hb dX3_relax_100 rfl (lv_at hl 2 rfl) ?_
      refine lv_iload hx hb dX3_relax_101 (lv_at hl 4 rfl) ?_
      refine lv_i2f hx hb dX3_relax_103 ?_
      obtain ⟨h_18, hf⟩ := chk_s hf
      refine lv_fdiv hx hb dX3_relax_104 (nn_n h_18) ?_
      obtain ⟨h_19, hf⟩ := chk_s hf
      refine va_fast hx hb hK.1 hP hD hS 1 1 rfl rfl (inb_in h_19) dX3_relax_105 (fun H locs hP hD hS => ?_)
      have hP : va_P D vwCl (wX3 cA a_la (vf_upd la_x x2.toNatClampNeg (FP.fdiv x3 (FP.i2f x5))) la_y ++ (wX1 cA a_g g_nodes g_edges g_outer g_low g_high g_degree g_turns)) H := hP
      have hD : va_D A (wX3 cA a_la (vf_upd la_x x2.toNatClampNeg (FP.fdiv x3 (FP.i2f x5))) la_y ++ (wX1 cA a_g g_nodes g_edges g_outer g_low g_high g_degree g_turns)) := hD
      refine lv_aload_n hx hb dX3_relax_106 rfl (lv_at hl 0 rfl) ?_
      refine va_get (D := D) (ci := 3) (C := RX3) (T := TX3) (N := 2) hx hb hT kwX3 hown hK.1 hP 0 rfl rfl 1 (by decide) (hT _ kf_X3_15) (fun _ h9 => h9) rfl dX3_relax_107 ?_
      refine lv_iload_n hx hb dX3_relax_110 rfl (lv_at hl 1 rfl) ?_
      refine lv_fload hx hb dX3_relax_111 (lv_at hl 3 rfl) ?_
      refine lv_iload hx hb dX3_relax_113 (lv_at hl 4 rfl) ?_
      refine lv_i2f hx hb dX3_relax_115 ?_
      obtain ⟨h_20, hf⟩ := chk_s hf
      refine lv_fdiv hx hb dX3_relax_116 (nn_n h_20) ?_
      obtain ⟨h_21, hf⟩ := chk_s hf
      refine va_fast hx hb hK.1 hP hD hS 2 1 rfl rfl (inb_in h_21) dX3_relax_117 (fun H locs hP hD hS => ?_)
      have hP : va_P D vwCl (wX3 cA a_la (vf_upd la_x x2.toNatClampNeg (FP.fdiv x3 (FP.i2f x5))) (vf_upd la_y x2.toNatClampNeg (FP.fdiv x4 (FP.i2f x5))) ++ (wX1 cA a_g g_nodes g_edges g_outer g_low g_high g_degree g_turns)) H := hP
      have hD : va_D A (wX3 cA a_la (vf_upd la_x x2.toNatClampNeg (FP.fdiv x3 (FP.i2f x5))) (vf_upd la_y x2.toNatClampNeg (FP.fdiv x4 (FP.i2f x5))) ++ (wX1 cA a_g g_nodes g_edges g_outer g_low g_high g_degree g_turns)) := hD
      have eR := some_i hf
      exact W.vret hx hb hr (fun t ht hW => ⟨⟨(), rfl, trivial, by rw [← eR, ht]; exact hP, by rw [← eR]; exact hD⟩, hS.F ht⟩) hS.2.2 dX3_relax_118 (hlocks := hlk)
  have B16 : ∀ (n16 : Nat), ∀ (x2 : Int32) (x3 : UInt32) (x4 : UInt32) (x5 : Int32) (x6 : Int32) (la_x : Nat → UInt32) (la_y : Nat → UInt32) (H : Heap) (locs : List Loc) (ls : Array Slot), lv_has ls 9 [(0, .ref (a_la 0)), (1, .ref (a_g 0)), (2, .int x2), (3, .float x3), (4, .float x4), (5, .int x5), (6, .int x6)] → va_P D vwCl (wX3 cA a_la la_x la_y ++ (wX1 cA a_g g_nodes g_edges g_outer g_low g_high g_degree g_turns)) H → va_D A (wX3 cA a_la la_x la_y ++ (wX1 cA a_g g_nodes g_edges g_outer g_low g_high g_degree g_turns)) → va_S A s.heap H locs → f_X3_relax_b16 N g_low g_high g_degree g_turns n16 x2 x3 x4 x5 x6 la_x la_y = some ρ → W p l e ({ frames := 1, cells := 0, slots := 0, locals := 22 } : Room) s m ([.ref (a_la 0), .ref (a_g 0), .int p2] : List Value).toArray below meth c H locs 0 0 (MQ below (va_Qv (fun (_ : Unit) => True) (fun _ t => va_P D vwCl (wX3 cA a_la ρ.1 ρ.2 ++ (wX1 cA a_g g_nodes g_edges g_outer g_low g_high g_degree g_turns)) t.heap ∧ va_D A (wX3 cA a_la ρ.1 ρ.2 ++ (wX1 cA a_g g_nodes g_edges g_outer g_low g_high g_degree g_turns))) A) ([.ref (a_la 0), .ref (a_g 0), .int p2] : List Value).toArray s 0 0 A) (F0 m 16 ls []) := by
    intro n16
    induction n16 with
    | zero =>
      intro x2 x3 x4 x5 x6 la_x la_y H locs ls hl hP hD hS hf
      cases (show (none : Option ((Nat → UInt32) × (Nat → UInt32))) = some ρ from hf)
    | succ n16 ih16 =>
      have B60 : ∀ (x2 : Int32) (x3 : UInt32) (x4 : UInt32) (x5 : Int32) (x6 : Int32) (y0 : Int32) (la_x : Nat → UInt32) (la_y : Nat → UInt32) (H : Heap) (locs : List Loc) (ls : Array Slot), lv_has ls 9 [(0, .ref (a_la 0)), (1, .ref (a_g 0)), (2, .int x2), (3, .float x3), (4, .float x4), (5, .int x5), (6, .int x6)] → va_P D vwCl (wX3 cA a_la la_x la_y ++ (wX1 cA a_g g_nodes g_edges g_outer g_low g_high g_degree g_turns)) H → va_D A (wX3 cA a_la la_x la_y ++ (wX1 cA a_g g_nodes g_edges g_outer g_low g_high g_degree g_turns)) → va_S A s.heap H locs → f_X3_relax_b60 N g_low g_high g_degree g_turns (f_X3_relax_b16 N g_low g_high g_degree g_turns n16) x2 x3 x4 x5 x6 y0 la_x la_y = some ρ → W p l e ({ frames := 1, cells := 0, slots := 0, locals := 22 } : Room) s m ([.ref (a_la 0), .ref (a_g 0), .int p2] : List Value).toArray below meth c H locs 0 0 (MQ below (va_Qv (fun (_ : Unit) => True) (fun _ t => va_P D vwCl (wX3 cA a_la ρ.1 ρ.2 ++ (wX1 cA a_g g_nodes g_edges g_outer g_low g_high g_degree g_turns)) t.heap ∧ va_D A (wX3 cA a_la ρ.1 ρ.2 ++ (wX1 cA a_g g_nodes g_edges g_outer g_low g_high g_degree g_turns))) A) ([.ref (a_la 0), .ref (a_g 0), .int p2] : List Value).toArray s 0 0 A) (F0 m 60 ls [.int y0]) := by
        intro x2 x3 x4 x5 x6 y0 la_x la_y H locs ls hl hP hD hS hf
        refine lv_istore (lv' := [(8, .int y0), (0, .ref (a_la 0)), (1, .ref (a_g 0)), (2, .int x2), (3, .float x3), (4, .float x4), (5, .int x5), (6, .int x6)]) hx hb dX3_relax_60 hl (by decide) rfl (fun ls hl => ?_)
        refine lv_fload_n hx hb dX3_relax_62 rfl (lv_at hl 4 rfl) ?_
        refine lv_aload_n hx hb dX3_relax_63 rfl (lv_at hl 1 rfl) ?_
        refine va_get (D := D) (ci := 3) (C := RX3) (T := TX3) (N := 2) hx hb hT kwX3 hown hK.1 hP 0 rfl rfl 0 (by decide) (hT _ kf_X3_9) (fun _ h9 => h9) rfl dX3_relax_64 ?_
        refine lv_iload hx hb dX3_relax_67 (lv_at hl 0 rfl) ?_
        obtain ⟨h_11, hf⟩ := chk_s hf
        refine va_fald hx hb hK.1 hP 1 1 rfl rfl (inb_in h_11) dX3_relax_69 ?_
        obtain ⟨h_12, hf⟩ := chk_s hf
        refine lv_fadd hx hb dX3_relax_70 (nn_n h_12) ?_
        refine lv_topf (fun x3_13 ex3_13 => ?_)
        have hf := nm_t ex3_13 hf
        refine lv_fstore_n (lv' := [(3, .float x3_13), (8, .int y0), (0, .ref (a_la 0)), (1, .ref (a_g 0)), (2, .int x2), (4, .float x4), (5, .int x5), (6, .int x6)]) hx hb dX3_relax_71 rfl hl (by decide) rfl (fun ls hl => ?_)
        refine lv_fload hx hb dX3_relax_72 (lv_at hl 5 rfl) ?_
        refine lv_aload_n hx hb dX3_relax_74 rfl (lv_at hl 2 rfl) ?_
        refine va_get (D := D) (ci := 3) (C := RX3) (T := TX3) (N := 2) hx hb hT kwX3 hown hK.1 hP 0 rfl rfl 1 (by decide) (hT _ kf_X3_15) (fun _ h9 => h9) rfl dX3_relax_75 ?_
        refine lv_iload hx hb dX3_relax_78 (lv_at hl 1 rfl) ?_
        obtain ⟨h_14, hf⟩ := chk_s hf
        refine va_fald hx hb hK.1 hP 2 1 rfl rfl (inb_in h_14) dX3_relax_80 ?_
        obtain ⟨h_15, hf⟩ := chk_s hf
        refine lv_fadd hx hb dX3_relax_81 (nn_n h_15) ?_
        refine lv_topf (fun x4_16 ex4_16 => ?_)
        have hf := nm_t ex4_16 hf
        refine lv_fstore (lv' := [(4, .float x4_16), (3, .float x3_13), (8, .int y0), (0, .ref (a_la 0)), (1, .ref (a_g 0)), (2, .int x2), (5, .int x5), (6, .int x6)]) hx hb dX3_relax_82 hl (by decide) rfl (fun ls hl => ?_)
        refine lv_iinc (v := (x6 + 1)) (lv' := [(6, .int (x6 + 1)), (4, .float x4_16), (3, .float x3_13), (8, .int y0), (0, .ref (a_la 0)), (1, .ref (a_g 0)), (2, .int x2), (5, .int x5)]) hx hb dX3_relax_84 hl (k := 7) rfl rfl (by decide) rfl (fun ls hl => ?_)
        refine lv_goto (tgt := 16) hx hb dX3_relax_87 (by decide) ?_
        exact ih16 x2 x3_13 x4_16 x5 (x6 + 1) la_x la_y _ _ _ (lv_sub hl [4, 5, 6, 2, 1, 7, 0] rfl) hP hD hS hf
      intro x2 x3 x4 x5 x6 la_x la_y H locs ls hl hP hD hS hf
      refine lv_iload hx hb dX3_relax_16 (lv_at hl 6 rfl) ?_
      refine lv_iload hx hb dX3_relax_18 (lv_at hl 5 rfl) ?_
      refine lv_icmp_ge (tgt := 90) hx hb dX3_relax_20 (by decide) (fun c_5 => ?_) (fun c_5 => ?_)
      · have hf := ite_t c_5 hf
        exact B90 x2 x3 x4 x5 la_x la_y _ _ _ (lv_sub hl [0, 2, 3, 4, 5] rfl) hP hD hS hf
      · have hf := ite_f c_5 hf
        refine lv_aload_n hx hb dX3_relax_23 rfl (lv_at hl 1 rfl) ?_
        refine lv_iload_n hx hb dX3_relax_24 rfl (lv_at hl 2 rfl) ?_
        refine lv_iload hx hb dX3_relax_25 (lv_at hl 6 rfl) ?_
        obtain ⟨r_6, hcr_6, hf⟩ := bd1_s hf
        refine backI (runV0 C (c_X1_edgeAt l D cA a_g g_nodes g_edges g_outer g_low g_high g_degree g_turns x2 x6 N r_6 hcr_6) cf_X1_edgeAt km_X3_71 ⟨rfl, rfl, by decide, by decide⟩ ⟨Nat.zero_le _, Nat.zero_le _⟩ (va_recv hK.1 hP (ci := 1) (q0 := 3) rfl rfl) (hP.sub [3, 4, 5, 6, 7] rfl) hK hl.1 rfl rfl (Nat.le_of_ble_eq_true rfl) dX3_relax_27) ?_
        refine lv_istore (lv' := [(7, .int r_6), (0, .ref (a_la 0)), (1, .ref (a_g 0)), (2, .int x2), (3, .float x3), (4, .float x4), (5, .int x5), (6, .int x6)]) hx hb dX3_relax_30 hl (by decide) rfl (fun ls hl => ?_)
        refine lv_aload_n hx hb dX3_relax_32 rfl (lv_at hl 2 rfl) ?_
        refine va_get (D := D) (ci := 1) (C := RX1) (T := TX1) (N := 7) hx hb hT kwX1 hown hK.1 hP 3 rfl rfl 3 (by decide) (hT _ kf_X3_75) (fun _ h9 => h9) rfl dX3_relax_33 ?_
        refine lv_iload hx hb dX3_relax_36 (lv_at hl 0 rfl) ?_
        obtain ⟨h_7, hf⟩ := chk_s hf
        refine va_iald hx hb hK.1 hP 4 0 rfl rfl (inb_in h_7) dX3_relax_38 ?_
        refine lv_iload_n hx hb dX3_relax_39 rfl (lv_at hl 3 rfl) ?_
        refine lv_icmp_ne (tgt := 53) hx hb dX3_relax_40 (by decide) (fun c_8 => ?_) (fun c_8 => ?_)
        · have hf := ite_t c_8 hf
          refine lv_aload_n hx hb dX3_relax_53 rfl (lv_at hl 2 rfl) ?_
          refine va_get (D := D) (ci := 1) (C := RX1) (T := TX1) (N := 7) hx hb hT kwX1 hown hK.1 hP 3 rfl rfl 3 (by decide) (hT _ kf_X3_75) (fun _ h9 => h9) rfl dX3_relax_54 ?_
          refine lv_iload hx hb dX3_relax_57 (lv_at hl 0 rfl) ?_
          obtain ⟨h_9, hf⟩ := chk_s hf
          refine va_iald hx hb hK.1 hP 4 0 rfl rfl (inb_in h_9) dX3_relax_59 ?_
          exact B60 x2 x3 x4 x5 x6 (g_low r_6.toNatClampNeg) la_x la_y _ _ _ (lv_sub hl [1, 2, 3, 4, 5, 6, 7] rfl) hP hD hS hf
        · have hf := ite_fn c_8 hf
          refine lv_aload_n hx hb dX3_relax_43 rfl (lv_at hl 2 rfl) ?_
          refine va_get (D := D) (ci := 1) (C := RX1) (T := TX1) (N := 7) hx hb hT kwX1 hown hK.1 hP 3 rfl rfl 4 (by decide) (hT _ kf_X3_78) (fun _ h9 => h9) rfl dX3_relax_44 ?_
          refine lv_iload hx hb dX3_relax_47 (lv_at hl 0 rfl) ?_
          obtain ⟨h_10, hf⟩ := chk_s hf
          refine va_iald hx hb hK.1 hP 5 0 rfl rfl (inb_in h_10) dX3_relax_49 ?_
          refine lv_goto (tgt := 60) hx hb dX3_relax_50 (by decide) ?_
          exact B60 x2 x3 x4 x5 x6 (g_high r_6.toNatClampNeg) la_x la_y _ _ _ (lv_sub hl [1, 2, 3, 4, 5, 6, 7] rfl) hP hD hS hf
  refine lv_fconst0 hx hb dX3_relax_0 ?_
  refine lv_topf (fun x3_1 ex3_1 => ?_)
  have hf := nm_t ex3_1 hf
  refine lv_fstore_n (lv' := [(3, .float x3_1), (0, .ref (a_la 0)), (1, .ref (a_g 0)), (2, .int p2)]) hx hb dX3_relax_1 rfl hl (by decide) rfl (fun ls hl => ?_)
  refine lv_fconst0 hx hb dX3_relax_2 ?_
  refine lv_topf (fun x4_2 ex4_2 => ?_)
  have hf := nm_t ex4_2 hf
  refine lv_fstore (lv' := [(4, .float x4_2), (3, .float x3_1), (0, .ref (a_la 0)), (1, .ref (a_g 0)), (2, .int p2)]) hx hb dX3_relax_3 hl (by decide) rfl (fun ls hl => ?_)
  refine lv_aload_n hx hb dX3_relax_5 rfl (lv_at hl 3 rfl) ?_
  refine va_get (D := D) (ci := 1) (C := RX1) (T := TX1) (N := 7) hx hb hT kwX1 hown hK.1 hP 3 rfl rfl 5 (by decide) (hT _ kf_X3_47) (fun _ h9 => h9) rfl dX3_relax_6 ?_
  refine lv_iload_n hx hb dX3_relax_9 rfl (lv_at hl 4 rfl) ?_
  obtain ⟨h_3, hf⟩ := chk_s hf
  refine va_iald hx hb hK.1 hP 6 0 rfl rfl (inb_in h_3) dX3_relax_10 ?_
  refine lv_topi (fun x5_4 ex5_4 => ?_)
  have hf := nm_t ex5_4 hf
  refine lv_istore (lv' := [(5, .int x5_4), (4, .float x4_2), (3, .float x3_1), (0, .ref (a_la 0)), (1, .ref (a_g 0)), (2, .int p2)]) hx hb dX3_relax_11 hl (by decide) rfl (fun ls hl => ?_)
  refine lv_iconst (v := 0) hx hb dX3_relax_13 (by decide) ?_
  refine lv_istore (lv' := [(6, .int 0), (5, .int x5_4), (4, .float x4_2), (3, .float x3_1), (0, .ref (a_la 0)), (1, .ref (a_g 0)), (2, .int p2)]) hx hb dX3_relax_14 hl (by decide) rfl (fun ls hl => ?_)
  exact B16 N p2 x3_1 x4_2 x5_4 0 la_x la_y _ _ _ (lv_sub hl [4, 5, 6, 3, 2, 1, 0] rfl) hP hD hS hf
set_option maxRecDepth 100000 in
set_option maxHeartbeats 4000000 in
theorem c_X3_arrange (l : Launch) (D : va_G) (cA : Nat → ClassId) (a_la : Nat → Nat) (a_g : Nat → Nat) (a_f : Nat → Nat) (la_x : Nat → UInt32) (la_y : Nat → UInt32) (g_nodes : Int32) (g_edges : Int32) (g_outer : Int32) (g_low : Nat → Int32) (g_high : Nat → Int32) (g_degree : Nat → Int32) (g_turns : Nat → Int32) (f_number : Int32) (f_components : Int32) (f_genus : Int32) (f_next : Nat → Int32) (f_owner : Nat → Int32) (f_first : Nat → Int32) (f_length : Nat → Int32) (f_nodeSet : Nat → Int32) (f_near : Nat → Int32) (p3 : Int32) (sz N : Nat) (ρ : (Nat → UInt32) × (Nat → UInt32)) (hf : f_X3_arrange N f_number f_next f_first f_length g_nodes g_outer g_low g_high g_degree g_turns la_x la_y p3 = some ρ) : Met l yX3_arrange (Cond.code yX3_arrange cX3_arrange 7 (Option.none : Option Jvm.ClassFile.FieldType) :: lw_g) ({ frames := 2, cells := 0, slots := 0, locals := 50 } : Room) (PcW D (tyA cA) (wX3 cA a_la la_x la_y ++ (wX1 cA a_g g_nodes g_edges g_outer g_low g_high g_degree g_turns ++ (wX0 cA a_f f_number f_components f_genus f_next f_owner f_first f_length f_nodeSet f_near))) sz [.ref (a_la 0), .ref (a_g 0), .ref (a_f 0), .int p3]) (va_Qv (fun (_ : Unit) => True) (fun _ t => va_P D vwCl (wX3 cA a_la ρ.1 ρ.2 ++ (wX1 cA a_g g_nodes g_edges g_outer g_low g_high g_degree g_turns ++ (wX0 cA a_f f_number f_components f_genus f_next f_owner f_first f_length f_nodeSet f_near))) t.heap ∧ va_D (va_A (wX3 cA a_la la_x la_y ++ (wX1 cA a_g g_nodes g_edges g_outer g_low g_high g_degree g_turns ++ (wX0 cA a_f f_number f_components f_genus f_next f_owner f_first f_length f_nodeSet f_near))) sz) (wX3 cA a_la ρ.1 ρ.2 ++ (wX1 cA a_g g_nodes g_edges g_outer g_low g_high g_degree g_turns ++ (wX0 cA a_f f_number f_components f_genus f_next f_owner f_first f_length f_nodeSet f_near)))) (va_A (wX3 cA a_la la_x la_y ++ (wX1 cA a_g g_nodes g_edges g_outer g_low g_high g_degree g_turns ++ (wX0 cA a_f f_number f_components f_genus f_next f_owner f_first f_length f_nodeSet f_near))) sz)) 0 0 (va_A (wX3 cA a_la la_x la_y ++ (wX1 cA a_g g_nodes g_edges g_outer g_low g_high g_degree g_turns ++ (wX0 cA a_f f_number f_components f_genus f_next f_owner f_first f_length f_nodeSet f_near))) sz) := by
  refine mkW (QQ := fun A => va_Qv (fun (_ : Unit) => True) (fun _ t => va_P D vwCl (wX3 cA a_la ρ.1 ρ.2 ++ (wX1 cA a_g g_nodes g_edges g_outer g_low g_high g_degree g_turns ++ (wX0 cA a_f f_number f_components f_genus f_next f_owner f_first f_length f_nodeSet f_near))) t.heap ∧ va_D A (wX3 cA a_la ρ.1 ρ.2 ++ (wX1 cA a_g g_nodes g_edges g_outer g_low g_high g_degree g_turns ++ (wX0 cA a_f f_number f_components f_genus f_next f_owner f_first f_length f_nodeSet f_near)))) A) (by decide) (Nat.le_of_ble_eq_true rfl) fun p e s m below meth c ls A C hl hP hK hD hA hS => ?_
  obtain ⟨hx, hb, hml, hown, hT, hr, hlk⟩ := id C
  have hl : lv_has ls 7 [(0, .ref (a_la 0)), (1, .ref (a_g 0)), (2, .ref (a_f 0)), (3, .int p3)] := hl
  have B42 : ∀ (n42 : Nat), ∀ (x3 : Int32) (x4 : Int32) (x5 : Int32) (la_x : Nat → UInt32) (la_y : Nat → UInt32) (H : Heap) (locs : List Loc) (ls : Array Slot), lv_has ls 7 [(0, .ref (a_la 0)), (1, .ref (a_g 0)), (3, .int x3), (4, .int x4), (5, .int x5)] → va_P D vwCl (wX3 cA a_la la_x la_y ++ (wX1 cA a_g g_nodes g_edges g_outer g_low g_high g_degree g_turns ++ (wX0 cA a_f f_number f_components f_genus f_next f_owner f_first f_length f_nodeSet f_near))) H → va_D A (wX3 cA a_la la_x la_y ++ (wX1 cA a_g g_nodes g_edges g_outer g_low g_high g_degree g_turns ++ (wX0 cA a_f f_number f_components f_genus f_next f_owner f_first f_length f_nodeSet f_near))) → va_S A s.heap H locs → f_X3_arrange_b42 N f_number f_next f_first f_length g_nodes g_outer g_low g_high g_degree g_turns n42 x3 x4 x5 la_x la_y = some ρ → W p l e ({ frames := 2, cells := 0, slots := 0, locals := 50 } : Room) s m ([.ref (a_la 0), .ref (a_g 0), .ref (a_f 0), .int p3] : List Value).toArray below meth c H locs 0 0 (MQ below (va_Qv (fun (_ : Unit) => True) (fun _ t => va_P D vwCl (wX3 cA a_la ρ.1 ρ.2 ++ (wX1 cA a_g g_nodes g_edges g_outer g_low g_high g_degree g_turns ++ (wX0 cA a_f f_number f_components f_genus f_next f_owner f_first f_length f_nodeSet f_near))) t.heap ∧ va_D A (wX3 cA a_la ρ.1 ρ.2 ++ (wX1 cA a_g g_nodes g_edges g_outer g_low g_high g_degree g_turns ++ (wX0 cA a_f f_number f_components f_genus f_next f_owner f_first f_length f_nodeSet f_near)))) A) ([.ref (a_la 0), .ref (a_g 0), .ref (a_f 0), .int p3] : List Value).toArray s 0 0 A) (F0 m 42 ls []) := by
    intro n42
    induction n42 with
    | zero =>
      intro x3 x4 x5 la_x la_y H locs ls hl hP hD hS hf
      cases (show (none : Option ((Nat → UInt32) × (Nat → UInt32))) = some ρ from hf)
    | succ n42 ih42 =>
      have B93 : ∀ (x3 : Int32) (x4 : Int32) (x5 : Int32) (la_x : Nat → UInt32) (la_y : Nat → UInt32) (H : Heap) (locs : List Loc) (ls : Array Slot), lv_has ls 7 [(0, .ref (a_la 0)), (1, .ref (a_g 0)), (3, .int x3), (4, .int x4), (5, .int x5)] → va_P D vwCl (wX3 cA a_la la_x la_y ++ (wX1 cA a_g g_nodes g_edges g_outer g_low g_high g_degree g_turns ++ (wX0 cA a_f f_number f_components f_genus f_next f_owner f_first f_length f_nodeSet f_near))) H → va_D A (wX3 cA a_la la_x la_y ++ (wX1 cA a_g g_nodes g_edges g_outer g_low g_high g_degree g_turns ++ (wX0 cA a_f f_number f_components f_genus f_next f_owner f_first f_length f_nodeSet f_near))) → va_S A s.heap H locs → f_X3_arrange_b93 N f_number f_next f_first f_length g_nodes g_outer g_low g_high g_degree g_turns (f_X3_arrange_b42 N f_number f_next f_first f_length g_nodes g_outer g_low g_high g_degree g_turns n42) x3 x4 x5 la_x la_y = some ρ → W p l e ({ frames := 2, cells := 0, slots := 0, locals := 50 } : Room) s m ([.ref (a_la 0), .ref (a_g 0), .ref (a_f 0), .int p3] : List Value).toArray below meth c H locs 0 0 (MQ below (va_Qv (fun (_ : Unit) => True) (fun _ t => va_P D vwCl (wX3 cA a_la ρ.1 ρ.2 ++ (wX1 cA a_g g_nodes g_edges g_outer g_low g_high g_degree g_turns ++ (wX0 cA a_f f_number f_components f_genus f_next f_owner f_first f_length f_nodeSet f_near))) t.heap ∧ va_D A (wX3 cA a_la ρ.1 ρ.2 ++ (wX1 cA a_g g_nodes g_edges g_outer g_low g_high g_degree g_turns ++ (wX0 cA a_f f_number f_components f_genus f_next f_owner f_first f_length f_nodeSet f_near)))) A) ([.ref (a_la 0), .ref (a_g 0), .ref (a_f 0), .int p3] : List Value).toArray s 0 0 A) (F0 m 93 ls []) := by
        intro x3 x4 x5 la_x la_y H locs ls hl hP hD hS hf
        refine lv_iinc (v := (x5 + 1)) (lv' := [(5, .int (x5 + 1)), (0, .ref (a_la 0)), (1, .ref (a_g 0)), (3, .int x3), (4, .int x4)]) hx hb dX3_arrange_93 hl (k := 4) rfl rfl (by decide) rfl (fun ls hl => ?_)
        refine lv_goto (tgt := 42) hx hb dX3_arrange_96 (by decide) ?_
        exact ih42 x3 x4 (x5 + 1) la_x la_y _ _ _ (lv_sub hl [1, 2, 3, 4, 0] rfl) hP hD hS hf
      have B51 : ∀ (n51 : Nat), ∀ (x3 : Int32) (x4 : Int32) (x5 : Int32) (x6 : Int32) (la_x : Nat → UInt32) (la_y : Nat → UInt32) (H : Heap) (locs : List Loc) (ls : Array Slot), lv_has ls 7 [(0, .ref (a_la 0)), (1, .ref (a_g 0)), (3, .int x3), (4, .int x4), (5, .int x5), (6, .int x6)] → va_P D vwCl (wX3 cA a_la la_x la_y ++ (wX1 cA a_g g_nodes g_edges g_outer g_low g_high g_degree g_turns ++ (wX0 cA a_f f_number f_components f_genus f_next f_owner f_first f_length f_nodeSet f_near))) H → va_D A (wX3 cA a_la la_x la_y ++ (wX1 cA a_g g_nodes g_edges g_outer g_low g_high g_degree g_turns ++ (wX0 cA a_f f_number f_components f_genus f_next f_owner f_first f_length f_nodeSet f_near))) → va_S A s.heap H locs → f_X3_arrange_b51 N f_number f_next f_first f_length g_nodes g_outer g_low g_high g_degree g_turns (f_X3_arrange_b42 N f_number f_next f_first f_length g_nodes g_outer g_low g_high g_degree g_turns n42) n51 x3 x4 x5 x6 la_x la_y = some ρ → W p l e ({ frames := 2, cells := 0, slots := 0, locals := 50 } : Room) s m ([.ref (a_la 0), .ref (a_g 0), .ref (a_f 0), .int p3] : List Value).toArray below meth c H locs 0 0 (MQ below (va_Qv (fun (_ : Unit) => True) (fun _ t => va_P D vwCl (wX3 cA a_la ρ.1 ρ.2 ++ (wX1 cA a_g g_nodes g_edges g_outer g_low g_high g_degree g_turns ++ (wX0 cA a_f f_number f_components f_genus f_next f_owner f_first f_length f_nodeSet f_near))) t.heap ∧ va_D A (wX3 cA a_la ρ.1 ρ.2 ++ (wX1 cA a_g g_nodes g_edges g_outer g_low g_high g_degree g_turns ++ (wX0 cA a_f f_number f_components f_genus f_next f_owner f_first f_length f_nodeSet f_near)))) A) ([.ref (a_la 0), .ref (a_g 0), .ref (a_f 0), .int p3] : List Value).toArray s 0 0 A) (F0 m 51 ls []) := by
        intro n51
        induction n51 with
        | zero =>
          intro x3 x4 x5 x6 la_x la_y H locs ls hl hP hD hS hf
          cases (show (none : Option ((Nat → UInt32) × (Nat → UInt32))) = some ρ from hf)
        | succ n51 ih51 =>
          have B87 : ∀ (x3 : Int32) (x4 : Int32) (x5 : Int32) (x6 : Int32) (la_x : Nat → UInt32) (la_y : Nat → UInt32) (H : Heap) (locs : List Loc) (ls : Array Slot), lv_has ls 7 [(0, .ref (a_la 0)), (1, .ref (a_g 0)), (3, .int x3), (4, .int x4), (5, .int x5), (6, .int x6)] → va_P D vwCl (wX3 cA a_la la_x la_y ++ (wX1 cA a_g g_nodes g_edges g_outer g_low g_high g_degree g_turns ++ (wX0 cA a_f f_number f_components f_genus f_next f_owner f_first f_length f_nodeSet f_near))) H → va_D A (wX3 cA a_la la_x la_y ++ (wX1 cA a_g g_nodes g_edges g_outer g_low g_high g_degree g_turns ++ (wX0 cA a_f f_number f_components f_genus f_next f_owner f_first f_length f_nodeSet f_near))) → va_S A s.heap H locs → f_X3_arrange_b87 N f_number f_next f_first f_length g_nodes g_outer g_low g_high g_degree g_turns (f_X3_arrange_b42 N f_number f_next f_first f_length g_nodes g_outer g_low g_high g_degree g_turns n42) (f_X3_arrange_b51 N f_number f_next f_first f_length g_nodes g_outer g_low g_high g_degree g_turns (f_X3_arrange_b42 N f_number f_next f_first f_length g_nodes g_outer g_low g_high g_degree g_turns n42) n51) x3 x4 x5 x6 la_x la_y = some ρ → W p l e ({ frames := 2, cells := 0, slots := 0, locals := 50 } : Room) s m ([.ref (a_la 0), .ref (a_g 0), .ref (a_f 0), .int p3] : List Value).toArray below meth c H locs 0 0 (MQ below (va_Qv (fun (_ : Unit) => True) (fun _ t => va_P D vwCl (wX3 cA a_la ρ.1 ρ.2 ++ (wX1 cA a_g g_nodes g_edges g_outer g_low g_high g_degree g_turns ++ (wX0 cA a_f f_number f_components f_genus f_next f_owner f_first f_length f_nodeSet f_near))) t.heap ∧ va_D A (wX3 cA a_la ρ.1 ρ.2 ++ (wX1 cA a_g g_nodes g_edges g_outer g_low g_high g_degree g_turns ++ (wX0 cA a_f f_number f_components f_genus f_next f_owner f_first f_length f_nodeSet f_near)))) A) ([.ref (a_la 0), .ref (a_g 0), .ref (a_f 0), .int p3] : List Value).toArray s 0 0 A) (F0 m 87 ls []) := by
            intro x3 x4 x5 x6 la_x la_y H locs ls hl hP hD hS hf
            refine lv_iinc (v := (x6 + 1)) (lv' := [(6, .int (x6 + 1)), (0, .ref (a_la 0)), (1, .ref (a_g 0)), (3, .int x3), (4, .int x4), (5, .int x5)]) hx hb dX3_arrange_87 hl (k := 5) rfl rfl (by decide) rfl (fun ls hl => ?_)
            refine lv_goto (tgt := 51) hx hb dX3_arrange_90 (by decide) ?_
            exact ih51 x3 x4 x5 (x6 + 1) la_x la_y _ _ _ (lv_sub hl [1, 2, 3, 4, 5, 0] rfl) hP hD hS hf
          intro x3 x4 x5 x6 la_x la_y H locs ls hl hP hD hS hf
          refine lv_iload hx hb dX3_arrange_51 (lv_at hl 5 rfl) ?_
          refine lv_aload_n hx hb dX3_arrange_53 rfl (lv_at hl 1 rfl) ?_
          refine va_get (D := D) (ci := 1) (C := RX1) (T := TX1) (N := 7) hx hb hT kwX1 hown hK.1 hP 3 rfl rfl 0 (by decide) (hT _ kf_X3_40) (fun _ h9 => h9) rfl dX3_arrange_54 ?_
          refine lv_icmp_ge (tgt := 93) hx hb dX3_arrange_57 (by decide) (fun c_5 => ?_) (fun c_5 => ?_)
          · have hf := ite_t c_5 hf
            exact B93 x3 x4 x5 la_x la_y _ _ _ (lv_sub hl [0, 1, 2, 3, 4] rfl) hP hD hS hf
          · have hf := ite_f c_5 hf
            refine lv_iload hx hb dX3_arrange_60 (lv_at hl 3 rfl) ?_
            refine lv_iload hx hb dX3_arrange_62 (lv_at hl 5 rfl) ?_
            obtain ⟨r_6, hcr_6, hf⟩ := bd1_s hf
            refine backI (runN0 C (c_X7_contains l D cA x4 x6 N r_6 hcr_6) cf_X7_contains kn_X3_43 ⟨rfl, rfl, by decide, by decide⟩ ⟨Nat.zero_le _, Nat.zero_le _⟩ (hP.sub [] rfl) hK hl.1 rfl rfl (Nat.le_of_ble_eq_true rfl) dX3_arrange_64) ?_
            refine lv_if_ne (tgt := 87) hx hb dX3_arrange_67 (by decide) (fun c_7 => ?_) (fun c_7 => ?_)
            · have hf := ite_t c_7 hf
              exact B87 x3 x4 x5 x6 la_x la_y _ _ _ (lv_sub hl [0, 1, 2, 3, 4, 5] rfl) hP hD hS hf
            · have hf := ite_fn c_7 hf
              refine lv_aload_n hx hb dX3_arrange_70 rfl (lv_at hl 1 rfl) ?_
              refine va_get (D := D) (ci := 1) (C := RX1) (T := TX1) (N := 7) hx hb hT kwX1 hown hK.1 hP 3 rfl rfl 5 (by decide) (hT _ kf_X3_47) (fun _ h9 => h9) rfl dX3_arrange_71 ?_
              refine lv_iload hx hb dX3_arrange_74 (lv_at hl 5 rfl) ?_
              obtain ⟨h_8, hf⟩ := chk_s hf
              refine va_iald hx hb hK.1 hP 6 0 rfl rfl (inb_in h_8) dX3_arrange_76 ?_
              refine lv_if_le (tgt := 87) hx hb dX3_arrange_77 (by decide) (fun c_9 => ?_) (fun c_9 => ?_)
              · have hf := ite_t c_9 hf
                exact B87 x3 x4 x5 x6 la_x la_y _ _ _ (lv_sub hl [0, 1, 2, 3, 4, 5] rfl) hP hD hS hf
              · have hf := ite_f c_9 hf
                refine lv_aload_n hx hb dX3_arrange_80 rfl (lv_at hl 0 rfl) ?_
                refine lv_aload_n hx hb dX3_arrange_81 rfl (lv_at hl 1 rfl) ?_
                refine lv_iload hx hb dX3_arrange_82 (lv_at hl 5 rfl) ?_
                obtain ⟨r_10, hcr_10, hf⟩ := bd1_s hf
                refine backWv (w2 := (wX3 cA a_la r_10.1 r_10.2 ++ (wX1 cA a_g g_nodes g_edges g_outer g_low g_high g_degree g_turns ++ (wX0 cA a_f f_number f_components f_genus f_next f_owner f_first f_length f_nodeSet f_near)))) (runVw C (c_X3_relax l D cA a_la a_g la_x la_y g_nodes g_edges g_outer g_low g_high g_degree g_turns x6 _ N r_10 hcr_10) cf_X3_relax km_X3_51 ⟨rfl, rfl, by decide, by decide⟩ ⟨Nat.zero_le _, Nat.zero_le _⟩ (va_recv hK.1 hP (ci := 3) (q0 := 0) rfl rfl) (hP.sub [0, 1, 2, 3, 4, 5, 6, 7] rfl) (hD.sub [0, 1, 2, 3, 4, 5, 6, 7] rfl rfl) hK hl.1 rfl rfl (Nat.le_of_ble_eq_true rfl) dX3_arrange_84) hP hD hS hA [0, 1, 2, 3, 4, 5, 6, 7] rfl [8, 9, 10, 11, 12, 13, 14] rfl rfl (by decide) [7, 8, 9, 10, 11, 12, 13, 14, 0, 1, 2, 3, 4, 5, 6] rfl rfl (fun H locs hP hD hS => ?_)
                exact B87 x3 x4 x5 x6 r_10.1 r_10.2 _ _ _ (lv_sub hl [0, 1, 2, 3, 4, 5] rfl) hP hD hS hf
      intro x3 x4 x5 la_x la_y H locs ls hl hP hD hS hf
      refine lv_iload hx hb dX3_arrange_42 (lv_at hl 4 rfl) ?_
      refine lv_iload_n hx hb dX3_arrange_44 rfl (lv_at hl 2 rfl) ?_
      refine lv_icmp_ge (tgt := 99) hx hb dX3_arrange_45 (by decide) (fun c_4 => ?_) (fun c_4 => ?_)
      · have hf := ite_t c_4 hf
        have eR := some_i hf
        exact W.vret hx hb hr (fun t ht hW => ⟨⟨(), rfl, trivial, by rw [← eR, ht]; exact hP, by rw [← eR]; exact hD⟩, hS.F ht⟩) hS.2.2 dX3_arrange_99 (hlocks := hlk)
      · have hf := ite_f c_4 hf
        refine lv_iconst (v := 0) hx hb dX3_arrange_48 (by decide) ?_
        refine lv_istore (lv' := [(6, .int 0), (0, .ref (a_la 0)), (1, .ref (a_g 0)), (3, .int x3), (4, .int x4), (5, .int x5)]) hx hb dX3_arrange_49 hl (by decide) rfl (fun ls hl => ?_)
        exact B51 N x3 x4 x5 0 la_x la_y _ _ _ (lv_sub hl [1, 2, 3, 4, 5, 0] rfl) hP hD hS hf
  have B37 : ∀ (x3 : Int32) (y0 : Int32) (la_x : Nat → UInt32) (la_y : Nat → UInt32) (H : Heap) (locs : List Loc) (ls : Array Slot), lv_has ls 7 [(0, .ref (a_la 0)), (1, .ref (a_g 0)), (3, .int x3)] → va_P D vwCl (wX3 cA a_la la_x la_y ++ (wX1 cA a_g g_nodes g_edges g_outer g_low g_high g_degree g_turns ++ (wX0 cA a_f f_number f_components f_genus f_next f_owner f_first f_length f_nodeSet f_near))) H → va_D A (wX3 cA a_la la_x la_y ++ (wX1 cA a_g g_nodes g_edges g_outer g_low g_high g_degree g_turns ++ (wX0 cA a_f f_number f_components f_genus f_next f_owner f_first f_length f_nodeSet f_near))) → va_S A s.heap H locs → f_X3_arrange_b37 N f_number f_next f_first f_length g_nodes g_outer g_low g_high g_degree g_turns x3 y0 la_x la_y = some ρ → W p l e ({ frames := 2, cells := 0, slots := 0, locals := 50 } : Room) s m ([.ref (a_la 0), .ref (a_g 0), .ref (a_f 0), .int p3] : List Value).toArray below meth c H locs 0 0 (MQ below (va_Qv (fun (_ : Unit) => True) (fun _ t => va_P D vwCl (wX3 cA a_la ρ.1 ρ.2 ++ (wX1 cA a_g g_nodes g_edges g_outer g_low g_high g_degree g_turns ++ (wX0 cA a_f f_number f_components f_genus f_next f_owner f_first f_length f_nodeSet f_near))) t.heap ∧ va_D A (wX3 cA a_la ρ.1 ρ.2 ++ (wX1 cA a_g g_nodes g_edges g_outer g_low g_high g_degree g_turns ++ (wX0 cA a_f f_number f_components f_genus f_next f_owner f_first f_length f_nodeSet f_near)))) A) ([.ref (a_la 0), .ref (a_g 0), .ref (a_f 0), .int p3] : List Value).toArray s 0 0 A) (F0 m 37 ls [.int y0]) := by
    intro x3 y0 la_x la_y H locs ls hl hP hD hS hf
    refine lv_istore (lv' := [(4, .int y0), (0, .ref (a_la 0)), (1, .ref (a_g 0)), (3, .int x3)]) hx hb dX3_arrange_37 hl (by decide) rfl (fun ls hl => ?_)
    refine lv_iconst (v := 0) hx hb dX3_arrange_39 (by decide) ?_
    refine lv_istore (lv' := [(5, .int 0), (4, .int y0), (0, .ref (a_la 0)), (1, .ref (a_g 0)), (3, .int x3)]) hx hb dX3_arrange_40 hl (by decide) rfl (fun ls hl => ?_)
    exact B42 N x3 y0 0 la_x la_y _ _ _ (lv_sub hl [2, 3, 4, 1, 0] rfl) hP hD hS hf
  refine lv_aload_n hx hb dX3_arrange_0 rfl (lv_at hl 0 rfl) ?_
  refine va_get (D := D) (ci := 3) (C := RX3) (T := TX3) (N := 2) hx hb hT kwX3 hown hK.1 hP 0 rfl rfl 0 (by decide) (hT _ kf_X3_9) (fun _ h9 => h9) rfl dX3_arrange_1 ?_
  refine lv_fconst0 hx hb dX3_arrange_4 ?_
  refine backWv (w2 := (wX3 cA a_la (filledF 9 FP.fconst0 la_x) la_y ++ (wX1 cA a_g g_nodes g_edges g_outer g_low g_high g_degree g_turns ++ (wX0 cA a_f f_number f_components f_genus f_next f_owner f_first f_length f_nodeSet f_near)))) (runSw C (c_J7_fill_e525d l D cA (a_la 1) 9 (by decide) la_x FP.fconst0 _) cf_J7_fill_e525d km_X3_18 ⟨rfl, rfl, by decide, by decide⟩ ⟨Nat.zero_le _, Nat.zero_le _⟩ (hP.sub [1] rfl) (hD.sub [1] rfl rfl) hK hl.1 rfl rfl (Nat.le_of_ble_eq_true rfl) dX3_arrange_5) hP hD hS hA [1] rfl [0, 2, 3, 4, 5, 6, 7, 8, 9, 10, 11, 12, 13, 14] rfl rfl (by decide) [0, 14, 1, 2, 3, 4, 5, 6, 7, 8, 9, 10, 11, 12, 13] rfl rfl (fun H locs hP hD hS => ?_)
  refine lv_aload_n hx hb dX3_arrange_8 rfl (lv_at hl 0 rfl) ?_
  refine va_get (D := D) (ci := 3) (C := RX3) (T := TX3) (N := 2) hx hb hT kwX3 hown hK.1 hP 0 rfl rfl 1 (by decide) (hT _ kf_X3_15) (fun _ h9 => h9) rfl dX3_arrange_9 ?_
  refine lv_fconst0 hx hb dX3_arrange_12 ?_
  refine backWv (w2 := (wX3 cA a_la (filledF 9 FP.fconst0 la_x) (filledF 9 FP.fconst0 la_y) ++ (wX1 cA a_g g_nodes g_edges g_outer g_low g_high g_degree g_turns ++ (wX0 cA a_f f_number f_components f_genus f_next f_owner f_first f_length f_nodeSet f_near)))) (runSw C (c_J7_fill_e525d l D cA (a_la 2) 9 (by decide) la_y FP.fconst0 _) cf_J7_fill_e525d km_X3_18 ⟨rfl, rfl, by decide, by decide⟩ ⟨Nat.zero_le _, Nat.zero_le _⟩ (hP.sub [2] rfl) (hD.sub [2] rfl rfl) hK hl.1 rfl rfl (Nat.le_of_ble_eq_true rfl) dX3_arrange_13) hP hD hS hA [2] rfl [0, 1, 3, 4, 5, 6, 7, 8, 9, 10, 11, 12, 13, 14] rfl rfl (by decide) [0, 1, 14, 2, 3, 4, 5, 6, 7, 8, 9, 10, 11, 12, 13] rfl rfl (fun H locs hP hD hS => ?_)
  refine lv_aload_n hx hb dX3_arrange_16 rfl (lv_at hl 2 rfl) ?_
  refine lv_aload_n hx hb dX3_arrange_17 rfl (lv_at hl 1 rfl) ?_
  refine va_get (D := D) (ci := 1) (C := RX1) (T := TX1) (N := 7) hx hb hT kwX1 hown hK.1 hP 3 rfl rfl 2 (by decide) (hT _ kf_X3_24) (fun _ h9 => h9) rfl dX3_arrange_18 ?_
  obtain ⟨r_1, hcr_1, hf⟩ := bd1_s hf
  refine backI (runV0 C (c_X0_exists l D cA a_f f_number f_components f_genus f_next f_owner f_first f_length f_nodeSet f_near g_outer N r_1 hcr_1) cf_X0_exists km_X3_30 ⟨rfl, rfl, by decide, by decide⟩ ⟨Nat.zero_le _, Nat.zero_le _⟩ (va_recv hK.1 hP (ci := 0) (q0 := 8) rfl rfl) (hP.sub [8, 9, 10, 11, 12, 13, 14] rfl) hK hl.1 rfl rfl (Nat.le_of_ble_eq_true rfl) dX3_arrange_21) ?_
  refine lv_if_eq (tgt := 36) hx hb dX3_arrange_24 (by decide) (fun c_2 => ?_) (fun c_2 => ?_)
  · have hf := ite_t c_2 hf
    refine lv_iconst (v := 0) hx hb dX3_arrange_36 (by decide) ?_
    exact B37 p3 0 (filledF 9 FP.fconst0 la_x) (filledF 9 FP.fconst0 la_y) _ _ _ (lv_sub hl [0, 1, 3] rfl) hP hD hS hf
  · have hf := ite_f c_2 hf
    refine lv_aload_n hx hb dX3_arrange_27 rfl (lv_at hl 0 rfl) ?_
    refine lv_aload_n hx hb dX3_arrange_28 rfl (lv_at hl 1 rfl) ?_
    refine lv_aload_n hx hb dX3_arrange_29 rfl (lv_at hl 2 rfl) ?_
    obtain ⟨r_3, hcr_3, hf⟩ := bd1_s hf
    refine backWi (w2 := (wX3 cA a_la r_3.2.1 r_3.2.2 ++ (wX1 cA a_g g_nodes g_edges g_outer g_low g_high g_degree g_turns ++ (wX0 cA a_f f_number f_components f_genus f_next f_owner f_first f_length f_nodeSet f_near)))) (runVw C (c_X3_pinOuterNodes l D cA a_la a_g a_f (filledF 9 FP.fconst0 la_x) (filledF 9 FP.fconst0 la_y) g_nodes g_edges g_outer g_low g_high g_degree g_turns f_number f_components f_genus f_next f_owner f_first f_length f_nodeSet f_near _ N r_3 hcr_3) cf_X3_pinOuterNodes km_X3_36 ⟨rfl, rfl, by decide, by decide⟩ ⟨Nat.zero_le _, Nat.zero_le _⟩ (va_recv hK.1 hP (ci := 3) (q0 := 0) rfl rfl) (hP.sub [0, 1, 2, 3, 4, 5, 6, 7, 8, 9, 10, 11, 12, 13, 14] rfl) (hD.sub [0, 1, 2, 3, 4, 5, 6, 7, 8, 9, 10, 11, 12, 13, 14] rfl rfl) hK hl.1 rfl rfl (Nat.le_of_ble_eq_true rfl) dX3_arrange_30) hP hD hS hA [0, 1, 2, 3, 4, 5, 6, 7, 8, 9, 10, 11, 12, 13, 14] rfl [] rfl rfl (by decide) [0, 1, 2, 3, 4, 5, 6, 7, 8, 9, 10, 11, 12, 13, 14] rfl rfl (fun H locs hP hD hS => ?_)
    refine lv_goto (tgt := 37) hx hb dX3_arrange_33 (by decide) ?_
    exact B37 p3 r_3.1 r_3.2.1 r_3.2.2 _ _ _ (lv_sub hl [0, 1, 3] rfl) hP hD hS hf
set_option maxRecDepth 100000 in
set_option maxHeartbeats 4000000 in
theorem c_X3_turn (l : Launch) (D : va_G) (cA : Nat → ClassId) (a_la : Nat → Nat) (la_x : Nat → UInt32) (la_y : Nat → UInt32) (p1 : Int32) (p2 : Int32) (p3 : Int32) (N : Nat) (ρ : UInt32) (hf : f_X3_turn N la_x la_y p1 p2 p3 = some ρ) : Met l yX3_turn (Cond.code yX3_turn cX3_turn 4 (Option.some Jvm.ClassFile.FieldType.float) :: lw_g) ({ frames := 0, cells := 0, slots := 0, locals := 0 } : Room) (PcS D (tyA cA) (wX3 cA a_la la_x la_y) [.ref (a_la 0), .int p1, .int p2, .int p3]) (vp_Sf (fun r => r = ρ)) 0 0 (fun _ => False) := by
  refine mkS (by decide +kernel) (Nat.le_of_ble_eq_true rfl) fun p e s m below meth c ls C hl hP hK => ?_
  obtain ⟨hx, hb, hml, hown, hT, hr, hlk⟩ := id C
  have hl : lv_has ls 4 [(0, .ref (a_la 0)), (1, .int p1), (2, .int p2), (3, .int p3)] := hl
  refine lv_aload_n hx hb dX3_turn_0 rfl (lv_at hl 0 rfl) ?_
  refine va_get (D := D) (ci := 3) (C := RX3) (T := TX3) (N := 2) hx hb hT kwX3 hown hK.1 hP 0 rfl rfl 0 (by decide) (hT _ kf_X3_9) (fun _ h9 => h9) rfl dX3_turn_1 ?_
  refine lv_iload_n hx hb dX3_turn_4 rfl (lv_at hl 2 rfl) ?_
  obtain ⟨h_1, hf⟩ := chk_s hf
  refine va_fald hx hb hK.1 hP 1 1 rfl rfl (inb_in h_1) dX3_turn_5 ?_
  refine lv_aload_n hx hb dX3_turn_6 rfl (lv_at hl 0 rfl) ?_
  refine va_get (D := D) (ci := 3) (C := RX3) (T := TX3) (N := 2) hx hb hT kwX3 hown hK.1 hP 0 rfl rfl 0 (by decide) (hT _ kf_X3_9) (fun _ h9 => h9) rfl dX3_turn_7 ?_
  refine lv_iload_n hx hb dX3_turn_10 rfl (lv_at hl 1 rfl) ?_
  obtain ⟨h_2, hf⟩ := chk_s hf
  refine va_fald hx hb hK.1 hP 1 1 rfl rfl (inb_in h_2) dX3_turn_11 ?_
  obtain ⟨h_3, hf⟩ := chk_s hf
  refine lv_fsub hx hb dX3_turn_12 (nn_n h_3) ?_
  refine lv_aload_n hx hb dX3_turn_13 rfl (lv_at hl 0 rfl) ?_
  refine va_get (D := D) (ci := 3) (C := RX3) (T := TX3) (N := 2) hx hb hT kwX3 hown hK.1 hP 0 rfl rfl 1 (by decide) (hT _ kf_X3_15) (fun _ h9 => h9) rfl dX3_turn_14 ?_
  refine lv_iload_n hx hb dX3_turn_17 rfl (lv_at hl 3 rfl) ?_
  obtain ⟨h_4, hf⟩ := chk_s hf
  refine va_fald hx hb hK.1 hP 2 1 rfl rfl (inb_in h_4) dX3_turn_18 ?_
  refine lv_aload_n hx hb dX3_turn_19 rfl (lv_at hl 0 rfl) ?_
  refine va_get (D := D) (ci := 3) (C := RX3) (T := TX3) (N := 2) hx hb hT kwX3 hown hK.1 hP 0 rfl rfl 1 (by decide) (hT _ kf_X3_15) (fun _ h9 => h9) rfl dX3_turn_20 ?_
  refine lv_iload_n hx hb dX3_turn_23 rfl (lv_at hl 1 rfl) ?_
  obtain ⟨h_5, hf⟩ := chk_s hf
  refine va_fald hx hb hK.1 hP 2 1 rfl rfl (inb_in h_5) dX3_turn_24 ?_
  obtain ⟨h_6, hf⟩ := chk_s hf
  refine lv_fsub hx hb dX3_turn_25 (nn_n h_6) ?_
  obtain ⟨h_7, hf⟩ := chk_s hf
  refine lv_fmul hx hb dX3_turn_26 (nn_n h_7) ?_
  refine lv_aload_n hx hb dX3_turn_27 rfl (lv_at hl 0 rfl) ?_
  refine va_get (D := D) (ci := 3) (C := RX3) (T := TX3) (N := 2) hx hb hT kwX3 hown hK.1 hP 0 rfl rfl 1 (by decide) (hT _ kf_X3_15) (fun _ h9 => h9) rfl dX3_turn_28 ?_
  refine lv_iload_n hx hb dX3_turn_31 rfl (lv_at hl 2 rfl) ?_
  obtain ⟨h_8, hf⟩ := chk_s hf
  refine va_fald hx hb hK.1 hP 2 1 rfl rfl (inb_in h_8) dX3_turn_32 ?_
  refine lv_aload_n hx hb dX3_turn_33 rfl (lv_at hl 0 rfl) ?_
  refine va_get (D := D) (ci := 3) (C := RX3) (T := TX3) (N := 2) hx hb hT kwX3 hown hK.1 hP 0 rfl rfl 1 (by decide) (hT _ kf_X3_15) (fun _ h9 => h9) rfl dX3_turn_34 ?_
  refine lv_iload_n hx hb dX3_turn_37 rfl (lv_at hl 1 rfl) ?_
  obtain ⟨h_9, hf⟩ := chk_s hf
  refine va_fald hx hb hK.1 hP 2 1 rfl rfl (inb_in h_9) dX3_turn_38 ?_
  obtain ⟨h_10, hf⟩ := chk_s hf
  refine lv_fsub hx hb dX3_turn_39 (nn_n h_10) ?_
  refine lv_aload_n hx hb dX3_turn_40 rfl (lv_at hl 0 rfl) ?_
  refine va_get (D := D) (ci := 3) (C := RX3) (T := TX3) (N := 2) hx hb hT kwX3 hown hK.1 hP 0 rfl rfl 0 (by decide) (hT _ kf_X3_9) (fun _ h9 => h9) rfl dX3_turn_41 ?_
  refine lv_iload_n hx hb dX3_turn_44 rfl (lv_at hl 3 rfl) ?_
  obtain ⟨h_11, hf⟩ := chk_s hf
  refine va_fald hx hb hK.1 hP 1 1 rfl rfl (inb_in h_11) dX3_turn_45 ?_
  refine lv_aload_n hx hb dX3_turn_46 rfl (lv_at hl 0 rfl) ?_
  refine va_get (D := D) (ci := 3) (C := RX3) (T := TX3) (N := 2) hx hb hT kwX3 hown hK.1 hP 0 rfl rfl 0 (by decide) (hT _ kf_X3_9) (fun _ h9 => h9) rfl dX3_turn_47 ?_
  refine lv_iload_n hx hb dX3_turn_50 rfl (lv_at hl 1 rfl) ?_
  obtain ⟨h_12, hf⟩ := chk_s hf
  refine va_fald hx hb hK.1 hP 1 1 rfl rfl (inb_in h_12) dX3_turn_51 ?_
  obtain ⟨h_13, hf⟩ := chk_s hf
  refine lv_fsub hx hb dX3_turn_52 (nn_n h_13) ?_
  obtain ⟨h_14, hf⟩ := chk_s hf
  refine lv_fmul hx hb dX3_turn_53 (nn_n h_14) ?_
  obtain ⟨h_15, hf⟩ := chk_s hf
  refine lv_fsub hx hb dX3_turn_54 (nn_n h_15) ?_
  exact W.fret hx hb hr (fun t ht hW => ⟨_, rfl, some_i hf, ht⟩) (fun _ h => by cases h) dX3_turn_55 (hlocks := hlk)
set_option maxRecDepth 100000 in
set_option maxHeartbeats 4000000 in
theorem c_X3_doCross (l : Launch) (D : va_G) (cA : Nat → ClassId) (a_la : Nat → Nat) (la_x : Nat → UInt32) (la_y : Nat → UInt32) (p1 : Int32) (p2 : Int32) (p3 : Int32) (p4 : Int32) (N : Nat) (ρ : Int32) (hf : f_X3_doCross N la_x la_y p1 p2 p3 p4 = some ρ) : Met l yX3_doCross (Cond.code yX3_doCross cX3_doCross 5 (Option.some Jvm.ClassFile.FieldType.boolean) :: lw_g) ({ frames := 1, cells := 0, slots := 0, locals := 23 } : Room) (PcS D (tyA cA) (wX3 cA a_la la_x la_y) [.ref (a_la 0), .int p1, .int p2, .int p3, .int p4]) (vp_Si (fun r => r = ρ)) 0 0 (fun _ => False) := by
  refine mkS (by decide +kernel) (Nat.le_of_ble_eq_true rfl) fun p e s m below meth c ls C hl hP hK => ?_
  obtain ⟨hx, hb, hml, hown, hT, hr, hlk⟩ := id C
  have hl : lv_has ls 5 [(0, .ref (a_la 0)), (1, .int p1), (2, .int p2), (3, .int p3), (4, .int p4)] := hl
  refine lv_iload_n hx hb dX3_doCross_0 rfl (lv_at hl 1 rfl) ?_
  refine lv_iload_n hx hb dX3_doCross_1 rfl (lv_at hl 3 rfl) ?_
  refine lv_icmp_eq (tgt := 22) hx hb dX3_doCross_2 (by decide) (fun c_1 => ?_) (fun c_1 => ?_)
  · have hf := ite_t c_1 hf
    refine lv_iconst (v := 0) hx hb dX3_doCross_22 (by decide) ?_
    exact W.zret hx hb hr (by decide) (fun t ht hW => ⟨_, rfl, some_i hf, ht⟩) (fun _ h => by cases h) dX3_doCross_23 (hlocks := hlk)
  · have hf := ite_f c_1 hf
    refine lv_iload_n hx hb dX3_doCross_5 rfl (lv_at hl 1 rfl) ?_
    refine lv_iload hx hb dX3_doCross_6 (lv_at hl 4 rfl) ?_
    refine lv_icmp_eq (tgt := 22) hx hb dX3_doCross_8 (by decide) (fun c_2 => ?_) (fun c_2 => ?_)
    · have hf := ite_t c_2 hf
      refine lv_iconst (v := 0) hx hb dX3_doCross_22 (by decide) ?_
      exact W.zret hx hb hr (by decide) (fun t ht hW => ⟨_, rfl, some_i hf, ht⟩) (fun _ h => by cases h) dX3_doCross_23 (hlocks := hlk)
    · have hf := ite_f c_2 hf
      refine lv_iload_n hx hb dX3_doCross_11 rfl (lv_at hl 2 rfl) ?_
      refine lv_iload_n hx hb dX3_doCross_12 rfl (lv_at hl 3 rfl) ?_
      refine lv_icmp_eq (tgt := 22) hx hb dX3_doCross_13 (by decide) (fun c_3 => ?_) (fun c_3 => ?_)
      · have hf := ite_t c_3 hf
        refine lv_iconst (v := 0) hx hb dX3_doCross_22 (by decide) ?_
        exact W.zret hx hb hr (by decide) (fun t ht hW => ⟨_, rfl, some_i hf, ht⟩) (fun _ h => by cases h) dX3_doCross_23 (hlocks := hlk)
      · have hf := ite_f c_3 hf
        refine lv_iload_n hx hb dX3_doCross_16 rfl (lv_at hl 2 rfl) ?_
        refine lv_iload hx hb dX3_doCross_17 (lv_at hl 4 rfl) ?_
        refine lv_icmp_ne (tgt := 24) hx hb dX3_doCross_19 (by decide) (fun c_4 => ?_) (fun c_4 => ?_)
        · have hf := ite_t c_4 hf
          refine lv_aload_n hx hb dX3_doCross_24 rfl (lv_at hl 0 rfl) ?_
          refine lv_iload_n hx hb dX3_doCross_25 rfl (lv_at hl 1 rfl) ?_
          refine lv_iload_n hx hb dX3_doCross_26 rfl (lv_at hl 2 rfl) ?_
          refine lv_iload_n hx hb dX3_doCross_27 rfl (lv_at hl 3 rfl) ?_
          obtain ⟨r_5, hcr_5, hf⟩ := bd1_s hf
          refine backF (runV0 C (c_X3_turn l D cA a_la la_x la_y p1 p2 p3 N r_5 hcr_5) cf_X3_turn km_X3_88 ⟨rfl, rfl, by decide, by decide⟩ ⟨Nat.zero_le _, Nat.zero_le _⟩ (va_recv hK.1 hP (ci := 3) (q0 := 0) rfl rfl) (hP.sub [0, 1, 2] rfl) hK hl.1 rfl rfl (Nat.le_of_ble_eq_true rfl) dX3_doCross_28) ?_
          refine lv_aload_n hx hb dX3_doCross_31 rfl (lv_at hl 0 rfl) ?_
          refine lv_iload_n hx hb dX3_doCross_32 rfl (lv_at hl 1 rfl) ?_
          refine lv_iload_n hx hb dX3_doCross_33 rfl (lv_at hl 2 rfl) ?_
          refine lv_iload hx hb dX3_doCross_34 (lv_at hl 4 rfl) ?_
          obtain ⟨r_6, hcr_6, hf⟩ := bd1_s hf
          refine backF (runV0 C (c_X3_turn l D cA a_la la_x la_y p1 p2 p4 N r_6 hcr_6) cf_X3_turn km_X3_88 ⟨rfl, rfl, by decide, by decide⟩ ⟨Nat.zero_le _, Nat.zero_le _⟩ (va_recv hK.1 hP (ci := 3) (q0 := 0) rfl rfl) (hP.sub [0, 1, 2] rfl) hK hl.1 rfl rfl (Nat.le_of_ble_eq_true rfl) dX3_doCross_36) ?_
          obtain ⟨r_7, hcr_7, hf⟩ := bd1_s hf
          refine backI (runS0 C (c_X3_areOpposite l D cA r_5 r_6 N r_7 hcr_7) cf_X3_areOpposite km_X3_92 ⟨rfl, rfl, by decide, by decide⟩ ⟨Nat.zero_le _, Nat.zero_le _⟩ (hP.sub [] rfl) hK hl.1 rfl rfl (Nat.le_of_ble_eq_true rfl) dX3_doCross_39) ?_
          refine lv_if_eq (tgt := 71) hx hb dX3_doCross_42 (by decide) (fun c_8 => ?_) (fun c_8 => ?_)
          · have hf := ite_t c_8 hf
            refine lv_iconst (v := 0) hx hb dX3_doCross_71 (by decide) ?_
            exact W.zret hx hb hr (by decide) (fun t ht hW => ⟨_, rfl, some_i hf, ht⟩) (fun _ h => by cases h) dX3_doCross_72 (hlocks := hlk)
          · have hf := ite_f c_8 hf
            refine lv_aload_n hx hb dX3_doCross_45 rfl (lv_at hl 0 rfl) ?_
            refine lv_iload_n hx hb dX3_doCross_46 rfl (lv_at hl 3 rfl) ?_
            refine lv_iload hx hb dX3_doCross_47 (lv_at hl 4 rfl) ?_
            refine lv_iload_n hx hb dX3_doCross_49 rfl (lv_at hl 1 rfl) ?_
            obtain ⟨r_9, hcr_9, hf⟩ := bd1_s hf
            refine backF (runV0 C (c_X3_turn l D cA a_la la_x la_y p3 p4 p1 N r_9 hcr_9) cf_X3_turn km_X3_88 ⟨rfl, rfl, by decide, by decide⟩ ⟨Nat.zero_le _, Nat.zero_le _⟩ (va_recv hK.1 hP (ci := 3) (q0 := 0) rfl rfl) (hP.sub [0, 1, 2] rfl) hK hl.1 rfl rfl (Nat.le_of_ble_eq_true rfl) dX3_doCross_50) ?_
            refine lv_aload_n hx hb dX3_doCross_53 rfl (lv_at hl 0 rfl) ?_
            refine lv_iload_n hx hb dX3_doCross_54 rfl (lv_at hl 3 rfl) ?_
            refine lv_iload hx hb dX3_doCross_55 (lv_at hl 4 rfl) ?_
            refine lv_iload_n hx hb dX3_doCross_57 rfl (lv_at hl 2 rfl) ?_
            obtain ⟨r_10, hcr_10, hf⟩ := bd1_s hf
            refine backF (runV0 C (c_X3_turn l D cA a_la la_x la_y p3 p4 p2 N r_10 hcr_10) cf_X3_turn km_X3_88 ⟨rfl, rfl, by decide, by decide⟩ ⟨Nat.zero_le _, Nat.zero_le _⟩ (va_recv hK.1 hP (ci := 3) (q0 := 0) rfl rfl) (hP.sub [0, 1, 2] rfl) hK hl.1 rfl rfl (Nat.le_of_ble_eq_true rfl) dX3_doCross_58) ?_
            obtain ⟨r_11, hcr_11, hf⟩ := bd1_s hf
            refine backI (runS0 C (c_X3_areOpposite l D cA r_9 r_10 N r_11 hcr_11) cf_X3_areOpposite km_X3_92 ⟨rfl, rfl, by decide, by decide⟩ ⟨Nat.zero_le _, Nat.zero_le _⟩ (hP.sub [] rfl) hK hl.1 rfl rfl (Nat.le_of_ble_eq_true rfl) dX3_doCross_61) ?_
            refine lv_if_eq (tgt := 71) hx hb dX3_doCross_64 (by decide) (fun c_12 => ?_) (fun c_12 => ?_)
            · have hf := ite_t c_12 hf
              refine lv_iconst (v := 0) hx hb dX3_doCross_71 (by decide) ?_
              exact W.zret hx hb hr (by decide) (fun t ht hW => ⟨_, rfl, some_i hf, ht⟩) (fun _ h => by cases h) dX3_doCross_72 (hlocks := hlk)
            · have hf := ite_f c_12 hf
              refine lv_iconst (v := 1) hx hb dX3_doCross_67 (by decide) ?_
              refine lv_goto (tgt := 72) hx hb dX3_doCross_68 (by decide) ?_
              exact W.zret hx hb hr (by decide) (fun t ht hW => ⟨_, rfl, some_i hf, ht⟩) (fun _ h => by cases h) dX3_doCross_72 (hlocks := hlk)
        · have hf := ite_fn c_4 hf
          refine lv_iconst (v := 0) hx hb dX3_doCross_22 (by decide) ?_
          exact W.zret hx hb hr (by decide) (fun t ht hW => ⟨_, rfl, some_i hf, ht⟩) (fun _ h => by cases h) dX3_doCross_23 (hlocks := hlk)
set_option maxRecDepth 100000 in
set_option maxHeartbeats 4000000 in
theorem c_X3_countCrossings (l : Launch) (D : va_G) (cA : Nat → ClassId) (a_la : Nat → Nat) (a_g : Nat → Nat) (la_x : Nat → UInt32) (la_y : Nat → UInt32) (g_nodes : Int32) (g_edges : Int32) (g_outer : Int32) (g_low : Nat → Int32) (g_high : Nat → Int32) (g_degree : Nat → Int32) (g_turns : Nat → Int32) (N : Nat) (ρ : Int32) (hf : f_X3_countCrossings N g_edges g_low g_high la_x la_y = some ρ) : Met l yX3_countCrossings (Cond.code yX3_countCrossings cX3_countCrossings 5 (Option.some Jvm.ClassFile.FieldType.int) :: lw_g) ({ frames := 2, cells := 0, slots := 0, locals := 47 } : Room) (PcS D (tyA cA) (wX3 cA a_la la_x la_y ++ (wX1 cA a_g g_nodes g_edges g_outer g_low g_high g_degree g_turns)) [.ref (a_la 0), .ref (a_g 0)]) (vp_Si (fun r => r = ρ)) 0 0 (fun _ => False) := by
  refine mkS (by decide +kernel) (Nat.le_of_ble_eq_true rfl) fun p e s m below meth c ls C hl hP hK => ?_
  obtain ⟨hx, hb, hml, hown, hT, hr, hlk⟩ := id C
  have hl : lv_has ls 5 [(0, .ref (a_la 0)), (1, .ref (a_g 0))] := hl
  have B4 : ∀ (n4 : Nat), ∀ (x2 : Int32) (x3 : Int32) (ls : Array Slot), lv_has ls 5 [(0, .ref (a_la 0)), (1, .ref (a_g 0)), (2, .int x2), (3, .int x3)] → f_X3_countCrossings_b4 N g_edges g_low g_high la_x la_y n4 x2 x3 = some ρ → W p l e ({ frames := 2, cells := 0, slots := 0, locals := 47 } : Room) s m ([.ref (a_la 0), .ref (a_g 0)] : List Value).toArray below meth c s.heap [] 0 0 (MQ below (vp_Si (fun r => r = ρ)) ([.ref (a_la 0), .ref (a_g 0)] : List Value).toArray s 0 0 (fun _ => False)) (F0 m 4 ls []) := by
    intro n4
    induction n4 with
    | zero =>
      intro x2 x3 ls hl hf
      cases (show (none : Option (Int32)) = some ρ from hf)
    | succ n4 ih4 =>
      have B68 : ∀ (x2 : Int32) (x3 : Int32) (ls : Array Slot), lv_has ls 5 [(0, .ref (a_la 0)), (1, .ref (a_g 0)), (2, .int x2), (3, .int x3)] → f_X3_countCrossings_b68 N g_edges g_low g_high la_x la_y (f_X3_countCrossings_b4 N g_edges g_low g_high la_x la_y n4) x2 x3 = some ρ → W p l e ({ frames := 2, cells := 0, slots := 0, locals := 47 } : Room) s m ([.ref (a_la 0), .ref (a_g 0)] : List Value).toArray below meth c s.heap [] 0 0 (MQ below (vp_Si (fun r => r = ρ)) ([.ref (a_la 0), .ref (a_g 0)] : List Value).toArray s 0 0 (fun _ => False)) (F0 m 68 ls []) := by
        intro x2 x3 ls hl hf
        refine lv_iinc (v := (x3 + 1)) (lv' := [(3, .int (x3 + 1)), (0, .ref (a_la 0)), (1, .ref (a_g 0)), (2, .int x2)]) hx hb dX3_countCrossings_68 hl (k := 3) rfl rfl (by decide) rfl (fun ls hl => ?_)
        refine lv_goto (tgt := 4) hx hb dX3_countCrossings_71 (by decide) ?_
        exact ih4 x2 (x3 + 1) _ (lv_sub hl [1, 2, 3, 0] rfl) hf
      have B17 : ∀ (n17 : Nat), ∀ (x2 : Int32) (x3 : Int32) (x4 : Int32) (ls : Array Slot), lv_has ls 5 [(0, .ref (a_la 0)), (1, .ref (a_g 0)), (2, .int x2), (3, .int x3), (4, .int x4)] → f_X3_countCrossings_b17 N g_edges g_low g_high la_x la_y (f_X3_countCrossings_b4 N g_edges g_low g_high la_x la_y n4) n17 x2 x3 x4 = some ρ → W p l e ({ frames := 2, cells := 0, slots := 0, locals := 47 } : Room) s m ([.ref (a_la 0), .ref (a_g 0)] : List Value).toArray below meth c s.heap [] 0 0 (MQ below (vp_Si (fun r => r = ρ)) ([.ref (a_la 0), .ref (a_g 0)] : List Value).toArray s 0 0 (fun _ => False)) (F0 m 17 ls []) := by
        intro n17
        induction n17 with
        | zero =>
          intro x2 x3 x4 ls hl hf
          cases (show (none : Option (Int32)) = some ρ from hf)
        | succ n17 ih17 =>
          have B62 : ∀ (x2 : Int32) (x3 : Int32) (x4 : Int32) (ls : Array Slot), lv_has ls 5 [(0, .ref (a_la 0)), (1, .ref (a_g 0)), (2, .int x2), (3, .int x3), (4, .int x4)] → f_X3_countCrossings_b62 N g_edges g_low g_high la_x la_y (f_X3_countCrossings_b4 N g_edges g_low g_high la_x la_y n4) (f_X3_countCrossings_b17 N g_edges g_low g_high la_x la_y (f_X3_countCrossings_b4 N g_edges g_low g_high la_x la_y n4) n17) x2 x3 x4 = some ρ → W p l e ({ frames := 2, cells := 0, slots := 0, locals := 47 } : Room) s m ([.ref (a_la 0), .ref (a_g 0)] : List Value).toArray below meth c s.heap [] 0 0 (MQ below (vp_Si (fun r => r = ρ)) ([.ref (a_la 0), .ref (a_g 0)] : List Value).toArray s 0 0 (fun _ => False)) (F0 m 62 ls []) := by
            intro x2 x3 x4 ls hl hf
            refine lv_iinc (v := (x4 + 1)) (lv' := [(4, .int (x4 + 1)), (0, .ref (a_la 0)), (1, .ref (a_g 0)), (2, .int x2), (3, .int x3)]) hx hb dX3_countCrossings_62 hl (k := 4) rfl rfl (by decide) rfl (fun ls hl => ?_)
            refine lv_goto (tgt := 17) hx hb dX3_countCrossings_65 (by decide) ?_
            exact ih17 x2 x3 (x4 + 1) _ (lv_sub hl [1, 2, 3, 4, 0] rfl) hf
          intro x2 x3 x4 ls hl hf
          refine lv_iload hx hb dX3_countCrossings_17 (lv_at hl 4 rfl) ?_
          refine lv_aload_n hx hb dX3_countCrossings_19 rfl (lv_at hl 1 rfl) ?_
          refine va_get (D := D) (ci := 1) (C := RX1) (T := TX1) (N := 7) hx hb hT kwX1 hown hK.1 hP 3 rfl rfl 1 (by decide) (hT _ kf_X3_81) (fun _ h9 => h9) rfl dX3_countCrossings_20 ?_
          refine lv_icmp_ge (tgt := 68) hx hb dX3_countCrossings_23 (by decide) (fun c_3 => ?_) (fun c_3 => ?_)
          · have hf := ite_t c_3 hf
            exact B68 x2 x3 _ (lv_sub hl [0, 1, 2, 3] rfl) hf
          · have hf := ite_f c_3 hf
            refine lv_aload_n hx hb dX3_countCrossings_26 rfl (lv_at hl 0 rfl) ?_
            refine lv_aload_n hx hb dX3_countCrossings_27 rfl (lv_at hl 1 rfl) ?_
            refine va_get (D := D) (ci := 1) (C := RX1) (T := TX1) (N := 7) hx hb hT kwX1 hown hK.1 hP 3 rfl rfl 3 (by decide) (hT _ kf_X3_75) (fun _ h9 => h9) rfl dX3_countCrossings_28 ?_
            refine lv_iload_n hx hb dX3_countCrossings_31 rfl (lv_at hl 3 rfl) ?_
            obtain ⟨h_4, hf⟩ := chk_s hf
            refine va_iald hx hb hK.1 hP 4 0 rfl rfl (inb_in h_4) dX3_countCrossings_32 ?_
            refine lv_aload_n hx hb dX3_countCrossings_33 rfl (lv_at hl 1 rfl) ?_
            refine va_get (D := D) (ci := 1) (C := RX1) (T := TX1) (N := 7) hx hb hT kwX1 hown hK.1 hP 3 rfl rfl 4 (by decide) (hT _ kf_X3_78) (fun _ h9 => h9) rfl dX3_countCrossings_34 ?_
            refine lv_iload_n hx hb dX3_countCrossings_37 rfl (lv_at hl 3 rfl) ?_
            obtain ⟨h_5, hf⟩ := chk_s hf
            refine va_iald hx hb hK.1 hP 5 0 rfl rfl (inb_in h_5) dX3_countCrossings_38 ?_
            refine lv_aload_n hx hb dX3_countCrossings_39 rfl (lv_at hl 1 rfl) ?_
            refine va_get (D := D) (ci := 1) (C := RX1) (T := TX1) (N := 7) hx hb hT kwX1 hown hK.1 hP 3 rfl rfl 3 (by decide) (hT _ kf_X3_75) (fun _ h9 => h9) rfl dX3_countCrossings_40 ?_
            refine lv_iload hx hb dX3_countCrossings_43 (lv_at hl 4 rfl) ?_
            obtain ⟨h_6, hf⟩ := chk_s hf
            refine va_iald hx hb hK.1 hP 4 0 rfl rfl (inb_in h_6) dX3_countCrossings_45 ?_
            refine lv_aload_n hx hb dX3_countCrossings_46 rfl (lv_at hl 1 rfl) ?_
            refine va_get (D := D) (ci := 1) (C := RX1) (T := TX1) (N := 7) hx hb hT kwX1 hown hK.1 hP 3 rfl rfl 4 (by decide) (hT _ kf_X3_78) (fun _ h9 => h9) rfl dX3_countCrossings_47 ?_
            refine lv_iload hx hb dX3_countCrossings_50 (lv_at hl 4 rfl) ?_
            obtain ⟨h_7, hf⟩ := chk_s hf
            refine va_iald hx hb hK.1 hP 5 0 rfl rfl (inb_in h_7) dX3_countCrossings_52 ?_
            obtain ⟨r_8, hcr_8, hf⟩ := bd1_s hf
            refine backI (runV0 C (c_X3_doCross l D cA a_la la_x la_y (g_low x3.toNatClampNeg) (g_high x3.toNatClampNeg) (g_low x4.toNatClampNeg) (g_high x4.toNatClampNeg) N r_8 hcr_8) cf_X3_doCross km_X3_84 ⟨rfl, rfl, by decide, by decide⟩ ⟨Nat.zero_le _, Nat.zero_le _⟩ (va_recv hK.1 hP (ci := 3) (q0 := 0) rfl rfl) (hP.sub [0, 1, 2] rfl) hK hl.1 rfl rfl (Nat.le_of_ble_eq_true rfl) dX3_countCrossings_53) ?_
            refine lv_if_eq (tgt := 62) hx hb dX3_countCrossings_56 (by decide) (fun c_9 => ?_) (fun c_9 => ?_)
            · have hf := ite_t c_9 hf
              exact B62 x2 x3 x4 _ (lv_sub hl [0, 1, 2, 3, 4] rfl) hf
            · have hf := ite_f c_9 hf
              refine lv_iinc (v := (x2 + 1)) (lv' := [(2, .int (x2 + 1)), (0, .ref (a_la 0)), (1, .ref (a_g 0)), (3, .int x3), (4, .int x4)]) hx hb dX3_countCrossings_59 hl (k := 2) rfl rfl (by decide) rfl (fun ls hl => ?_)
              exact B62 (x2 + 1) x3 x4 _ (lv_sub hl [1, 2, 0, 3, 4] rfl) hf
      intro x2 x3 ls hl hf
      refine lv_iload_n hx hb dX3_countCrossings_4 rfl (lv_at hl 3 rfl) ?_
      refine lv_aload_n hx hb dX3_countCrossings_5 rfl (lv_at hl 1 rfl) ?_
      refine va_get (D := D) (ci := 1) (C := RX1) (T := TX1) (N := 7) hx hb hT kwX1 hown hK.1 hP 3 rfl rfl 1 (by decide) (hT _ kf_X3_81) (fun _ h9 => h9) rfl dX3_countCrossings_6 ?_
      refine lv_icmp_ge (tgt := 74) hx hb dX3_countCrossings_9 (by decide) (fun c_1 => ?_) (fun c_1 => ?_)
      · have hf := ite_t c_1 hf
        refine lv_iload_n hx hb dX3_countCrossings_74 rfl (lv_at hl 2 rfl) ?_
        exact W.iret hx hb hr (fun t ht hW => ⟨_, rfl, some_i hf, ht⟩) (fun _ h => by cases h) dX3_countCrossings_75 (hlocks := hlk)
      · have hf := ite_f c_1 hf
        refine lv_iload_n hx hb dX3_countCrossings_12 rfl (lv_at hl 3 rfl) ?_
        refine lv_iconst (v := 1) hx hb dX3_countCrossings_13 (by decide) ?_
        refine lv_iadd hx hb dX3_countCrossings_14 ?_
        refine lv_topi (fun x4_2 ex4_2 => ?_)
        have hf := nm_t ex4_2 hf
        refine lv_istore (lv' := [(4, .int x4_2), (0, .ref (a_la 0)), (1, .ref (a_g 0)), (2, .int x2), (3, .int x3)]) hx hb dX3_countCrossings_15 hl (by decide) rfl (fun ls hl => ?_)
        exact B17 N x2 x3 x4_2 _ (lv_sub hl [1, 2, 3, 4, 0] rfl) hf
  refine lv_iconst (v := 0) hx hb dX3_countCrossings_0 (by decide) ?_
  refine lv_istore_n (lv' := [(2, .int 0), (0, .ref (a_la 0)), (1, .ref (a_g 0))]) hx hb dX3_countCrossings_1 rfl hl (by decide) rfl (fun ls hl => ?_)
  refine lv_iconst (v := 0) hx hb dX3_countCrossings_2 (by decide) ?_
  refine lv_istore_n (lv' := [(3, .int 0), (2, .int 0), (0, .ref (a_la 0)), (1, .ref (a_g 0))]) hx hb dX3_countCrossings_3 rfl hl (by decide) rfl (fun ls hl => ?_)
  exact B4 N 0 0 _ (lv_sub hl [2, 3, 1, 0] rfl) hf
set_option maxRecDepth 100000 in
set_option maxHeartbeats 4000000 in
theorem c_X5_add (l : Launch) (D : va_G) (cA : Nat → ClassId) (a_tx : Nat → Nat) (tx_length : Int32) (tx_characters : Nat → Int32) (tx_due : Int32) (tx_from : Int32) (p1 : Int32) (sz N : Nat) (ρ : Int32 × (Nat → Int32)) (hf : f_X5_add N tx_length tx_characters p1 = some ρ) : Met l yX5_add (Cond.code yX5_add cX5_add 2 (Option.none : Option Jvm.ClassFile.FieldType) :: lw_g) ({ frames := 0, cells := 0, slots := 0, locals := 0 } : Room) (PcW D (tyA cA) (wX5 cA a_tx tx_length tx_characters tx_due tx_from) sz [.ref (a_tx 0), .int p1]) (va_Qv (fun (_ : Unit) => True) (fun _ t => va_P D vwCl (wX5 cA a_tx ρ.1 ρ.2 tx_due tx_from) t.heap ∧ va_D (va_A (wX5 cA a_tx tx_length tx_characters tx_due tx_from) sz) (wX5 cA a_tx ρ.1 ρ.2 tx_due tx_from)) (va_A (wX5 cA a_tx tx_length tx_characters tx_due tx_from) sz)) 0 0 (va_A (wX5 cA a_tx tx_length tx_characters tx_due tx_from) sz) := by
  refine mkW (QQ := fun A => va_Qv (fun (_ : Unit) => True) (fun _ t => va_P D vwCl (wX5 cA a_tx ρ.1 ρ.2 tx_due tx_from) t.heap ∧ va_D A (wX5 cA a_tx ρ.1 ρ.2 tx_due tx_from)) A) (by decide) (Nat.le_of_ble_eq_true rfl) fun p e s m below meth c ls A C hl hP hK hD hA hS => ?_
  obtain ⟨hx, hb, hml, hown, hT, hr, hlk⟩ := id C
  have hl : lv_has ls 2 [(0, .ref (a_tx 0)), (1, .int p1)] := hl
  refine lv_aload_n hx hb dX5_add_0 rfl (lv_at hl 0 rfl) ?_
  refine va_get (D := D) (ci := 5) (C := RX5) (T := TX5) (N := 4) hx hb hT kwX5 hown hK.1 hP 0 rfl rfl 1 (by decide) (hT _ kf_X5_9) (fun _ h9 => h9) rfl dX5_add_1 ?_
  refine lv_aload_n hx hb dX5_add_4 rfl (lv_at hl 0 rfl) ?_
  refine va_get (D := D) (ci := 5) (C := RX5) (T := TX5) (N := 4) hx hb hT kwX5 hown hK.1 hP 0 rfl rfl 0 (by decide) (hT _ kf_X5_15) (fun _ h9 => h9) rfl dX5_add_5 ?_
  refine lv_iload_n hx hb dX5_add_8 rfl (lv_at hl 1 rfl) ?_
  obtain ⟨h_1, hf⟩ := chk_s hf
  refine va_iast hx hb hK.1 hP hD hS 1 0 rfl rfl (inb_in h_1) dX5_add_9 (fun H locs hP hD hS => ?_)
  have hP : va_P D vwCl (wX5 cA a_tx tx_length (upd tx_characters tx_length.toNatClampNeg p1) tx_due tx_from) H := hP
  have hD : va_D A (wX5 cA a_tx tx_length (upd tx_characters tx_length.toNatClampNeg p1) tx_due tx_from) := hD
  refine lv_aload_n hx hb dX5_add_10 rfl (lv_at hl 0 rfl) ?_
  refine lv_dup hx hb dX5_add_11 rfl ?_
  refine va_get (D := D) (ci := 5) (C := RX5) (T := TX5) (N := 4) hx hb hT kwX5 hown hK.1 hP 0 rfl rfl 0 (by decide) (hT _ kf_X5_15) (fun _ h9 => h9) rfl dX5_add_12 ?_
  refine lv_iconst (v := 1) hx hb dX5_add_15 (by decide) ?_
  refine lv_iadd hx hb dX5_add_16 ?_
  refine va_put (D := D) (ci := 5) (v := .int (tx_length + 1)) (ty := .int) (C := RX5) (T := TX5) (N := 4) hx hb hT kwX5 tyX5 tyX5_ok nmX5 hown hK.1 hP hD hS 0 rfl rfl 0 (by decide) (hT _ kf_X5_15) (fun _ h9 => h9) rfl (by decide +kernel) rfl rfl (Nat.le_of_ble_eq_true rfl) dX5_add_17 (fun H locs hP hD hS => ?_)
  have hP : va_P D vwCl (wX5 cA a_tx (tx_length + 1) (upd tx_characters tx_length.toNatClampNeg p1) tx_due tx_from) H := hP
  have hD : va_D A (wX5 cA a_tx (tx_length + 1) (upd tx_characters tx_length.toNatClampNeg p1) tx_due tx_from) := hD
  have eR := some_i hf
  exact W.vret hx hb hr (fun t ht hW => ⟨⟨(), rfl, trivial, by rw [← eR, ht]; exact hP, by rw [← eR]; exact hD⟩, hS.F ht⟩) hS.2.2 dX5_add_20 (hlocks := hlk)
set_option maxRecDepth 100000 in
set_option maxHeartbeats 4000000 in
theorem c_X5_takeNodes (l : Launch) (D : va_G) (cA : Nat → ClassId) (a_tx : Nat → Nat) (a_g : Nat → Nat) (tx_length : Int32) (tx_characters : Nat → Int32) (tx_due : Int32) (tx_from : Int32) (g_nodes : Int32) (g_edges : Int32) (g_outer : Int32) (g_low : Nat → Int32) (g_high : Nat → Int32) (g_degree : Nat → Int32) (g_turns : Nat → Int32) (p1 : Int32) (sz N : Nat) (ρ : Int32 × Int32 × Int32 × (Nat → Int32) × Int32) (hf : f_X5_takeNodes N g_nodes g_edges g_degree tx_due p1 = some ρ) : Met l yX5_takeNodes (Cond.code yX5_takeNodes cX5_takeNodes 3 (Option.some Jvm.ClassFile.FieldType.boolean) :: lw_g) ({ frames := 2, cells := 0, slots := 0, locals := 44 } : Room) (PcW D (tyA cA) (wX5 cA a_tx tx_length tx_characters tx_due tx_from ++ (wX1 cA a_g g_nodes g_edges g_outer g_low g_high g_degree g_turns)) sz [.ref (a_tx 0), .int p1, .ref (a_g 0)]) (va_Qi (fun r (_ : Unit) => r = ρ.1) (fun _ t => va_P D vwCl (wX5 cA a_tx tx_length tx_characters ρ.2.2.2.2 tx_from ++ (wX1 cA a_g ρ.2.1 ρ.2.2.1 g_outer g_low g_high ρ.2.2.2.1 g_turns)) t.heap ∧ va_D (va_A (wX5 cA a_tx tx_length tx_characters tx_due tx_from ++ (wX1 cA a_g g_nodes g_edges g_outer g_low g_high g_degree g_turns)) sz) (wX5 cA a_tx tx_length tx_characters ρ.2.2.2.2 tx_from ++ (wX1 cA a_g ρ.2.1 ρ.2.2.1 g_outer g_low g_high ρ.2.2.2.1 g_turns))) (va_A (wX5 cA a_tx tx_length tx_characters tx_due tx_from ++ (wX1 cA a_g g_nodes g_edges g_outer g_low g_high g_degree g_turns)) sz)) 0 0 (va_A (wX5 cA a_tx tx_length tx_characters tx_due tx_from ++ (wX1 cA a_g g_nodes g_edges g_outer g_low g_high g_degree g_turns)) sz) := by
  refine mkW (QQ := fun A => va_Qi (fun r (_ : Unit) => r = ρ.1) (fun _ t => va_P D vwCl (wX5 cA a_tx tx_length tx_characters ρ.2.2.2.2 tx_from ++ (wX1 cA a_g ρ.2.1 ρ.2.2.1 g_outer g_low g_high ρ.2.2.2.1 g_turns)) t.heap ∧ va_D A (wX5 cA a_tx tx_length tx_characters ρ.2.2.2.2 tx_from ++ (wX1 cA a_g ρ.2.1 ρ.2.2.1 g_outer g_low g_high ρ.2.2.2.1 g_turns))) A) (by decide) (Nat.le_of_ble_eq_true rfl) fun p e s m below meth c ls A C hl hP hK hD hA hS => ?_
  obtain ⟨hx, hb, hml, hown, hT, hr, hlk⟩ := id C
  have hl : lv_has ls 3 [(0, .ref (a_tx 0)), (1, .int p1), (2, .ref (a_g 0))] := hl
  refine lv_iload_n hx hb dX5_takeNodes_0 rfl (lv_at hl 1 rfl) ?_
  refine lv_iconst (v := 2) hx hb dX5_takeNodes_1 (by decide) ?_
  refine lv_icmp_lt (tgt := 11) hx hb dX5_takeNodes_2 (by decide) (fun c_1 => ?_) (fun c_1 => ?_)
  · have hf := ite_t c_1 hf
    refine lv_iconst (v := 0) hx hb dX5_takeNodes_11 (by decide) ?_
    have eR := some_i hf
    exact W.zret hx hb hr (by decide) (fun t ht hW => ⟨⟨0, (), rfl, fst_e eR, by rw [← eR, ht]; exact hP, by rw [← eR]; exact hD⟩, hS.F ht⟩) hS.2.2 dX5_takeNodes_12 (hlocks := hlk)
  · have hf := ite_f c_1 hf
    refine lv_iload_n hx hb dX5_takeNodes_5 rfl (lv_at hl 1 rfl) ?_
    refine lv_bipush (v := 9) hx hb dX5_takeNodes_6 (by decide) ?_
    refine lv_icmp_le (tgt := 13) hx hb dX5_takeNodes_8 (by decide) (fun c_2 => ?_) (fun c_2 => ?_)
    · have hf := ite_t c_2 hf
      refine lv_aload_n hx hb dX5_takeNodes_13 rfl (lv_at hl 2 rfl) ?_
      refine lv_iload_n hx hb dX5_takeNodes_14 rfl (lv_at hl 1 rfl) ?_
      obtain ⟨r_3, hcr_3, hf⟩ := bd1_s hf
      refine backWv (w2 := (wX5 cA a_tx tx_length tx_characters tx_due tx_from ++ (wX1 cA a_g r_3.1 r_3.2.1 g_outer g_low g_high r_3.2.2 g_turns))) (runVw C (c_X1_makeEmpty l D cA a_g g_nodes g_edges g_outer g_low g_high g_degree g_turns p1 _ N r_3 hcr_3) cf_X1_makeEmpty km_X5_44 ⟨rfl, rfl, by decide, by decide⟩ ⟨Nat.zero_le _, Nat.zero_le _⟩ (va_recv hK.1 hP (ci := 1) (q0 := 2) rfl rfl) (hP.sub [2, 3, 4, 5, 6] rfl) (hD.sub [2, 3, 4, 5, 6] rfl rfl) hK hl.1 rfl rfl (Nat.le_of_ble_eq_true rfl) dX5_takeNodes_15) hP hD hS hA [2, 3, 4, 5, 6] rfl [0, 1] rfl rfl (by decide) [0, 1, 2, 3, 4, 5, 6] rfl rfl (fun H locs hP hD hS => ?_)
      refine lv_aload_n hx hb dX5_takeNodes_18 rfl (lv_at hl 0 rfl) ?_
      refine lv_iconst (v := 1) hx hb dX5_takeNodes_19 (by decide) ?_
      refine va_put (D := D) (ci := 5) (v := .int 1) (ty := .int) (C := RX5) (T := TX5) (N := 4) hx hb hT kwX5 tyX5 tyX5_ok nmX5 hown hK.1 hP hD hS 0 rfl rfl 2 (by decide) (hT _ kf_X5_19) (fun _ h9 => h9) rfl (by decide +kernel) rfl rfl (Nat.le_of_ble_eq_true rfl) dX5_takeNodes_20 (fun H locs hP hD hS => ?_)
      have hP : va_P D vwCl (wX5 cA a_tx tx_length tx_characters 1 tx_from ++ (wX1 cA a_g r_3.1 r_3.2.1 g_outer g_low g_high r_3.2.2 g_turns)) H := hP
      have hD : va_D A (wX5 cA a_tx tx_length tx_characters 1 tx_from ++ (wX1 cA a_g r_3.1 r_3.2.1 g_outer g_low g_high r_3.2.2 g_turns)) := hD
      refine lv_iconst (v := 1) hx hb dX5_takeNodes_23 (by decide) ?_
      have eR := some_i hf
      exact W.zret hx hb hr (by decide) (fun t ht hW => ⟨⟨1, (), rfl, fst_e eR, by rw [← eR, ht]; exact hP, by rw [← eR]; exact hD⟩, hS.F ht⟩) hS.2.2 dX5_takeNodes_24 (hlocks := hlk)
    · have hf := ite_f c_2 hf
      refine lv_iconst (v := 0) hx hb dX5_takeNodes_11 (by decide) ?_
      have eR := some_i hf
      exact W.zret hx hb hr (by decide) (fun t ht hW => ⟨⟨0, (), rfl, fst_e eR, by rw [← eR, ht]; exact hP, by rw [← eR]; exact hD⟩, hS.F ht⟩) hS.2.2 dX5_takeNodes_12 (hlocks := hlk)
set_option maxRecDepth 100000 in
set_option maxHeartbeats 4000000 in
theorem c_X5_takeSecondEnd (l : Launch) (D : va_G) (cA : Nat → ClassId) (a_tx : Nat → Nat) (a_g : Nat → Nat) (tx_length : Int32) (tx_characters : Nat → Int32) (tx_due : Int32) (tx_from : Int32) (g_nodes : Int32) (g_edges : Int32) (g_outer : Int32) (g_low : Nat → Int32) (g_high : Nat → Int32) (g_degree : Nat → Int32) (g_turns : Nat → Int32) (p1 : Int32) (sz N : Nat) (ρ : Int32 × Int32 × (Nat → Int32) × (Nat → Int32) × (Nat → Int32) × (Nat → Int32) × Int32) (hf : f_X5_takeSecondEnd N g_nodes g_edges g_low g_high g_degree g_turns tx_due tx_from p1 = some ρ) : Met l yX5_takeSecondEnd (Cond.code yX5_takeSecondEnd cX5_takeSecondEnd 3 (Option.some Jvm.ClassFile.FieldType.boolean) :: lw_g) ({ frames := 2, cells := 0, slots := 0, locals := 50 } : Room) (PcW D (tyA cA) (wX5 cA a_tx tx_length tx_characters tx_due tx_from ++ (wX1 cA a_g g_nodes g_edges g_outer g_low g_high g_degree g_turns)) sz [.ref (a_tx 0), .int p1, .ref (a_g 0)]) (va_Qi (fun r (_ : Unit) => r = ρ.1) (fun _ t => va_P D vwCl (wX5 cA a_tx tx_length tx_characters ρ.2.2.2.2.2.2 tx_from ++ (wX1 cA a_g g_nodes ρ.2.1 g_outer ρ.2.2.1 ρ.2.2.2.1 ρ.2.2.2.2.1 ρ.2.2.2.2.2.1)) t.heap ∧ va_D (va_A (wX5 cA a_tx tx_length tx_characters tx_due tx_from ++ (wX1 cA a_g g_nodes g_edges g_outer g_low g_high g_degree g_turns)) sz) (wX5 cA a_tx tx_length tx_characters ρ.2.2.2.2.2.2 tx_from ++ (wX1 cA a_g g_nodes ρ.2.1 g_outer ρ.2.2.1 ρ.2.2.2.1 ρ.2.2.2.2.1 ρ.2.2.2.2.2.1))) (va_A (wX5 cA a_tx tx_length tx_characters tx_due tx_from ++ (wX1 cA a_g g_nodes g_edges g_outer g_low g_high g_degree g_turns)) sz)) 0 0 (va_A (wX5 cA a_tx tx_length tx_characters tx_due tx_from ++ (wX1 cA a_g g_nodes g_edges g_outer g_low g_high g_degree g_turns)) sz) := by
  refine mkW (QQ := fun A => va_Qi (fun r (_ : Unit) => r = ρ.1) (fun _ t => va_P D vwCl (wX5 cA a_tx tx_length tx_characters ρ.2.2.2.2.2.2 tx_from ++ (wX1 cA a_g g_nodes ρ.2.1 g_outer ρ.2.2.1 ρ.2.2.2.1 ρ.2.2.2.2.1 ρ.2.2.2.2.2.1)) t.heap ∧ va_D A (wX5 cA a_tx tx_length tx_characters ρ.2.2.2.2.2.2 tx_from ++ (wX1 cA a_g g_nodes ρ.2.1 g_outer ρ.2.2.1 ρ.2.2.2.1 ρ.2.2.2.2.1 ρ.2.2.2.2.2.1))) A) (by decide) (Nat.le_of_ble_eq_true rfl) fun p e s m below meth c ls A C hl hP hK hD hA hS => ?_
  obtain ⟨hx, hb, hml, hown, hT, hr, hlk⟩ := id C
  have hl : lv_has ls 3 [(0, .ref (a_tx 0)), (1, .int p1), (2, .ref (a_g 0))] := hl
  refine lv_aload_n hx hb dX5_takeSecondEnd_0 rfl (lv_at hl 2 rfl) ?_
  refine lv_iload_n hx hb dX5_takeSecondEnd_1 rfl (lv_at hl 1 rfl) ?_
  obtain ⟨r_1, hcr_1, hf⟩ := bd1_s hf
  refine backI (runV0 C (c_X1_hasNode l D cA a_g g_nodes g_edges g_outer g_low g_high g_degree g_turns p1 N r_1 hcr_1) cf_X1_hasNode km_X5_32 ⟨rfl, rfl, by decide, by decide⟩ ⟨Nat.zero_le _, Nat.zero_le _⟩ (va_recv hK.1 hP (ci := 1) (q0 := 2) rfl rfl) (hP.sub [2, 3, 4, 5, 6] rfl) hK hl.1 rfl rfl (Nat.le_of_ble_eq_true rfl) dX5_takeSecondEnd_2) ?_
  refine lv_if_eq (tgt := 28) hx hb dX5_takeSecondEnd_5 (by decide) (fun c_2 => ?_) (fun c_2 => ?_)
  · have hf := ite_t c_2 hf
    refine lv_iconst (v := 0) hx hb dX5_takeSecondEnd_28 (by decide) ?_
    have eR := some_i hf
    exact W.zret hx hb hr (by decide) (fun t ht hW => ⟨⟨0, (), rfl, fst_e eR, by rw [← eR, ht]; exact hP, by rw [← eR]; exact hD⟩, hS.F ht⟩) hS.2.2 dX5_takeSecondEnd_29 (hlocks := hlk)
  · have hf := ite_f c_2 hf
    refine lv_iload_n hx hb dX5_takeSecondEnd_8 rfl (lv_at hl 1 rfl) ?_
    refine lv_aload_n hx hb dX5_takeSecondEnd_9 rfl (lv_at hl 0 rfl) ?_
    refine va_get (D := D) (ci := 5) (C := RX5) (T := TX5) (N := 4) hx hb hT kwX5 hown hK.1 hP 0 rfl rfl 3 (by decide) (hT _ kf_X5_29) (fun _ h9 => h9) rfl dX5_takeSecondEnd_10 ?_
    refine lv_icmp_eq (tgt := 28) hx hb dX5_takeSecondEnd_13 (by decide) (fun c_3 => ?_) (fun c_3 => ?_)
    · have hf := ite_t c_3 hf
      refine lv_iconst (v := 0) hx hb dX5_takeSecondEnd_28 (by decide) ?_
      have eR := some_i hf
      exact W.zret hx hb hr (by decide) (fun t ht hW => ⟨⟨0, (), rfl, fst_e eR, by rw [← eR, ht]; exact hP, by rw [← eR]; exact hD⟩, hS.F ht⟩) hS.2.2 dX5_takeSecondEnd_29 (hlocks := hlk)
    · have hf := ite_f c_3 hf
      refine lv_aload_n hx hb dX5_takeSecondEnd_16 rfl (lv_at hl 2 rfl) ?_
      refine lv_aload_n hx hb dX5_takeSecondEnd_17 rfl (lv_at hl 0 rfl) ?_
      refine va_get (D := D) (ci := 5) (C := RX5) (T := TX5) (N := 4) hx hb hT kwX5 hown hK.1 hP 0 rfl rfl 3 (by decide) (hT _ kf_X5_29) (fun _ h9 => h9) rfl dX5_takeSecondEnd_18 ?_
      refine lv_iload_n hx hb dX5_takeSecondEnd_21 rfl (lv_at hl 1 rfl) ?_
      obtain ⟨r_4, hcr_4, hf⟩ := bd1_s hf
      refine backI (runV0 C (c_X1_areJoined l D cA a_g g_nodes g_edges g_outer g_low g_high g_degree g_turns tx_from p1 N r_4 hcr_4) cf_X1_areJoined km_X5_48 ⟨rfl, rfl, by decide, by decide⟩ ⟨Nat.zero_le _, Nat.zero_le _⟩ (va_recv hK.1 hP (ci := 1) (q0 := 2) rfl rfl) (hP.sub [2, 3, 4, 5, 6] rfl) hK hl.1 rfl rfl (Nat.le_of_ble_eq_true rfl) dX5_takeSecondEnd_22) ?_
      refine lv_if_eq (tgt := 30) hx hb dX5_takeSecondEnd_25 (by decide) (fun c_5 => ?_) (fun c_5 => ?_)
      · have hf := ite_t c_5 hf
        refine lv_aload_n hx hb dX5_takeSecondEnd_30 rfl (lv_at hl 2 rfl) ?_
        refine lv_aload_n hx hb dX5_takeSecondEnd_31 rfl (lv_at hl 0 rfl) ?_
        refine va_get (D := D) (ci := 5) (C := RX5) (T := TX5) (N := 4) hx hb hT kwX5 hown hK.1 hP 0 rfl rfl 3 (by decide) (hT _ kf_X5_29) (fun _ h9 => h9) rfl dX5_takeSecondEnd_32 ?_
        refine lv_iload_n hx hb dX5_takeSecondEnd_35 rfl (lv_at hl 1 rfl) ?_
        refine lv_aload_n hx hb dX5_takeSecondEnd_36 rfl (lv_at hl 2 rfl) ?_
        refine va_get (D := D) (ci := 1) (C := RX1) (T := TX1) (N := 7) hx hb hT kwX1 hown hK.1 hP 2 rfl rfl 5 (by decide) (hT _ kf_X5_52) (fun _ h9 => h9) rfl dX5_takeSecondEnd_37 ?_
        refine lv_aload_n hx hb dX5_takeSecondEnd_40 rfl (lv_at hl 0 rfl) ?_
        refine va_get (D := D) (ci := 5) (C := RX5) (T := TX5) (N := 4) hx hb hT kwX5 hown hK.1 hP 0 rfl rfl 3 (by decide) (hT _ kf_X5_29) (fun _ h9 => h9) rfl dX5_takeSecondEnd_41 ?_
        obtain ⟨h_6, hf⟩ := chk_s hf
        refine va_iald hx hb hK.1 hP 5 0 rfl rfl (inb_in h_6) dX5_takeSecondEnd_44 ?_
        refine lv_aload_n hx hb dX5_takeSecondEnd_45 rfl (lv_at hl 2 rfl) ?_
        refine va_get (D := D) (ci := 1) (C := RX1) (T := TX1) (N := 7) hx hb hT kwX1 hown hK.1 hP 2 rfl rfl 5 (by decide) (hT _ kf_X5_52) (fun _ h9 => h9) rfl dX5_takeSecondEnd_46 ?_
        refine lv_iload_n hx hb dX5_takeSecondEnd_49 rfl (lv_at hl 1 rfl) ?_
        obtain ⟨h_7, hf⟩ := chk_s hf
        refine va_iald hx hb hK.1 hP 5 0 rfl rfl (inb_in h_7) dX5_takeSecondEnd_50 ?_
        obtain ⟨r_8, hcr_8, hf⟩ := bd1_s hf
        refine backWi (w2 := (wX5 cA a_tx tx_length tx_characters tx_due tx_from ++ (wX1 cA a_g g_nodes r_8.2.1 g_outer r_8.2.2.1 r_8.2.2.2.1 r_8.2.2.2.2.1 r_8.2.2.2.2.2))) (runVw C (c_X1_connect l D cA a_g g_nodes g_edges g_outer g_low g_high g_degree g_turns tx_from p1 (g_degree tx_from.toNatClampNeg) (g_degree p1.toNatClampNeg) _ N r_8 hcr_8) cf_X1_connect km_X5_55 ⟨rfl, rfl, by decide, by decide⟩ ⟨Nat.zero_le _, Nat.zero_le _⟩ (va_recv hK.1 hP (ci := 1) (q0 := 2) rfl rfl) (hP.sub [2, 3, 4, 5, 6] rfl) (hD.sub [2, 3, 4, 5, 6] rfl rfl) hK hl.1 rfl rfl (Nat.le_of_ble_eq_true rfl) dX5_takeSecondEnd_51) hP hD hS hA [2, 3, 4, 5, 6] rfl [0, 1] rfl rfl (by decide) [0, 1, 2, 3, 4, 5, 6] rfl rfl (fun H locs hP hD hS => ?_)
        refine lv_pop hx hb dX5_takeSecondEnd_54 rfl ?_
        refine lv_aload_n hx hb dX5_takeSecondEnd_55 rfl (lv_at hl 0 rfl) ?_
        refine lv_iconst (v := 4) hx hb dX5_takeSecondEnd_56 (by decide) ?_
        refine va_put (D := D) (ci := 5) (v := .int 4) (ty := .int) (C := RX5) (T := TX5) (N := 4) hx hb hT kwX5 tyX5 tyX5_ok nmX5 hown hK.1 hP hD hS 0 rfl rfl 2 (by decide) (hT _ kf_X5_19) (fun _ h9 => h9) rfl (by decide +kernel) rfl rfl (Nat.le_of_ble_eq_true rfl) dX5_takeSecondEnd_57 (fun H locs hP hD hS => ?_)
        have hP : va_P D vwCl (wX5 cA a_tx tx_length tx_characters 4 tx_from ++ (wX1 cA a_g g_nodes r_8.2.1 g_outer r_8.2.2.1 r_8.2.2.2.1 r_8.2.2.2.2.1 r_8.2.2.2.2.2)) H := hP
        have hD : va_D A (wX5 cA a_tx tx_length tx_characters 4 tx_from ++ (wX1 cA a_g g_nodes r_8.2.1 g_outer r_8.2.2.1 r_8.2.2.2.1 r_8.2.2.2.2.1 r_8.2.2.2.2.2)) := hD
        refine lv_iconst (v := 1) hx hb dX5_takeSecondEnd_60 (by decide) ?_
        have eR := some_i hf
        exact W.zret hx hb hr (by decide) (fun t ht hW => ⟨⟨1, (), rfl, fst_e eR, by rw [← eR, ht]; exact hP, by rw [← eR]; exact hD⟩, hS.F ht⟩) hS.2.2 dX5_takeSecondEnd_61 (hlocks := hlk)
      · have hf := ite_f c_5 hf
        refine lv_iconst (v := 0) hx hb dX5_takeSecondEnd_28 (by decide) ?_
        have eR := some_i hf
        exact W.zret hx hb hr (by decide) (fun t ht hW => ⟨⟨0, (), rfl, fst_e eR, by rw [← eR, ht]; exact hP, by rw [← eR]; exact hD⟩, hS.F ht⟩) hS.2.2 dX5_takeSecondEnd_29 (hlocks := hlk)
set_option maxRecDepth 100000 in
set_option maxHeartbeats 4000000 in
theorem c_X5_take (l : Launch) (D : va_G) (cA : Nat → ClassId) (a_tx : Nat → Nat) (a_g : Nat → Nat) (tx_length : Int32) (tx_characters : Nat → Int32) (tx_due : Int32) (tx_from : Int32) (g_nodes : Int32) (g_edges : Int32) (g_outer : Int32) (g_low : Nat → Int32) (g_high : Nat → Int32) (g_degree : Nat → Int32) (g_turns : Nat → Int32) (p1 : Int32) (sz N : Nat) (ρ : Int32 × Int32 × Int32 × (Nat → Int32) × (Nat → Int32) × (Nat → Int32) × (Nat → Int32) × Int32 × Int32) (hf : f_X5_take N g_nodes g_edges g_low g_high g_degree g_turns tx_due tx_from p1 = some ρ) : Met l yX5_take (Cond.code yX5_take cX5_take 4 (Option.some Jvm.ClassFile.FieldType.boolean) :: lw_g) ({ frames := 3, cells := 0, slots := 0, locals := 72 } : Room) (PcW D (tyA cA) (wX5 cA a_tx tx_length tx_characters tx_due tx_from ++ (wX1 cA a_g g_nodes g_edges g_outer g_low g_high g_degree g_turns)) sz [.ref (a_tx 0), .int p1, .ref (a_g 0)]) (va_Qi (fun r (_ : Unit) => r = ρ.1) (fun _ t => va_P D vwCl (wX5 cA a_tx tx_length tx_characters ρ.2.2.2.2.2.2.2.1 ρ.2.2.2.2.2.2.2.2 ++ (wX1 cA a_g ρ.2.1 ρ.2.2.1 g_outer ρ.2.2.2.1 ρ.2.2.2.2.1 ρ.2.2.2.2.2.1 ρ.2.2.2.2.2.2.1)) t.heap ∧ va_D (va_A (wX5 cA a_tx tx_length tx_characters tx_due tx_from ++ (wX1 cA a_g g_nodes g_edges g_outer g_low g_high g_degree g_turns)) sz) (wX5 cA a_tx tx_length tx_characters ρ.2.2.2.2.2.2.2.1 ρ.2.2.2.2.2.2.2.2 ++ (wX1 cA a_g ρ.2.1 ρ.2.2.1 g_outer ρ.2.2.2.1 ρ.2.2.2.2.1 ρ.2.2.2.2.2.1 ρ.2.2.2.2.2.2.1))) (va_A (wX5 cA a_tx tx_length tx_characters tx_due tx_from ++ (wX1 cA a_g g_nodes g_edges g_outer g_low g_high g_degree g_turns)) sz)) 0 0 (va_A (wX5 cA a_tx tx_length tx_characters tx_due tx_from ++ (wX1 cA a_g g_nodes g_edges g_outer g_low g_high g_degree g_turns)) sz) := by
  refine mkW (QQ := fun A => va_Qi (fun r (_ : Unit) => r = ρ.1) (fun _ t => va_P D vwCl (wX5 cA a_tx tx_length tx_characters ρ.2.2.2.2.2.2.2.1 ρ.2.2.2.2.2.2.2.2 ++ (wX1 cA a_g ρ.2.1 ρ.2.2.1 g_outer ρ.2.2.2.1 ρ.2.2.2.2.1 ρ.2.2.2.2.2.1 ρ.2.2.2.2.2.2.1)) t.heap ∧ va_D A (wX5 cA a_tx tx_length tx_characters ρ.2.2.2.2.2.2.2.1 ρ.2.2.2.2.2.2.2.2 ++ (wX1 cA a_g ρ.2.1 ρ.2.2.1 g_outer ρ.2.2.2.1 ρ.2.2.2.2.1 ρ.2.2.2.2.2.1 ρ.2.2.2.2.2.2.1))) A) (by decide) (Nat.le_of_ble_eq_true rfl) fun p e s m below meth c ls A C hl hP hK hD hA hS => ?_
  obtain ⟨hx, hb, hml, hown, hT, hr, hlk⟩ := id C
  have hl : lv_has ls 4 [(0, .ref (a_tx 0)), (1, .int p1), (2, .ref (a_g 0))] := hl
  refine lv_iload_n hx hb dX5_take_0 rfl (lv_at hl 1 rfl) ?_
  refine lv_bipush (v := 48) hx hb dX5_take_1 (by decide) ?_
  refine lv_isub hx hb dX5_take_3 ?_
  refine lv_topi (fun x3_1 ex3_1 => ?_)
  have hf := nm_t ex3_1 hf
  refine lv_istore_n (lv' := [(3, .int x3_1), (0, .ref (a_tx 0)), (1, .int p1), (2, .ref (a_g 0))]) hx hb dX5_take_4 rfl hl (by decide) rfl (fun ls hl => ?_)
  refine lv_aload_n hx hb dX5_take_5 rfl (lv_at hl 1 rfl) ?_
  refine va_get (D := D) (ci := 5) (C := RX5) (T := TX5) (N := 4) hx hb hT kwX5 hown hK.1 hP 0 rfl rfl 2 (by decide) (hT _ kf_X5_19) (fun _ h9 => h9) rfl dX5_take_6 ?_
  by_cases c_2 : tx_due = 0
  · have hf := ite_t c_2 hf
    refine lv_tableIn (off := 31) (tgt := 40) hx hb dX5_take_9 (by rw [c_2]; decide) (by rw [c_2]; decide) (by rw [c_2]; rfl) (by decide) ?_
    refine lv_aload_n hx hb dX5_take_40 rfl (lv_at hl 1 rfl) ?_
    refine lv_iload_n hx hb dX5_take_41 rfl (lv_at hl 0 rfl) ?_
    refine lv_aload_n hx hb dX5_take_42 rfl (lv_at hl 3 rfl) ?_
    obtain ⟨r_3, hcr_3, hf⟩ := bd1_s hf
    refine backWi (w2 := (wX5 cA a_tx tx_length tx_characters r_3.2.2.2.2 tx_from ++ (wX1 cA a_g r_3.2.1 r_3.2.2.1 g_outer g_low g_high r_3.2.2.2.1 g_turns))) (runVw C (c_X5_takeNodes l D cA a_tx a_g tx_length tx_characters tx_due tx_from g_nodes g_edges g_outer g_low g_high g_degree g_turns x3_1 _ N r_3 hcr_3) cf_X5_takeNodes km_X5_26 ⟨rfl, rfl, by decide, by decide⟩ ⟨Nat.zero_le _, Nat.zero_le _⟩ (va_recv hK.1 hP (ci := 5) (q0 := 0) rfl rfl) (hP.sub [0, 1, 2, 3, 4, 5, 6] rfl) (hD.sub [0, 1, 2, 3, 4, 5, 6] rfl rfl) hK hl.1 rfl rfl (Nat.le_of_ble_eq_true rfl) dX5_take_43) hP hD hS hA [0, 1, 2, 3, 4, 5, 6] rfl [] rfl rfl (by decide) [0, 1, 2, 3, 4, 5, 6] rfl rfl (fun H locs hP hD hS => ?_)
    obtain ⟨h_4, hf⟩ := chk_s hf
    have eR := some_i hf
    exact W.zret hx hb hr (isB_n h_4) (fun t ht hW => ⟨⟨r_3.1, (), rfl, fst_e eR, by rw [← eR, ht]; exact hP, by rw [← eR]; exact hD⟩, hS.F ht⟩) hS.2.2 dX5_take_46 (hlocks := hlk)
  · have hf := ite_f c_2 hf
    by_cases c_5 : tx_due = 1
    · have hf := ite_t c_5 hf
      refine lv_tableIn (off := 38) (tgt := 47) hx hb dX5_take_9 (by rw [c_5]; decide) (by rw [c_5]; decide) (by rw [c_5]; rfl) (by decide) ?_
      refine lv_aload_n hx hb dX5_take_47 rfl (lv_at hl 1 rfl) ?_
      refine lv_iconst (v := 2) hx hb dX5_take_48 (by decide) ?_
      refine va_put (D := D) (ci := 5) (v := .int 2) (ty := .int) (C := RX5) (T := TX5) (N := 4) hx hb hT kwX5 tyX5 tyX5_ok nmX5 hown hK.1 hP hD hS 0 rfl rfl 2 (by decide) (hT _ kf_X5_19) (fun _ h9 => h9) rfl (by decide +kernel) rfl rfl (Nat.le_of_ble_eq_true rfl) dX5_take_49 (fun H locs hP hD hS => ?_)
      have hP : va_P D vwCl (wX5 cA a_tx tx_length tx_characters 2 tx_from ++ (wX1 cA a_g g_nodes g_edges g_outer g_low g_high g_degree g_turns)) H := hP
      have hD : va_D A (wX5 cA a_tx tx_length tx_characters 2 tx_from ++ (wX1 cA a_g g_nodes g_edges g_outer g_low g_high g_degree g_turns)) := hD
      refine lv_iload_n hx hb dX5_take_52 rfl (lv_at hl 2 rfl) ?_
      refine lv_bipush (v := 58) hx hb dX5_take_53 (by decide) ?_
      refine lv_icmp_ne (tgt := 62) hx hb dX5_take_55 (by decide) (fun c_6 => ?_) (fun c_6 => ?_)
      · have hf := ite_t c_6 hf
        refine lv_iconst (v := 0) hx hb dX5_take_62 (by decide) ?_
        have eR := some_i hf
        exact W.zret hx hb hr (by decide) (fun t ht hW => ⟨⟨0, (), rfl, fst_e eR, by rw [← eR, ht]; exact hP, by rw [← eR]; exact hD⟩, hS.F ht⟩) hS.2.2 dX5_take_63 (hlocks := hlk)
      · have hf := ite_fn c_6 hf
        refine lv_iconst (v := 1) hx hb dX5_take_58 (by decide) ?_
        refine lv_goto (tgt := 63) hx hb dX5_take_59 (by decide) ?_
        have eR := some_i hf
        exact W.zret hx hb hr (by decide) (fun t ht hW => ⟨⟨1, (), rfl, fst_e eR, by rw [← eR, ht]; exact hP, by rw [← eR]; exact hD⟩, hS.F ht⟩) hS.2.2 dX5_take_63 (hlocks := hlk)
    · have hf := ite_f c_5 hf
      by_cases c_7 : tx_due = 2
      · have hf := ite_t c_7 hf
        refine lv_tableIn (off := 55) (tgt := 64) hx hb dX5_take_9 (by rw [c_7]; decide) (by rw [c_7]; decide) (by rw [c_7]; rfl) (by decide) ?_
        refine lv_aload_n hx hb dX5_take_64 rfl (lv_at hl 1 rfl) ?_
        refine lv_iload_n hx hb dX5_take_65 rfl (lv_at hl 0 rfl) ?_
        refine va_put (D := D) (ci := 5) (v := .int x3_1) (ty := .int) (C := RX5) (T := TX5) (N := 4) hx hb hT kwX5 tyX5 tyX5_ok nmX5 hown hK.1 hP hD hS 0 rfl rfl 3 (by decide) (hT _ kf_X5_29) (fun _ h9 => h9) rfl (by decide +kernel) rfl rfl (Nat.le_of_ble_eq_true rfl) dX5_take_66 (fun H locs hP hD hS => ?_)
        have hP : va_P D vwCl (wX5 cA a_tx tx_length tx_characters tx_due x3_1 ++ (wX1 cA a_g g_nodes g_edges g_outer g_low g_high g_degree g_turns)) H := hP
        have hD : va_D A (wX5 cA a_tx tx_length tx_characters tx_due x3_1 ++ (wX1 cA a_g g_nodes g_edges g_outer g_low g_high g_degree g_turns)) := hD
        refine lv_aload_n hx hb dX5_take_69 rfl (lv_at hl 1 rfl) ?_
        refine lv_iconst (v := 3) hx hb dX5_take_70 (by decide) ?_
        refine va_put (D := D) (ci := 5) (v := .int 3) (ty := .int) (C := RX5) (T := TX5) (N := 4) hx hb hT kwX5 tyX5 tyX5_ok nmX5 hown hK.1 hP hD hS 0 rfl rfl 2 (by decide) (hT _ kf_X5_19) (fun _ h9 => h9) rfl (by decide +kernel) rfl rfl (Nat.le_of_ble_eq_true rfl) dX5_take_71 (fun H locs hP hD hS => ?_)
        have hP : va_P D vwCl (wX5 cA a_tx tx_length tx_characters 3 x3_1 ++ (wX1 cA a_g g_nodes g_edges g_outer g_low g_high g_degree g_turns)) H := hP
        have hD : va_D A (wX5 cA a_tx tx_length tx_characters 3 x3_1 ++ (wX1 cA a_g g_nodes g_edges g_outer g_low g_high g_degree g_turns)) := hD
        refine lv_aload_n hx hb dX5_take_74 rfl (lv_at hl 3 rfl) ?_
        refine lv_iload_n hx hb dX5_take_75 rfl (lv_at hl 0 rfl) ?_
        obtain ⟨r_8, hcr_8, hf⟩ := bd1_s hf
        refine backI (runV0 C (c_X1_hasNode l D cA a_g g_nodes g_edges g_outer g_low g_high g_degree g_turns x3_1 N r_8 hcr_8) cf_X1_hasNode km_X5_32 ⟨rfl, rfl, by decide, by decide⟩ ⟨Nat.zero_le _, Nat.zero_le _⟩ (va_recv hK.1 hP (ci := 1) (q0 := 2) rfl rfl) (hP.sub [2, 3, 4, 5, 6] rfl) hK hl.1 rfl rfl (Nat.le_of_ble_eq_true rfl) dX5_take_76) ?_
        refine lv_if_eq (tgt := 95) hx hb dX5_take_79 (by decide) (fun c_9 => ?_) (fun c_9 => ?_)
        · have hf := ite_t c_9 hf
          refine lv_iconst (v := 0) hx hb dX5_take_95 (by decide) ?_
          have eR := some_i hf
          exact W.zret hx hb hr (by decide) (fun t ht hW => ⟨⟨0, (), rfl, fst_e eR, by rw [← eR, ht]; exact hP, by rw [← eR]; exact hD⟩, hS.F ht⟩) hS.2.2 dX5_take_96 (hlocks := hlk)
        · have hf := ite_f c_9 hf
          refine lv_aload_n hx hb dX5_take_82 rfl (lv_at hl 3 rfl) ?_
          refine va_get (D := D) (ci := 1) (C := RX1) (T := TX1) (N := 7) hx hb hT kwX1 hown hK.1 hP 2 rfl rfl 1 (by decide) (hT _ kf_X5_38) (fun _ h9 => h9) rfl dX5_take_83 ?_
          refine lv_bipush (v := 20) hx hb dX5_take_86 (by decide) ?_
          refine lv_icmp_ge (tgt := 95) hx hb dX5_take_88 (by decide) (fun c_10 => ?_) (fun c_10 => ?_)
          · have hf := ite_t c_10 hf
            refine lv_iconst (v := 0) hx hb dX5_take_95 (by decide) ?_
            have eR := some_i hf
            exact W.zret hx hb hr (by decide) (fun t ht hW => ⟨⟨0, (), rfl, fst_e eR, by rw [← eR, ht]; exact hP, by rw [← eR]; exact hD⟩, hS.F ht⟩) hS.2.2 dX5_take_96 (hlocks := hlk)
          · have hf := ite_f c_10 hf
            refine lv_iconst (v := 1) hx hb dX5_take_91 (by decide) ?_
            refine lv_goto (tgt := 96) hx hb dX5_take_92 (by decide) ?_
            have eR := some_i hf
            exact W.zret hx hb hr (by decide) (fun t ht hW => ⟨⟨1, (), rfl, fst_e eR, by rw [← eR, ht]; exact hP, by rw [← eR]; exact hD⟩, hS.F ht⟩) hS.2.2 dX5_take_96 (hlocks := hlk)
      · have hf := ite_f c_7 hf
        by_cases c_11 : tx_due = 3
        · have hf := ite_t c_11 hf
          refine lv_tableIn (off := 88) (tgt := 97) hx hb dX5_take_9 (by rw [c_11]; decide) (by rw [c_11]; decide) (by rw [c_11]; rfl) (by decide) ?_
          refine lv_aload_n hx hb dX5_take_97 rfl (lv_at hl 1 rfl) ?_
          refine lv_iload_n hx hb dX5_take_98 rfl (lv_at hl 0 rfl) ?_
          refine lv_aload_n hx hb dX5_take_99 rfl (lv_at hl 3 rfl) ?_
          obtain ⟨r_12, hcr_12, hf⟩ := bd1_s hf
          refine backWi (w2 := (wX5 cA a_tx tx_length tx_characters r_12.2.2.2.2.2.2 tx_from ++ (wX1 cA a_g g_nodes r_12.2.1 g_outer r_12.2.2.1 r_12.2.2.2.1 r_12.2.2.2.2.1 r_12.2.2.2.2.2.1))) (runVw C (c_X5_takeSecondEnd l D cA a_tx a_g tx_length tx_characters tx_due tx_from g_nodes g_edges g_outer g_low g_high g_degree g_turns x3_1 _ N r_12 hcr_12) cf_X5_takeSecondEnd km_X5_41 ⟨rfl, rfl, by decide, by decide⟩ ⟨Nat.zero_le _, Nat.zero_le _⟩ (va_recv hK.1 hP (ci := 5) (q0 := 0) rfl rfl) (hP.sub [0, 1, 2, 3, 4, 5, 6] rfl) (hD.sub [0, 1, 2, 3, 4, 5, 6] rfl rfl) hK hl.1 rfl rfl (Nat.le_of_ble_eq_true rfl) dX5_take_100) hP hD hS hA [0, 1, 2, 3, 4, 5, 6] rfl [] rfl rfl (by decide) [0, 1, 2, 3, 4, 5, 6] rfl rfl (fun H locs hP hD hS => ?_)
          obtain ⟨h_13, hf⟩ := chk_s hf
          have eR := some_i hf
          exact W.zret hx hb hr (isB_n h_13) (fun t ht hW => ⟨⟨r_12.1, (), rfl, fst_e eR, by rw [← eR, ht]; exact hP, by rw [← eR]; exact hD⟩, hS.F ht⟩) hS.2.2 dX5_take_103 (hlocks := hlk)
        · have hf := ite_f c_11 hf
          refine lv_tableOut (tgt := 104) hx hb dX5_take_9 (tbl_out4 c_2 c_5 c_7 c_11) (by decide) ?_
          refine lv_aload_n hx hb dX5_take_104 rfl (lv_at hl 1 rfl) ?_
          refine lv_iconst (v := 2) hx hb dX5_take_105 (by decide) ?_
          refine va_put (D := D) (ci := 5) (v := .int 2) (ty := .int) (C := RX5) (T := TX5) (N := 4) hx hb hT kwX5 tyX5 tyX5_ok nmX5 hown hK.1 hP hD hS 0 rfl rfl 2 (by decide) (hT _ kf_X5_19) (fun _ h9 => h9) rfl (by decide +kernel) rfl rfl (Nat.le_of_ble_eq_true rfl) dX5_take_106 (fun H locs hP hD hS => ?_)
          have hP : va_P D vwCl (wX5 cA a_tx tx_length tx_characters 2 tx_from ++ (wX1 cA a_g g_nodes g_edges g_outer g_low g_high g_degree g_turns)) H := hP
          have hD : va_D A (wX5 cA a_tx tx_length tx_characters 2 tx_from ++ (wX1 cA a_g g_nodes g_edges g_outer g_low g_high g_degree g_turns)) := hD
          refine lv_iload_n hx hb dX5_take_109 rfl (lv_at hl 2 rfl) ?_
          refine lv_bipush (v := 59) hx hb dX5_take_110 (by decide) ?_
          refine lv_icmp_ne (tgt := 119) hx hb dX5_take_112 (by decide) (fun c_14 => ?_) (fun c_14 => ?_)
          · have hf := ite_t c_14 hf
            refine lv_iconst (v := 0) hx hb dX5_take_119 (by decide) ?_
            have eR := some_i hf
            exact W.zret hx hb hr (by decide) (fun t ht hW => ⟨⟨0, (), rfl, fst_e eR, by rw [← eR, ht]; exact hP, by rw [← eR]; exact hD⟩, hS.F ht⟩) hS.2.2 dX5_take_120 (hlocks := hlk)
          · have hf := ite_fn c_14 hf
            refine lv_iconst (v := 1) hx hb dX5_take_115 (by decide) ?_
            refine lv_goto (tgt := 120) hx hb dX5_take_116 (by decide) ?_
            have eR := some_i hf
            exact W.zret hx hb hr (by decide) (fun t ht hW => ⟨⟨1, (), rfl, fst_e eR, by rw [← eR, ht]; exact hP, by rw [← eR]; exact hD⟩, hS.F ht⟩) hS.2.2 dX5_take_120 (hlocks := hlk)
set_option maxRecDepth 100000 in
set_option maxHeartbeats 4000000 in
theorem c_X5_read (l : Launch) (D : va_G) (cA : Nat → ClassId) (a_tx : Nat → Nat) (a_g : Nat → Nat) (tx_length : Int32) (tx_characters : Nat → Int32) (tx_due : Int32) (tx_from : Int32) (g_nodes : Int32) (g_edges : Int32) (g_outer : Int32) (g_low : Nat → Int32) (g_high : Nat → Int32) (g_degree : Nat → Int32) (g_turns : Nat → Int32) (sz N : Nat) (ρ : Int32 × Int32 × Int32 × (Nat → Int32) × (Nat → Int32) × (Nat → Int32) × (Nat → Int32) × Int32 × Int32) (hf : f_X5_read N g_nodes g_edges g_low g_high g_degree g_turns tx_length tx_characters tx_due tx_from = some ρ) : Met l yX5_read (Cond.code yX5_read cX5_read 3 (Option.some Jvm.ClassFile.FieldType.int) :: lw_g) ({ frames := 4, cells := 0, slots := 0, locals := 95 } : Room) (PcW D (tyA cA) (wX5 cA a_tx tx_length tx_characters tx_due tx_from ++ (wX1 cA a_g g_nodes g_edges g_outer g_low g_high g_degree g_turns)) sz [.ref (a_tx 0), .ref (a_g 0)]) (va_Qi (fun r (_ : Unit) => r = ρ.1) (fun _ t => va_P D vwCl (wX5 cA a_tx tx_length tx_characters ρ.2.2.2.2.2.2.2.1 ρ.2.2.2.2.2.2.2.2 ++ (wX1 cA a_g ρ.2.1 ρ.2.2.1 g_outer ρ.2.2.2.1 ρ.2.2.2.2.1 ρ.2.2.2.2.2.1 ρ.2.2.2.2.2.2.1)) t.heap ∧ va_D (va_A (wX5 cA a_tx tx_length tx_characters tx_due tx_from ++ (wX1 cA a_g g_nodes g_edges g_outer g_low g_high g_degree g_turns)) sz) (wX5 cA a_tx tx_length tx_characters ρ.2.2.2.2.2.2.2.1 ρ.2.2.2.2.2.2.2.2 ++ (wX1 cA a_g ρ.2.1 ρ.2.2.1 g_outer ρ.2.2.2.1 ρ.2.2.2.2.1 ρ.2.2.2.2.2.1 ρ.2.2.2.2.2.2.1))) (va_A (wX5 cA a_tx tx_length tx_characters tx_due tx_from ++ (wX1 cA a_g g_nodes g_edges g_outer g_low g_high g_degree g_turns)) sz)) 0 0 (va_A (wX5 cA a_tx tx_length tx_characters tx_due tx_from ++ (wX1 cA a_g g_nodes g_edges g_outer g_low g_high g_degree g_turns)) sz) := by
  refine mkW (QQ := fun A => va_Qi (fun r (_ : Unit) => r = ρ.1) (fun _ t => va_P D vwCl (wX5 cA a_tx tx_length tx_characters ρ.2.2.2.2.2.2.2.1 ρ.2.2.2.2.2.2.2.2 ++ (wX1 cA a_g ρ.2.1 ρ.2.2.1 g_outer ρ.2.2.2.1 ρ.2.2.2.2.1 ρ.2.2.2.2.2.1 ρ.2.2.2.2.2.2.1)) t.heap ∧ va_D A (wX5 cA a_tx tx_length tx_characters ρ.2.2.2.2.2.2.2.1 ρ.2.2.2.2.2.2.2.2 ++ (wX1 cA a_g ρ.2.1 ρ.2.2.1 g_outer ρ.2.2.2.1 ρ.2.2.2.2.1 ρ.2.2.2.2.2.1 ρ.2.2.2.2.2.2.1))) A) (by decide) (Nat.le_of_ble_eq_true rfl) fun p e s m below meth c ls A C hl hP hK hD hA hS => ?_
  obtain ⟨hx, hb, hml, hown, hT, hr, hlk⟩ := id C
  have hl : lv_has ls 3 [(0, .ref (a_tx 0)), (1, .ref (a_g 0))] := hl
  have B48 : ∀ (g_nodes : Int32) (g_edges : Int32) (g_low : Nat → Int32) (g_high : Nat → Int32) (g_degree : Nat → Int32) (g_turns : Nat → Int32) (tx_due : Int32) (tx_from : Int32) (H : Heap) (locs : List Loc) (ls : Array Slot), lv_has ls 3 [(0, .ref (a_tx 0))] → va_P D vwCl (wX5 cA a_tx tx_length tx_characters tx_due tx_from ++ (wX1 cA a_g g_nodes g_edges g_outer g_low g_high g_degree g_turns)) H → va_D A (wX5 cA a_tx tx_length tx_characters tx_due tx_from ++ (wX1 cA a_g g_nodes g_edges g_outer g_low g_high g_degree g_turns)) → va_S A s.heap H locs → f_X5_read_b48 N tx_length tx_characters g_nodes g_edges g_low g_high g_degree g_turns tx_due tx_from = some ρ → W p l e ({ frames := 4, cells := 0, slots := 0, locals := 95 } : Room) s m ([.ref (a_tx 0), .ref (a_g 0)] : List Value).toArray below meth c H locs 0 0 (MQ below (va_Qi (fun r (_ : Unit) => r = ρ.1) (fun _ t => va_P D vwCl (wX5 cA a_tx tx_length tx_characters ρ.2.2.2.2.2.2.2.1 ρ.2.2.2.2.2.2.2.2 ++ (wX1 cA a_g ρ.2.1 ρ.2.2.1 g_outer ρ.2.2.2.1 ρ.2.2.2.2.1 ρ.2.2.2.2.2.1 ρ.2.2.2.2.2.2.1)) t.heap ∧ va_D A (wX5 cA a_tx tx_length tx_characters ρ.2.2.2.2.2.2.2.1 ρ.2.2.2.2.2.2.2.2 ++ (wX1 cA a_g ρ.2.1 ρ.2.2.1 g_outer ρ.2.2.2.1 ρ.2.2.2.2.1 ρ.2.2.2.2.2.1 ρ.2.2.2.2.2.2.1))) A) ([.ref (a_tx 0), .ref (a_g 0)] : List Value).toArray s 0 0 A) (F0 m 48 ls []) := by
    intro g_nodes g_edges g_low g_high g_degree g_turns tx_due tx_from H locs ls hl hP hD hS hf
    refine lv_aload_n hx hb dX5_read_48 rfl (lv_at hl 0 rfl) ?_
    refine va_get (D := D) (ci := 5) (C := RX5) (T := TX5) (N := 4) hx hb hT kwX5 hown hK.1 hP 0 rfl rfl 2 (by decide) (hT _ kf_X5_19) (fun _ h9 => h9) rfl dX5_read_49 ?_
    refine lv_iconst (v := 2) hx hb dX5_read_52 (by decide) ?_
    refine lv_icmp_ne (tgt := 60) hx hb dX5_read_53 (by decide) (fun c_7 => ?_) (fun c_7 => ?_)
    · have hf := ite_t c_7 hf
      refine lv_aload_n hx hb dX5_read_60 rfl (lv_at hl 0 rfl) ?_
      refine va_get (D := D) (ci := 5) (C := RX5) (T := TX5) (N := 4) hx hb hT kwX5 hown hK.1 hP 0 rfl rfl 0 (by decide) (hT _ kf_X5_15) (fun _ h9 => h9) rfl dX5_read_61 ?_
      have eR := some_i hf
      exact W.iret hx hb hr (fun t ht hW => ⟨⟨tx_length, (), rfl, fst_e eR, by rw [← eR, ht]; exact hP, by rw [← eR]; exact hD⟩, hS.F ht⟩) hS.2.2 dX5_read_64 (hlocks := hlk)
    · have hf := ite_fn c_7 hf
      refine lv_iconst (v := (-1)) hx hb dX5_read_56 (by decide) ?_
      refine lv_goto (tgt := 64) hx hb dX5_read_57 (by decide) ?_
      have eR := some_i hf
      exact W.iret hx hb hr (fun t ht hW => ⟨⟨(-1), (), rfl, fst_e eR, by rw [← eR, ht]; exact hP, by rw [← eR]; exact hD⟩, hS.F ht⟩) hS.2.2 dX5_read_64 (hlocks := hlk)
  have B7 : ∀ (n7 : Nat), ∀ (x2 : Int32) (g_nodes : Int32) (g_edges : Int32) (g_low : Nat → Int32) (g_high : Nat → Int32) (g_degree : Nat → Int32) (g_turns : Nat → Int32) (tx_due : Int32) (tx_from : Int32) (H : Heap) (locs : List Loc) (ls : Array Slot), lv_has ls 3 [(0, .ref (a_tx 0)), (1, .ref (a_g 0)), (2, .int x2)] → va_P D vwCl (wX5 cA a_tx tx_length tx_characters tx_due tx_from ++ (wX1 cA a_g g_nodes g_edges g_outer g_low g_high g_degree g_turns)) H → va_D A (wX5 cA a_tx tx_length tx_characters tx_due tx_from ++ (wX1 cA a_g g_nodes g_edges g_outer g_low g_high g_degree g_turns)) → va_S A s.heap H locs → f_X5_read_b7 N tx_length tx_characters n7 x2 g_nodes g_edges g_low g_high g_degree g_turns tx_due tx_from = some ρ → W p l e ({ frames := 4, cells := 0, slots := 0, locals := 95 } : Room) s m ([.ref (a_tx 0), .ref (a_g 0)] : List Value).toArray below meth c H locs 0 0 (MQ below (va_Qi (fun r (_ : Unit) => r = ρ.1) (fun _ t => va_P D vwCl (wX5 cA a_tx tx_length tx_characters ρ.2.2.2.2.2.2.2.1 ρ.2.2.2.2.2.2.2.2 ++ (wX1 cA a_g ρ.2.1 ρ.2.2.1 g_outer ρ.2.2.2.1 ρ.2.2.2.2.1 ρ.2.2.2.2.2.1 ρ.2.2.2.2.2.2.1)) t.heap ∧ va_D A (wX5 cA a_tx tx_length tx_characters ρ.2.2.2.2.2.2.2.1 ρ.2.2.2.2.2.2.2.2 ++ (wX1 cA a_g ρ.2.1 ρ.2.2.1 g_outer ρ.2.2.2.1 ρ.2.2.2.2.1 ρ.2.2.2.2.2.1 ρ.2.2.2.2.2.2.1))) A) ([.ref (a_tx 0), .ref (a_g 0)] : List Value).toArray s 0 0 A) (F0 m 7 ls []) := by
    intro n7
    induction n7 with
    | zero =>
      intro x2 g_nodes g_edges g_low g_high g_degree g_turns tx_due tx_from H locs ls hl hP hD hS hf
      cases (show (none : Option (Int32 × Int32 × Int32 × (Nat → Int32) × (Nat → Int32) × (Nat → Int32) × (Nat → Int32) × Int32 × Int32)) = some ρ from hf)
    | succ n7 ih7 =>
      have B42 : ∀ (x2 : Int32) (g_nodes : Int32) (g_edges : Int32) (g_low : Nat → Int32) (g_high : Nat → Int32) (g_degree : Nat → Int32) (g_turns : Nat → Int32) (tx_due : Int32) (tx_from : Int32) (H : Heap) (locs : List Loc) (ls : Array Slot), lv_has ls 3 [(0, .ref (a_tx 0)), (1, .ref (a_g 0)), (2, .int x2)] → va_P D vwCl (wX5 cA a_tx tx_length tx_characters tx_due tx_from ++ (wX1 cA a_g g_nodes g_edges g_outer g_low g_high g_degree g_turns)) H → va_D A (wX5 cA a_tx tx_length tx_characters tx_due tx_from ++ (wX1 cA a_g g_nodes g_edges g_outer g_low g_high g_degree g_turns)) → va_S A s.heap H locs → f_X5_read_b42 N tx_length tx_characters (f_X5_read_b7 N tx_length tx_characters n7) x2 g_nodes g_edges g_low g_high g_degree g_turns tx_due tx_from = some ρ → W p l e ({ frames := 4, cells := 0, slots := 0, locals := 95 } : Room) s m ([.ref (a_tx 0), .ref (a_g 0)] : List Value).toArray below meth c H locs 0 0 (MQ below (va_Qi (fun r (_ : Unit) => r = ρ.1) (fun _ t => va_P D vwCl (wX5 cA a_tx tx_length tx_characters ρ.2.2.2.2.2.2.2.1 ρ.2.2.2.2.2.2.2.2 ++ (wX1 cA a_g ρ.2.1 ρ.2.2.1 g_outer ρ.2.2.2.1 ρ.2.2.2.2.1 ρ.2.2.2.2.2.1 ρ.2.2.2.2.2.2.1)) t.heap ∧ va_D A (wX5 cA a_tx tx_length tx_characters ρ.2.2.2.2.2.2.2.1 ρ.2.2.2.2.2.2.2.2 ++ (wX1 cA a_g ρ.2.1 ρ.2.2.1 g_outer ρ.2.2.2.1 ρ.2.2.2.2.1 ρ.2.2.2.2.2.1 ρ.2.2.2.2.2.2.1))) A) ([.ref (a_tx 0), .ref (a_g 0)] : List Value).toArray s 0 0 A) (F0 m 42 ls []) := by
        intro x2 g_nodes g_edges g_low g_high g_degree g_turns tx_due tx_from H locs ls hl hP hD hS hf
        refine lv_iinc (v := (x2 + 1)) (lv' := [(2, .int (x2 + 1)), (0, .ref (a_tx 0)), (1, .ref (a_g 0))]) hx hb dX5_read_42 hl (k := 2) rfl rfl (by decide) rfl (fun ls hl => ?_)
        refine lv_goto (tgt := 7) hx hb dX5_read_45 (by decide) ?_
        exact ih7 (x2 + 1) g_nodes g_edges g_low g_high g_degree g_turns tx_due tx_from _ _ _ (lv_sub hl [1, 2, 0] rfl) hP hD hS hf
      intro x2 g_nodes g_edges g_low g_high g_degree g_turns tx_due tx_from H locs ls hl hP hD hS hf
      refine lv_iload_n hx hb dX5_read_7 rfl (lv_at hl 2 rfl) ?_
      refine lv_aload_n hx hb dX5_read_8 rfl (lv_at hl 0 rfl) ?_
      refine va_get (D := D) (ci := 5) (C := RX5) (T := TX5) (N := 4) hx hb hT kwX5 hown hK.1 hP 0 rfl rfl 0 (by decide) (hT _ kf_X5_15) (fun _ h9 => h9) rfl dX5_read_9 ?_
      refine lv_icmp_ge (tgt := 48) hx hb dX5_read_12 (by decide) (fun c_1 => ?_) (fun c_1 => ?_)
      · have hf := ite_t c_1 hf
        exact B48 g_nodes g_edges g_low g_high g_degree g_turns tx_due tx_from _ _ _ (lv_sub hl [0] rfl) hP hD hS hf
      · have hf := ite_f c_1 hf
        refine lv_aload_n hx hb dX5_read_15 rfl (lv_at hl 0 rfl) ?_
        refine va_get (D := D) (ci := 5) (C := RX5) (T := TX5) (N := 4) hx hb hT kwX5 hown hK.1 hP 0 rfl rfl 1 (by decide) (hT _ kf_X5_9) (fun _ h9 => h9) rfl dX5_read_16 ?_
        refine lv_iload_n hx hb dX5_read_19 rfl (lv_at hl 2 rfl) ?_
        obtain ⟨h_2, hf⟩ := chk_s hf
        refine va_iald hx hb hK.1 hP 1 0 rfl rfl (inb_in h_2) dX5_read_20 ?_
        refine lv_bipush (v := 32) hx hb dX5_read_21 (by decide) ?_
        refine lv_icmp_eq (tgt := 42) hx hb dX5_read_23 (by decide) (fun c_3 => ?_) (fun c_3 => ?_)
        · have hf := ite_t c_3 hf
          exact B42 x2 g_nodes g_edges g_low g_high g_degree g_turns tx_due tx_from _ _ _ (lv_sub hl [0, 1, 2] rfl) hP hD hS hf
        · have hf := ite_f c_3 hf
          refine lv_aload_n hx hb dX5_read_26 rfl (lv_at hl 0 rfl) ?_
          refine lv_aload_n hx hb dX5_read_27 rfl (lv_at hl 0 rfl) ?_
          refine va_get (D := D) (ci := 5) (C := RX5) (T := TX5) (N := 4) hx hb hT kwX5 hown hK.1 hP 0 rfl rfl 1 (by decide) (hT _ kf_X5_9) (fun _ h9 => h9) rfl dX5_read_28 ?_
          refine lv_iload_n hx hb dX5_read_31 rfl (lv_at hl 2 rfl) ?_
          obtain ⟨h_4, hf⟩ := chk_s hf
          refine va_iald hx hb hK.1 hP 1 0 rfl rfl (inb_in h_4) dX5_read_32 ?_
          refine lv_aload_n hx hb dX5_read_33 rfl (lv_at hl 1 rfl) ?_
          obtain ⟨r_5, hcr_5, hf⟩ := bd1_s hf
          refine backWi (w2 := (wX5 cA a_tx tx_length tx_characters r_5.2.2.2.2.2.2.2.1 r_5.2.2.2.2.2.2.2.2 ++ (wX1 cA a_g r_5.2.1 r_5.2.2.1 g_outer r_5.2.2.2.1 r_5.2.2.2.2.1 r_5.2.2.2.2.2.1 r_5.2.2.2.2.2.2.1))) (runVw C (c_X5_take l D cA a_tx a_g tx_length tx_characters tx_due tx_from g_nodes g_edges g_outer g_low g_high g_degree g_turns (tx_characters x2.toNatClampNeg) _ N r_5 hcr_5) cf_X5_take km_X5_22 ⟨rfl, rfl, by decide, by decide⟩ ⟨Nat.zero_le _, Nat.zero_le _⟩ (va_recv hK.1 hP (ci := 5) (q0 := 0) rfl rfl) (hP.sub [0, 1, 2, 3, 4, 5, 6] rfl) (hD.sub [0, 1, 2, 3, 4, 5, 6] rfl rfl) hK hl.1 rfl rfl (Nat.le_of_ble_eq_true rfl) dX5_read_34) hP hD hS hA [0, 1, 2, 3, 4, 5, 6] rfl [] rfl rfl (by decide) [0, 1, 2, 3, 4, 5, 6] rfl rfl (fun H locs hP hD hS => ?_)
          refine lv_if_ne (tgt := 42) hx hb dX5_read_37 (by decide) (fun c_6 => ?_) (fun c_6 => ?_)
          · have hf := ite_t c_6 hf
            exact B42 x2 r_5.2.1 r_5.2.2.1 r_5.2.2.2.1 r_5.2.2.2.2.1 r_5.2.2.2.2.2.1 r_5.2.2.2.2.2.2.1 r_5.2.2.2.2.2.2.2.1 r_5.2.2.2.2.2.2.2.2 _ _ _ (lv_sub hl [0, 1, 2] rfl) hP hD hS hf
          · have hf := ite_fn c_6 hf
            refine lv_iload_n hx hb dX5_read_40 rfl (lv_at hl 2 rfl) ?_
            have eR := some_i hf
            exact W.iret hx hb hr (fun t ht hW => ⟨⟨x2, (), rfl, fst_e eR, by rw [← eR, ht]; exact hP, by rw [← eR]; exact hD⟩, hS.F ht⟩) hS.2.2 dX5_read_41 (hlocks := hlk)
  refine lv_aload_n hx hb dX5_read_0 rfl (lv_at hl 0 rfl) ?_
  refine lv_iconst (v := 0) hx hb dX5_read_1 (by decide) ?_
  refine va_put (D := D) (ci := 5) (v := .int 0) (ty := .int) (C := RX5) (T := TX5) (N := 4) hx hb hT kwX5 tyX5 tyX5_ok nmX5 hown hK.1 hP hD hS 0 rfl rfl 2 (by decide) (hT _ kf_X5_19) (fun _ h9 => h9) rfl (by decide +kernel) rfl rfl (Nat.le_of_ble_eq_true rfl) dX5_read_2 (fun H locs hP hD hS => ?_)
  have hP : va_P D vwCl (wX5 cA a_tx tx_length tx_characters 0 tx_from ++ (wX1 cA a_g g_nodes g_edges g_outer g_low g_high g_degree g_turns)) H := hP
  have hD : va_D A (wX5 cA a_tx tx_length tx_characters 0 tx_from ++ (wX1 cA a_g g_nodes g_edges g_outer g_low g_high g_degree g_turns)) := hD
  refine lv_iconst (v := 0) hx hb dX5_read_5 (by decide) ?_
  refine lv_istore_n (lv' := [(2, .int 0), (0, .ref (a_tx 0)), (1, .ref (a_g 0))]) hx hb dX5_read_6 rfl hl (by decide) rfl (fun ls hl => ?_)
  exact B7 N 0 g_nodes g_edges g_low g_high g_degree g_turns 0 tx_from _ _ _ (lv_sub hl [1, 2, 0] rfl) hP hD hS hf
set_option maxRecDepth 100000 in
set_option maxHeartbeats 4000000 in
theorem c_X6_chooseStart (l : Launch) (D : va_G) (cA : Nat → ClassId) (a_wa : Nat → Nat) (a_f : Nat → Nat) (wa_cost : Int32) (wa_crossedEdges : Nat → Int32) (wa_distance : Nat → Int32) (f_number : Int32) (f_components : Int32) (f_genus : Int32) (f_next : Nat → Int32) (f_owner : Nat → Int32) (f_first : Nat → Int32) (f_length : Nat → Int32) (f_nodeSet : Nat → Int32) (f_near : Nat → Int32) (p2 : Int32) (sz N : Nat) (ρ : Int32 × Int32) (hf : f_X6_chooseStart N f_number f_nodeSet wa_cost wa_distance p2 = some ρ) : Met l yX6_chooseStart (Cond.code yX6_chooseStart cX6_chooseStart 5 (Option.some Jvm.ClassFile.FieldType.int) :: lw_g) ({ frames := 2, cells := 0, slots := 0, locals := 43 } : Room) (PcW D (tyA cA) (wX6 cA a_wa wa_cost wa_crossedEdges wa_distance ++ (wX0 cA a_f f_number f_components f_genus f_next f_owner f_first f_length f_nodeSet f_near)) sz [.ref (a_wa 0), .ref (a_f 0), .int p2]) (va_Qi (fun r (_ : Unit) => r = ρ.1) (fun _ t => va_P D vwCl (wX6 cA a_wa ρ.2 wa_crossedEdges wa_distance ++ (wX0 cA a_f f_number f_components f_genus f_next f_owner f_first f_length f_nodeSet f_near)) t.heap ∧ va_D (va_A (wX6 cA a_wa wa_cost wa_crossedEdges wa_distance ++ (wX0 cA a_f f_number f_components f_genus f_next f_owner f_first f_length f_nodeSet f_near)) sz) (wX6 cA a_wa ρ.2 wa_crossedEdges wa_distance ++ (wX0 cA a_f f_number f_components f_genus f_next f_owner f_first f_length f_nodeSet f_near))) (va_A (wX6 cA a_wa wa_cost wa_crossedEdges wa_distance ++ (wX0 cA a_f f_number f_components f_genus f_next f_owner f_first f_length f_nodeSet f_near)) sz)) 0 0 (va_A (wX6 cA a_wa wa_cost wa_crossedEdges wa_distance ++ (wX0 cA a_f f_number f_components f_genus f_next f_owner f_first f_length f_nodeSet f_near)) sz) := by
  refine mkW (QQ := fun A => va_Qi (fun r (_ : Unit) => r = ρ.1) (fun _ t => va_P D vwCl (wX6 cA a_wa ρ.2 wa_crossedEdges wa_distance ++ (wX0 cA a_f f_number f_components f_genus f_next f_owner f_first f_length f_nodeSet f_near)) t.heap ∧ va_D A (wX6 cA a_wa ρ.2 wa_crossedEdges wa_distance ++ (wX0 cA a_f f_number f_components f_genus f_next f_owner f_first f_length f_nodeSet f_near))) A) (by decide) (Nat.le_of_ble_eq_true rfl) fun p e s m below meth c ls A C hl hP hK hD hA hS => ?_
  obtain ⟨hx, hb, hml, hown, hT, hr, hlk⟩ := id C
  have hl : lv_has ls 5 [(0, .ref (a_wa 0)), (1, .ref (a_f 0)), (2, .int p2)] := hl
  have B11 : ∀ (n11 : Nat), ∀ (x2 : Int32) (x3 : Int32) (x4 : Int32) (wa_cost : Int32) (H : Heap) (locs : List Loc) (ls : Array Slot), lv_has ls 5 [(0, .ref (a_wa 0)), (1, .ref (a_f 0)), (2, .int x2), (3, .int x3), (4, .int x4)] → va_P D vwCl (wX6 cA a_wa wa_cost wa_crossedEdges wa_distance ++ (wX0 cA a_f f_number f_components f_genus f_next f_owner f_first f_length f_nodeSet f_near)) H → va_D A (wX6 cA a_wa wa_cost wa_crossedEdges wa_distance ++ (wX0 cA a_f f_number f_components f_genus f_next f_owner f_first f_length f_nodeSet f_near)) → va_S A s.heap H locs → f_X6_chooseStart_b11 N f_number f_nodeSet wa_distance n11 x2 x3 x4 wa_cost = some ρ → W p l e ({ frames := 2, cells := 0, slots := 0, locals := 43 } : Room) s m ([.ref (a_wa 0), .ref (a_f 0), .int p2] : List Value).toArray below meth c H locs 0 0 (MQ below (va_Qi (fun r (_ : Unit) => r = ρ.1) (fun _ t => va_P D vwCl (wX6 cA a_wa ρ.2 wa_crossedEdges wa_distance ++ (wX0 cA a_f f_number f_components f_genus f_next f_owner f_first f_length f_nodeSet f_near)) t.heap ∧ va_D A (wX6 cA a_wa ρ.2 wa_crossedEdges wa_distance ++ (wX0 cA a_f f_number f_components f_genus f_next f_owner f_first f_length f_nodeSet f_near))) A) ([.ref (a_wa 0), .ref (a_f 0), .int p2] : List Value).toArray s 0 0 A) (F0 m 11 ls []) := by
    intro n11
    induction n11 with
    | zero =>
      intro x2 x3 x4 wa_cost H locs ls hl hP hD hS hf
      cases (show (none : Option (Int32 × Int32)) = some ρ from hf)
    | succ n11 ih11 =>
      have B95 : ∀ (x2 : Int32) (x3 : Int32) (x4 : Int32) (wa_cost : Int32) (H : Heap) (locs : List Loc) (ls : Array Slot), lv_has ls 5 [(0, .ref (a_wa 0)), (1, .ref (a_f 0)), (2, .int x2), (3, .int x3), (4, .int x4)] → va_P D vwCl (wX6 cA a_wa wa_cost wa_crossedEdges wa_distance ++ (wX0 cA a_f f_number f_components f_genus f_next f_owner f_first f_length f_nodeSet f_near)) H → va_D A (wX6 cA a_wa wa_cost wa_crossedEdges wa_distance ++ (wX0 cA a_f f_number f_components f_genus f_next f_owner f_first f_length f_nodeSet f_near)) → va_S A s.heap H locs → f_X6_chooseStart_b95 N f_number f_nodeSet wa_distance (f_X6_chooseStart_b11 N f_number f_nodeSet wa_distance n11) x2 x3 x4 wa_cost = some ρ → W p l e ({ frames := 2, cells := 0, slots := 0, locals := 43 } : Room) s m ([.ref (a_wa 0), .ref (a_f 0), .int p2] : List Value).toArray below meth c H locs 0 0 (MQ below (va_Qi (fun r (_ : Unit) => r = ρ.1) (fun _ t => va_P D vwCl (wX6 cA a_wa ρ.2 wa_crossedEdges wa_distance ++ (wX0 cA a_f f_number f_components f_genus f_next f_owner f_first f_length f_nodeSet f_near)) t.heap ∧ va_D A (wX6 cA a_wa ρ.2 wa_crossedEdges wa_distance ++ (wX0 cA a_f f_number f_components f_genus f_next f_owner f_first f_length f_nodeSet f_near))) A) ([.ref (a_wa 0), .ref (a_f 0), .int p2] : List Value).toArray s 0 0 A) (F0 m 95 ls []) := by
        intro x2 x3 x4 wa_cost H locs ls hl hP hD hS hf
        refine lv_iinc (v := (x4 + 1)) (lv' := [(4, .int (x4 + 1)), (0, .ref (a_wa 0)), (1, .ref (a_f 0)), (2, .int x2), (3, .int x3)]) hx hb dX6_chooseStart_95 hl (k := 4) rfl rfl (by decide) rfl (fun ls hl => ?_)
        refine lv_goto (tgt := 11) hx hb dX6_chooseStart_98 (by decide) ?_
        exact ih11 x2 x3 (x4 + 1) wa_cost _ _ _ (lv_sub hl [1, 2, 3, 4, 0] rfl) hP hD hS hf
      have B83 : ∀ (x2 : Int32) (x4 : Int32) (y0 : Int32) (wa_cost : Int32) (H : Heap) (locs : List Loc) (ls : Array Slot), lv_has ls 5 [(0, .ref (a_wa 0)), (1, .ref (a_f 0)), (2, .int x2), (4, .int x4)] → va_P D vwCl (wX6 cA a_wa wa_cost wa_crossedEdges wa_distance ++ (wX0 cA a_f f_number f_components f_genus f_next f_owner f_first f_length f_nodeSet f_near)) H → va_D A (wX6 cA a_wa wa_cost wa_crossedEdges wa_distance ++ (wX0 cA a_f f_number f_components f_genus f_next f_owner f_first f_length f_nodeSet f_near)) → va_S A s.heap H locs → f_X6_chooseStart_b83 N f_number f_nodeSet wa_distance (f_X6_chooseStart_b11 N f_number f_nodeSet wa_distance n11) x2 x4 y0 wa_cost = some ρ → W p l e ({ frames := 2, cells := 0, slots := 0, locals := 43 } : Room) s m ([.ref (a_wa 0), .ref (a_f 0), .int p2] : List Value).toArray below meth c H locs 0 0 (MQ below (va_Qi (fun r (_ : Unit) => r = ρ.1) (fun _ t => va_P D vwCl (wX6 cA a_wa ρ.2 wa_crossedEdges wa_distance ++ (wX0 cA a_f f_number f_components f_genus f_next f_owner f_first f_length f_nodeSet f_near)) t.heap ∧ va_D A (wX6 cA a_wa ρ.2 wa_crossedEdges wa_distance ++ (wX0 cA a_f f_number f_components f_genus f_next f_owner f_first f_length f_nodeSet f_near))) A) ([.ref (a_wa 0), .ref (a_f 0), .int p2] : List Value).toArray s 0 0 A) (F0 m 83 ls [.int y0]) := by
        intro x2 x4 y0 wa_cost H locs ls hl hP hD hS hf
        refine lv_istore_n (lv' := [(3, .int y0), (0, .ref (a_wa 0)), (1, .ref (a_f 0)), (2, .int x2), (4, .int x4)]) hx hb dX6_chooseStart_83 rfl hl (by decide) rfl (fun ls hl => ?_)
        refine lv_aload_n hx hb dX6_chooseStart_84 rfl (lv_at hl 1 rfl) ?_
        refine lv_aload_n hx hb dX6_chooseStart_85 rfl (lv_at hl 1 rfl) ?_
        refine va_get (D := D) (ci := 6) (C := RX6) (T := TX6) (N := 3) hx hb hT kwX6 hown hK.1 hP 0 rfl rfl 2 (by decide) (hT _ kf_X6_15) (fun _ h9 => h9) rfl dX6_chooseStart_86 ?_
        refine lv_iload hx hb dX6_chooseStart_89 (lv_at hl 4 rfl) ?_
        obtain ⟨h_12, hf⟩ := chk_s hf
        refine va_iald hx hb hK.1 hP 2 0 rfl rfl (inb_in h_12) dX6_chooseStart_91 ?_
        refine va_put (D := D) (ci := 6) (v := .int (wa_distance x4.toNatClampNeg)) (ty := .int) (C := RX6) (T := TX6) (N := 3) hx hb hT kwX6 tyX6 tyX6_ok nmX6 hown hK.1 hP hD hS 0 rfl rfl 0 (by decide) (hT _ kf_X6_18) (fun _ h9 => h9) rfl (by decide +kernel) rfl rfl (Nat.le_of_ble_eq_true rfl) dX6_chooseStart_92 (fun H locs hP hD hS => ?_)
        have hP : va_P D vwCl (wX6 cA a_wa (wa_distance x4.toNatClampNeg) wa_crossedEdges wa_distance ++ (wX0 cA a_f f_number f_components f_genus f_next f_owner f_first f_length f_nodeSet f_near)) H := hP
        have hD : va_D A (wX6 cA a_wa (wa_distance x4.toNatClampNeg) wa_crossedEdges wa_distance ++ (wX0 cA a_f f_number f_components f_genus f_next f_owner f_first f_length f_nodeSet f_near)) := hD
        exact B95 x2 y0 x4 (wa_distance x4.toNatClampNeg) _ _ _ (lv_sub hl [1, 2, 3, 0, 4] rfl) hP hD hS hf
      intro x2 x3 x4 wa_cost H locs ls hl hP hD hS hf
      refine lv_iload hx hb dX6_chooseStart_11 (lv_at hl 4 rfl) ?_
      refine lv_aload_n hx hb dX6_chooseStart_13 rfl (lv_at hl 1 rfl) ?_
      refine va_get (D := D) (ci := 0) (C := RX0) (T := TX0) (N := 9) hx hb hT kwX0 hown hK.1 hP 3 rfl rfl 0 (by decide) (hT _ kf_X6_40) (fun _ h9 => h9) rfl dX6_chooseStart_14 ?_
      refine lv_icmp_ge (tgt := 101) hx hb dX6_chooseStart_17 (by decide) (fun c_1 => ?_) (fun c_1 => ?_)
      · have hf := ite_t c_1 hf
        refine lv_iload_n hx hb dX6_chooseStart_101 rfl (lv_at hl 3 rfl) ?_
        have eR := some_i hf
        exact W.iret hx hb hr (fun t ht hW => ⟨⟨x3, (), rfl, fst_e eR, by rw [← eR, ht]; exact hP, by rw [← eR]; exact hD⟩, hS.F ht⟩) hS.2.2 dX6_chooseStart_102 (hlocks := hlk)
      · have hf := ite_f c_1 hf
        refine lv_aload_n hx hb dX6_chooseStart_20 rfl (lv_at hl 1 rfl) ?_
        refine lv_iload hx hb dX6_chooseStart_21 (lv_at hl 4 rfl) ?_
        refine lv_iload_n hx hb dX6_chooseStart_23 rfl (lv_at hl 2 rfl) ?_
        obtain ⟨r_2, hcr_2, hf⟩ := bd1_s hf
        refine backI (runV0 C (c_X0_holds l D cA a_f f_number f_components f_genus f_next f_owner f_first f_length f_nodeSet f_near x4 x2 N r_2 hcr_2) cf_X0_holds km_X6_43 ⟨rfl, rfl, by decide, by decide⟩ ⟨Nat.zero_le _, Nat.zero_le _⟩ (va_recv hK.1 hP (ci := 0) (q0 := 3) rfl rfl) (hP.sub [3, 4, 5, 6, 7, 8, 9] rfl) hK hl.1 rfl rfl (Nat.le_of_ble_eq_true rfl) dX6_chooseStart_24) ?_
        refine lv_if_eq (tgt := 95) hx hb dX6_chooseStart_27 (by decide) (fun c_3 => ?_) (fun c_3 => ?_)
        · have hf := ite_t c_3 hf
          exact B95 x2 x3 x4 wa_cost _ _ _ (lv_sub hl [0, 1, 2, 3, 4] rfl) hP hD hS hf
        · have hf := ite_f c_3 hf
          refine lv_aload_n hx hb dX6_chooseStart_30 rfl (lv_at hl 0 rfl) ?_
          refine va_get (D := D) (ci := 6) (C := RX6) (T := TX6) (N := 3) hx hb hT kwX6 hown hK.1 hP 0 rfl rfl 2 (by decide) (hT _ kf_X6_15) (fun _ h9 => h9) rfl dX6_chooseStart_31 ?_
          refine lv_iload hx hb dX6_chooseStart_34 (lv_at hl 4 rfl) ?_
          obtain ⟨h_4, hf⟩ := chk_s hf
          refine va_iald hx hb hK.1 hP 2 0 rfl rfl (inb_in h_4) dX6_chooseStart_36 ?_
          refine lv_if_lt (tgt := 95) hx hb dX6_chooseStart_37 (by decide) (fun c_5 => ?_) (fun c_5 => ?_)
          · have hf := ite_t c_5 hf
            exact B95 x2 x3 x4 wa_cost _ _ _ (lv_sub hl [0, 1, 2, 3, 4] rfl) hP hD hS hf
          · have hf := ite_f c_5 hf
            refine lv_aload_n hx hb dX6_chooseStart_40 rfl (lv_at hl 0 rfl) ?_
            refine va_get (D := D) (ci := 6) (C := RX6) (T := TX6) (N := 3) hx hb hT kwX6 hown hK.1 hP 0 rfl rfl 2 (by decide) (hT _ kf_X6_15) (fun _ h9 => h9) rfl dX6_chooseStart_41 ?_
            refine lv_iload hx hb dX6_chooseStart_44 (lv_at hl 4 rfl) ?_
            obtain ⟨h_6, hf⟩ := chk_s hf
            refine va_iald hx hb hK.1 hP 2 0 rfl rfl (inb_in h_6) dX6_chooseStart_46 ?_
            refine lv_aload_n hx hb dX6_chooseStart_47 rfl (lv_at hl 0 rfl) ?_
            refine va_get (D := D) (ci := 6) (C := RX6) (T := TX6) (N := 3) hx hb hT kwX6 hown hK.1 hP 0 rfl rfl 0 (by decide) (hT _ kf_X6_18) (fun _ h9 => h9) rfl dX6_chooseStart_48 ?_
            refine lv_icmp_gt (tgt := 95) hx hb dX6_chooseStart_51 (by decide) (fun c_7 => ?_) (fun c_7 => ?_)
            · have hf := ite_t c_7 hf
              exact B95 x2 x3 x4 wa_cost _ _ _ (lv_sub hl [0, 1, 2, 3, 4] rfl) hP hD hS hf
            · have hf := ite_f c_7 hf
              refine lv_aload_n hx hb dX6_chooseStart_54 rfl (lv_at hl 0 rfl) ?_
              refine va_get (D := D) (ci := 6) (C := RX6) (T := TX6) (N := 3) hx hb hT kwX6 hown hK.1 hP 0 rfl rfl 2 (by decide) (hT _ kf_X6_15) (fun _ h9 => h9) rfl dX6_chooseStart_55 ?_
              refine lv_iload hx hb dX6_chooseStart_58 (lv_at hl 4 rfl) ?_
              obtain ⟨h_8, hf⟩ := chk_s hf
              refine va_iald hx hb hK.1 hP 2 0 rfl rfl (inb_in h_8) dX6_chooseStart_60 ?_
              refine lv_aload_n hx hb dX6_chooseStart_61 rfl (lv_at hl 0 rfl) ?_
              refine va_get (D := D) (ci := 6) (C := RX6) (T := TX6) (N := 3) hx hb hT kwX6 hown hK.1 hP 0 rfl rfl 0 (by decide) (hT _ kf_X6_18) (fun _ h9 => h9) rfl dX6_chooseStart_62 ?_
              refine lv_icmp_ge (tgt := 76) hx hb dX6_chooseStart_65 (by decide) (fun c_9 => ?_) (fun c_9 => ?_)
              · have hf := ite_t c_9 hf
                refine lv_iload_n hx hb dX6_chooseStart_76 rfl (lv_at hl 3 rfl) ?_
                refine lv_iload hx hb dX6_chooseStart_77 (lv_at hl 4 rfl) ?_
                obtain ⟨r_10, hcr_10, hf⟩ := bd1_s hf
                refine backI (runN0 C (c_X7_bit l D cA x4 N r_10 hcr_10) cf_X7_bit kn_X6_54 ⟨rfl, rfl, by decide, by decide⟩ ⟨Nat.zero_le _, Nat.zero_le _⟩ (hP.sub [] rfl) hK hl.1 rfl rfl (Nat.le_of_ble_eq_true rfl) dX6_chooseStart_79) ?_
                refine lv_ior hx hb dX6_chooseStart_82 ?_
                exact B83 x2 x4 (x3 ||| r_10) wa_cost _ _ _ (lv_sub hl [0, 1, 2, 4] rfl) hP hD hS hf
              · have hf := ite_f c_9 hf
                refine lv_iload hx hb dX6_chooseStart_68 (lv_at hl 4 rfl) ?_
                obtain ⟨r_11, hcr_11, hf⟩ := bd1_s hf
                refine backI (runN0 C (c_X7_bit l D cA x4 N r_11 hcr_11) cf_X7_bit kn_X6_54 ⟨rfl, rfl, by decide, by decide⟩ ⟨Nat.zero_le _, Nat.zero_le _⟩ (hP.sub [] rfl) hK hl.1 rfl rfl (Nat.le_of_ble_eq_true rfl) dX6_chooseStart_70) ?_
                refine lv_goto (tgt := 83) hx hb dX6_chooseStart_73 (by decide) ?_
                exact B83 x2 x4 r_11 wa_cost _ _ _ (lv_sub hl [0, 1, 2, 4] rfl) hP hD hS hf
  refine lv_iconst (v := 0) hx hb dX6_chooseStart_0 (by decide) ?_
  refine lv_istore_n (lv' := [(3, .int 0), (0, .ref (a_wa 0)), (1, .ref (a_f 0)), (2, .int p2)]) hx hb dX6_chooseStart_1 rfl hl (by decide) rfl (fun ls hl => ?_)
  refine lv_aload_n hx hb dX6_chooseStart_2 rfl (lv_at hl 1 rfl) ?_
  refine lv_bipush (v := 40) hx hb dX6_chooseStart_3 (by decide) ?_
  refine va_put (D := D) (ci := 6) (v := .int 40) (ty := .int) (C := RX6) (T := TX6) (N := 3) hx hb hT kwX6 tyX6 tyX6_ok nmX6 hown hK.1 hP hD hS 0 rfl rfl 0 (by decide) (hT _ kf_X6_18) (fun _ h9 => h9) rfl (by decide +kernel) rfl rfl (Nat.le_of_ble_eq_true rfl) dX6_chooseStart_5 (fun H locs hP hD hS => ?_)
  have hP : va_P D vwCl (wX6 cA a_wa 40 wa_crossedEdges wa_distance ++ (wX0 cA a_f f_number f_components f_genus f_next f_owner f_first f_length f_nodeSet f_near)) H := hP
  have hD : va_D A (wX6 cA a_wa 40 wa_crossedEdges wa_distance ++ (wX0 cA a_f f_number f_components f_genus f_next f_owner f_first f_length f_nodeSet f_near)) := hD
  refine lv_iconst (v := 0) hx hb dX6_chooseStart_8 (by decide) ?_
  refine lv_istore (lv' := [(4, .int 0), (3, .int 0), (0, .ref (a_wa 0)), (1, .ref (a_f 0)), (2, .int p2)]) hx hb dX6_chooseStart_9 hl (by decide) rfl (fun ls hl => ?_)
  exact B11 N p2 0 0 40 _ _ _ (lv_sub hl [2, 3, 4, 1, 0] rfl) hP hD hS hf
set_option maxRecDepth 100000 in
set_option maxHeartbeats 4000000 in
theorem c_X6_cross (l : Launch) (D : va_G) (cA : Nat → ClassId) (a_wa : Nat → Nat) (a_g : Nat → Nat) (a_f : Nat → Nat) (wa_cost : Int32) (wa_crossedEdges : Nat → Int32) (wa_distance : Nat → Int32) (g_nodes : Int32) (g_edges : Int32) (g_outer : Int32) (g_low : Nat → Int32) (g_high : Nat → Int32) (g_degree : Nat → Int32) (g_turns : Nat → Int32) (f_number : Int32) (f_components : Int32) (f_genus : Int32) (f_next : Nat → Int32) (f_owner : Nat → Int32) (f_first : Nat → Int32) (f_length : Nat → Int32) (f_nodeSet : Nat → Int32) (f_near : Nat → Int32) (p3 : Int32) (p4 : Int32) (sz N : Nat) (ρ : Int32 × (Nat → Int32)) (hf : f_X6_cross N f_owner g_edges wa_cost wa_crossedEdges wa_distance p3 p4 = some ρ) : Met l yX6_cross (Cond.code yX6_cross cX6_cross 7 (Option.some Jvm.ClassFile.FieldType.int) :: lw_g) ({ frames := 1, cells := 0, slots := 0, locals := 21 } : Room) (PcW D (tyA cA) (wX6 cA a_wa wa_cost wa_crossedEdges wa_distance ++ (wX1 cA a_g g_nodes g_edges g_outer g_low g_high g_degree g_turns ++ (wX0 cA a_f f_number f_components f_genus f_next f_owner f_first f_length f_nodeSet f_near))) sz [.ref (a_wa 0), .ref (a_g 0), .ref (a_f 0), .int p3, .int p4]) (va_Qi (fun r (_ : Unit) => r = ρ.1) (fun _ t => va_P D vwCl (wX6 cA a_wa wa_cost ρ.2 wa_distance ++ (wX1 cA a_g g_nodes g_edges g_outer g_low g_high g_degree g_turns ++ (wX0 cA a_f f_number f_components f_genus f_next f_owner f_first f_length f_nodeSet f_near))) t.heap ∧ va_D (va_A (wX6 cA a_wa wa_cost wa_crossedEdges wa_distance ++ (wX1 cA a_g g_nodes g_edges g_outer g_low g_high g_degree g_turns ++ (wX0 cA a_f f_number f_components f_genus f_next f_owner f_first f_length f_nodeSet f_near))) sz) (wX6 cA a_wa wa_cost ρ.2 wa_distance ++ (wX1 cA a_g g_nodes g_edges g_outer g_low g_high g_degree g_turns ++ (wX0 cA a_f f_number f_components f_genus f_next f_owner f_first f_length f_nodeSet f_near)))) (va_A (wX6 cA a_wa wa_cost wa_crossedEdges wa_distance ++ (wX1 cA a_g g_nodes g_edges g_outer g_low g_high g_degree g_turns ++ (wX0 cA a_f f_number f_components f_genus f_next f_owner f_first f_length f_nodeSet f_near))) sz)) 0 0 (va_A (wX6 cA a_wa wa_cost wa_crossedEdges wa_distance ++ (wX1 cA a_g g_nodes g_edges g_outer g_low g_high g_degree g_turns ++ (wX0 cA a_f f_number f_components f_genus f_next f_owner f_first f_length f_nodeSet f_near))) sz) := by
  refine mkW (QQ := fun A => va_Qi (fun r (_ : Unit) => r = ρ.1) (fun _ t => va_P D vwCl (wX6 cA a_wa wa_cost ρ.2 wa_distance ++ (wX1 cA a_g g_nodes g_edges g_outer g_low g_high g_degree g_turns ++ (wX0 cA a_f f_number f_components f_genus f_next f_owner f_first f_length f_nodeSet f_near))) t.heap ∧ va_D A (wX6 cA a_wa wa_cost ρ.2 wa_distance ++ (wX1 cA a_g g_nodes g_edges g_outer g_low g_high g_degree g_turns ++ (wX0 cA a_f f_number f_components f_genus f_next f_owner f_first f_length f_nodeSet f_near)))) A) (by decide) (Nat.le_of_ble_eq_true rfl) fun p e s m below meth c ls A C hl hP hK hD hA hS => ?_
  obtain ⟨hx, hb, hml, hown, hT, hr, hlk⟩ := id C
  have hl : lv_has ls 7 [(0, .ref (a_wa 0)), (1, .ref (a_g 0)), (2, .ref (a_f 0)), (3, .int p3), (4, .int p4)] := hl
  have B58 : ∀ (x4 : Int32) (x5 : Int32) (x6 : Int32) (wa_crossedEdges : Nat → Int32) (H : Heap) (locs : List Loc) (ls : Array Slot), lv_has ls 7 [(0, .ref (a_wa 0)), (4, .int x4), (5, .int x5), (6, .int x6)] → va_P D vwCl (wX6 cA a_wa wa_cost wa_crossedEdges wa_distance ++ (wX1 cA a_g g_nodes g_edges g_outer g_low g_high g_degree g_turns ++ (wX0 cA a_f f_number f_components f_genus f_next f_owner f_first f_length f_nodeSet f_near))) H → va_D A (wX6 cA a_wa wa_cost wa_crossedEdges wa_distance ++ (wX1 cA a_g g_nodes g_edges g_outer g_low g_high g_degree g_turns ++ (wX0 cA a_f f_number f_components f_genus f_next f_owner f_first f_length f_nodeSet f_near))) → va_S A s.heap H locs → f_X6_cross_b58 N f_owner g_edges wa_cost wa_distance x4 x5 x6 wa_crossedEdges = some ρ → W p l e ({ frames := 1, cells := 0, slots := 0, locals := 21 } : Room) s m ([.ref (a_wa 0), .ref (a_g 0), .ref (a_f 0), .int p3, .int p4] : List Value).toArray below meth c H locs 0 0 (MQ below (va_Qi (fun r (_ : Unit) => r = ρ.1) (fun _ t => va_P D vwCl (wX6 cA a_wa wa_cost ρ.2 wa_distance ++ (wX1 cA a_g g_nodes g_edges g_outer g_low g_high g_degree g_turns ++ (wX0 cA a_f f_number f_components f_genus f_next f_owner f_first f_length f_nodeSet f_near))) t.heap ∧ va_D A (wX6 cA a_wa wa_cost ρ.2 wa_distance ++ (wX1 cA a_g g_nodes g_edges g_outer g_low g_high g_degree g_turns ++ (wX0 cA a_f f_number f_components f_genus f_next f_owner f_first f_length f_nodeSet f_near)))) A) ([.ref (a_wa 0), .ref (a_g 0), .ref (a_f 0), .int p3, .int p4] : List Value).toArray s 0 0 A) (F0 m 58 ls []) := by
    intro x4 x5 x6 wa_crossedEdges H locs ls hl hP hD hS hf
    refine lv_aload_n hx hb dX6_cross_58 rfl (lv_at hl 0 rfl) ?_
    refine va_get (D := D) (ci := 6) (C := RX6) (T := TX6) (N := 3) hx hb hT kwX6 hown hK.1 hP 0 rfl rfl 1 (by decide) (hT _ kf_X6_9) (fun _ h9 => h9) rfl dX6_cross_59 ?_
    refine lv_iload hx hb dX6_cross_62 (lv_at hl 1 rfl) ?_
    refine lv_iload hx hb dX6_cross_64 (lv_at hl 2 rfl) ?_
    refine lv_iconst (v := 2) hx hb dX6_cross_66 (by decide) ?_
    refine lv_idiv hx hb dX6_cross_67 (by decide) ?_
    obtain ⟨h_9, hf⟩ := chk_s hf
    refine va_iast hx hb hK.1 hP hD hS 1 0 rfl rfl (inb_in h_9) dX6_cross_68 (fun H locs hP hD hS => ?_)
    have hP : va_P D vwCl (wX6 cA a_wa wa_cost (upd wa_crossedEdges x4.toNatClampNeg (x5 / 2)) wa_distance ++ (wX1 cA a_g g_nodes g_edges g_outer g_low g_high g_degree g_turns ++ (wX0 cA a_f f_number f_components f_genus f_next f_owner f_first f_length f_nodeSet f_near))) H := hP
    have hD : va_D A (wX6 cA a_wa wa_cost (upd wa_crossedEdges x4.toNatClampNeg (x5 / 2)) wa_distance ++ (wX1 cA a_g g_nodes g_edges g_outer g_low g_high g_degree g_turns ++ (wX0 cA a_f f_number f_components f_genus f_next f_owner f_first f_length f_nodeSet f_near))) := hD
    refine lv_iload hx hb dX6_cross_69 (lv_at hl 3 rfl) ?_
    obtain ⟨r_10, hcr_10, hf⟩ := bd1_s hf
    refine backI (runN0 C (c_X7_bit l D cA x6 N r_10 hcr_10) cf_X7_bit kn_X6_54 ⟨rfl, rfl, by decide, by decide⟩ ⟨Nat.zero_le _, Nat.zero_le _⟩ (hP.sub [] rfl) hK hl.1 rfl rfl (Nat.le_of_ble_eq_true rfl) dX6_cross_71) ?_
    have eR := some_i hf
    exact W.iret hx hb hr (fun t ht hW => ⟨⟨r_10, (), rfl, fst_e eR, by rw [← eR, ht]; exact hP, by rw [← eR]; exact hD⟩, hS.F ht⟩) hS.2.2 dX6_cross_74 (hlocks := hlk)
  have B3 : ∀ (n3 : Nat), ∀ (x3 : Int32) (x4 : Int32) (x5 : Int32) (wa_crossedEdges : Nat → Int32) (H : Heap) (locs : List Loc) (ls : Array Slot), lv_has ls 7 [(0, .ref (a_wa 0)), (1, .ref (a_g 0)), (2, .ref (a_f 0)), (3, .int x3), (4, .int x4), (5, .int x5)] → va_P D vwCl (wX6 cA a_wa wa_cost wa_crossedEdges wa_distance ++ (wX1 cA a_g g_nodes g_edges g_outer g_low g_high g_degree g_turns ++ (wX0 cA a_f f_number f_components f_genus f_next f_owner f_first f_length f_nodeSet f_near))) H → va_D A (wX6 cA a_wa wa_cost wa_crossedEdges wa_distance ++ (wX1 cA a_g g_nodes g_edges g_outer g_low g_high g_degree g_turns ++ (wX0 cA a_f f_number f_components f_genus f_next f_owner f_first f_length f_nodeSet f_near))) → va_S A s.heap H locs → f_X6_cross_b3 N f_owner g_edges wa_cost wa_distance n3 x3 x4 x5 wa_crossedEdges = some ρ → W p l e ({ frames := 1, cells := 0, slots := 0, locals := 21 } : Room) s m ([.ref (a_wa 0), .ref (a_g 0), .ref (a_f 0), .int p3, .int p4] : List Value).toArray below meth c H locs 0 0 (MQ below (va_Qi (fun r (_ : Unit) => r = ρ.1) (fun _ t => va_P D vwCl (wX6 cA a_wa wa_cost ρ.2 wa_distance ++ (wX1 cA a_g g_nodes g_edges g_outer g_low g_high g_degree g_turns ++ (wX0 cA a_f f_number f_components f_genus f_next f_owner f_first f_length f_nodeSet f_near))) t.heap ∧ va_D A (wX6 cA a_wa wa_cost ρ.2 wa_distance ++ (wX1 cA a_g g_nodes g_edges g_outer g_low g_high g_degree g_turns ++ (wX0 cA a_f f_number f_components f_genus f_next f_owner f_first f_length f_nodeSet f_near)))) A) ([.ref (a_wa 0), .ref (a_g 0), .ref (a_f 0), .int p3, .int p4] : List Value).toArray s 0 0 A) (F0 m 3 ls []) := by
    intro n3
    induction n3 with
    | zero =>
      intro x3 x4 x5 wa_crossedEdges H locs ls hl hP hD hS hf
      cases (show (none : Option (Int32 × (Nat → Int32))) = some ρ from hf)
    | succ n3 ih3 =>
      have B75 : ∀ (x3 : Int32) (x4 : Int32) (x5 : Int32) (wa_crossedEdges : Nat → Int32) (H : Heap) (locs : List Loc) (ls : Array Slot), lv_has ls 7 [(0, .ref (a_wa 0)), (1, .ref (a_g 0)), (2, .ref (a_f 0)), (3, .int x3), (4, .int x4), (5, .int x5)] → va_P D vwCl (wX6 cA a_wa wa_cost wa_crossedEdges wa_distance ++ (wX1 cA a_g g_nodes g_edges g_outer g_low g_high g_degree g_turns ++ (wX0 cA a_f f_number f_components f_genus f_next f_owner f_first f_length f_nodeSet f_near))) H → va_D A (wX6 cA a_wa wa_cost wa_crossedEdges wa_distance ++ (wX1 cA a_g g_nodes g_edges g_outer g_low g_high g_degree g_turns ++ (wX0 cA a_f f_number f_components f_genus f_next f_owner f_first f_length f_nodeSet f_near))) → va_S A s.heap H locs → f_X6_cross_b75 N f_owner g_edges wa_cost wa_distance (f_X6_cross_b3 N f_owner g_edges wa_cost wa_distance n3) x3 x4 x5 wa_crossedEdges = some ρ → W p l e ({ frames := 1, cells := 0, slots := 0, locals := 21 } : Room) s m ([.ref (a_wa 0), .ref (a_g 0), .ref (a_f 0), .int p3, .int p4] : List Value).toArray below meth c H locs 0 0 (MQ below (va_Qi (fun r (_ : Unit) => r = ρ.1) (fun _ t => va_P D vwCl (wX6 cA a_wa wa_cost ρ.2 wa_distance ++ (wX1 cA a_g g_nodes g_edges g_outer g_low g_high g_degree g_turns ++ (wX0 cA a_f f_number f_components f_genus f_next f_owner f_first f_length f_nodeSet f_near))) t.heap ∧ va_D A (wX6 cA a_wa wa_cost ρ.2 wa_distance ++ (wX1 cA a_g g_nodes g_edges g_outer g_low g_high g_degree g_turns ++ (wX0 cA a_f f_number f_components f_genus f_next f_owner f_first f_length f_nodeSet f_near)))) A) ([.ref (a_wa 0), .ref (a_g 0), .ref (a_f 0), .int p3, .int p4] : List Value).toArray s 0 0 A) (F0 m 75 ls []) := by
        intro x3 x4 x5 wa_crossedEdges H locs ls hl hP hD hS hf
        refine lv_iinc (v := (x5 + 1)) (lv' := [(5, .int (x5 + 1)), (0, .ref (a_wa 0)), (1, .ref (a_g 0)), (2, .ref (a_f 0)), (3, .int x3), (4, .int x4)]) hx hb dX6_cross_75 hl (k := 5) rfl rfl (by decide) rfl (fun ls hl => ?_)
        refine lv_goto (tgt := 3) hx hb dX6_cross_78 (by decide) ?_
        exact ih3 x3 x4 (x5 + 1) wa_crossedEdges _ _ _ (lv_sub hl [1, 2, 3, 4, 5, 0] rfl) hP hD hS hf
      intro x3 x4 x5 wa_crossedEdges H locs ls hl hP hD hS hf
      refine lv_iload hx hb dX6_cross_3 (lv_at hl 5 rfl) ?_
      refine lv_iconst (v := 2) hx hb dX6_cross_5 (by decide) ?_
      refine lv_aload_n hx hb dX6_cross_6 rfl (lv_at hl 1 rfl) ?_
      refine va_get (D := D) (ci := 1) (C := RX1) (T := TX1) (N := 7) hx hb hT kwX1 hown hK.1 hP 3 rfl rfl 1 (by decide) (hT _ kf_X6_46) (fun _ h9 => h9) rfl dX6_cross_7 ?_
      refine lv_imul hx hb dX6_cross_10 ?_
      refine lv_icmp_ge (tgt := 81) hx hb dX6_cross_11 (by decide) (fun c_1 => ?_) (fun c_1 => ?_)
      · have hf := ite_t c_1 hf
        refine lv_iload_n hx hb dX6_cross_81 rfl (lv_at hl 3 rfl) ?_
        have eR := some_i hf
        exact W.iret hx hb hr (fun t ht hW => ⟨⟨x3, (), rfl, fst_e eR, by rw [← eR, ht]; exact hP, by rw [← eR]; exact hD⟩, hS.F ht⟩) hS.2.2 dX6_cross_82 (hlocks := hlk)
      · have hf := ite_f c_1 hf
        refine lv_aload_n hx hb dX6_cross_14 rfl (lv_at hl 2 rfl) ?_
        refine va_get (D := D) (ci := 0) (C := RX0) (T := TX0) (N := 9) hx hb hT kwX0 hown hK.1 hP 8 rfl rfl 4 (by decide) (hT _ kf_X6_51) (fun _ h9 => h9) rfl dX6_cross_15 ?_
        refine lv_iload hx hb dX6_cross_18 (lv_at hl 5 rfl) ?_
        refine lv_iconst (v := 1) hx hb dX6_cross_20 (by decide) ?_
        refine lv_ixor hx hb dX6_cross_21 ?_
        obtain ⟨h_2, hf⟩ := chk_s hf
        refine va_iald hx hb hK.1 hP 10 0 rfl rfl (inb_in h_2) dX6_cross_22 ?_
        refine lv_topi (fun x6_3 ex6_3 => ?_)
        have hf := nm_t ex6_3 hf
        refine lv_istore (lv' := [(6, .int x6_3), (0, .ref (a_wa 0)), (1, .ref (a_g 0)), (2, .ref (a_f 0)), (3, .int x3), (4, .int x4), (5, .int x5)]) hx hb dX6_cross_23 hl (by decide) rfl (fun ls hl => ?_)
        refine lv_iload_n hx hb dX6_cross_25 rfl (lv_at hl 4 rfl) ?_
        refine lv_aload_n hx hb dX6_cross_26 rfl (lv_at hl 3 rfl) ?_
        refine va_get (D := D) (ci := 0) (C := RX0) (T := TX0) (N := 9) hx hb hT kwX0 hown hK.1 hP 8 rfl rfl 4 (by decide) (hT _ kf_X6_51) (fun _ h9 => h9) rfl dX6_cross_27 ?_
        refine lv_iload hx hb dX6_cross_30 (lv_at hl 6 rfl) ?_
        obtain ⟨h_4, hf⟩ := chk_s hf
        refine va_iald hx hb hK.1 hP 10 0 rfl rfl (inb_in h_4) dX6_cross_32 ?_
        obtain ⟨r_5, hcr_5, hf⟩ := bd1_s hf
        refine backI (runN0 C (c_X7_contains l D cA x3 (f_owner x5.toNatClampNeg) N r_5 hcr_5) cf_X7_contains kn_X6_58 ⟨rfl, rfl, by decide, by decide⟩ ⟨Nat.zero_le _, Nat.zero_le _⟩ (hP.sub [] rfl) hK hl.1 rfl rfl (Nat.le_of_ble_eq_true rfl) dX6_cross_33) ?_
        refine lv_if_eq (tgt := 75) hx hb dX6_cross_36 (by decide) (fun c_6 => ?_) (fun c_6 => ?_)
        · have hf := ite_t c_6 hf
          exact B75 x3 x4 x5 wa_crossedEdges _ _ _ (lv_sub hl [1, 2, 3, 4, 5, 6] rfl) hP hD hS hf
        · have hf := ite_f c_6 hf
          refine lv_aload_n hx hb dX6_cross_39 rfl (lv_at hl 1 rfl) ?_
          refine va_get (D := D) (ci := 6) (C := RX6) (T := TX6) (N := 3) hx hb hT kwX6 hown hK.1 hP 0 rfl rfl 2 (by decide) (hT _ kf_X6_15) (fun _ h9 => h9) rfl dX6_cross_40 ?_
          refine lv_iload hx hb dX6_cross_43 (lv_at hl 0 rfl) ?_
          obtain ⟨h_7, hf⟩ := chk_s hf
          refine va_iald hx hb hK.1 hP 2 0 rfl rfl (inb_in h_7) dX6_cross_45 ?_
          refine lv_aload_n hx hb dX6_cross_46 rfl (lv_at hl 1 rfl) ?_
          refine va_get (D := D) (ci := 6) (C := RX6) (T := TX6) (N := 3) hx hb hT kwX6 hown hK.1 hP 0 rfl rfl 0 (by decide) (hT _ kf_X6_18) (fun _ h9 => h9) rfl dX6_cross_47 ?_
          refine lv_iload hx hb dX6_cross_50 (lv_at hl 5 rfl) ?_
          refine lv_isub hx hb dX6_cross_52 ?_
          refine lv_iconst (v := 1) hx hb dX6_cross_53 (by decide) ?_
          refine lv_isub hx hb dX6_cross_54 ?_
          refine lv_icmp_ne (tgt := 75) hx hb dX6_cross_55 (by decide) (fun c_8 => ?_) (fun c_8 => ?_)
          · have hf := ite_t c_8 hf
            exact B75 x3 x4 x5 wa_crossedEdges _ _ _ (lv_sub hl [1, 2, 3, 4, 5, 6] rfl) hP hD hS hf
          · have hf := ite_fn c_8 hf
            exact B58 x4 x5 x6_3 wa_crossedEdges _ _ _ (lv_sub hl [1, 5, 6, 0] rfl) hP hD hS hf
  refine lv_iconst (v := 0) hx hb dX6_cross_0 (by decide) ?_
  refine lv_istore (lv' := [(5, .int 0), (0, .ref (a_wa 0)), (1, .ref (a_g 0)), (2, .ref (a_f 0)), (3, .int p3), (4, .int p4)]) hx hb dX6_cross_1 hl (by decide) rfl (fun ls hl => ?_)
  exact B3 N p3 p4 0 wa_crossedEdges _ _ _ (lv_sub hl [1, 2, 3, 4, 5, 0] rfl) hP hD hS hf
set_option maxRecDepth 100000 in
set_option maxHeartbeats 4000000 in
theorem c_X6_measure (l : Launch) (D : va_G) (cA : Nat → ClassId) (a_wa : Nat → Nat) (a_g : Nat → Nat) (a_f : Nat → Nat) (wa_cost : Int32) (wa_crossedEdges : Nat → Int32) (wa_distance : Nat → Int32) (g_nodes : Int32) (g_edges : Int32) (g_outer : Int32) (g_low : Nat → Int32) (g_high : Nat → Int32) (g_degree : Nat → Int32) (g_turns : Nat → Int32) (f_number : Int32) (f_components : Int32) (f_genus : Int32) (f_next : Nat → Int32) (f_owner : Nat → Int32) (f_first : Nat → Int32) (f_length : Nat → Int32) (f_nodeSet : Nat → Int32) (f_near : Nat → Int32) (p3 : Int32) (sz N : Nat) (ρ : (Nat → Int32)) (hf : f_X6_measure N f_number f_owner f_nodeSet g_edges wa_distance p3 = some ρ) : Met l yX6_measure (Cond.code yX6_measure cX6_measure 7 (Option.none : Option Jvm.ClassFile.FieldType) :: lw_g) ({ frames := 2, cells := 0, slots := 0, locals := 43 } : Room) (PcW D (tyA cA) (wX6 cA a_wa wa_cost wa_crossedEdges wa_distance ++ (wX1 cA a_g g_nodes g_edges g_outer g_low g_high g_degree g_turns ++ (wX0 cA a_f f_number f_components f_genus f_next f_owner f_first f_length f_nodeSet f_near))) sz [.ref (a_wa 0), .ref (a_g 0), .ref (a_f 0), .int p3]) (va_Qv (fun (_ : Unit) => True) (fun _ t => va_P D vwCl (wX6 cA a_wa wa_cost wa_crossedEdges ρ ++ (wX1 cA a_g g_nodes g_edges g_outer g_low g_high g_degree g_turns ++ (wX0 cA a_f f_number f_components f_genus f_next f_owner f_first f_length f_nodeSet f_near))) t.heap ∧ va_D (va_A (wX6 cA a_wa wa_cost wa_crossedEdges wa_distance ++ (wX1 cA a_g g_nodes g_edges g_outer g_low g_high g_degree g_turns ++ (wX0 cA a_f f_number f_components f_genus f_next f_owner f_first f_length f_nodeSet f_near))) sz) (wX6 cA a_wa wa_cost wa_crossedEdges ρ ++ (wX1 cA a_g g_nodes g_edges g_outer g_low g_high g_degree g_turns ++ (wX0 cA a_f f_number f_components f_genus f_next f_owner f_first f_length f_nodeSet f_near)))) (va_A (wX6 cA a_wa wa_cost wa_crossedEdges wa_distance ++ (wX1 cA a_g g_nodes g_edges g_outer g_low g_high g_degree g_turns ++ (wX0 cA a_f f_number f_components f_genus f_next f_owner f_first f_length f_nodeSet f_near))) sz)) 0 0 (va_A (wX6 cA a_wa wa_cost wa_crossedEdges wa_distance ++ (wX1 cA a_g g_nodes g_edges g_outer g_low g_high g_degree g_turns ++ (wX0 cA a_f f_number f_components f_genus f_next f_owner f_first f_length f_nodeSet f_near))) sz) := by
  refine mkW (QQ := fun A => va_Qv (fun (_ : Unit) => True) (fun _ t => va_P D vwCl (wX6 cA a_wa wa_cost wa_crossedEdges ρ ++ (wX1 cA a_g g_nodes g_edges g_outer g_low g_high g_degree g_turns ++ (wX0 cA a_f f_number f_components f_genus f_next f_owner f_first f_length f_nodeSet f_near))) t.heap ∧ va_D A (wX6 cA a_wa wa_cost wa_crossedEdges ρ ++ (wX1 cA a_g g_nodes g_edges g_outer g_low g_high g_degree g_turns ++ (wX0 cA a_f f_number f_components f_genus f_next f_owner f_first f_length f_nodeSet f_near)))) A) (by decide) (Nat.le_of_ble_eq_true rfl) fun p e s m below meth c ls A C hl hP hK hD hA hS => ?_
  obtain ⟨hx, hb, hml, hown, hT, hr, hlk⟩ := id C
  have hl : lv_has ls 7 [(0, .ref (a_wa 0)), (1, .ref (a_g 0)), (2, .ref (a_f 0)), (3, .int p3)] := hl
  have B43 : ∀ (n43 : Nat), ∀ (x4 : Int32) (wa_distance : Nat → Int32) (H : Heap) (locs : List Loc) (ls : Array Slot), lv_has ls 7 [(0, .ref (a_wa 0)), (1, .ref (a_g 0)), (2, .ref (a_f 0)), (4, .int x4)] → va_P D vwCl (wX6 cA a_wa wa_cost wa_crossedEdges wa_distance ++ (wX1 cA a_g g_nodes g_edges g_outer g_low g_high g_degree g_turns ++ (wX0 cA a_f f_number f_components f_genus f_next f_owner f_first f_length f_nodeSet f_near))) H → va_D A (wX6 cA a_wa wa_cost wa_crossedEdges wa_distance ++ (wX1 cA a_g g_nodes g_edges g_outer g_low g_high g_degree g_turns ++ (wX0 cA a_f f_number f_components f_genus f_next f_owner f_first f_length f_nodeSet f_near))) → va_S A s.heap H locs → f_X6_measure_b43 N f_number f_owner f_nodeSet g_edges n43 x4 wa_distance = some ρ → W p l e ({ frames := 2, cells := 0, slots := 0, locals := 43 } : Room) s m ([.ref (a_wa 0), .ref (a_g 0), .ref (a_f 0), .int p3] : List Value).toArray below meth c H locs 0 0 (MQ below (va_Qv (fun (_ : Unit) => True) (fun _ t => va_P D vwCl (wX6 cA a_wa wa_cost wa_crossedEdges ρ ++ (wX1 cA a_g g_nodes g_edges g_outer g_low g_high g_degree g_turns ++ (wX0 cA a_f f_number f_components f_genus f_next f_owner f_first f_length f_nodeSet f_near))) t.heap ∧ va_D A (wX6 cA a_wa wa_cost wa_crossedEdges ρ ++ (wX1 cA a_g g_nodes g_edges g_outer g_low g_high g_degree g_turns ++ (wX0 cA a_f f_number f_components f_genus f_next f_owner f_first f_length f_nodeSet f_near)))) A) ([.ref (a_wa 0), .ref (a_g 0), .ref (a_f 0), .int p3] : List Value).toArray s 0 0 A) (F0 m 43 ls []) := by
    intro n43
    induction n43 with
    | zero =>
      intro x4 wa_distance H locs ls hl hP hD hS hf
      cases (show (none : Option ((Nat → Int32))) = some ρ from hf)
    | succ n43 ih43 =>
      have B121 : ∀ (x4 : Int32) (wa_distance : Nat → Int32) (H : Heap) (locs : List Loc) (ls : Array Slot), lv_has ls 7 [(0, .ref (a_wa 0)), (1, .ref (a_g 0)), (2, .ref (a_f 0)), (4, .int x4)] → va_P D vwCl (wX6 cA a_wa wa_cost wa_crossedEdges wa_distance ++ (wX1 cA a_g g_nodes g_edges g_outer g_low g_high g_degree g_turns ++ (wX0 cA a_f f_number f_components f_genus f_next f_owner f_first f_length f_nodeSet f_near))) H → va_D A (wX6 cA a_wa wa_cost wa_crossedEdges wa_distance ++ (wX1 cA a_g g_nodes g_edges g_outer g_low g_high g_degree g_turns ++ (wX0 cA a_f f_number f_components f_genus f_next f_owner f_first f_length f_nodeSet f_near))) → va_S A s.heap H locs → f_X6_measure_b121 N f_number f_owner f_nodeSet g_edges (f_X6_measure_b43 N f_number f_owner f_nodeSet g_edges n43) x4 wa_distance = some ρ → W p l e ({ frames := 2, cells := 0, slots := 0, locals := 43 } : Room) s m ([.ref (a_wa 0), .ref (a_g 0), .ref (a_f 0), .int p3] : List Value).toArray below meth c H locs 0 0 (MQ below (va_Qv (fun (_ : Unit) => True) (fun _ t => va_P D vwCl (wX6 cA a_wa wa_cost wa_crossedEdges ρ ++ (wX1 cA a_g g_nodes g_edges g_outer g_low g_high g_degree g_turns ++ (wX0 cA a_f f_number f_components f_genus f_next f_owner f_first f_length f_nodeSet f_near))) t.heap ∧ va_D A (wX6 cA a_wa wa_cost wa_crossedEdges ρ ++ (wX1 cA a_g g_nodes g_edges g_outer g_low g_high g_degree g_turns ++ (wX0 cA a_f f_number f_components f_genus f_next f_owner f_first f_length f_nodeSet f_near)))) A) ([.ref (a_wa 0), .ref (a_g 0), .ref (a_f 0), .int p3] : List Value).toArray s 0 0 A) (F0 m 121 ls []) := by
        intro x4 wa_distance H locs ls hl hP hD hS hf
        refine lv_iinc (v := (x4 + 1)) (lv' := [(4, .int (x4 + 1)), (0, .ref (a_wa 0)), (1, .ref (a_g 0)), (2, .ref (a_f 0))]) hx hb dX6_measure_121 hl (k := 3) rfl rfl (by decide) rfl (fun ls hl => ?_)
        refine lv_goto (tgt := 43) hx hb dX6_measure_124 (by decide) ?_
        exact ih43 (x4 + 1) wa_distance _ _ _ (lv_sub hl [1, 2, 3, 0] rfl) hP hD hS hf
      have B55 : ∀ (n55 : Nat), ∀ (x4 : Int32) (x5 : Int32) (wa_distance : Nat → Int32) (H : Heap) (locs : List Loc) (ls : Array Slot), lv_has ls 7 [(0, .ref (a_wa 0)), (1, .ref (a_g 0)), (2, .ref (a_f 0)), (4, .int x4), (5, .int x5)] → va_P D vwCl (wX6 cA a_wa wa_cost wa_crossedEdges wa_distance ++ (wX1 cA a_g g_nodes g_edges g_outer g_low g_high g_degree g_turns ++ (wX0 cA a_f f_number f_components f_genus f_next f_owner f_first f_length f_nodeSet f_near))) H → va_D A (wX6 cA a_wa wa_cost wa_crossedEdges wa_distance ++ (wX1 cA a_g g_nodes g_edges g_outer g_low g_high g_degree g_turns ++ (wX0 cA a_f f_number f_components f_genus f_next f_owner f_first f_length f_nodeSet f_near))) → va_S A s.heap H locs → f_X6_measure_b55 N f_number f_owner f_nodeSet g_edges (f_X6_measure_b43 N f_number f_owner f_nodeSet g_edges n43) n55 x4 x5 wa_distance = some ρ → W p l e ({ frames := 2, cells := 0, slots := 0, locals := 43 } : Room) s m ([.ref (a_wa 0), .ref (a_g 0), .ref (a_f 0), .int p3] : List Value).toArray below meth c H locs 0 0 (MQ below (va_Qv (fun (_ : Unit) => True) (fun _ t => va_P D vwCl (wX6 cA a_wa wa_cost wa_crossedEdges ρ ++ (wX1 cA a_g g_nodes g_edges g_outer g_low g_high g_degree g_turns ++ (wX0 cA a_f f_number f_components f_genus f_next f_owner f_first f_length f_nodeSet f_near))) t.heap ∧ va_D A (wX6 cA a_wa wa_cost wa_crossedEdges ρ ++ (wX1 cA a_g g_nodes g_edges g_outer g_low g_high g_degree g_turns ++ (wX0 cA a_f f_number f_components f_genus f_next f_owner f_first f_length f_nodeSet f_near)))) A) ([.ref (a_wa 0), .ref (a_g 0), .ref (a_f 0), .int p3] : List Value).toArray s 0 0 A) (F0 m 55 ls []) := by
        intro n55
        induction n55 with
        | zero =>
          intro x4 x5 wa_distance H locs ls hl hP hD hS hf
          cases (show (none : Option ((Nat → Int32))) = some ρ from hf)
        | succ n55 ih55 =>
          have B115 : ∀ (x4 : Int32) (x5 : Int32) (wa_distance : Nat → Int32) (H : Heap) (locs : List Loc) (ls : Array Slot), lv_has ls 7 [(0, .ref (a_wa 0)), (1, .ref (a_g 0)), (2, .ref (a_f 0)), (4, .int x4), (5, .int x5)] → va_P D vwCl (wX6 cA a_wa wa_cost wa_crossedEdges wa_distance ++ (wX1 cA a_g g_nodes g_edges g_outer g_low g_high g_degree g_turns ++ (wX0 cA a_f f_number f_components f_genus f_next f_owner f_first f_length f_nodeSet f_near))) H → va_D A (wX6 cA a_wa wa_cost wa_crossedEdges wa_distance ++ (wX1 cA a_g g_nodes g_edges g_outer g_low g_high g_degree g_turns ++ (wX0 cA a_f f_number f_components f_genus f_next f_owner f_first f_length f_nodeSet f_near))) → va_S A s.heap H locs → f_X6_measure_b115 N f_number f_owner f_nodeSet g_edges (f_X6_measure_b43 N f_number f_owner f_nodeSet g_edges n43) (f_X6_measure_b55 N f_number f_owner f_nodeSet g_edges (f_X6_measure_b43 N f_number f_owner f_nodeSet g_edges n43) n55) x4 x5 wa_distance = some ρ → W p l e ({ frames := 2, cells := 0, slots := 0, locals := 43 } : Room) s m ([.ref (a_wa 0), .ref (a_g 0), .ref (a_f 0), .int p3] : List Value).toArray below meth c H locs 0 0 (MQ below (va_Qv (fun (_ : Unit) => True) (fun _ t => va_P D vwCl (wX6 cA a_wa wa_cost wa_crossedEdges ρ ++ (wX1 cA a_g g_nodes g_edges g_outer g_low g_high g_degree g_turns ++ (wX0 cA a_f f_number f_components f_genus f_next f_owner f_first f_length f_nodeSet f_near))) t.heap ∧ va_D A (wX6 cA a_wa wa_cost wa_crossedEdges ρ ++ (wX1 cA a_g g_nodes g_edges g_outer g_low g_high g_degree g_turns ++ (wX0 cA a_f f_number f_components f_genus f_next f_owner f_first f_length f_nodeSet f_near)))) A) ([.ref (a_wa 0), .ref (a_g 0), .ref (a_f 0), .int p3] : List Value).toArray s 0 0 A) (F0 m 115 ls []) := by
            intro x4 x5 wa_distance H locs ls hl hP hD hS hf
            refine lv_iinc (v := (x5 + 1)) (lv' := [(5, .int (x5 + 1)), (0, .ref (a_wa 0)), (1, .ref (a_g 0)), (2, .ref (a_f 0)), (4, .int x4)]) hx hb dX6_measure_115 hl (k := 4) rfl rfl (by decide) rfl (fun ls hl => ?_)
            refine lv_goto (tgt := 55) hx hb dX6_measure_118 (by decide) ?_
            exact ih55 x4 (x5 + 1) wa_distance _ _ _ (lv_sub hl [1, 2, 3, 4, 0] rfl) hP hD hS hf
          intro x4 x5 wa_distance H locs ls hl hP hD hS hf
          refine lv_iload hx hb dX6_measure_55 (lv_at hl 4 rfl) ?_
          refine lv_iconst (v := 2) hx hb dX6_measure_57 (by decide) ?_
          refine lv_aload_n hx hb dX6_measure_58 rfl (lv_at hl 1 rfl) ?_
          refine va_get (D := D) (ci := 1) (C := RX1) (T := TX1) (N := 7) hx hb hT kwX1 hown hK.1 hP 3 rfl rfl 1 (by decide) (hT _ kf_X6_46) (fun _ h9 => h9) rfl dX6_measure_59 ?_
          refine lv_imul hx hb dX6_measure_62 ?_
          refine lv_icmp_ge (tgt := 121) hx hb dX6_measure_63 (by decide) (fun c_6 => ?_) (fun c_6 => ?_)
          · have hf := ite_t c_6 hf
            exact B121 x4 wa_distance _ _ _ (lv_sub hl [0, 1, 2, 3] rfl) hP hD hS hf
          · have hf := ite_f c_6 hf
            refine lv_aload_n hx hb dX6_measure_66 rfl (lv_at hl 2 rfl) ?_
            refine va_get (D := D) (ci := 0) (C := RX0) (T := TX0) (N := 9) hx hb hT kwX0 hown hK.1 hP 8 rfl rfl 4 (by decide) (hT _ kf_X6_51) (fun _ h9 => h9) rfl dX6_measure_67 ?_
            refine lv_iload hx hb dX6_measure_70 (lv_at hl 4 rfl) ?_
            refine lv_iconst (v := 1) hx hb dX6_measure_72 (by decide) ?_
            refine lv_ixor hx hb dX6_measure_73 ?_
            obtain ⟨h_7, hf⟩ := chk_s hf
            refine va_iald hx hb hK.1 hP 10 0 rfl rfl (inb_in h_7) dX6_measure_74 ?_
            refine lv_topi (fun x6_8 ex6_8 => ?_)
            have hf := nm_t ex6_8 hf
            refine lv_istore (lv' := [(6, .int x6_8), (0, .ref (a_wa 0)), (1, .ref (a_g 0)), (2, .ref (a_f 0)), (4, .int x4), (5, .int x5)]) hx hb dX6_measure_75 hl (by decide) rfl (fun ls hl => ?_)
            refine lv_aload_n hx hb dX6_measure_77 rfl (lv_at hl 1 rfl) ?_
            refine va_get (D := D) (ci := 6) (C := RX6) (T := TX6) (N := 3) hx hb hT kwX6 hown hK.1 hP 0 rfl rfl 2 (by decide) (hT _ kf_X6_15) (fun _ h9 => h9) rfl dX6_measure_78 ?_
            refine lv_aload_n hx hb dX6_measure_81 rfl (lv_at hl 3 rfl) ?_
            refine va_get (D := D) (ci := 0) (C := RX0) (T := TX0) (N := 9) hx hb hT kwX0 hown hK.1 hP 8 rfl rfl 4 (by decide) (hT _ kf_X6_51) (fun _ h9 => h9) rfl dX6_measure_82 ?_
            refine lv_iload hx hb dX6_measure_85 (lv_at hl 5 rfl) ?_
            obtain ⟨h_9, hf⟩ := chk_s hf
            refine va_iald hx hb hK.1 hP 10 0 rfl rfl (inb_in h_9) dX6_measure_87 ?_
            obtain ⟨h_10, hf⟩ := chk_s hf
            refine va_iald hx hb hK.1 hP 2 0 rfl rfl (inb_in h_10) dX6_measure_88 ?_
            refine lv_iload hx hb dX6_measure_89 (lv_at hl 4 rfl) ?_
            refine lv_icmp_ne (tgt := 115) hx hb dX6_measure_91 (by decide) (fun c_11 => ?_) (fun c_11 => ?_)
            · have hf := ite_t c_11 hf
              exact B115 x4 x5 wa_distance _ _ _ (lv_sub hl [1, 2, 3, 4, 5] rfl) hP hD hS hf
            · have hf := ite_fn c_11 hf
              refine lv_aload_n hx hb dX6_measure_94 rfl (lv_at hl 1 rfl) ?_
              refine va_get (D := D) (ci := 6) (C := RX6) (T := TX6) (N := 3) hx hb hT kwX6 hown hK.1 hP 0 rfl rfl 2 (by decide) (hT _ kf_X6_15) (fun _ h9 => h9) rfl dX6_measure_95 ?_
              refine lv_iload hx hb dX6_measure_98 (lv_at hl 0 rfl) ?_
              obtain ⟨h_12, hf⟩ := chk_s hf
              refine va_iald hx hb hK.1 hP 2 0 rfl rfl (inb_in h_12) dX6_measure_100 ?_
              refine lv_if_ge (tgt := 115) hx hb dX6_measure_101 (by decide) (fun c_13 => ?_) (fun c_13 => ?_)
              · have hf := ite_t c_13 hf
                exact B115 x4 x5 wa_distance _ _ _ (lv_sub hl [1, 2, 3, 4, 5] rfl) hP hD hS hf
              · have hf := ite_f c_13 hf
                refine lv_aload_n hx hb dX6_measure_104 rfl (lv_at hl 1 rfl) ?_
                refine va_get (D := D) (ci := 6) (C := RX6) (T := TX6) (N := 3) hx hb hT kwX6 hown hK.1 hP 0 rfl rfl 2 (by decide) (hT _ kf_X6_15) (fun _ h9 => h9) rfl dX6_measure_105 ?_
                refine lv_iload hx hb dX6_measure_108 (lv_at hl 0 rfl) ?_
                refine lv_iload hx hb dX6_measure_110 (lv_at hl 4 rfl) ?_
                refine lv_iconst (v := 1) hx hb dX6_measure_112 (by decide) ?_
                refine lv_iadd hx hb dX6_measure_113 ?_
                obtain ⟨h_14, hf⟩ := chk_s hf
                refine va_iast hx hb hK.1 hP hD hS 2 0 rfl rfl (inb_in h_14) dX6_measure_114 (fun H locs hP hD hS => ?_)
                have hP : va_P D vwCl (wX6 cA a_wa wa_cost wa_crossedEdges (upd wa_distance x6_8.toNatClampNeg (x4 + 1)) ++ (wX1 cA a_g g_nodes g_edges g_outer g_low g_high g_degree g_turns ++ (wX0 cA a_f f_number f_components f_genus f_next f_owner f_first f_length f_nodeSet f_near))) H := hP
                have hD : va_D A (wX6 cA a_wa wa_cost wa_crossedEdges (upd wa_distance x6_8.toNatClampNeg (x4 + 1)) ++ (wX1 cA a_g g_nodes g_edges g_outer g_low g_high g_degree g_turns ++ (wX0 cA a_f f_number f_components f_genus f_next f_owner f_first f_length f_nodeSet f_near))) := hD
                exact B115 x4 x5 (upd wa_distance x6_8.toNatClampNeg (x4 + 1)) _ _ _ (lv_sub hl [1, 2, 3, 4, 5] rfl) hP hD hS hf
      intro x4 wa_distance H locs ls hl hP hD hS hf
      refine lv_iload hx hb dX6_measure_43 (lv_at hl 3 rfl) ?_
      refine lv_aload_n hx hb dX6_measure_45 rfl (lv_at hl 2 rfl) ?_
      refine va_get (D := D) (ci := 0) (C := RX0) (T := TX0) (N := 9) hx hb hT kwX0 hown hK.1 hP 8 rfl rfl 0 (by decide) (hT _ kf_X6_40) (fun _ h9 => h9) rfl dX6_measure_46 ?_
      refine lv_icmp_ge (tgt := 127) hx hb dX6_measure_49 (by decide) (fun c_5 => ?_) (fun c_5 => ?_)
      · have hf := ite_t c_5 hf
        have eR := some_i hf
        exact W.vret hx hb hr (fun t ht hW => ⟨⟨(), rfl, trivial, by rw [← eR, ht]; exact hP, by rw [← eR]; exact hD⟩, hS.F ht⟩) hS.2.2 dX6_measure_127 (hlocks := hlk)
      · have hf := ite_f c_5 hf
        refine lv_iconst (v := 0) hx hb dX6_measure_52 (by decide) ?_
        refine lv_istore (lv' := [(5, .int 0), (0, .ref (a_wa 0)), (1, .ref (a_g 0)), (2, .ref (a_f 0)), (4, .int x4)]) hx hb dX6_measure_53 hl (by decide) rfl (fun ls hl => ?_)
        exact B55 N x4 0 wa_distance _ _ _ (lv_sub hl [1, 2, 3, 4, 0] rfl) hP hD hS hf
  have B40 : ∀ (wa_distance : Nat → Int32) (H : Heap) (locs : List Loc) (ls : Array Slot), lv_has ls 7 [(0, .ref (a_wa 0)), (1, .ref (a_g 0)), (2, .ref (a_f 0))] → va_P D vwCl (wX6 cA a_wa wa_cost wa_crossedEdges wa_distance ++ (wX1 cA a_g g_nodes g_edges g_outer g_low g_high g_degree g_turns ++ (wX0 cA a_f f_number f_components f_genus f_next f_owner f_first f_length f_nodeSet f_near))) H → va_D A (wX6 cA a_wa wa_cost wa_crossedEdges wa_distance ++ (wX1 cA a_g g_nodes g_edges g_outer g_low g_high g_degree g_turns ++ (wX0 cA a_f f_number f_components f_genus f_next f_owner f_first f_length f_nodeSet f_near))) → va_S A s.heap H locs → f_X6_measure_b40 N f_number f_owner f_nodeSet g_edges wa_distance = some ρ → W p l e ({ frames := 2, cells := 0, slots := 0, locals := 43 } : Room) s m ([.ref (a_wa 0), .ref (a_g 0), .ref (a_f 0), .int p3] : List Value).toArray below meth c H locs 0 0 (MQ below (va_Qv (fun (_ : Unit) => True) (fun _ t => va_P D vwCl (wX6 cA a_wa wa_cost wa_crossedEdges ρ ++ (wX1 cA a_g g_nodes g_edges g_outer g_low g_high g_degree g_turns ++ (wX0 cA a_f f_number f_components f_genus f_next f_owner f_first f_length f_nodeSet f_near))) t.heap ∧ va_D A (wX6 cA a_wa wa_cost wa_crossedEdges ρ ++ (wX1 cA a_g g_nodes g_edges g_outer g_low g_high g_degree g_turns ++ (wX0 cA a_f f_number f_components f_genus f_next f_owner f_first f_length f_nodeSet f_near)))) A) ([.ref (a_wa 0), .ref (a_g 0), .ref (a_f 0), .int p3] : List Value).toArray s 0 0 A) (F0 m 40 ls []) := by
    intro wa_distance H locs ls hl hP hD hS hf
    refine lv_iconst (v := 0) hx hb dX6_measure_40 (by decide) ?_
    refine lv_istore (lv' := [(4, .int 0), (0, .ref (a_wa 0)), (1, .ref (a_g 0)), (2, .ref (a_f 0))]) hx hb dX6_measure_41 hl (by decide) rfl (fun ls hl => ?_)
    exact B43 N 0 wa_distance _ _ _ (lv_sub hl [1, 2, 3, 0] rfl) hP hD hS hf
  have B3 : ∀ (n3 : Nat), ∀ (x3 : Int32) (x4 : Int32) (wa_distance : Nat → Int32) (H : Heap) (locs : List Loc) (ls : Array Slot), lv_has ls 7 [(0, .ref (a_wa 0)), (1, .ref (a_g 0)), (2, .ref (a_f 0)), (3, .int x3), (4, .int x4)] → va_P D vwCl (wX6 cA a_wa wa_cost wa_crossedEdges wa_distance ++ (wX1 cA a_g g_nodes g_edges g_outer g_low g_high g_degree g_turns ++ (wX0 cA a_f f_number f_components f_genus f_next f_owner f_first f_length f_nodeSet f_near))) H → va_D A (wX6 cA a_wa wa_cost wa_crossedEdges wa_distance ++ (wX1 cA a_g g_nodes g_edges g_outer g_low g_high g_degree g_turns ++ (wX0 cA a_f f_number f_components f_genus f_next f_owner f_first f_length f_nodeSet f_near))) → va_S A s.heap H locs → f_X6_measure_b3 N f_number f_owner f_nodeSet g_edges n3 x3 x4 wa_distance = some ρ → W p l e ({ frames := 2, cells := 0, slots := 0, locals := 43 } : Room) s m ([.ref (a_wa 0), .ref (a_g 0), .ref (a_f 0), .int p3] : List Value).toArray below meth c H locs 0 0 (MQ below (va_Qv (fun (_ : Unit) => True) (fun _ t => va_P D vwCl (wX6 cA a_wa wa_cost wa_crossedEdges ρ ++ (wX1 cA a_g g_nodes g_edges g_outer g_low g_high g_degree g_turns ++ (wX0 cA a_f f_number f_components f_genus f_next f_owner f_first f_length f_nodeSet f_near))) t.heap ∧ va_D A (wX6 cA a_wa wa_cost wa_crossedEdges ρ ++ (wX1 cA a_g g_nodes g_edges g_outer g_low g_high g_degree g_turns ++ (wX0 cA a_f f_number f_components f_genus f_next f_owner f_first f_length f_nodeSet f_near)))) A) ([.ref (a_wa 0), .ref (a_g 0), .ref (a_f 0), .int p3] : List Value).toArray s 0 0 A) (F0 m 3 ls []) := by
    intro n3
    induction n3 with
    | zero =>
      intro x3 x4 wa_distance H locs ls hl hP hD hS hf
      cases (show (none : Option ((Nat → Int32))) = some ρ from hf)
    | succ n3 ih3 =>
      have B33 : ∀ (x3 : Int32) (x4 : Int32) (y1 : Int32) (y2 : Int32) (wa_distance : Nat → Int32) (H : Heap) (locs : List Loc) (ls : Array Slot), lv_has ls 7 [(0, .ref (a_wa 0)), (1, .ref (a_g 0)), (2, .ref (a_f 0)), (3, .int x3), (4, .int x4)] → va_P D vwCl (wX6 cA a_wa wa_cost wa_crossedEdges wa_distance ++ (wX1 cA a_g g_nodes g_edges g_outer g_low g_high g_degree g_turns ++ (wX0 cA a_f f_number f_components f_genus f_next f_owner f_first f_length f_nodeSet f_near))) H → va_D A (wX6 cA a_wa wa_cost wa_crossedEdges wa_distance ++ (wX1 cA a_g g_nodes g_edges g_outer g_low g_high g_degree g_turns ++ (wX0 cA a_f f_number f_components f_genus f_next f_owner f_first f_length f_nodeSet f_near))) → va_S A s.heap H locs → f_X6_measure_b33 N f_number f_owner f_nodeSet g_edges (f_X6_measure_b3 N f_number f_owner f_nodeSet g_edges n3) x3 x4 y1 y2 wa_distance = some ρ → W p l e ({ frames := 2, cells := 0, slots := 0, locals := 43 } : Room) s m ([.ref (a_wa 0), .ref (a_g 0), .ref (a_f 0), .int p3] : List Value).toArray below meth c H locs 0 0 (MQ below (va_Qv (fun (_ : Unit) => True) (fun _ t => va_P D vwCl (wX6 cA a_wa wa_cost wa_crossedEdges ρ ++ (wX1 cA a_g g_nodes g_edges g_outer g_low g_high g_degree g_turns ++ (wX0 cA a_f f_number f_components f_genus f_next f_owner f_first f_length f_nodeSet f_near))) t.heap ∧ va_D A (wX6 cA a_wa wa_cost wa_crossedEdges ρ ++ (wX1 cA a_g g_nodes g_edges g_outer g_low g_high g_degree g_turns ++ (wX0 cA a_f f_number f_components f_genus f_next f_owner f_first f_length f_nodeSet f_near)))) A) ([.ref (a_wa 0), .ref (a_g 0), .ref (a_f 0), .int p3] : List Value).toArray s 0 0 A) (F0 m 33 ls [.int y2, .int y1, .ref (a_wa 2)]) := by
        intro x3 x4 y1 y2 wa_distance H locs ls hl hP hD hS hf
        obtain ⟨h_4, hf⟩ := chk_s hf
        refine va_iast hx hb hK.1 hP hD hS 2 0 rfl rfl (inb_in h_4) dX6_measure_33 (fun H locs hP hD hS => ?_)
        have hP : va_P D vwCl (wX6 cA a_wa wa_cost wa_crossedEdges (upd wa_distance y1.toNatClampNeg y2) ++ (wX1 cA a_g g_nodes g_edges g_outer g_low g_high g_degree g_turns ++ (wX0 cA a_f f_number f_components f_genus f_next f_owner f_first f_length f_nodeSet f_near))) H := hP
        have hD : va_D A (wX6 cA a_wa wa_cost wa_crossedEdges (upd wa_distance y1.toNatClampNeg y2) ++ (wX1 cA a_g g_nodes g_edges g_outer g_low g_high g_degree g_turns ++ (wX0 cA a_f f_number f_components f_genus f_next f_owner f_first f_length f_nodeSet f_near))) := hD
        refine lv_iinc (v := (x4 + 1)) (lv' := [(4, .int (x4 + 1)), (0, .ref (a_wa 0)), (1, .ref (a_g 0)), (2, .ref (a_f 0)), (3, .int x3)]) hx hb dX6_measure_34 hl (k := 4) rfl rfl (by decide) rfl (fun ls hl => ?_)
        refine lv_goto (tgt := 3) hx hb dX6_measure_37 (by decide) ?_
        exact ih3 x3 (x4 + 1) (upd wa_distance y1.toNatClampNeg y2) _ _ _ (lv_sub hl [1, 2, 3, 4, 0] rfl) hP hD hS hf
      intro x3 x4 wa_distance H locs ls hl hP hD hS hf
      refine lv_iload hx hb dX6_measure_3 (lv_at hl 4 rfl) ?_
      refine lv_aload_n hx hb dX6_measure_5 rfl (lv_at hl 2 rfl) ?_
      refine va_get (D := D) (ci := 0) (C := RX0) (T := TX0) (N := 9) hx hb hT kwX0 hown hK.1 hP 8 rfl rfl 0 (by decide) (hT _ kf_X6_40) (fun _ h9 => h9) rfl dX6_measure_6 ?_
      refine lv_icmp_ge (tgt := 40) hx hb dX6_measure_9 (by decide) (fun c_1 => ?_) (fun c_1 => ?_)
      · have hf := ite_t c_1 hf
        exact B40 wa_distance _ _ _ (lv_sub hl [0, 1, 2] rfl) hP hD hS hf
      · have hf := ite_f c_1 hf
        refine lv_aload_n hx hb dX6_measure_12 rfl (lv_at hl 0 rfl) ?_
        refine va_get (D := D) (ci := 6) (C := RX6) (T := TX6) (N := 3) hx hb hT kwX6 hown hK.1 hP 0 rfl rfl 2 (by decide) (hT _ kf_X6_15) (fun _ h9 => h9) rfl dX6_measure_13 ?_
        refine lv_iload hx hb dX6_measure_16 (lv_at hl 4 rfl) ?_
        refine lv_aload_n hx hb dX6_measure_18 rfl (lv_at hl 2 rfl) ?_
        refine lv_iload hx hb dX6_measure_19 (lv_at hl 4 rfl) ?_
        refine lv_iload_n hx hb dX6_measure_21 rfl (lv_at hl 3 rfl) ?_
        obtain ⟨r_2, hcr_2, hf⟩ := bd1_s hf
        refine backI (runV0 C (c_X0_holds l D cA a_f f_number f_components f_genus f_next f_owner f_first f_length f_nodeSet f_near x4 x3 N r_2 hcr_2) cf_X0_holds km_X6_43 ⟨rfl, rfl, by decide, by decide⟩ ⟨Nat.zero_le _, Nat.zero_le _⟩ (va_recv hK.1 hP (ci := 0) (q0 := 8) rfl rfl) (hP.sub [8, 9, 10, 11, 12, 13, 14] rfl) hK hl.1 rfl rfl (Nat.le_of_ble_eq_true rfl) dX6_measure_22) ?_
        refine lv_if_eq (tgt := 32) hx hb dX6_measure_25 (by decide) (fun c_3 => ?_) (fun c_3 => ?_)
        · have hf := ite_t c_3 hf
          refine lv_iconst (v := (-1)) hx hb dX6_measure_32 (by decide) ?_
          exact B33 x3 x4 x4 (-1) wa_distance _ _ _ (lv_sub hl [0, 1, 2, 3, 4] rfl) hP hD hS hf
        · have hf := ite_f c_3 hf
          refine lv_iconst (v := 0) hx hb dX6_measure_28 (by decide) ?_
          refine lv_goto (tgt := 33) hx hb dX6_measure_29 (by decide) ?_
          exact B33 x3 x4 x4 0 wa_distance _ _ _ (lv_sub hl [0, 1, 2, 3, 4] rfl) hP hD hS hf
  refine lv_iconst (v := 0) hx hb dX6_measure_0 (by decide) ?_
  refine lv_istore (lv' := [(4, .int 0), (0, .ref (a_wa 0)), (1, .ref (a_g 0)), (2, .ref (a_f 0)), (3, .int p3)]) hx hb dX6_measure_1 hl (by decide) rfl (fun ls hl => ?_)
  exact B3 N p3 0 wa_distance _ _ _ (lv_sub hl [1, 2, 3, 4, 0] rfl) hP hD hS hf
