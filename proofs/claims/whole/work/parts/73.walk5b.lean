set_option maxRecDepth 100000 in
set_option maxHeartbeats 4000000 in
theorem c_X6_find (l : Launch) (D : va_G) (cA : Nat → ClassId) (a_wa : Nat → Nat) (a_g : Nat → Nat) (a_f : Nat → Nat) (wa_cost : Int32) (wa_crossedEdges : Nat → Int32) (wa_distance : Nat → Int32) (g_nodes : Int32) (g_edges : Int32) (g_outer : Int32) (g_low : Nat → Int32) (g_high : Nat → Int32) (g_degree : Nat → Int32) (g_turns : Nat → Int32) (f_number : Int32) (f_components : Int32) (f_genus : Int32) (f_next : Nat → Int32) (f_owner : Nat → Int32) (f_first : Nat → Int32) (f_length : Nat → Int32) (f_nodeSet : Nat → Int32) (f_near : Nat → Int32) (p3 : Int32) (p4 : Int32) (sz N : Nat) (ρ : Int32 × (Nat → Int32) × (Nat → Int32)) (hf : f_X6_find N f_number f_owner f_nodeSet f_near g_edges wa_cost wa_crossedEdges wa_distance p3 p4 = some ρ) : Met l yX6_find (Cond.code yX6_find cX6_find 7 (Option.none : Option Jvm.ClassFile.FieldType) :: lw_g) ({ frames := 4, cells := 0, slots := 0, locals := 91 } : Room) (PcW D (tyA cA) (wX6 cA a_wa wa_cost wa_crossedEdges wa_distance ++ (wX1 cA a_g g_nodes g_edges g_outer g_low g_high g_degree g_turns ++ (wX0 cA a_f f_number f_components f_genus f_next f_owner f_first f_length f_nodeSet f_near))) sz [.ref (a_wa 0), .ref (a_g 0), .ref (a_f 0), .int p3, .int p4]) (va_Qv (fun (_ : Unit) => True) (fun _ t => va_P D vwCl (wX6 cA a_wa ρ.1 ρ.2.1 ρ.2.2 ++ (wX1 cA a_g g_nodes g_edges g_outer g_low g_high g_degree g_turns ++ (wX0 cA a_f f_number f_components f_genus f_next f_owner f_first f_length f_nodeSet f_near))) t.heap ∧ va_D (va_A (wX6 cA a_wa wa_cost wa_crossedEdges wa_distance ++ (wX1 cA a_g g_nodes g_edges g_outer g_low g_high g_degree g_turns ++ (wX0 cA a_f f_number f_components f_genus f_next f_owner f_first f_length f_nodeSet f_near))) sz) (wX6 cA a_wa ρ.1 ρ.2.1 ρ.2.2 ++ (wX1 cA a_g g_nodes g_edges g_outer g_low g_high g_degree g_turns ++ (wX0 cA a_f f_number f_components f_genus f_next f_owner f_first f_length f_nodeSet f_near)))) (va_A (wX6 cA a_wa wa_cost wa_crossedEdges wa_distance ++ (wX1 cA a_g g_nodes g_edges g_outer g_low g_high g_degree g_turns ++ (wX0 cA a_f f_number f_components f_genus f_next f_owner f_first f_length f_nodeSet f_near))) sz)) 0 0 (va_A (wX6 cA a_wa wa_cost wa_crossedEdges wa_distance ++ (wX1 cA a_g g_nodes g_edges g_outer g_low g_high g_degree g_turns ++ (wX0 cA a_f f_number f_components f_genus f_next f_owner f_first f_length f_nodeSet f_near))) sz) := by
  refine mkW (QQ := fun A => va_Qv (fun (_ : Unit) => True) (fun _ t => va_P D vwCl (wX6 cA a_wa ρ.1 ρ.2.1 ρ.2.2 ++ (wX1 cA a_g g_nodes g_edges g_outer g_low g_high g_degree g_turns ++ (wX0 cA a_f f_number f_components f_genus f_next f_owner f_first f_length f_nodeSet f_near))) t.heap ∧ va_D A (wX6 cA a_wa ρ.1 ρ.2.1 ρ.2.2 ++ (wX1 cA a_g g_nodes g_edges g_outer g_low g_high g_degree g_turns ++ (wX0 cA a_f f_number f_components f_genus f_next f_owner f_first f_length f_nodeSet f_near)))) A) (by decide) (Nat.le_of_ble_eq_true rfl) fun p e s m below meth c ls A C hl hP hK hD hA hS => ?_
  obtain ⟨hx, hb, hml, hown, hT, hr, hlk⟩ := id C
  have hl : lv_has ls 7 [(0, .ref (a_wa 0)), (1, .ref (a_g 0)), (2, .ref (a_f 0)), (3, .int p3), (4, .int p4)] := hl
  have B35 : ∀ (n35 : Nat), ∀ (x5 : Int32) (x6 : Int32) (wa_cost : Int32) (wa_crossedEdges : Nat → Int32) (wa_distance : Nat → Int32) (H : Heap) (locs : List Loc) (ls : Array Slot), lv_has ls 7 [(0, .ref (a_wa 0)), (1, .ref (a_g 0)), (2, .ref (a_f 0)), (5, .int x5), (6, .int x6)] → va_P D vwCl (wX6 cA a_wa wa_cost wa_crossedEdges wa_distance ++ (wX1 cA a_g g_nodes g_edges g_outer g_low g_high g_degree g_turns ++ (wX0 cA a_f f_number f_components f_genus f_next f_owner f_first f_length f_nodeSet f_near))) H → va_D A (wX6 cA a_wa wa_cost wa_crossedEdges wa_distance ++ (wX1 cA a_g g_nodes g_edges g_outer g_low g_high g_degree g_turns ++ (wX0 cA a_f f_number f_components f_genus f_next f_owner f_first f_length f_nodeSet f_near))) → va_S A s.heap H locs → f_X6_find_b35 N f_number f_owner f_nodeSet f_near g_edges n35 x5 x6 wa_cost wa_crossedEdges wa_distance = some ρ → W p l e ({ frames := 4, cells := 0, slots := 0, locals := 91 } : Room) s m ([.ref (a_wa 0), .ref (a_g 0), .ref (a_f 0), .int p3, .int p4] : List Value).toArray below meth c H locs 0 0 (MQ below (va_Qv (fun (_ : Unit) => True) (fun _ t => va_P D vwCl (wX6 cA a_wa ρ.1 ρ.2.1 ρ.2.2 ++ (wX1 cA a_g g_nodes g_edges g_outer g_low g_high g_degree g_turns ++ (wX0 cA a_f f_number f_components f_genus f_next f_owner f_first f_length f_nodeSet f_near))) t.heap ∧ va_D A (wX6 cA a_wa ρ.1 ρ.2.1 ρ.2.2 ++ (wX1 cA a_g g_nodes g_edges g_outer g_low g_high g_degree g_turns ++ (wX0 cA a_f f_number f_components f_genus f_next f_owner f_first f_length f_nodeSet f_near)))) A) ([.ref (a_wa 0), .ref (a_g 0), .ref (a_f 0), .int p3, .int p4] : List Value).toArray s 0 0 A) (F0 m 35 ls []) := by
    intro n35
    induction n35 with
    | zero =>
      intro x5 x6 wa_cost wa_crossedEdges wa_distance H locs ls hl hP hD hS hf
      cases (show (none : Option (Int32 × (Nat → Int32) × (Nat → Int32))) = some ρ from hf)
    | succ n35 ih35 =>
      intro x5 x6 wa_cost wa_crossedEdges wa_distance H locs ls hl hP hD hS hf
      refine lv_iload hx hb dX6_find_35 (lv_at hl 4 rfl) ?_
      refine lv_aload_n hx hb dX6_find_37 rfl (lv_at hl 0 rfl) ?_
      refine va_get (D := D) (ci := 6) (C := RX6) (T := TX6) (N := 3) hx hb hT kwX6 hown hK.1 hP 0 rfl rfl 0 (by decide) (hT _ kf_X6_18) (fun _ h9 => h9) rfl dX6_find_38 ?_
      refine lv_icmp_ge (tgt := 62) hx hb dX6_find_41 (by decide) (fun c_6 => ?_) (fun c_6 => ?_)
      · have hf := ite_t c_6 hf
        have eR := some_i hf
        exact W.vret hx hb hr (fun t ht hW => ⟨⟨(), rfl, trivial, by rw [← eR, ht]; exact hP, by rw [← eR]; exact hD⟩, hS.F ht⟩) hS.2.2 dX6_find_62 (hlocks := hlk)
      · have hf := ite_f c_6 hf
        refine lv_aload_n hx hb dX6_find_44 rfl (lv_at hl 0 rfl) ?_
        refine lv_aload_n hx hb dX6_find_45 rfl (lv_at hl 1 rfl) ?_
        refine lv_aload_n hx hb dX6_find_46 rfl (lv_at hl 2 rfl) ?_
        refine lv_iload hx hb dX6_find_47 (lv_at hl 3 rfl) ?_
        refine lv_iload hx hb dX6_find_49 (lv_at hl 4 rfl) ?_
        obtain ⟨r_7, hcr_7, hf⟩ := bd1_s hf
        refine backWi (w2 := (wX6 cA a_wa wa_cost r_7.2 wa_distance ++ (wX1 cA a_g g_nodes g_edges g_outer g_low g_high g_degree g_turns ++ (wX0 cA a_f f_number f_components f_genus f_next f_owner f_first f_length f_nodeSet f_near)))) (runVw C (c_X6_cross l D cA a_wa a_g a_f wa_cost wa_crossedEdges wa_distance g_nodes g_edges g_outer g_low g_high g_degree g_turns f_number f_components f_genus f_next f_owner f_first f_length f_nodeSet f_near x5 x6 _ N r_7 hcr_7) cf_X6_cross km_X6_36 ⟨rfl, rfl, by decide, by decide⟩ ⟨Nat.zero_le _, Nat.zero_le _⟩ (va_recv hK.1 hP (ci := 6) (q0 := 0) rfl rfl) (hP.sub [0, 1, 2, 3, 4, 5, 6, 7, 8, 9, 10, 11, 12, 13, 14] rfl) (hD.sub [0, 1, 2, 3, 4, 5, 6, 7, 8, 9, 10, 11, 12, 13, 14] rfl rfl) hK hl.1 rfl rfl (Nat.le_of_ble_eq_true rfl) dX6_find_51) hP hD hS hA [0, 1, 2, 3, 4, 5, 6, 7, 8, 9, 10, 11, 12, 13, 14] rfl [] rfl rfl (by decide) [0, 1, 2, 3, 4, 5, 6, 7, 8, 9, 10, 11, 12, 13, 14] rfl rfl (fun H locs hP hD hS => ?_)
        refine lv_topi (fun x5_8 ex5_8 => ?_)
        have hf := nm_t ex5_8 hf
        refine lv_istore (lv' := [(5, .int x5_8), (0, .ref (a_wa 0)), (1, .ref (a_g 0)), (2, .ref (a_f 0)), (6, .int x6)]) hx hb dX6_find_54 hl (by decide) rfl (fun ls hl => ?_)
        refine lv_iinc (v := (x6 + 1)) (lv' := [(6, .int (x6 + 1)), (5, .int x5_8), (0, .ref (a_wa 0)), (1, .ref (a_g 0)), (2, .ref (a_f 0))]) hx hb dX6_find_56 hl (k := 4) rfl rfl (by decide) rfl (fun ls hl => ?_)
        refine lv_goto (tgt := 35) hx hb dX6_find_59 (by decide) ?_
        exact ih35 x5_8 (x6 + 1) wa_cost r_7.2 wa_distance _ _ _ (lv_sub hl [2, 3, 4, 1, 0] rfl) hP hD hS hf
  refine lv_aload_n hx hb dX6_find_0 rfl (lv_at hl 0 rfl) ?_
  refine lv_iconst (v := 0) hx hb dX6_find_1 (by decide) ?_
  refine va_put (D := D) (ci := 6) (v := .int 0) (ty := .int) (C := RX6) (T := TX6) (N := 3) hx hb hT kwX6 tyX6 tyX6_ok nmX6 hown hK.1 hP hD hS 0 rfl rfl 0 (by decide) (hT _ kf_X6_18) (fun _ h9 => h9) rfl (by decide +kernel) rfl rfl (Nat.le_of_ble_eq_true rfl) dX6_find_2 (fun H locs hP hD hS => ?_)
  have hP : va_P D vwCl (wX6 cA a_wa 0 wa_crossedEdges wa_distance ++ (wX1 cA a_g g_nodes g_edges g_outer g_low g_high g_degree g_turns ++ (wX0 cA a_f f_number f_components f_genus f_next f_owner f_first f_length f_nodeSet f_near))) H := hP
  have hD : va_D A (wX6 cA a_wa 0 wa_crossedEdges wa_distance ++ (wX1 cA a_g g_nodes g_edges g_outer g_low g_high g_degree g_turns ++ (wX0 cA a_f f_number f_components f_genus f_next f_owner f_first f_length f_nodeSet f_near))) := hD
  refine lv_aload_n hx hb dX6_find_5 rfl (lv_at hl 2 rfl) ?_
  refine lv_iload_n hx hb dX6_find_6 rfl (lv_at hl 3 rfl) ?_
  refine lv_iload hx hb dX6_find_7 (lv_at hl 4 rfl) ?_
  obtain ⟨r_1, hcr_1, hf⟩ := bd1_s hf
  refine backI (runV0 C (c_X0_areConnected l D cA a_f f_number f_components f_genus f_next f_owner f_first f_length f_nodeSet f_near p3 p4 N r_1 hcr_1) cf_X0_areConnected km_X6_22 ⟨rfl, rfl, by decide, by decide⟩ ⟨Nat.zero_le _, Nat.zero_le _⟩ (va_recv hK.1 hP (ci := 0) (q0 := 8) rfl rfl) (hP.sub [8, 9, 10, 11, 12, 13, 14] rfl) hK hl.1 rfl rfl (Nat.le_of_ble_eq_true rfl) dX6_find_9) ?_
  refine lv_if_ne (tgt := 16) hx hb dX6_find_12 (by decide) (fun c_2 => ?_) (fun c_2 => ?_)
  · have hf := ite_t c_2 hf
    refine lv_aload_n hx hb dX6_find_16 rfl (lv_at hl 0 rfl) ?_
    refine lv_aload_n hx hb dX6_find_17 rfl (lv_at hl 1 rfl) ?_
    refine lv_aload_n hx hb dX6_find_18 rfl (lv_at hl 2 rfl) ?_
    refine lv_iload hx hb dX6_find_19 (lv_at hl 4 rfl) ?_
    obtain ⟨r_3, hcr_3, hf⟩ := bd1_s hf
    refine backWv (w2 := (wX6 cA a_wa 0 wa_crossedEdges r_3 ++ (wX1 cA a_g g_nodes g_edges g_outer g_low g_high g_degree g_turns ++ (wX0 cA a_f f_number f_components f_genus f_next f_owner f_first f_length f_nodeSet f_near)))) (runVw C (c_X6_measure l D cA a_wa a_g a_f 0 wa_crossedEdges wa_distance g_nodes g_edges g_outer g_low g_high g_degree g_turns f_number f_components f_genus f_next f_owner f_first f_length f_nodeSet f_near p4 _ N r_3 hcr_3) cf_X6_measure km_X6_28 ⟨rfl, rfl, by decide, by decide⟩ ⟨Nat.zero_le _, Nat.zero_le _⟩ (va_recv hK.1 hP (ci := 6) (q0 := 0) rfl rfl) (hP.sub [0, 1, 2, 3, 4, 5, 6, 7, 8, 9, 10, 11, 12, 13, 14] rfl) (hD.sub [0, 1, 2, 3, 4, 5, 6, 7, 8, 9, 10, 11, 12, 13, 14] rfl rfl) hK hl.1 rfl rfl (Nat.le_of_ble_eq_true rfl) dX6_find_21) hP hD hS hA [0, 1, 2, 3, 4, 5, 6, 7, 8, 9, 10, 11, 12, 13, 14] rfl [] rfl rfl (by decide) [0, 1, 2, 3, 4, 5, 6, 7, 8, 9, 10, 11, 12, 13, 14] rfl rfl (fun H locs hP hD hS => ?_)
    refine lv_aload_n hx hb dX6_find_24 rfl (lv_at hl 0 rfl) ?_
    refine lv_aload_n hx hb dX6_find_25 rfl (lv_at hl 2 rfl) ?_
    refine lv_iload_n hx hb dX6_find_26 rfl (lv_at hl 3 rfl) ?_
    obtain ⟨r_4, hcr_4, hf⟩ := bd1_s hf
    refine backWi (w2 := (wX6 cA a_wa r_4.2 wa_crossedEdges r_3 ++ (wX1 cA a_g g_nodes g_edges g_outer g_low g_high g_degree g_turns ++ (wX0 cA a_f f_number f_components f_genus f_next f_owner f_first f_length f_nodeSet f_near)))) (runVw C (c_X6_chooseStart l D cA a_wa a_f 0 wa_crossedEdges r_3 f_number f_components f_genus f_next f_owner f_first f_length f_nodeSet f_near p3 _ N r_4 hcr_4) cf_X6_chooseStart km_X6_32 ⟨rfl, rfl, by decide, by decide⟩ ⟨Nat.zero_le _, Nat.zero_le _⟩ (va_recv hK.1 hP (ci := 6) (q0 := 0) rfl rfl) (hP.sub [0, 1, 2, 8, 9, 10, 11, 12, 13, 14] rfl) (hD.sub [0, 1, 2, 8, 9, 10, 11, 12, 13, 14] rfl rfl) hK hl.1 rfl rfl (Nat.le_of_ble_eq_true rfl) dX6_find_27) hP hD hS hA [0, 1, 2, 8, 9, 10, 11, 12, 13, 14] rfl [3, 4, 5, 6, 7] rfl rfl (by decide) [5, 6, 7, 0, 1, 2, 3, 4, 8, 9, 10, 11, 12, 13, 14] rfl rfl (fun H locs hP hD hS => ?_)
    refine lv_topi (fun x5_5 ex5_5 => ?_)
    have hf := nm_t ex5_5 hf
    refine lv_istore (lv' := [(5, .int x5_5), (0, .ref (a_wa 0)), (1, .ref (a_g 0)), (2, .ref (a_f 0)), (3, .int p3), (4, .int p4)]) hx hb dX6_find_30 hl (by decide) rfl (fun ls hl => ?_)
    refine lv_iconst (v := 0) hx hb dX6_find_32 (by decide) ?_
    refine lv_istore (lv' := [(6, .int 0), (5, .int x5_5), (0, .ref (a_wa 0)), (1, .ref (a_g 0)), (2, .ref (a_f 0)), (3, .int p3), (4, .int p4)]) hx hb dX6_find_33 hl (by decide) rfl (fun ls hl => ?_)
    exact B35 N x5_5 0 r_4.2 wa_crossedEdges r_3 _ _ _ (lv_sub hl [2, 3, 4, 1, 0] rfl) hP hD hS hf
  · have hf := ite_fn c_2 hf
    have eR := some_i hf
    exact W.vret hx hb hr (fun t ht hW => ⟨⟨(), rfl, trivial, by rw [← eR, ht]; exact hP, by rw [← eR]; exact hD⟩, hS.F ht⟩) hS.2.2 dX6_find_15 (hlocks := hlk)
