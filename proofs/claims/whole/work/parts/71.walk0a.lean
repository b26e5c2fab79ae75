set_option maxRecDepth 100000 in
set_option maxHeartbeats 4000000 in
theorem c_X0_areConnected (l : Launch) (D : va_G) (cA : Nat → ClassId) (a_f : Nat → Nat) (f_number : Int32) (f_components : Int32) (f_genus : Int32) (f_next : Nat → Int32) (f_owner : Nat → Int32) (f_first : Nat → Int32) (f_length : Nat → Int32) (f_nodeSet : Nat → Int32) (f_near : Nat → Int32) (p1 : Int32) (p2 : Int32) (N : Nat) (ρ : Int32) (hf : f_X0_areConnected N f_near p1 p2 = some ρ) : Met l yX0_areConnected (Cond.code yX0_areConnected cX0_areConnected 3 (Option.some Jvm.ClassFile.FieldType.boolean) :: lw_g) ({ frames := 3, cells := 0, slots := 0, locals := 69 } : Room) (PcS D (tyA cA) (wX0 cA a_f f_number f_components f_genus f_next f_owner f_first f_length f_nodeSet f_near) [.ref (a_f 0), .int p1, .int p2]) (vp_Si (fun r => r = ρ)) 0 0 (fun _ => False) := by
  refine mkS (by decide +kernel) (Nat.le_of_ble_eq_true rfl) fun p e s m below meth c ls C hl hP hK => ?_
  obtain ⟨hx, hb, hml, hown, hT, hr, hlk⟩ := id C
  have hl : lv_has ls 3 [(0, .ref (a_f 0)), (1, .int p1), (2, .int p2)] := hl
  refine lv_iload_n hx hb dX0_areConnected_0 rfl (lv_at hl 1 rfl) ?_
  refine lv_iconst (v := (-1)) hx hb dX0_areConnected_1 (by decide) ?_
  refine lv_aload_n hx hb dX0_areConnected_2 rfl (lv_at hl 0 rfl) ?_
  refine va_get (D := D) (ci := 0) (C := RX0) (T := TX0) (N := 9) hx hb hT kwX0 hown hK.1 hP 0 rfl rfl 8 (by decide) (hT _ kf_X0_31) (fun _ h9 => h9) rfl dX0_areConnected_3 ?_
  obtain ⟨r_1, hcr_1, hf⟩ := bd1_s hf
  refine backI (runN0 C (c_X7_spread l D cA (a_f 6) f_near p1 (-1) N r_1 hcr_1) cf_X7_spread kn_X0_77 ⟨rfl, rfl, by decide, by decide⟩ ⟨Nat.zero_le _, Nat.zero_le _⟩ (hP.sub [6] rfl) hK hl.1 rfl rfl (Nat.le_of_ble_eq_true rfl) dX0_areConnected_6) ?_
  refine lv_iload_n hx hb dX0_areConnected_9 rfl (lv_at hl 2 rfl) ?_
  obtain ⟨r_2, hcr_2, hf⟩ := bd1_s hf
  refine backI (runN0 C (c_X7_contains l D cA r_1 p2 N r_2 hcr_2) cf_X7_contains kn_X0_73 ⟨rfl, rfl, by decide, by decide⟩ ⟨Nat.zero_le _, Nat.zero_le _⟩ (hP.sub [] rfl) hK hl.1 rfl rfl (Nat.le_of_ble_eq_true rfl) dX0_areConnected_10) ?_
  obtain ⟨h_3, hf⟩ := chk_s hf
  exact W.zret hx hb hr (isB_n h_3) (fun t ht hW => ⟨_, rfl, some_i hf, ht⟩) (fun _ h => by cases h) dX0_areConnected_13 (hlocks := hlk)
set_option maxRecDepth 100000 in
set_option maxHeartbeats 4000000 in
theorem c_X0_countComponents (l : Launch) (D : va_G) (cA : Nat → ClassId) (a_f : Nat → Nat) (a_g : Nat → Nat) (f_number : Int32) (f_components : Int32) (f_genus : Int32) (f_next : Nat → Int32) (f_owner : Nat → Int32) (f_first : Nat → Int32) (f_length : Nat → Int32) (f_nodeSet : Nat → Int32) (f_near : Nat → Int32) (g_nodes : Int32) (g_edges : Int32) (g_outer : Int32) (g_low : Nat → Int32) (g_high : Nat → Int32) (g_degree : Nat → Int32) (g_turns : Nat → Int32) (sz N : Nat) (ρ : Int32 × Int32) (hf : f_X0_countComponents N f_number f_components f_genus f_near g_nodes g_edges = some ρ) : Met l yX0_countComponents (Cond.code yX0_countComponents cX0_countComponents 6 (Option.none : Option Jvm.ClassFile.FieldType) :: lw_g) ({ frames := 3, cells := 0, slots := 0, locals := 69 } : Room) (PcW D (tyA cA) (wX0 cA a_f f_number f_components f_genus f_next f_owner f_first f_length f_nodeSet f_near ++ (wX1 cA a_g g_nodes g_edges g_outer g_low g_high g_degree g_turns)) sz [.ref (a_f 0), .ref (a_g 0)]) (va_Qv (fun (_ : Unit) => True) (fun _ t => va_P D vwCl (wX0 cA a_f f_number ρ.1 ρ.2 f_next f_owner f_first f_length f_nodeSet f_near ++ (wX1 cA a_g g_nodes g_edges g_outer g_low g_high g_degree g_turns)) t.heap ∧ va_D (va_A (wX0 cA a_f f_number f_components f_genus f_next f_owner f_first f_length f_nodeSet f_near ++ (wX1 cA a_g g_nodes g_edges g_outer g_low g_high g_degree g_turns)) sz) (wX0 cA a_f f_number ρ.1 ρ.2 f_next f_owner f_first f_length f_nodeSet f_near ++ (wX1 cA a_g g_nodes g_edges g_outer g_low g_high g_degree g_turns))) (va_A (wX0 cA a_f f_number f_components f_genus f_next f_owner f_first f_length f_nodeSet f_near ++ (wX1 cA a_g g_nodes g_edges g_outer g_low g_high g_degree g_turns)) sz)) 0 0 (va_A (wX0 cA a_f f_number f_components f_genus f_next f_owner f_first f_length f_nodeSet f_near ++ (wX1 cA a_g g_nodes g_edges g_outer g_low g_high g_degree g_turns)) sz) := by
  refine mkW (QQ := fun A => va_Qv (fun (_ : Unit) => True) (fun _ t => va_P D vwCl (wX0 cA a_f f_number ρ.1 ρ.2 f_next f_owner f_first f_length f_nodeSet f_near ++ (wX1 cA a_g g_nodes g_edges g_outer g_low g_high g_degree g_turns)) t.heap ∧ va_D A (wX0 cA a_f f_number ρ.1 ρ.2 f_next f_owner f_first f_length f_nodeSet f_near ++ (wX1 cA a_g g_nodes g_edges g_outer g_low g_high g_degree g_turns))) A) (by decide) (Nat.le_of_ble_eq_true rfl) fun p e s m below meth c ls A C hl hP hK hD hA hS => ?_
  obtain ⟨hx, hb, hml, hown, hT, hr, hlk⟩ := id C
  have hl : lv_has ls 6 [(0, .ref (a_f 0)), (1, .ref (a_g 0))] := hl
  have B95 : ∀ (x2 : Int32) (f_components : Int32) (f_genus : Int32) (H : Heap) (locs : List Loc) (ls : Array Slot), lv_has ls 6 [(0, .ref (a_f 0)), (2, .int x2)] → va_P D vwCl (wX0 cA a_f f_number f_components f_genus f_next f_owner f_first f_length f_nodeSet f_near ++ (wX1 cA a_g g_nodes g_edges g_outer g_low g_high g_degree g_turns)) H → va_D A (wX0 cA a_f f_number f_components f_genus f_next f_owner f_first f_length f_nodeSet f_near ++ (wX1 cA a_g g_nodes g_edges g_outer g_low g_high g_degree g_turns)) → va_S A s.heap H locs → f_X0_countComponents_b95 N f_number f_near g_nodes g_edges x2 f_components f_genus = some ρ → W p l e ({ frames := 3, cells := 0, slots := 0, locals := 69 } : Room) s m ([.ref (a_f 0), .ref (a_g 0)] : List Value).toArray below meth c H locs 0 0 (MQ below (va_Qv (fun (_ : Unit) => True) (fun _ t => va_P D vwCl (wX0 cA a_f f_number ρ.1 ρ.2 f_next f_owner f_first f_length f_nodeSet f_near ++ (wX1 cA a_g g_nodes g_edges g_outer g_low g_high g_degree g_turns)) t.heap ∧ va_D A (wX0 cA a_f f_number ρ.1 ρ.2 f_next f_owner f_first f_length f_nodeSet f_near ++ (wX1 cA a_g g_nodes g_edges g_outer g_low g_high g_degree g_turns))) A) ([.ref (a_f 0), .ref (a_g 0)] : List Value).toArray s 0 0 A) (F0 m 95 ls []) := by
    intro x2 f_components f_genus H locs ls hl hP hD hS hf
    refine lv_aload_n hx hb dX0_countComponents_95 rfl (lv_at hl 0 rfl) ?_
    refine lv_iload_n hx hb dX0_countComponents_96 rfl (lv_at hl 1 rfl) ?_
    refine lv_iconst (v := 2) hx hb dX0_countComponents_97 (by decide) ?_
    refine lv_idiv hx hb dX0_countComponents_98 (by decide) ?_
    refine va_put (D := D) (ci := 0) (v := .int (x2 / 2)) (ty := .int) (C := RX0) (T := TX0) (N := 9) hx hb hT kwX0 tyX0 tyX0_ok nmX0 hown hK.1 hP hD hS 0 rfl rfl 2 (by decide) (hT _ kf_X0_86) (fun _ h9 => h9) rfl (by decide +kernel) rfl rfl (Nat.le_of_ble_eq_true rfl) dX0_countComponents_99 (fun H locs hP hD hS => ?_)
    have hP : va_P D vwCl (wX0 cA a_f f_number f_components (x2 / 2) f_next f_owner f_first f_length f_nodeSet f_near ++ (wX1 cA a_g g_nodes g_edges g_outer g_low g_high g_degree g_turns)) H := hP
    have hD : va_D A (wX0 cA a_f f_number f_components (x2 / 2) f_next f_owner f_first f_length f_nodeSet f_near ++ (wX1 cA a_g g_nodes g_edges g_outer g_low g_high g_degree g_turns)) := hD
    have eR := some_i hf
    exact W.vret hx hb hr (fun t ht hW => ⟨⟨(), rfl, trivial, by rw [← eR, ht]; exact hP, by rw [← eR]; exact hD⟩, hS.F ht⟩) hS.2.2 dX0_countComponents_102 (hlocks := hlk)
  have B20 : ∀ (n20 : Nat), ∀ (x2 : Int32) (x3 : Int32) (x4 : Int32) (f_components : Int32) (f_genus : Int32) (H : Heap) (locs : List Loc) (ls : Array Slot), lv_has ls 6 [(0, .ref (a_f 0)), (1, .ref (a_g 0)), (2, .int x2), (3, .int x3), (4, .int x4)] → va_P D vwCl (wX0 cA a_f f_number f_components f_genus f_next f_owner f_first f_length f_nodeSet f_near ++ (wX1 cA a_g g_nodes g_edges g_outer g_low g_high g_degree g_turns)) H → va_D A (wX0 cA a_f f_number f_components f_genus f_next f_owner f_first f_length f_nodeSet f_near ++ (wX1 cA a_g g_nodes g_edges g_outer g_low g_high g_degree g_turns)) → va_S A s.heap H locs → f_X0_countComponents_b20 N f_number f_near g_nodes g_edges n20 x2 x3 x4 f_components f_genus = some ρ → W p l e ({ frames := 3, cells := 0, slots := 0, locals := 69 } : Room) s m ([.ref (a_f 0), .ref (a_g 0)] : List Value).toArray below meth c H locs 0 0 (MQ below (va_Qv (fun (_ : Unit) => True) (fun _ t => va_P D vwCl (wX0 cA a_f f_number ρ.1 ρ.2 f_next f_owner f_first f_length f_nodeSet f_near ++ (wX1 cA a_g g_nodes g_edges g_outer g_low g_high g_degree g_turns)) t.heap ∧ va_D A (wX0 cA a_f f_number ρ.1 ρ.2 f_next f_owner f_first f_length f_nodeSet f_near ++ (wX1 cA a_g g_nodes g_edges g_outer g_low g_high g_degree g_turns))) A) ([.ref (a_f 0), .ref (a_g 0)] : List Value).toArray s 0 0 A) (F0 m 20 ls []) := by
    intro n20
    induction n20 with
    | zero =>
      intro x2 x3 x4 f_components f_genus H locs ls hl hP hD hS hf
      cases (show (none : Option (Int32 × Int32)) = some ρ from hf)
    | succ n20 ih20 =>
      have B89 : ∀ (x2 : Int32) (x3 : Int32) (x4 : Int32) (f_components : Int32) (f_genus : Int32) (H : Heap) (locs : List Loc) (ls : Array Slot), lv_has ls 6 [(0, .ref (a_f 0)), (1, .ref (a_g 0)), (2, .int x2), (3, .int x3), (4, .int x4)] → va_P D vwCl (wX0 cA a_f f_number f_components f_genus f_next f_owner f_first f_length f_nodeSet f_near ++ (wX1 cA a_g g_nodes g_edges g_outer g_low g_high g_degree g_turns)) H → va_D A (wX0 cA a_f f_number f_components f_genus f_next f_owner f_first f_length f_nodeSet f_near ++ (wX1 cA a_g g_nodes g_edges g_outer g_low g_high g_degree g_turns)) → va_S A s.heap H locs → f_X0_countComponents_b89 N f_number f_near g_nodes g_edges (f_X0_countComponents_b20 N f_number f_near g_nodes g_edges n20) x2 x3 x4 f_components f_genus = some ρ → W p l e ({ frames := 3, cells := 0, slots := 0, locals := 69 } : Room) s m ([.ref (a_f 0), .ref (a_g 0)] : List Value).toArray below meth c H locs 0 0 (MQ below (va_Qv (fun (_ : Unit) => True) (fun _ t => va_P D vwCl (wX0 cA a_f f_number ρ.1 ρ.2 f_next f_owner f_first f_length f_nodeSet f_near ++ (wX1 cA a_g g_nodes g_edges g_outer g_low g_high g_degree g_turns)) t.heap ∧ va_D A (wX0 cA a_f f_number ρ.1 ρ.2 f_next f_owner f_first f_length f_nodeSet f_near ++ (wX1 cA a_g g_nodes g_edges g_outer g_low g_high g_degree g_turns))) A) ([.ref (a_f 0), .ref (a_g 0)] : List Value).toArray s 0 0 A) (F0 m 89 ls []) := by
        intro x2 x3 x4 f_components f_genus H locs ls hl hP hD hS hf
        refine lv_iinc (v := (x4 + 1)) (lv' := [(4, .int (x4 + 1)), (0, .ref (a_f 0)), (1, .ref (a_g 0)), (2, .int x2), (3, .int x3)]) hx hb dX0_countComponents_89 hl (k := 4) rfl rfl (by decide) rfl (fun ls hl => ?_)
        refine lv_goto (tgt := 20) hx hb dX0_countComponents_92 (by decide) ?_
        exact ih20 x2 x3 (x4 + 1) f_components f_genus _ _ _ (lv_sub hl [1, 2, 3, 4, 0] rfl) hP hD hS hf
      have B87 : ∀ (x3 : Int32) (x4 : Int32) (y0 : Int32) (y1 : Int32) (f_components : Int32) (f_genus : Int32) (H : Heap) (locs : List Loc) (ls : Array Slot), lv_has ls 6 [(0, .ref (a_f 0)), (1, .ref (a_g 0)), (3, .int x3), (4, .int x4)] → va_P D vwCl (wX0 cA a_f f_number f_components f_genus f_next f_owner f_first f_length f_nodeSet f_near ++ (wX1 cA a_g g_nodes g_edges g_outer g_low g_high g_degree g_turns)) H → va_D A (wX0 cA a_f f_number f_components f_genus f_next f_owner f_first f_length f_nodeSet f_near ++ (wX1 cA a_g g_nodes g_edges g_outer g_low g_high g_degree g_turns)) → va_S A s.heap H locs → f_X0_countComponents_b87 N f_number f_near g_nodes g_edges (f_X0_countComponents_b20 N f_number f_near g_nodes g_edges n20) x3 x4 y0 y1 f_components f_genus = some ρ → W p l e ({ frames := 3, cells := 0, slots := 0, locals := 69 } : Room) s m ([.ref (a_f 0), .ref (a_g 0)] : List Value).toArray below meth c H locs 0 0 (MQ below (va_Qv (fun (_ : Unit) => True) (fun _ t => va_P D vwCl (wX0 cA a_f f_number ρ.1 ρ.2 f_next f_owner f_first f_length f_nodeSet f_near ++ (wX1 cA a_g g_nodes g_edges g_outer g_low g_high g_degree g_turns)) t.heap ∧ va_D A (wX0 cA a_f f_number ρ.1 ρ.2 f_next f_owner f_first f_length f_nodeSet f_near ++ (wX1 cA a_g g_nodes g_edges g_outer g_low g_high g_degree g_turns))) A) ([.ref (a_f 0), .ref (a_g 0)] : List Value).toArray s 0 0 A) (F0 m 87 ls [.int y1, .int y0]) := by
        intro x3 x4 y0 y1 f_components f_genus H locs ls hl hP hD hS hf
        refine lv_iadd hx hb dX0_countComponents_87 ?_
        refine lv_topi (fun x2_10 ex2_10 => ?_)
        have hf := nm_t ex2_10 hf
        refine lv_istore_n (lv' := [(2, .int x2_10), (0, .ref (a_f 0)), (1, .ref (a_g 0)), (3, .int x3), (4, .int x4)]) hx hb dX0_countComponents_88 rfl hl (by decide) rfl (fun ls hl => ?_)
        exact B89 x2_10 x3 x4 f_components f_genus _ _ _ (lv_sub hl [1, 2, 0, 3, 4] rfl) hP hD hS hf
      intro x2 x3 x4 f_components f_genus H locs ls hl hP hD hS hf
      refine lv_iload hx hb dX0_countComponents_20 (lv_at hl 4 rfl) ?_
      refine lv_aload_n hx hb dX0_countComponents_22 rfl (lv_at hl 1 rfl) ?_
      refine va_get (D := D) (ci := 1) (C := RX1) (T := TX1) (N := 7) hx hb hT kwX1 hown hK.1 hP 7 rfl rfl 0 (by decide) (hT _ kf_X0_70) (fun _ h9 => h9) rfl dX0_countComponents_23 ?_
      refine lv_icmp_ge (tgt := 95) hx hb dX0_countComponents_26 (by decide) (fun c_2 => ?_) (fun c_2 => ?_)
      · have hf := ite_t c_2 hf
        exact B95 x2 f_components f_genus _ _ _ (lv_sub hl [0, 2] rfl) hP hD hS hf
      · have hf := ite_f c_2 hf
        refine lv_iload_n hx hb dX0_countComponents_29 rfl (lv_at hl 3 rfl) ?_
        refine lv_iload hx hb dX0_countComponents_30 (lv_at hl 4 rfl) ?_
        obtain ⟨r_3, hcr_3, hf⟩ := bd1_s hf
        refine backI (runN0 C (c_X7_contains l D cA x3 x4 N r_3 hcr_3) cf_X7_contains kn_X0_73 ⟨rfl, rfl, by decide, by decide⟩ ⟨Nat.zero_le _, Nat.zero_le _⟩ (hP.sub [] rfl) hK hl.1 rfl rfl (Nat.le_of_ble_eq_true rfl) dX0_countComponents_32) ?_
        refine lv_if_ne (tgt := 89) hx hb dX0_countComponents_35 (by decide) (fun c_4 => ?_) (fun c_4 => ?_)
        · have hf := ite_t c_4 hf
          exact B89 x2 x3 x4 f_components f_genus _ _ _ (lv_sub hl [0, 1, 2, 3, 4] rfl) hP hD hS hf
        · have hf := ite_fn c_4 hf
          refine lv_iload hx hb dX0_countComponents_38 (lv_at hl 4 rfl) ?_
          refine lv_iconst (v := (-1)) hx hb dX0_countComponents_40 (by decide) ?_
          refine lv_aload_n hx hb dX0_countComponents_41 rfl (lv_at hl 0 rfl) ?_
          refine va_get (D := D) (ci := 0) (C := RX0) (T := TX0) (N := 9) hx hb hT kwX0 hown hK.1 hP 0 rfl rfl 8 (by decide) (hT _ kf_X0_31) (fun _ h9 => h9) rfl dX0_countComponents_42 ?_
          obtain ⟨r_5, hcr_5, hf⟩ := bd1_s hf
          refine backI (runN0 C (c_X7_spread l D cA (a_f 6) f_near x4 (-1) N r_5 hcr_5) cf_X7_spread kn_X0_77 ⟨rfl, rfl, by decide, by decide⟩ ⟨Nat.zero_le _, Nat.zero_le _⟩ (hP.sub [6] rfl) hK hl.1 rfl rfl (Nat.le_of_ble_eq_true rfl) dX0_countComponents_45) ?_
          refine lv_istore (lv' := [(5, .int r_5), (0, .ref (a_f 0)), (1, .ref (a_g 0)), (2, .int x2), (3, .int x3), (4, .int x4)]) hx hb dX0_countComponents_48 hl (by decide) rfl (fun ls hl => ?_)
          refine lv_iload_n hx hb dX0_countComponents_50 rfl (lv_at hl 4 rfl) ?_
          refine lv_iload hx hb dX0_countComponents_51 (lv_at hl 0 rfl) ?_
          refine lv_ior hx hb dX0_countComponents_53 ?_
          refine lv_topi (fun x3_6 ex3_6 => ?_)
          have hf := nm_t ex3_6 hf
          refine lv_istore_n (lv' := [(3, .int x3_6), (5, .int r_5), (0, .ref (a_f 0)), (1, .ref (a_g 0)), (2, .int x2), (4, .int x4)]) hx hb dX0_countComponents_54 rfl hl (by decide) rfl (fun ls hl => ?_)
          refine lv_aload_n hx hb dX0_countComponents_55 rfl (lv_at hl 2 rfl) ?_
          refine lv_dup hx hb dX0_countComponents_56 rfl ?_
          refine va_get (D := D) (ci := 0) (C := RX0) (T := TX0) (N := 9) hx hb hT kwX0 hown hK.1 hP 0 rfl rfl 1 (by decide) (hT _ kf_X0_9) (fun _ h9 => h9) rfl dX0_countComponents_57 ?_
          refine lv_iconst (v := 1) hx hb dX0_countComponents_60 (by decide) ?_
          refine lv_iadd hx hb dX0_countComponents_61 ?_
          refine va_put (D := D) (ci := 0) (v := .int (f_components + 1)) (ty := .int) (C := RX0) (T := TX0) (N := 9) hx hb hT kwX0 tyX0 tyX0_ok nmX0 hown hK.1 hP hD hS 0 rfl rfl 1 (by decide) (hT _ kf_X0_9) (fun _ h9 => h9) rfl (by decide +kernel) rfl rfl (Nat.le_of_ble_eq_true rfl) dX0_countComponents_62 (fun H locs hP hD hS => ?_)
          have hP : va_P D vwCl (wX0 cA a_f f_number (f_components + 1) f_genus f_next f_owner f_first f_length f_nodeSet f_near ++ (wX1 cA a_g g_nodes g_edges g_outer g_low g_high g_degree g_turns)) H := hP
          have hD : va_D A (wX0 cA a_f f_number (f_components + 1) f_genus f_next f_owner f_first f_length f_nodeSet f_near ++ (wX1 cA a_g g_nodes g_edges g_outer g_low g_high g_degree g_turns)) := hD
          refine lv_iload_n hx hb dX0_countComponents_65 rfl (lv_at hl 4 rfl) ?_
          refine lv_aload_n hx hb dX0_countComponents_66 rfl (lv_at hl 2 rfl) ?_
          refine va_get (D := D) (ci := 0) (C := RX0) (T := TX0) (N := 9) hx hb hT kwX0 hown hK.1 hP 0 rfl rfl 8 (by decide) (hT _ kf_X0_31) (fun _ h9 => h9) rfl dX0_countComponents_67 ?_
          refine lv_iload hx hb dX0_countComponents_70 (lv_at hl 5 rfl) ?_
          obtain ⟨h_7, hf⟩ := chk_s hf
          refine va_iald hx hb hK.1 hP 6 0 rfl rfl (inb_in h_7) dX0_countComponents_72 ?_
          refine lv_if_ne (tgt := 80) hx hb dX0_countComponents_73 (by decide) (fun c_8 => ?_) (fun c_8 => ?_)
          · have hf := ite_t c_8 hf
            refine lv_iconst (v := 2) hx hb dX0_countComponents_80 (by decide) ?_
            refine lv_iload hx hb dX0_countComponents_81 (lv_at hl 1 rfl) ?_
            obtain ⟨r_9, hcr_9, hf⟩ := bd1_s hf
            refine backI (runS0 C (c_J6_bitCount_0f7a4 l D cA r_5 N r_9 hcr_9) cf_J6_bitCount_0f7a4 km_X0_81 ⟨rfl, rfl, by decide, by decide⟩ ⟨Nat.zero_le _, Nat.zero_le _⟩ (hP.sub [] rfl) hK hl.1 rfl rfl (Nat.le_of_ble_eq_true rfl) dX0_countComponents_83) ?_
            refine lv_isub hx hb dX0_countComponents_86 ?_
            exact B87 x3_6 x4 x2 (2 - r_9) (f_components + 1) f_genus _ _ _ (lv_sub hl [2, 3, 0, 5] rfl) hP hD hS hf
          · have hf := ite_fn c_8 hf
            refine lv_iconst (v := 0) hx hb dX0_countComponents_76 (by decide) ?_
            refine lv_goto (tgt := 87) hx hb dX0_countComponents_77 (by decide) ?_
            exact B87 x3_6 x4 x2 0 (f_components + 1) f_genus _ _ _ (lv_sub hl [2, 3, 0, 5] rfl) hP hD hS hf
  refine lv_aload_n hx hb dX0_countComponents_0 rfl (lv_at hl 0 rfl) ?_
  refine lv_iconst (v := 0) hx hb dX0_countComponents_1 (by decide) ?_
  refine va_put (D := D) (ci := 0) (v := .int 0) (ty := .int) (C := RX0) (T := TX0) (N := 9) hx hb hT kwX0 tyX0 tyX0_ok nmX0 hown hK.1 hP hD hS 0 rfl rfl 1 (by decide) (hT _ kf_X0_9) (fun _ h9 => h9) rfl (by decide +kernel) rfl rfl (Nat.le_of_ble_eq_true rfl) dX0_countComponents_2 (fun H locs hP hD hS => ?_)
  have hP : va_P D vwCl (wX0 cA a_f f_number 0 f_genus f_next f_owner f_first f_length f_nodeSet f_near ++ (wX1 cA a_g g_nodes g_edges g_outer g_low g_high g_degree g_turns)) H := hP
  have hD : va_D A (wX0 cA a_f f_number 0 f_genus f_next f_owner f_first f_length f_nodeSet f_near ++ (wX1 cA a_g g_nodes g_edges g_outer g_low g_high g_degree g_turns)) := hD
  refine lv_aload_n hx hb dX0_countComponents_5 rfl (lv_at hl 1 rfl) ?_
  refine va_get (D := D) (ci := 1) (C := RX1) (T := TX1) (N := 7) hx hb hT kwX1 hown hK.1 hP 7 rfl rfl 1 (by decide) (hT _ kf_X0_43) (fun _ h9 => h9) rfl dX0_countComponents_6 ?_
  refine lv_aload_n hx hb dX0_countComponents_9 rfl (lv_at hl 0 rfl) ?_
  refine va_get (D := D) (ci := 0) (C := RX0) (T := TX0) (N := 9) hx hb hT kwX0 hown hK.1 hP 0 rfl rfl 0 (by decide) (hT _ kf_X0_34) (fun _ h9 => h9) rfl dX0_countComponents_10 ?_
  refine lv_isub hx hb dX0_countComponents_13 ?_
  refine lv_topi (fun x2_1 ex2_1 => ?_)
  have hf := nm_t ex2_1 hf
  refine lv_istore_n (lv' := [(2, .int x2_1), (0, .ref (a_f 0)), (1, .ref (a_g 0))]) hx hb dX0_countComponents_14 rfl hl (by decide) rfl (fun ls hl => ?_)
  refine lv_iconst (v := 0) hx hb dX0_countComponents_15 (by decide) ?_
  refine lv_istore_n (lv' := [(3, .int 0), (2, .int x2_1), (0, .ref (a_f 0)), (1, .ref (a_g 0))]) hx hb dX0_countComponents_16 rfl hl (by decide) rfl (fun ls hl => ?_)
  refine lv_iconst (v := 0) hx hb dX0_countComponents_17 (by decide) ?_
  refine lv_istore (lv' := [(4, .int 0), (3, .int 0), (2, .int x2_1), (0, .ref (a_f 0)), (1, .ref (a_g 0))]) hx hb dX0_countComponents_18 hl (by decide) rfl (fun ls hl => ?_)
  exact B20 N x2_1 0 0 0 f_genus _ _ _ (lv_sub hl [3, 4, 2, 1, 0] rfl) hP hD hS hf
set_option maxRecDepth 100000 in
set_option maxHeartbeats 4000000 in
theorem c_X0_countNeighbours (l : Launch) (D : va_G) (cA : Nat → ClassId) (a_f : Nat → Nat) (a_g : Nat → Nat) (f_number : Int32) (f_components : Int32) (f_genus : Int32) (f_next : Nat → Int32) (f_owner : Nat → Int32) (f_first : Nat → Int32) (f_length : Nat → Int32) (f_nodeSet : Nat → Int32) (f_near : Nat → Int32) (g_nodes : Int32) (g_edges : Int32) (g_outer : Int32) (g_low : Nat → Int32) (g_high : Nat → Int32) (g_degree : Nat → Int32) (g_turns : Nat → Int32) (p2 : Int32) (N : Nat) (ρ : Int32) (hf : f_X0_countNeighbours N f_owner g_edges p2 = some ρ) : Met l yX0_countNeighbours (Cond.code yX0_countNeighbours cX0_countNeighbours 5 (Option.some Jvm.ClassFile.FieldType.int) :: lw_g) ({ frames := 1, cells := 0, slots := 0, locals := 20 } : Room) (PcS D (tyA cA) (wX0 cA a_f f_number f_components f_genus f_next f_owner f_first f_length f_nodeSet f_near ++ (wX1 cA a_g g_nodes g_edges g_outer g_low g_high g_degree g_turns)) [.ref (a_f 0), .ref (a_g 0), .int p2]) (vp_Si (fun r => r = ρ)) 0 0 (fun _ => False) := by
  refine mkS (by decide +kernel) (Nat.le_of_ble_eq_true rfl) fun p e s m below meth c ls C hl hP hK => ?_
  obtain ⟨hx, hb, hml, hown, hT, hr, hlk⟩ := id C
  have hl : lv_has ls 5 [(0, .ref (a_f 0)), (1, .ref (a_g 0)), (2, .int p2)] := hl
  have B61 : ∀ (x3 : Int32) (ls : Array Slot), lv_has ls 5 [(3, .int x3)] → f_X0_countNeighbours_b61 N f_owner g_edges x3 = some ρ → W p l e ({ frames := 1, cells := 0, slots := 0, locals := 20 } : Room) s m ([.ref (a_f 0), .ref (a_g 0), .int p2] : List Value).toArray below meth c s.heap [] 0 0 (MQ below (vp_Si (fun r => r = ρ)) ([.ref (a_f 0), .ref (a_g 0), .int p2] : List Value).toArray s 0 0 (fun _ => False)) (F0 m 61 ls []) := by
    intro x3 ls hl hf
    refine lv_iload_n hx hb dX0_countNeighbours_61 rfl (lv_at hl 0 rfl) ?_
    obtain ⟨r_9, hcr_9, hf⟩ := bd1_s hf
    refine backI (runS0 C (c_J6_bitCount_0f7a4 l D cA x3 N r_9 hcr_9) cf_J6_bitCount_0f7a4 km_X0_81 ⟨rfl, rfl, by decide, by decide⟩ ⟨Nat.zero_le _, Nat.zero_le _⟩ (hP.sub [] rfl) hK hl.1 rfl rfl (Nat.le_of_ble_eq_true rfl) dX0_countNeighbours_62) ?_
    exact W.iret hx hb hr (fun t ht hW => ⟨_, rfl, some_i hf, ht⟩) (fun _ h => by cases h) dX0_countNeighbours_65 (hlocks := hlk)
  have B5 : ∀ (n5 : Nat), ∀ (x2 : Int32) (x3 : Int32) (x4 : Int32) (ls : Array Slot), lv_has ls 5 [(0, .ref (a_f 0)), (1, .ref (a_g 0)), (2, .int x2), (3, .int x3), (4, .int x4)] → f_X0_countNeighbours_b5 N f_owner g_edges n5 x2 x3 x4 = some ρ → W p l e ({ frames := 1, cells := 0, slots := 0, locals := 20 } : Room) s m ([.ref (a_f 0), .ref (a_g 0), .int p2] : List Value).toArray below meth c s.heap [] 0 0 (MQ below (vp_Si (fun r => r = ρ)) ([.ref (a_f 0), .ref (a_g 0), .int p2] : List Value).toArray s 0 0 (fun _ => False)) (F0 m 5 ls []) := by
    intro n5
    induction n5 with
    | zero =>
      intro x2 x3 x4 ls hl hf
      cases (show (none : Option (Int32)) = some ρ from hf)
    | succ n5 ih5 =>
      have B55 : ∀ (x2 : Int32) (x3 : Int32) (x4 : Int32) (ls : Array Slot), lv_has ls 5 [(0, .ref (a_f 0)), (1, .ref (a_g 0)), (2, .int x2), (3, .int x3), (4, .int x4)] → f_X0_countNeighbours_b55 N f_owner g_edges (f_X0_countNeighbours_b5 N f_owner g_edges n5) x2 x3 x4 = some ρ → W p l e ({ frames := 1, cells := 0, slots := 0, locals := 20 } : Room) s m ([.ref (a_f 0), .ref (a_g 0), .int p2] : List Value).toArray below meth c s.heap [] 0 0 (MQ below (vp_Si (fun r => r = ρ)) ([.ref (a_f 0), .ref (a_g 0), .int p2] : List Value).toArray s 0 0 (fun _ => False)) (F0 m 55 ls []) := by
        intro x2 x3 x4 ls hl hf
        refine lv_iinc (v := (x4 + 1)) (lv' := [(4, .int (x4 + 1)), (0, .ref (a_f 0)), (1, .ref (a_g 0)), (2, .int x2), (3, .int x3)]) hx hb dX0_countNeighbours_55 hl (k := 4) rfl rfl (by decide) rfl (fun ls hl => ?_)
        refine lv_goto (tgt := 5) hx hb dX0_countNeighbours_58 (by decide) ?_
        exact ih5 x2 x3 (x4 + 1) _ (lv_sub hl [1, 2, 3, 4, 0] rfl) hf
      intro x2 x3 x4 ls hl hf
      refine lv_iload hx hb dX0_countNeighbours_5 (lv_at hl 4 rfl) ?_
      refine lv_iconst (v := 2) hx hb dX0_countNeighbours_7 (by decide) ?_
      refine lv_aload_n hx hb dX0_countNeighbours_8 rfl (lv_at hl 1 rfl) ?_
      refine va_get (D := D) (ci := 1) (C := RX1) (T := TX1) (N := 7) hx hb hT kwX1 hown hK.1 hP 7 rfl rfl 1 (by decide) (hT _ kf_X0_43) (fun _ h9 => h9) rfl dX0_countNeighbours_9 ?_
      refine lv_imul hx hb dX0_countNeighbours_12 ?_
      refine lv_icmp_ge (tgt := 61) hx hb dX0_countNeighbours_13 (by decide) (fun c_1 => ?_) (fun c_1 => ?_)
      · have hf := ite_t c_1 hf
        exact B61 x3 _ (lv_sub hl [3] rfl) hf
      · have hf := ite_f c_1 hf
        refine lv_aload_n hx hb dX0_countNeighbours_16 rfl (lv_at hl 0 rfl) ?_
        refine va_get (D := D) (ci := 0) (C := RX0) (T := TX0) (N := 9) hx hb hT kwX0 hown hK.1 hP 0 rfl rfl 4 (by decide) (hT _ kf_X0_19) (fun _ h9 => h9) rfl dX0_countNeighbours_17 ?_
        refine lv_iload hx hb dX0_countNeighbours_20 (lv_at hl 4 rfl) ?_
        obtain ⟨h_2, hf⟩ := chk_s hf
        refine va_iald hx hb hK.1 hP 2 0 rfl rfl (inb_in h_2) dX0_countNeighbours_22 ?_
        refine lv_iload_n hx hb dX0_countNeighbours_23 rfl (lv_at hl 2 rfl) ?_
        refine lv_icmp_ne (tgt := 55) hx hb dX0_countNeighbours_24 (by decide) (fun c_3 => ?_) (fun c_3 => ?_)
        · have hf := ite_t c_3 hf
          exact B55 x2 x3 x4 _ (lv_sub hl [0, 1, 2, 3, 4] rfl) hf
        · have hf := ite_fn c_3 hf
          refine lv_aload_n hx hb dX0_countNeighbours_27 rfl (lv_at hl 0 rfl) ?_
          refine va_get (D := D) (ci := 0) (C := RX0) (T := TX0) (N := 9) hx hb hT kwX0 hown hK.1 hP 0 rfl rfl 4 (by decide) (hT _ kf_X0_19) (fun _ h9 => h9) rfl dX0_countNeighbours_28 ?_
          refine lv_iload hx hb dX0_countNeighbours_31 (lv_at hl 4 rfl) ?_
          refine lv_iconst (v := 1) hx hb dX0_countNeighbours_33 (by decide) ?_
          refine lv_ixor hx hb dX0_countNeighbours_34 ?_
          obtain ⟨h_4, hf⟩ := chk_s hf
          refine va_iald hx hb hK.1 hP 2 0 rfl rfl (inb_in h_4) dX0_countNeighbours_35 ?_
          refine lv_iload_n hx hb dX0_countNeighbours_36 rfl (lv_at hl 2 rfl) ?_
          refine lv_icmp_eq (tgt := 55) hx hb dX0_countNeighbours_37 (by decide) (fun c_5 => ?_) (fun c_5 => ?_)
          · have hf := ite_t c_5 hf
            exact B55 x2 x3 x4 _ (lv_sub hl [0, 1, 2, 3, 4] rfl) hf
          · have hf := ite_f c_5 hf
            refine lv_iload_n hx hb dX0_countNeighbours_40 rfl (lv_at hl 3 rfl) ?_
            refine lv_aload_n hx hb dX0_countNeighbours_41 rfl (lv_at hl 0 rfl) ?_
            refine va_get (D := D) (ci := 0) (C := RX0) (T := TX0) (N := 9) hx hb hT kwX0 hown hK.1 hP 0 rfl rfl 4 (by decide) (hT _ kf_X0_19) (fun _ h9 => h9) rfl dX0_countNeighbours_42 ?_
            refine lv_iload hx hb dX0_countNeighbours_45 (lv_at hl 4 rfl) ?_
            refine lv_iconst (v := 1) hx hb dX0_countNeighbours_47 (by decide) ?_
            refine lv_ixor hx hb dX0_countNeighbours_48 ?_
            obtain ⟨h_6, hf⟩ := chk_s hf
            refine va_iald hx hb hK.1 hP 2 0 rfl rfl (inb_in h_6) dX0_countNeighbours_49 ?_
            obtain ⟨r_7, hcr_7, hf⟩ := bd1_s hf
            refine backI (runN0 C (c_X7_bit l D cA (f_owner (x4 ^^^ 1).toNatClampNeg) N r_7 hcr_7) cf_X7_bit kn_X0_67 ⟨rfl, rfl, by decide, by decide⟩ ⟨Nat.zero_le _, Nat.zero_le _⟩ (hP.sub [] rfl) hK hl.1 rfl rfl (Nat.le_of_ble_eq_true rfl) dX0_countNeighbours_50) ?_
            refine lv_ior hx hb dX0_countNeighbours_53 ?_
            refine lv_topi (fun x3_8 ex3_8 => ?_)
            have hf := nm_t ex3_8 hf
            refine lv_istore_n (lv' := [(3, .int x3_8), (0, .ref (a_f 0)), (1, .ref (a_g 0)), (2, .int x2), (4, .int x4)]) hx hb dX0_countNeighbours_54 rfl hl (by decide) rfl (fun ls hl => ?_)
            exact B55 x2 x3_8 x4 _ (lv_sub hl [1, 2, 3, 0, 4] rfl) hf
  refine lv_iconst (v := 0) hx hb dX0_countNeighbours_0 (by decide) ?_
  refine lv_istore_n (lv' := [(3, .int 0), (0, .ref (a_f 0)), (1, .ref (a_g 0)), (2, .int p2)]) hx hb dX0_countNeighbours_1 rfl hl (by decide) rfl (fun ls hl => ?_)
  refine lv_iconst (v := 0) hx hb dX0_countNeighbours_2 (by decide) ?_
  refine lv_istore (lv' := [(4, .int 0), (3, .int 0), (0, .ref (a_f 0)), (1, .ref (a_g 0)), (2, .int p2)]) hx hb dX0_countNeighbours_3 hl (by decide) rfl (fun ls hl => ?_)
  exact B5 N p2 0 0 _ (lv_sub hl [2, 3, 4, 1, 0] rfl) hf
set_option maxRecDepth 100000 in
set_option maxHeartbeats 4000000 in
theorem c_X0_directedAt (l : Launch) (D : va_G) (cA : Nat → ClassId) (a_f : Nat → Nat) (f_number : Int32) (f_components : Int32) (f_genus : Int32) (f_next : Nat → Int32) (f_owner : Nat → Int32) (f_first : Nat → Int32) (f_length : Nat → Int32) (f_nodeSet : Nat → Int32) (f_near : Nat → Int32) (p1 : Int32) (p2 : Int32) (N : Nat) (ρ : Int32) (hf : f_X0_directedAt N f_next f_first p1 p2 = some ρ) : Met l yX0_directedAt (Cond.code yX0_directedAt cX0_directedAt 5 (Option.some Jvm.ClassFile.FieldType.int) :: lw_g) ({ frames := 0, cells := 0, slots := 0, locals := 0 } : Room) (PcS D (tyA cA) (wX0 cA a_f f_number f_components f_genus f_next f_owner f_first f_length f_nodeSet f_near) [.ref (a_f 0), .int p1, .int p2]) (vp_Si (fun r => r = ρ)) 0 0 (fun _ => False) := by
  refine mkS (by decide +kernel) (Nat.le_of_ble_eq_true rfl) fun p e s m below meth c ls C hl hP hK => ?_
  obtain ⟨hx, hb, hml, hown, hT, hr, hlk⟩ := id C
  have hl : lv_has ls 5 [(0, .ref (a_f 0)), (1, .int p1), (2, .int p2)] := hl
  have B10 : ∀ (n10 : Nat), ∀ (x2 : Int32) (x3 : Int32) (x4 : Int32) (ls : Array Slot), lv_has ls 5 [(0, .ref (a_f 0)), (2, .int x2), (3, .int x3), (4, .int x4)] → f_X0_directedAt_b10 N f_next f_first n10 x2 x3 x4 = some ρ → W p l e ({ frames := 0, cells := 0, slots := 0, locals := 0 } : Room) s m ([.ref (a_f 0), .int p1, .int p2] : List Value).toArray below meth c s.heap [] 0 0 (MQ below (vp_Si (fun r => r = ρ)) ([.ref (a_f 0), .int p1, .int p2] : List Value).toArray s 0 0 (fun _ => False)) (F0 m 10 ls []) := by
    intro n10
    induction n10 with
    | zero =>
      intro x2 x3 x4 ls hl hf
      cases (show (none : Option (Int32)) = some ρ from hf)
    | succ n10 ih10 =>
      intro x2 x3 x4 ls hl hf
      refine lv_iload hx hb dX0_directedAt_10 (lv_at hl 3 rfl) ?_
      refine lv_iload_n hx hb dX0_directedAt_12 rfl (lv_at hl 1 rfl) ?_
      refine lv_icmp_ge (tgt := 29) hx hb dX0_directedAt_13 (by decide) (fun c_3 => ?_) (fun c_3 => ?_)
      · have hf := ite_t c_3 hf
        refine lv_iload_n hx hb dX0_directedAt_29 rfl (lv_at hl 2 rfl) ?_
        exact W.iret hx hb hr (fun t ht hW => ⟨_, rfl, some_i hf, ht⟩) (fun _ h => by cases h) dX0_directedAt_30 (hlocks := hlk)
      · have hf := ite_f c_3 hf
        refine lv_aload_n hx hb dX0_directedAt_16 rfl (lv_at hl 0 rfl) ?_
        refine va_get (D := D) (ci := 0) (C := RX0) (T := TX0) (N := 9) hx hb hT kwX0 hown hK.1 hP 0 rfl rfl 3 (by decide) (hT _ kf_X0_15) (fun _ h9 => h9) rfl dX0_directedAt_17 ?_
        refine lv_iload_n hx hb dX0_directedAt_20 rfl (lv_at hl 2 rfl) ?_
        obtain ⟨h_4, hf⟩ := chk_s hf
        refine va_iald hx hb hK.1 hP 1 0 rfl rfl (inb_in h_4) dX0_directedAt_21 ?_
        refine lv_topi (fun x3_5 ex3_5 => ?_)
        have hf := nm_t ex3_5 hf
        refine lv_istore_n (lv' := [(3, .int x3_5), (0, .ref (a_f 0)), (2, .int x2), (4, .int x4)]) hx hb dX0_directedAt_22 rfl hl (by decide) rfl (fun ls hl => ?_)
        refine lv_iinc (v := (x4 + 1)) (lv' := [(4, .int (x4 + 1)), (3, .int x3_5), (0, .ref (a_f 0)), (2, .int x2)]) hx hb dX0_directedAt_23 hl (k := 3) rfl rfl (by decide) rfl (fun ls hl => ?_)
        refine lv_goto (tgt := 10) hx hb dX0_directedAt_26 (by decide) ?_
        exact ih10 x2 x3_5 (x4 + 1) _ (lv_sub hl [2, 3, 1, 0] rfl) hf
  refine lv_aload_n hx hb dX0_directedAt_0 rfl (lv_at hl 0 rfl) ?_
  refine va_get (D := D) (ci := 0) (C := RX0) (T := TX0) (N := 9) hx hb hT kwX0 hown hK.1 hP 0 rfl rfl 5 (by decide) (hT _ kf_X0_22) (fun _ h9 => h9) rfl dX0_directedAt_1 ?_
  refine lv_iload_n hx hb dX0_directedAt_4 rfl (lv_at hl 1 rfl) ?_
  obtain ⟨h_1, hf⟩ := chk_s hf
  refine va_iald hx hb hK.1 hP 3 0 rfl rfl (inb_in h_1) dX0_directedAt_5 ?_
  refine lv_topi (fun x3_2 ex3_2 => ?_)
  have hf := nm_t ex3_2 hf
  refine lv_istore_n (lv' := [(3, .int x3_2), (0, .ref (a_f 0)), (1, .int p1), (2, .int p2)]) hx hb dX0_directedAt_6 rfl hl (by decide) rfl (fun ls hl => ?_)
  refine lv_iconst (v := 0) hx hb dX0_directedAt_7 (by decide) ?_
  refine lv_istore (lv' := [(4, .int 0), (3, .int x3_2), (0, .ref (a_f 0)), (1, .int p1), (2, .int p2)]) hx hb dX0_directedAt_8 hl (by decide) rfl (fun ls hl => ?_)
  exact B10 N p2 x3_2 0 _ (lv_sub hl [2, 4, 1, 0] rfl) hf
set_option maxRecDepth 100000 in
set_option maxHeartbeats 4000000 in
theorem c_X0_exists (l : Launch) (D : va_G) (cA : Nat → ClassId) (a_f : Nat → Nat) (f_number : Int32) (f_components : Int32) (f_genus : Int32) (f_next : Nat → Int32) (f_owner : Nat → Int32) (f_first : Nat → Int32) (f_length : Nat → Int32) (f_nodeSet : Nat → Int32) (f_near : Nat → Int32) (p1 : Int32) (N : Nat) (ρ : Int32) (hf : f_X0_exists N f_number p1 = some ρ) : Met l yX0_exists (Cond.code yX0_exists cX0_exists 2 (Option.some Jvm.ClassFile.FieldType.boolean) :: lw_g) ({ frames := 0, cells := 0, slots := 0, locals := 0 } : Room) (PcS D (tyA cA) (wX0 cA a_f f_number f_components f_genus f_next f_owner f_first f_length f_nodeSet f_near) [.ref (a_f 0), .int p1]) (vp_Si (fun r => r = ρ)) 0 0 (fun _ => False) := by
  refine mkS (by decide +kernel) (Nat.le_of_ble_eq_true rfl) fun p e s m below meth c ls C hl hP hK => ?_
  obtain ⟨hx, hb, hml, hown, hT, hr, hlk⟩ := id C
  have hl : lv_has ls 2 [(0, .ref (a_f 0)), (1, .int p1)] := hl
  refine lv_iload_n hx hb dX0_exists_0 rfl (lv_at hl 1 rfl) ?_
  refine lv_if_lt (tgt := 16) hx hb dX0_exists_1 (by decide) (fun c_1 => ?_) (fun c_1 => ?_)
  · have hf := ite_t c_1 hf
    refine lv_iconst (v := 0) hx hb dX0_exists_16 (by decide) ?_
    exact W.zret hx hb hr (by decide) (fun t ht hW => ⟨_, rfl, some_i hf, ht⟩) (fun _ h => by cases h) dX0_exists_17 (hlocks := hlk)
  · have hf := ite_f c_1 hf
    refine lv_iload_n hx hb dX0_exists_4 rfl (lv_at hl 1 rfl) ?_
    refine lv_aload_n hx hb dX0_exists_5 rfl (lv_at hl 0 rfl) ?_
    refine va_get (D := D) (ci := 0) (C := RX0) (T := TX0) (N := 9) hx hb hT kwX0 hown hK.1 hP 0 rfl rfl 0 (by decide) (hT _ kf_X0_34) (fun _ h9 => h9) rfl dX0_exists_6 ?_
    refine lv_icmp_ge (tgt := 16) hx hb dX0_exists_9 (by decide) (fun c_2 => ?_) (fun c_2 => ?_)
    · have hf := ite_t c_2 hf
      refine lv_iconst (v := 0) hx hb dX0_exists_16 (by decide) ?_
      exact W.zret hx hb hr (by decide) (fun t ht hW => ⟨_, rfl, some_i hf, ht⟩) (fun _ h => by cases h) dX0_exists_17 (hlocks := hlk)
    · have hf := ite_f c_2 hf
      refine lv_iconst (v := 1) hx hb dX0_exists_12 (by decide) ?_
      refine lv_goto (tgt := 17) hx hb dX0_exists_13 (by decide) ?_
      exact W.zret hx hb hr (by decide) (fun t ht hW => ⟨_, rfl, some_i hf, ht⟩) (fun _ h => by cases h) dX0_exists_17 (hlocks := hlk)
set_option maxRecDepth 100000 in
set_option maxHeartbeats 4000000 in
theorem c_X0_firstEdgeLeaving (l : Launch) (D : va_G) (cA : Nat → ClassId) (a_f : Nat → Nat) (a_g : Nat → Nat) (f_number : Int32) (f_components : Int32) (f_genus : Int32) (f_next : Nat → Int32) (f_owner : Nat → Int32) (f_first : Nat → Int32) (f_length : Nat → Int32) (f_nodeSet : Nat → Int32) (f_near : Nat → Int32) (g_nodes : Int32) (g_edges : Int32) (g_outer : Int32) (g_low : Nat → Int32) (g_high : Nat → Int32) (g_degree : Nat → Int32) (g_turns : Nat → Int32) (p2 : Int32) (p3 : Int32) (N : Nat) (ρ : Int32) (hf : f_X0_firstEdgeLeaving N f_next f_first f_length g_low g_high p2 p3 = some ρ) : Met l yX0_firstEdgeLeaving (Cond.code yX0_firstEdgeLeaving cX0_firstEdgeLeaving 6 (Option.some Jvm.ClassFile.FieldType.int) :: lw_g) ({ frames := 1, cells := 0, slots := 0, locals := 21 } : Room) (PcS D (tyA cA) (wX0 cA a_f f_number f_components f_genus f_next f_owner f_first f_length f_nodeSet f_near ++ (wX1 cA a_g g_nodes g_edges g_outer g_low g_high g_degree g_turns)) [.ref (a_f 0), .ref (a_g 0), .int p2, .int p3]) (vp_Si (fun r => r = ρ)) 0 0 (fun _ => False) := by
  refine mkS (by decide +kernel) (Nat.le_of_ble_eq_true rfl) fun p e s m below meth c ls C hl hP hK => ?_
  obtain ⟨hx, hb, hml, hown, hT, hr, hlk⟩ := id C
  have hl : lv_has ls 6 [(0, .ref (a_f 0)), (1, .ref (a_g 0)), (2, .int p2), (3, .int p3)] := hl
  have B11 : ∀ (n11 : Nat), ∀ (x2 : Int32) (x3 : Int32) (x4 : Int32) (x5 : Int32) (ls : Array Slot), lv_has ls 6 [(0, .ref (a_f 0)), (1, .ref (a_g 0)), (2, .int x2), (3, .int x3), (4, .int x4), (5, .int x5)] → f_X0_firstEdgeLeaving_b11 N f_next f_first f_length g_low g_high n11 x2 x3 x4 x5 = some ρ → W p l e ({ frames := 1, cells := 0, slots := 0, locals := 21 } : Room) s m ([.ref (a_f 0), .ref (a_g 0), .int p2, .int p3] : List Value).toArray below meth c s.heap [] 0 0 (MQ below (vp_Si (fun r => r = ρ)) ([.ref (a_f 0), .ref (a_g 0), .int p2, .int p3] : List Value).toArray s 0 0 (fun _ => False)) (F0 m 11 ls []) := by
    intro n11
    induction n11 with
    | zero =>
      intro x2 x3 x4 x5 ls hl hf
      cases (show (none : Option (Int32)) = some ρ from hf)
    | succ n11 ih11 =>
      intro x2 x3 x4 x5 ls hl hf
      refine lv_iload hx hb dX0_firstEdgeLeaving_11 (lv_at hl 5 rfl) ?_
      refine lv_aload_n hx hb dX0_firstEdgeLeaving_13 rfl (lv_at hl 0 rfl) ?_
      refine va_get (D := D) (ci := 0) (C := RX0) (T := TX0) (N := 9) hx hb hT kwX0 hown hK.1 hP 0 rfl rfl 6 (by decide) (hT _ kf_X0_25) (fun _ h9 => h9) rfl dX0_firstEdgeLeaving_14 ?_
      refine lv_iload_n hx hb dX0_firstEdgeLeaving_17 rfl (lv_at hl 2 rfl) ?_
      obtain ⟨h_3, hf⟩ := chk_s hf
      refine va_iald hx hb hK.1 hP 4 0 rfl rfl (inb_in h_3) dX0_firstEdgeLeaving_18 ?_
      refine lv_icmp_ge (tgt := 47) hx hb dX0_firstEdgeLeaving_19 (by decide) (fun c_4 => ?_) (fun c_4 => ?_)
      · have hf := ite_t c_4 hf
        refine lv_iload hx hb dX0_firstEdgeLeaving_47 (lv_at hl 4 rfl) ?_
        refine lv_iconst (v := 2) hx hb dX0_firstEdgeLeaving_49 (by decide) ?_
        refine lv_idiv hx hb dX0_firstEdgeLeaving_50 (by decide) ?_
        exact W.iret hx hb hr (fun t ht hW => ⟨_, rfl, some_i hf, ht⟩) (fun _ h => by cases h) dX0_firstEdgeLeaving_51 (hlocks := hlk)
      · have hf := ite_f c_4 hf
        refine lv_aload_n hx hb dX0_firstEdgeLeaving_22 rfl (lv_at hl 1 rfl) ?_
        refine lv_iload hx hb dX0_firstEdgeLeaving_23 (lv_at hl 4 rfl) ?_
        obtain ⟨r_5, hcr_5, hf⟩ := bd1_s hf
        refine backI (runV0 C (c_X1_tailOf l D cA a_g g_nodes g_edges g_outer g_low g_high g_degree g_turns x4 N r_5 hcr_5) cf_X1_tailOf km_X0_64 ⟨rfl, rfl, by decide, by decide⟩ ⟨Nat.zero_le _, Nat.zero_le _⟩ (va_recv hK.1 hP (ci := 1) (q0 := 7) rfl rfl) (hP.sub [7, 8, 9, 10, 11] rfl) hK hl.1 rfl rfl (Nat.le_of_ble_eq_true rfl) dX0_firstEdgeLeaving_25) ?_
        refine lv_iload_n hx hb dX0_firstEdgeLeaving_28 rfl (lv_at hl 3 rfl) ?_
        refine lv_icmp_eq (tgt := 47) hx hb dX0_firstEdgeLeaving_29 (by decide) (fun c_6 => ?_) (fun c_6 => ?_)
        · have hf := ite_t c_6 hf
          refine lv_iload hx hb dX0_firstEdgeLeaving_47 (lv_at hl 4 rfl) ?_
          refine lv_iconst (v := 2) hx hb dX0_firstEdgeLeaving_49 (by decide) ?_
          refine lv_idiv hx hb dX0_firstEdgeLeaving_50 (by decide) ?_
          exact W.iret hx hb hr (fun t ht hW => ⟨_, rfl, some_i hf, ht⟩) (fun _ h => by cases h) dX0_firstEdgeLeaving_51 (hlocks := hlk)
        · have hf := ite_f c_6 hf
          refine lv_aload_n hx hb dX0_firstEdgeLeaving_32 rfl (lv_at hl 0 rfl) ?_
          refine va_get (D := D) (ci := 0) (C := RX0) (T := TX0) (N := 9) hx hb hT kwX0 hown hK.1 hP 0 rfl rfl 3 (by decide) (hT _ kf_X0_15) (fun _ h9 => h9) rfl dX0_firstEdgeLeaving_33 ?_
          refine lv_iload hx hb dX0_firstEdgeLeaving_36 (lv_at hl 4 rfl) ?_
          obtain ⟨h_7, hf⟩ := chk_s hf
          refine va_iald hx hb hK.1 hP 1 0 rfl rfl (inb_in h_7) dX0_firstEdgeLeaving_38 ?_
          refine lv_topi (fun x4_8 ex4_8 => ?_)
          have hf := nm_t ex4_8 hf
          refine lv_istore (lv' := [(4, .int x4_8), (0, .ref (a_f 0)), (1, .ref (a_g 0)), (2, .int x2), (3, .int x3), (5, .int x5)]) hx hb dX0_firstEdgeLeaving_39 hl (by decide) rfl (fun ls hl => ?_)
          refine lv_iinc (v := (x5 + 1)) (lv' := [(5, .int (x5 + 1)), (4, .int x4_8), (0, .ref (a_f 0)), (1, .ref (a_g 0)), (2, .int x2), (3, .int x3)]) hx hb dX0_firstEdgeLeaving_41 hl (k := 5) rfl rfl (by decide) rfl (fun ls hl => ?_)
          refine lv_goto (tgt := 11) hx hb dX0_firstEdgeLeaving_44 (by decide) ?_
          exact ih11 x2 x3 x4_8 (x5 + 1) _ (lv_sub hl [2, 3, 4, 5, 1, 0] rfl) hf
  refine lv_aload_n hx hb dX0_firstEdgeLeaving_0 rfl (lv_at hl 0 rfl) ?_
  refine va_get (D := D) (ci := 0) (C := RX0) (T := TX0) (N := 9) hx hb hT kwX0 hown hK.1 hP 0 rfl rfl 5 (by decide) (hT _ kf_X0_22) (fun _ h9 => h9) rfl dX0_firstEdgeLeaving_1 ?_
  refine lv_iload_n hx hb dX0_firstEdgeLeaving_4 rfl (lv_at hl 2 rfl) ?_
  obtain ⟨h_1, hf⟩ := chk_s hf
  refine va_iald hx hb hK.1 hP 3 0 rfl rfl (inb_in h_1) dX0_firstEdgeLeaving_5 ?_
  refine lv_topi (fun x4_2 ex4_2 => ?_)
  have hf := nm_t ex4_2 hf
  refine lv_istore (lv' := [(4, .int x4_2), (0, .ref (a_f 0)), (1, .ref (a_g 0)), (2, .int p2), (3, .int p3)]) hx hb dX0_firstEdgeLeaving_6 hl (by decide) rfl (fun ls hl => ?_)
  refine lv_iconst (v := 0) hx hb dX0_firstEdgeLeaving_8 (by decide) ?_
  refine lv_istore (lv' := [(5, .int 0), (4, .int x4_2), (0, .ref (a_f 0)), (1, .ref (a_g 0)), (2, .int p2), (3, .int p3)]) hx hb dX0_firstEdgeLeaving_9 hl (by decide) rfl (fun ls hl => ?_)
  exact B11 N p2 p3 x4_2 0 _ (lv_sub hl [2, 3, 4, 5, 1, 0] rfl) hf
set_option maxRecDepth 100000 in
set_option maxHeartbeats 4000000 in
theorem c_X0_holds (l : Launch) (D : va_G) (cA : Nat → ClassId) (a_f : Nat → Nat) (f_number : Int32) (f_components : Int32) (f_genus : Int32) (f_next : Nat → Int32) (f_owner : Nat → Int32) (f_first : Nat → Int32) (f_length : Nat → Int32) (f_nodeSet : Nat → Int32) (f_near : Nat → Int32) (p1 : Int32) (p2 : Int32) (N : Nat) (ρ : Int32) (hf : f_X0_holds N f_nodeSet p1 p2 = some ρ) : Met l yX0_holds (Cond.code yX0_holds cX0_holds 3 (Option.some Jvm.ClassFile.FieldType.boolean) :: lw_g) ({ frames := 1, cells := 0, slots := 0, locals := 21 } : Room) (PcS D (tyA cA) (wX0 cA a_f f_number f_components f_genus f_next f_owner f_first f_length f_nodeSet f_near) [.ref (a_f 0), .int p1, .int p2]) (vp_Si (fun r => r = ρ)) 0 0 (fun _ => False) := by
  refine mkS (by decide +kernel) (Nat.le_of_ble_eq_true rfl) fun p e s m below meth c ls C hl hP hK => ?_
  obtain ⟨hx, hb, hml, hown, hT, hr, hlk⟩ := id C
  have hl : lv_has ls 3 [(0, .ref (a_f 0)), (1, .int p1), (2, .int p2)] := hl
  refine lv_aload_n hx hb dX0_holds_0 rfl (lv_at hl 0 rfl) ?_
  refine va_get (D := D) (ci := 0) (C := RX0) (T := TX0) (N := 9) hx hb hT kwX0 hown hK.1 hP 0 rfl rfl 7 (by decide) (hT _ kf_X0_28) (fun _ h9 => h9) rfl dX0_holds_1 ?_
  refine lv_iload_n hx hb dX0_holds_4 rfl (lv_at hl 1 rfl) ?_
  obtain ⟨h_1, hf⟩ := chk_s hf
  refine va_iald hx hb hK.1 hP 5 0 rfl rfl (inb_in h_1) dX0_holds_5 ?_
  refine lv_iload_n hx hb dX0_holds_6 rfl (lv_at hl 2 rfl) ?_
  obtain ⟨r_2, hcr_2, hf⟩ := bd1_s hf
  refine backI (runN0 C (c_X7_contains l D cA (f_nodeSet p1.toNatClampNeg) p2 N r_2 hcr_2) cf_X7_contains kn_X0_73 ⟨rfl, rfl, by decide, by decide⟩ ⟨Nat.zero_le _, Nat.zero_le _⟩ (hP.sub [] rfl) hK hl.1 rfl rfl (Nat.le_of_ble_eq_true rfl) dX0_holds_7) ?_
  obtain ⟨h_3, hf⟩ := chk_s hf
  exact W.zret hx hb hr (isB_n h_3) (fun t ht hW => ⟨_, rfl, some_i hf, ht⟩) (fun _ h => by cases h) dX0_holds_10 (hlocks := hlk)
set_option maxRecDepth 100000 in
set_option maxHeartbeats 4000000 in
theorem c_X0_walkFrom (l : Launch) (D : va_G) (cA : Nat → ClassId) (a_f : Nat → Nat) (a_g : Nat → Nat) (f_number : Int32) (f_components : Int32) (f_genus : Int32) (f_next : Nat → Int32) (f_owner : Nat → Int32) (f_first : Nat → Int32) (f_length : Nat → Int32) (f_nodeSet : Nat → Int32) (f_near : Nat → Int32) (g_nodes : Int32) (g_edges : Int32) (g_outer : Int32) (g_low : Nat → Int32) (g_high : Nat → Int32) (g_degree : Nat → Int32) (g_turns : Nat → Int32) (p2 : Int32) (sz N : Nat) (ρ : Int32 × (Nat → Int32) × (Nat → Int32) × (Nat → Int32) × (Nat → Int32)) (hf : f_X0_walkFrom N f_number f_next f_owner f_first f_length f_nodeSet g_low g_high p2 = some ρ) : Met l yX0_walkFrom (Cond.code yX0_walkFrom cX0_walkFrom 5 (Option.none : Option Jvm.ClassFile.FieldType) :: lw_g) ({ frames := 1, cells := 0, slots := 0, locals := 21 } : Room) (PcW D (tyA cA) (wX0 cA a_f f_number f_components f_genus f_next f_owner f_first f_length f_nodeSet f_near ++ (wX1 cA a_g g_nodes g_edges g_outer g_low g_high g_degree g_turns)) sz [.ref (a_f 0), .ref (a_g 0), .int p2]) (va_Qv (fun (_ : Unit) => True) (fun _ t => va_P D vwCl (wX0 cA a_f ρ.1 f_components f_genus f_next ρ.2.1 ρ.2.2.1 ρ.2.2.2.1 ρ.2.2.2.2 f_near ++ (wX1 cA a_g g_nodes g_edges g_outer g_low g_high g_degree g_turns)) t.heap ∧ va_D (va_A (wX0 cA a_f f_number f_components f_genus f_next f_owner f_first f_length f_nodeSet f_near ++ (wX1 cA a_g g_nodes g_edges g_outer g_low g_high g_degree g_turns)) sz) (wX0 cA a_f ρ.1 f_components f_genus f_next ρ.2.1 ρ.2.2.1 ρ.2.2.2.1 ρ.2.2.2.2 f_near ++ (wX1 cA a_g g_nodes g_edges g_outer g_low g_high g_degree g_turns))) (va_A (wX0 cA a_f f_number f_components f_genus f_next f_owner f_first f_length f_nodeSet f_near ++ (wX1 cA a_g g_nodes g_edges g_outer g_low g_high g_degree g_turns)) sz)) 0 0 (va_A (wX0 cA a_f f_number f_components f_genus f_next f_owner f_first f_length f_nodeSet f_near ++ (wX1 cA a_g g_nodes g_edges g_outer g_low g_high g_degree g_turns)) sz) := by
  refine mkW (QQ := fun A => va_Qv (fun (_ : Unit) => True) (fun _ t => va_P D vwCl (wX0 cA a_f ρ.1 f_components f_genus f_next ρ.2.1 ρ.2.2.1 ρ.2.2.2.1 ρ.2.2.2.2 f_near ++ (wX1 cA a_g g_nodes g_edges g_outer g_low g_high g_degree g_turns)) t.heap ∧ va_D A (wX0 cA a_f ρ.1 f_components f_genus f_next ρ.2.1 ρ.2.2.1 ρ.2.2.2.1 ρ.2.2.2.2 f_near ++ (wX1 cA a_g g_nodes g_edges g_outer g_low g_high g_degree g_turns))) A) (by decide) (Nat.le_of_ble_eq_true rfl) fun p e s m below meth c ls A C hl hP hK hD hA hS => ?_
  obtain ⟨hx, hb, hml, hown, hT, hr, hlk⟩ := id C
  have hl : lv_has ls 5 [(0, .ref (a_f 0)), (1, .ref (a_g 0)), (2, .int p2)] := hl
  have B107 : ∀ (f_number : Int32) (f_owner : Nat → Int32) (f_first : Nat → Int32) (f_length : Nat → Int32) (f_nodeSet : Nat → Int32) (H : Heap) (locs : List Loc) (ls : Array Slot), lv_has ls 5 [(0, .ref (a_f 0))] → va_P D vwCl (wX0 cA a_f f_number f_components f_genus f_next f_owner f_first f_length f_nodeSet f_near ++ (wX1 cA a_g g_nodes g_edges g_outer g_low g_high g_degree g_turns)) H → va_D A (wX0 cA a_f f_number f_components f_genus f_next f_owner f_first f_length f_nodeSet f_near ++ (wX1 cA a_g g_nodes g_edges g_outer g_low g_high g_degree g_turns)) → va_S A s.heap H locs → f_X0_walkFrom_b107 N f_next g_low g_high f_number f_owner f_first f_length f_nodeSet = some ρ → W p l e ({ frames := 1, cells := 0, slots := 0, locals := 21 } : Room) s m ([.ref (a_f 0), .ref (a_g 0), .int p2] : List Value).toArray below meth c H locs 0 0 (MQ below (va_Qv (fun (_ : Unit) => True) (fun _ t => va_P D vwCl (wX0 cA a_f ρ.1 f_components f_genus f_next ρ.2.1 ρ.2.2.1 ρ.2.2.2.1 ρ.2.2.2.2 f_near ++ (wX1 cA a_g g_nodes g_edges g_outer g_low g_high g_degree g_turns)) t.heap ∧ va_D A (wX0 cA a_f ρ.1 f_components f_genus f_next ρ.2.1 ρ.2.2.1 ρ.2.2.2.1 ρ.2.2.2.2 f_near ++ (wX1 cA a_g g_nodes g_edges g_outer g_low g_high g_degree g_turns))) A) ([.ref (a_f 0), .ref (a_g 0), .int p2] : List Value).toArray s 0 0 A) (F0 m 107 ls []) := by
    intro f_number f_owner f_first f_length f_nodeSet H locs ls hl hP hD hS hf
    refine lv_aload_n hx hb dX0_walkFrom_107 rfl (lv_at hl 0 rfl) ?_
    refine lv_dup hx hb dX0_walkFrom_108 rfl ?_
    refine va_get (D := D) (ci := 0) (C := RX0) (T := TX0) (N := 9) hx hb hT kwX0 hown hK.1 hP 0 rfl rfl 0 (by decide) (hT _ kf_X0_34) (fun _ h9 => h9) rfl dX0_walkFrom_109 ?_
    refine lv_iconst (v := 1) hx hb dX0_walkFrom_112 (by decide) ?_
    refine lv_iadd hx hb dX0_walkFrom_113 ?_
    refine va_put (D := D) (ci := 0) (v := .int (f_number + 1)) (ty := .int) (C := RX0) (T := TX0) (N := 9) hx hb hT kwX0 tyX0 tyX0_ok nmX0 hown hK.1 hP hD hS 0 rfl rfl 0 (by decide) (hT _ kf_X0_34) (fun _ h9 => h9) rfl (by decide +kernel) rfl rfl (Nat.le_of_ble_eq_true rfl) dX0_walkFrom_114 (fun H locs hP hD hS => ?_)
    have hP : va_P D vwCl (wX0 cA a_f (f_number + 1) f_components f_genus f_next f_owner f_first f_length f_nodeSet f_near ++ (wX1 cA a_g g_nodes g_edges g_outer g_low g_high g_degree g_turns)) H := hP
    have hD : va_D A (wX0 cA a_f (f_number + 1) f_components f_genus f_next f_owner f_first f_length f_nodeSet f_near ++ (wX1 cA a_g g_nodes g_edges g_outer g_low g_high g_degree g_turns)) := hD
    have eR := some_i hf
    exact W.vret hx hb hr (fun t ht hW => ⟨⟨(), rfl, trivial, by rw [← eR, ht]; exact hP, by rw [← eR]; exact hD⟩, hS.F ht⟩) hS.2.2 dX0_walkFrom_117 (hlocks := hlk)
  have B35 : ∀ (n35 : Nat), ∀ (x3 : Int32) (x4 : Int32) (f_number : Int32) (f_owner : Nat → Int32) (f_first : Nat → Int32) (f_length : Nat → Int32) (f_nodeSet : Nat → Int32) (H : Heap) (locs : List Loc) (ls : Array Slot), lv_has ls 5 [(0, .ref (a_f 0)), (1, .ref (a_g 0)), (3, .int x3), (4, .int x4)] → va_P D vwCl (wX0 cA a_f f_number f_components f_genus f_next f_owner f_first f_length f_nodeSet f_near ++ (wX1 cA a_g g_nodes g_edges g_outer g_low g_high g_degree g_turns)) H → va_D A (wX0 cA a_f f_number f_components f_genus f_next f_owner f_first f_length f_nodeSet f_near ++ (wX1 cA a_g g_nodes g_edges g_outer g_low g_high g_degree g_turns)) → va_S A s.heap H locs → f_X0_walkFrom_b35 N f_next g_low g_high n35 x3 x4 f_number f_owner f_first f_length f_nodeSet = some ρ → W p l e ({ frames := 1, cells := 0, slots := 0, locals := 21 } : Room) s m ([.ref (a_f 0), .ref (a_g 0), .int p2] : List Value).toArray below meth c H locs 0 0 (MQ below (va_Qv (fun (_ : Unit) => True) (fun _ t => va_P D vwCl (wX0 cA a_f ρ.1 f_components f_genus f_next ρ.2.1 ρ.2.2.1 ρ.2.2.2.1 ρ.2.2.2.2 f_near ++ (wX1 cA a_g g_nodes g_edges g_outer g_low g_high g_degree g_turns)) t.heap ∧ va_D A (wX0 cA a_f ρ.1 f_components f_genus f_next ρ.2.1 ρ.2.2.1 ρ.2.2.2.1 ρ.2.2.2.2 f_near ++ (wX1 cA a_g g_nodes g_edges g_outer g_low g_high g_degree g_turns))) A) ([.ref (a_f 0), .ref (a_g 0), .int p2] : List Value).toArray s 0 0 A) (F0 m 35 ls []) := by
    intro n35
    induction n35 with
    | zero =>
      intro x3 x4 f_number f_owner f_first f_length f_nodeSet H locs ls hl hP hD hS hf
      cases (show (none : Option (Int32 × (Nat → Int32) × (Nat → Int32) × (Nat → Int32) × (Nat → Int32))) = some ρ from hf)
    | succ n35 ih35 =>
      intro x3 x4 f_number f_owner f_first f_length f_nodeSet H locs ls hl hP hD hS hf
      refine lv_iload hx hb dX0_walkFrom_35 (lv_at hl 3 rfl) ?_
      refine lv_bipush (v := 40) hx hb dX0_walkFrom_37 (by decide) ?_
      refine lv_icmp_ge (tgt := 107) hx hb dX0_walkFrom_39 (by decide) (fun c_4 => ?_) (fun c_4 => ?_)
      · have hf := ite_t c_4 hf
        exact B107 f_number f_owner f_first f_length f_nodeSet _ _ _ (lv_sub hl [0] rfl) hP hD hS hf
      · have hf := ite_f c_4 hf
        refine lv_aload_n hx hb dX0_walkFrom_42 rfl (lv_at hl 0 rfl) ?_
        refine va_get (D := D) (ci := 0) (C := RX0) (T := TX0) (N := 9) hx hb hT kwX0 hown hK.1 hP 0 rfl rfl 4 (by decide) (hT _ kf_X0_19) (fun _ h9 => h9) rfl dX0_walkFrom_43 ?_
        refine lv_iload_n hx hb dX0_walkFrom_46 rfl (lv_at hl 2 rfl) ?_
        obtain ⟨h_5, hf⟩ := chk_s hf
        refine va_iald hx hb hK.1 hP 2 0 rfl rfl (inb_in h_5) dX0_walkFrom_47 ?_
        refine lv_if_ge (tgt := 107) hx hb dX0_walkFrom_48 (by decide) (fun c_6 => ?_) (fun c_6 => ?_)
        · have hf := ite_t c_6 hf
          exact B107 f_number f_owner f_first f_length f_nodeSet _ _ _ (lv_sub hl [0] rfl) hP hD hS hf
        · have hf := ite_f c_6 hf
          refine lv_aload_n hx hb dX0_walkFrom_51 rfl (lv_at hl 0 rfl) ?_
          refine va_get (D := D) (ci := 0) (C := RX0) (T := TX0) (N := 9) hx hb hT kwX0 hown hK.1 hP 0 rfl rfl 4 (by decide) (hT _ kf_X0_19) (fun _ h9 => h9) rfl dX0_walkFrom_52 ?_
          refine lv_iload_n hx hb dX0_walkFrom_55 rfl (lv_at hl 2 rfl) ?_
          refine lv_aload_n hx hb dX0_walkFrom_56 rfl (lv_at hl 0 rfl) ?_
          refine va_get (D := D) (ci := 0) (C := RX0) (T := TX0) (N := 9) hx hb hT kwX0 hown hK.1 hP 0 rfl rfl 0 (by decide) (hT _ kf_X0_34) (fun _ h9 => h9) rfl dX0_walkFrom_57 ?_
          obtain ⟨h_7, hf⟩ := chk_s hf
          refine va_iast hx hb hK.1 hP hD hS 2 0 rfl rfl (inb_in h_7) dX0_walkFrom_60 (fun H locs hP hD hS => ?_)
          have hP : va_P D vwCl (wX0 cA a_f f_number f_components f_genus f_next (upd f_owner x3.toNatClampNeg f_number) f_first f_length f_nodeSet f_near ++ (wX1 cA a_g g_nodes g_edges g_outer g_low g_high g_degree g_turns)) H := hP
          have hD : va_D A (wX0 cA a_f f_number f_components f_genus f_next (upd f_owner x3.toNatClampNeg f_number) f_first f_length f_nodeSet f_near ++ (wX1 cA a_g g_nodes g_edges g_outer g_low g_high g_degree g_turns)) := hD
          refine lv_aload_n hx hb dX0_walkFrom_61 rfl (lv_at hl 0 rfl) ?_
          refine va_get (D := D) (ci := 0) (C := RX0) (T := TX0) (N := 9) hx hb hT kwX0 hown hK.1 hP 0 rfl rfl 6 (by decide) (hT _ kf_X0_25) (fun _ h9 => h9) rfl dX0_walkFrom_62 ?_
          refine lv_aload_n hx hb dX0_walkFrom_65 rfl (lv_at hl 0 rfl) ?_
          refine va_get (D := D) (ci := 0) (C := RX0) (T := TX0) (N := 9) hx hb hT kwX0 hown hK.1 hP 0 rfl rfl 0 (by decide) (hT _ kf_X0_34) (fun _ h9 => h9) rfl dX0_walkFrom_66 ?_
          refine lv_dup2_11 hx hb dX0_walkFrom_69 rfl rfl ?_
          obtain ⟨h_8, hf⟩ := chk_s hf
          refine va_iald hx hb hK.1 hP 4 0 rfl rfl (inb_in h_8) dX0_walkFrom_70 ?_
          refine lv_iconst (v := 1) hx hb dX0_walkFrom_71 (by decide) ?_
          refine lv_iadd hx hb dX0_walkFrom_72 ?_
          obtain ⟨h_9, hf⟩ := chk_s hf
          refine va_iast hx hb hK.1 hP hD hS 4 0 rfl rfl (inb_in h_9) dX0_walkFrom_73 (fun H locs hP hD hS => ?_)
          have hP : va_P D vwCl (wX0 cA a_f f_number f_components f_genus f_next (upd f_owner x3.toNatClampNeg f_number) f_first (upd f_length f_number.toNatClampNeg ((f_length f_number.toNatClampNeg) + 1)) f_nodeSet f_near ++ (wX1 cA a_g g_nodes g_edges g_outer g_low g_high g_degree g_turns)) H := hP
          have hD : va_D A (wX0 cA a_f f_number f_components f_genus f_next (upd f_owner x3.toNatClampNeg f_number) f_first (upd f_length f_number.toNatClampNeg ((f_length f_number.toNatClampNeg) + 1)) f_nodeSet f_near ++ (wX1 cA a_g g_nodes g_edges g_outer g_low g_high g_degree g_turns)) := hD
          refine lv_aload_n hx hb dX0_walkFrom_74 rfl (lv_at hl 0 rfl) ?_
          refine va_get (D := D) (ci := 0) (C := RX0) (T := TX0) (N := 9) hx hb hT kwX0 hown hK.1 hP 0 rfl rfl 7 (by decide) (hT _ kf_X0_28) (fun _ h9 => h9) rfl dX0_walkFrom_75 ?_
          refine lv_aload_n hx hb dX0_walkFrom_78 rfl (lv_at hl 0 rfl) ?_
          refine va_get (D := D) (ci := 0) (C := RX0) (T := TX0) (N := 9) hx hb hT kwX0 hown hK.1 hP 0 rfl rfl 0 (by decide) (hT _ kf_X0_34) (fun _ h9 => h9) rfl dX0_walkFrom_79 ?_
          refine lv_dup2_11 hx hb dX0_walkFrom_82 rfl rfl ?_
          obtain ⟨h_10, hf⟩ := chk_s hf
          refine va_iald hx hb hK.1 hP 5 0 rfl rfl (inb_in h_10) dX0_walkFrom_83 ?_
          refine lv_aload_n hx hb dX0_walkFrom_84 rfl (lv_at hl 1 rfl) ?_
          refine lv_iload_n hx hb dX0_walkFrom_85 rfl (lv_at hl 2 rfl) ?_
          obtain ⟨r_11, hcr_11, hf⟩ := bd1_s hf
          refine backI (runV0 C (c_X1_tailOf l D cA a_g g_nodes g_edges g_outer g_low g_high g_degree g_turns x3 N r_11 hcr_11) cf_X1_tailOf km_X0_64 ⟨rfl, rfl, by decide, by decide⟩ ⟨Nat.zero_le _, Nat.zero_le _⟩ (va_recv hK.1 hP (ci := 1) (q0 := 7) rfl rfl) (hP.sub [7, 8, 9, 10, 11] rfl) hK hl.1 rfl rfl (Nat.le_of_ble_eq_true rfl) dX0_walkFrom_86) ?_
          obtain ⟨r_12, hcr_12, hf⟩ := bd1_s hf
          refine backI (runN0 C (c_X7_bit l D cA r_11 N r_12 hcr_12) cf_X7_bit kn_X0_67 ⟨rfl, rfl, by decide, by decide⟩ ⟨Nat.zero_le _, Nat.zero_le _⟩ (hP.sub [] rfl) hK hl.1 rfl rfl (Nat.le_of_ble_eq_true rfl) dX0_walkFrom_89) ?_
          refine lv_ior hx hb dX0_walkFrom_92 ?_
          obtain ⟨h_13, hf⟩ := chk_s hf
          refine va_iast hx hb hK.1 hP hD hS 5 0 rfl rfl (inb_in h_13) dX0_walkFrom_93 (fun H locs hP hD hS => ?_)
          have hP : va_P D vwCl (wX0 cA a_f f_number f_components f_genus f_next (upd f_owner x3.toNatClampNeg f_number) f_first (upd f_length f_number.toNatClampNeg ((f_length f_number.toNatClampNeg) + 1)) (upd f_nodeSet f_number.toNatClampNeg ((f_nodeSet f_number.toNatClampNeg) ||| r_12)) f_near ++ (wX1 cA a_g g_nodes g_edges g_outer g_low g_high g_degree g_turns)) H := hP
          have hD : va_D A (wX0 cA a_f f_number f_components f_genus f_next (upd f_owner x3.toNatClampNeg f_number) f_first (upd f_length f_number.toNatClampNeg ((f_length f_number.toNatClampNeg) + 1)) (upd f_nodeSet f_number.toNatClampNeg ((f_nodeSet f_number.toNatClampNeg) ||| r_12)) f_near ++ (wX1 cA a_g g_nodes g_edges g_outer g_low g_high g_degree g_turns)) := hD
          refine lv_aload_n hx hb dX0_walkFrom_94 rfl (lv_at hl 0 rfl) ?_
          refine va_get (D := D) (ci := 0) (C := RX0) (T := TX0) (N := 9) hx hb hT kwX0 hown hK.1 hP 0 rfl rfl 3 (by decide) (hT _ kf_X0_15) (fun _ h9 => h9) rfl dX0_walkFrom_95 ?_
          refine lv_iload_n hx hb dX0_walkFrom_98 rfl (lv_at hl 2 rfl) ?_
          obtain ⟨h_14, hf⟩ := chk_s hf
          refine va_iald hx hb hK.1 hP 1 0 rfl rfl (inb_in h_14) dX0_walkFrom_99 ?_
          refine lv_topi (fun x3_15 ex3_15 => ?_)
          have hf := nm_t ex3_15 hf
          refine lv_istore_n (lv' := [(3, .int x3_15), (0, .ref (a_f 0)), (1, .ref (a_g 0)), (4, .int x4)]) hx hb dX0_walkFrom_100 rfl hl (by decide) rfl (fun ls hl => ?_)
          refine lv_iinc (v := (x4 + 1)) (lv' := [(4, .int (x4 + 1)), (3, .int x3_15), (0, .ref (a_f 0)), (1, .ref (a_g 0))]) hx hb dX0_walkFrom_101 hl (k := 3) rfl rfl (by decide) rfl (fun ls hl => ?_)
          refine lv_goto (tgt := 35) hx hb dX0_walkFrom_104 (by decide) ?_
          exact ih35 x3_15 (x4 + 1) f_number (upd f_owner x3.toNatClampNeg f_number) f_first (upd f_length f_number.toNatClampNeg ((f_length f_number.toNatClampNeg) + 1)) (upd f_nodeSet f_number.toNatClampNeg ((f_nodeSet f_number.toNatClampNeg) ||| r_12)) _ _ _ (lv_sub hl [2, 3, 1, 0] rfl) hP hD hS hf
  refine lv_aload_n hx hb dX0_walkFrom_0 rfl (lv_at hl 0 rfl) ?_
  refine va_get (D := D) (ci := 0) (C := RX0) (T := TX0) (N := 9) hx hb hT kwX0 hown hK.1 hP 0 rfl rfl 5 (by decide) (hT _ kf_X0_22) (fun _ h9 => h9) rfl dX0_walkFrom_1 ?_
  refine lv_aload_n hx hb dX0_walkFrom_4 rfl (lv_at hl 0 rfl) ?_
  refine va_get (D := D) (ci := 0) (C := RX0) (T := TX0) (N := 9) hx hb hT kwX0 hown hK.1 hP 0 rfl rfl 0 (by decide) (hT _ kf_X0_34) (fun _ h9 => h9) rfl dX0_walkFrom_5 ?_
  refine lv_iload_n hx hb dX0_walkFrom_8 rfl (lv_at hl 2 rfl) ?_
  obtain ⟨h_1, hf⟩ := chk_s hf
  refine va_iast hx hb hK.1 hP hD hS 3 0 rfl rfl (inb_in h_1) dX0_walkFrom_9 (fun H locs hP hD hS => ?_)
  have hP : va_P D vwCl (wX0 cA a_f f_number f_components f_genus f_next f_owner (upd f_first f_number.toNatClampNeg p2) f_length f_nodeSet f_near ++ (wX1 cA a_g g_nodes g_edges g_outer g_low g_high g_degree g_turns)) H := hP
  have hD : va_D A (wX0 cA a_f f_number f_components f_genus f_next f_owner (upd f_first f_number.toNatClampNeg p2) f_length f_nodeSet f_near ++ (wX1 cA a_g g_nodes g_edges g_outer g_low g_high g_degree g_turns)) := hD
  refine lv_aload_n hx hb dX0_walkFrom_10 rfl (lv_at hl 0 rfl) ?_
  refine va_get (D := D) (ci := 0) (C := RX0) (T := TX0) (N := 9) hx hb hT kwX0 hown hK.1 hP 0 rfl rfl 6 (by decide) (hT _ kf_X0_25) (fun _ h9 => h9) rfl dX0_walkFrom_11 ?_
  refine lv_aload_n hx hb dX0_walkFrom_14 rfl (lv_at hl 0 rfl) ?_
  refine va_get (D := D) (ci := 0) (C := RX0) (T := TX0) (N := 9) hx hb hT kwX0 hown hK.1 hP 0 rfl rfl 0 (by decide) (hT _ kf_X0_34) (fun _ h9 => h9) rfl dX0_walkFrom_15 ?_
  refine lv_iconst (v := 0) hx hb dX0_walkFrom_18 (by decide) ?_
  obtain ⟨h_2, hf⟩ := chk_s hf
  refine va_iast hx hb hK.1 hP hD hS 4 0 rfl rfl (inb_in h_2) dX0_walkFrom_19 (fun H locs hP hD hS => ?_)
  have hP : va_P D vwCl (wX0 cA a_f f_number f_components f_genus f_next f_owner (upd f_first f_number.toNatClampNeg p2) (upd f_length f_number.toNatClampNeg 0) f_nodeSet f_near ++ (wX1 cA a_g g_nodes g_edges g_outer g_low g_high g_degree g_turns)) H := hP
  have hD : va_D A (wX0 cA a_f f_number f_components f_genus f_next f_owner (upd f_first f_number.toNatClampNeg p2) (upd f_length f_number.toNatClampNeg 0) f_nodeSet f_near ++ (wX1 cA a_g g_nodes g_edges g_outer g_low g_high g_degree g_turns)) := hD
  refine lv_aload_n hx hb dX0_walkFrom_20 rfl (lv_at hl 0 rfl) ?_
  refine va_get (D := D) (ci := 0) (C := RX0) (T := TX0) (N := 9) hx hb hT kwX0 hown hK.1 hP 0 rfl rfl 7 (by decide) (hT _ kf_X0_28) (fun _ h9 => h9) rfl dX0_walkFrom_21 ?_
  refine lv_aload_n hx hb dX0_walkFrom_24 rfl (lv_at hl 0 rfl) ?_
  refine va_get (D := D) (ci := 0) (C := RX0) (T := TX0) (N := 9) hx hb hT kwX0 hown hK.1 hP 0 rfl rfl 0 (by decide) (hT _ kf_X0_34) (fun _ h9 => h9) rfl dX0_walkFrom_25 ?_
  refine lv_iconst (v := 0) hx hb dX0_walkFrom_28 (by decide) ?_
  obtain ⟨h_3, hf⟩ := chk_s hf
  refine va_iast hx hb hK.1 hP hD hS 5 0 rfl rfl (inb_in h_3) dX0_walkFrom_29 (fun H locs hP hD hS => ?_)
  have hP : va_P D vwCl (wX0 cA a_f f_number f_components f_genus f_next f_owner (upd f_first f_number.toNatClampNeg p2) (upd f_length f_number.toNatClampNeg 0) (upd f_nodeSet f_number.toNatClampNeg 0) f_near ++ (wX1 cA a_g g_nodes g_edges g_outer g_low g_high g_degree g_turns)) H := hP
  have hD : va_D A (wX0 cA a_f f_number f_components f_genus f_next f_owner (upd f_first f_number.toNatClampNeg p2) (upd f_length f_number.toNatClampNeg 0) (upd f_nodeSet f_number.toNatClampNeg 0) f_near ++ (wX1 cA a_g g_nodes g_edges g_outer g_low g_high g_degree g_turns)) := hD
  refine lv_iload_n hx hb dX0_walkFrom_30 rfl (lv_at hl 2 rfl) ?_
  refine lv_istore_n (lv' := [(3, .int p2), (0, .ref (a_f 0)), (1, .ref (a_g 0)), (2, .int p2)]) hx hb dX0_walkFrom_31 rfl hl (by decide) rfl (fun ls hl => ?_)
  refine lv_iconst (v := 0) hx hb dX0_walkFrom_32 (by decide) ?_
  refine lv_istore (lv' := [(4, .int 0), (3, .int p2), (0, .ref (a_f 0)), (1, .ref (a_g 0)), (2, .int p2)]) hx hb dX0_walkFrom_33 hl (by decide) rfl (fun ls hl => ?_)
  exact B35 N p2 0 f_number f_owner (upd f_first f_number.toNatClampNeg p2) (upd f_length f_number.toNatClampNeg 0) (upd f_nodeSet f_number.toNatClampNeg 0) _ _ _ (lv_sub hl [2, 3, 1, 0] rfl) hP hD hS hf
set_option maxRecDepth 100000 in
set_option maxHeartbeats 4000000 in
theorem c_X0_trace (l : Launch) (D : va_G) (cA : Nat → ClassId) (a_f : Nat → Nat) (a_g : Nat → Nat) (f_number : Int32) (f_components : Int32) (f_genus : Int32) (f_next : Nat → Int32) (f_owner : Nat → Int32) (f_first : Nat → Int32) (f_length : Nat → Int32) (f_nodeSet : Nat → Int32) (f_near : Nat → Int32) (g_nodes : Int32) (g_edges : Int32) (g_outer : Int32) (g_low : Nat → Int32) (g_high : Nat → Int32) (g_degree : Nat → Int32) (g_turns : Nat → Int32) (sz N : Nat) (ρ : Int32 × Int32 × Int32 × (Nat → Int32) × (Nat → Int32) × (Nat → Int32) × (Nat → Int32) × (Nat → Int32) × (Nat → Int32)) (hf : f_X0_trace N f_number f_components f_genus f_next f_owner f_first f_length f_nodeSet f_near g_nodes g_edges g_low g_high g_degree g_turns = some ρ) : Met l yX0_trace (Cond.code yX0_trace cX0_trace 3 (Option.none : Option Jvm.ClassFile.FieldType) :: lw_g) ({ frames := 4, cells := 0, slots := 0, locals := 94 } : Room) (PcW D (tyA cA) (wX0 cA a_f f_number f_components f_genus f_next f_owner f_first f_length f_nodeSet f_near ++ (wX1 cA a_g g_nodes g_edges g_outer g_low g_high g_degree g_turns)) sz [.ref (a_f 0), .ref (a_g 0)]) (va_Qv (fun (_ : Unit) => True) (fun _ t => va_P D vwCl (wX0 cA a_f ρ.1 ρ.2.1 ρ.2.2.1 ρ.2.2.2.1 ρ.2.2.2.2.1 ρ.2.2.2.2.2.1 ρ.2.2.2.2.2.2.1 ρ.2.2.2.2.2.2.2.1 ρ.2.2.2.2.2.2.2.2 ++ (wX1 cA a_g g_nodes g_edges g_outer g_low g_high g_degree g_turns)) t.heap ∧ va_D (va_A (wX0 cA a_f f_number f_components f_genus f_next f_owner f_first f_length f_nodeSet f_near ++ (wX1 cA a_g g_nodes g_edges g_outer g_low g_high g_degree g_turns)) sz) (wX0 cA a_f ρ.1 ρ.2.1 ρ.2.2.1 ρ.2.2.2.1 ρ.2.2.2.2.1 ρ.2.2.2.2.2.1 ρ.2.2.2.2.2.2.1 ρ.2.2.2.2.2.2.2.1 ρ.2.2.2.2.2.2.2.2 ++ (wX1 cA a_g g_nodes g_edges g_outer g_low g_high g_degree g_turns))) (va_A (wX0 cA a_f f_number f_components f_genus f_next f_owner f_first f_length f_nodeSet f_near ++ (wX1 cA a_g g_nodes g_edges g_outer g_low g_high g_degree g_turns)) sz)) 0 0 (va_A (wX0 cA a_f f_number f_components f_genus f_next f_owner f_first f_length f_nodeSet f_near ++ (wX1 cA a_g g_nodes g_edges g_outer g_low g_high g_degree g_turns)) sz) := by
  refine mkW (QQ := fun A => va_Qv (fun (_ : Unit) => True) (fun _ t => va_P D vwCl (wX0 cA a_f ρ.1 ρ.2.1 ρ.2.2.1 ρ.2.2.2.1 ρ.2.2.2.2.1 ρ.2.2.2.2.2.1 ρ.2.2.2.2.2.2.1 ρ.2.2.2.2.2.2.2.1 ρ.2.2.2.2.2.2.2.2 ++ (wX1 cA a_g g_nodes g_edges g_outer g_low g_high g_degree g_turns)) t.heap ∧ va_D A (wX0 cA a_f ρ.1 ρ.2.1 ρ.2.2.1 ρ.2.2.2.1 ρ.2.2.2.2.1 ρ.2.2.2.2.2.1 ρ.2.2.2.2.2.2.1 ρ.2.2.2.2.2.2.2.1 ρ.2.2.2.2.2.2.2.2 ++ (wX1 cA a_g g_nodes g_edges g_outer g_low g_high g_degree g_turns))) A) (by decide) (Nat.le_of_ble_eq_true rfl) fun p e s m below meth c ls A C hl hP hK hD hA hS => ?_
  obtain ⟨hx, hb, hml, hown, hT, hr, hlk⟩ := id C
  have hl : lv_has ls 3 [(0, .ref (a_f 0)), (1, .ref (a_g 0))] := hl
  have B75 : ∀ (f_number : Int32) (f_components : Int32) (f_genus : Int32) (f_next : Nat → Int32) (f_owner : Nat → Int32) (f_first : Nat → Int32) (f_length : Nat → Int32) (f_nodeSet : Nat → Int32) (f_near : Nat → Int32) (H : Heap) (locs : List Loc) (ls : Array Slot), lv_has ls 3 [(0, .ref (a_f 0)), (1, .ref (a_g 0))] → va_P D vwCl (wX0 cA a_f f_number f_components f_genus f_next f_owner f_first f_length f_nodeSet f_near ++ (wX1 cA a_g g_nodes g_edges g_outer g_low g_high g_degree g_turns)) H → va_D A (wX0 cA a_f f_number f_components f_genus f_next f_owner f_first f_length f_nodeSet f_near ++ (wX1 cA a_g g_nodes g_edges g_outer g_low g_high g_degree g_turns)) → va_S A s.heap H locs → f_X0_trace_b75 N g_nodes g_edges g_low g_high g_degree g_turns f_number f_components f_genus f_next f_owner f_first f_length f_nodeSet f_near = some ρ → W p l e ({ frames := 4, cells := 0, slots := 0, locals := 94 } : Room) s m ([.ref (a_f 0), .ref (a_g 0)] : List Value).toArray below meth c H locs 0 0 (MQ below (va_Qv (fun (_ : Unit) => True) (fun _ t => va_P D vwCl (wX0 cA a_f ρ.1 ρ.2.1 ρ.2.2.1 ρ.2.2.2.1 ρ.2.2.2.2.1 ρ.2.2.2.2.2.1 ρ.2.2.2.2.2.2.1 ρ.2.2.2.2.2.2.2.1 ρ.2.2.2.2.2.2.2.2 ++ (wX1 cA a_g g_nodes g_edges g_outer g_low g_high g_degree g_turns)) t.heap ∧ va_D A (wX0 cA a_f ρ.1 ρ.2.1 ρ.2.2.1 ρ.2.2.2.1 ρ.2.2.2.2.1 ρ.2.2.2.2.2.1 ρ.2.2.2.2.2.2.1 ρ.2.2.2.2.2.2.2.1 ρ.2.2.2.2.2.2.2.2 ++ (wX1 cA a_g g_nodes g_edges g_outer g_low g_high g_degree g_turns))) A) ([.ref (a_f 0), .ref (a_g 0)] : List Value).toArray s 0 0 A) (F0 m 75 ls []) := by
    intro f_number f_components f_genus f_next f_owner f_first f_length f_nodeSet f_near H locs ls hl hP hD hS hf
    refine lv_aload_n hx hb dX0_trace_75 rfl (lv_at hl 1 rfl) ?_
    refine lv_aload_n hx hb dX0_trace_76 rfl (lv_at hl 0 rfl) ?_
    refine va_get (D := D) (ci := 0) (C := RX0) (T := TX0) (N := 9) hx hb hT kwX0 hown hK.1 hP 0 rfl rfl 8 (by decide) (hT _ kf_X0_31) (fun _ h9 => h9) rfl dX0_trace_77 ?_
    obtain ⟨r_8, hcr_8, hf⟩ := bd1_s hf
    refine backWv (w2 := (wX0 cA a_f f_number f_components f_genus f_next f_owner f_first f_length f_nodeSet r_8 ++ (wX1 cA a_g g_nodes g_edges g_outer g_low g_high g_degree g_turns))) (runVw C (c_X1_fillLinks l D cA a_g (a_f 6) g_nodes g_edges g_outer g_low g_high g_degree g_turns f_near _ N r_8 hcr_8) cf_X1_fillLinks km_X0_56 ⟨rfl, rfl, by decide, by decide⟩ ⟨Nat.zero_le _, Nat.zero_le _⟩ (va_recv hK.1 hP (ci := 1) (q0 := 7) rfl rfl) (hP.sub [7, 8, 9, 10, 11, 6] rfl) (hD.sub [7, 8, 9, 10, 11, 6] rfl rfl) hK hl.1 rfl rfl (Nat.le_of_ble_eq_true rfl) dX0_trace_80) hP hD hS hA [7, 8, 9, 10, 11, 6] rfl [0, 1, 2, 3, 4, 5] rfl rfl (by decide) [0, 1, 2, 3, 4, 5, 11, 6, 7, 8, 9, 10] rfl rfl (fun H locs hP hD hS => ?_)
    refine lv_aload_n hx hb dX0_trace_83 rfl (lv_at hl 0 rfl) ?_
    refine lv_aload_n hx hb dX0_trace_84 rfl (lv_at hl 1 rfl) ?_
    obtain ⟨r_9, hcr_9, hf⟩ := bd1_s hf
    refine backWv (w2 := (wX0 cA a_f f_number r_9.1 r_9.2 f_next f_owner f_first f_length f_nodeSet r_8 ++ (wX1 cA a_g g_nodes g_edges g_outer g_low g_high g_degree g_turns))) (runVw C (c_X0_countComponents l D cA a_f a_g f_number f_components f_genus f_next f_owner f_first f_length f_nodeSet r_8 g_nodes g_edges g_outer g_low g_high g_degree g_turns _ N r_9 hcr_9) cf_X0_countComponents km_X0_60 ⟨rfl, rfl, by decide, by decide⟩ ⟨Nat.zero_le _, Nat.zero_le _⟩ (va_recv hK.1 hP (ci := 0) (q0 := 0) rfl rfl) (hP.sub [0, 1, 2, 3, 4, 5, 6, 7, 8, 9, 10, 11] rfl) (hD.sub [0, 1, 2, 3, 4, 5, 6, 7, 8, 9, 10, 11] rfl rfl) hK hl.1 rfl rfl (Nat.le_of_ble_eq_true rfl) dX0_trace_85) hP hD hS hA [0, 1, 2, 3, 4, 5, 6, 7, 8, 9, 10, 11] rfl [] rfl rfl (by decide) [0, 1, 2, 3, 4, 5, 6, 7, 8, 9, 10, 11] rfl rfl (fun H locs hP hD hS => ?_)
    have eR := some_i hf
    exact W.vret hx hb hr (fun t ht hW => ⟨⟨(), rfl, trivial, by rw [← eR, ht]; exact hP, by rw [← eR]; exact hD⟩, hS.F ht⟩) hS.2.2 dX0_trace_88 (hlocks := hlk)
  have B44 : ∀ (n44 : Nat), ∀ (x2 : Int32) (f_number : Int32) (f_components : Int32) (f_genus : Int32) (f_next : Nat → Int32) (f_owner : Nat → Int32) (f_first : Nat → Int32) (f_length : Nat → Int32) (f_nodeSet : Nat → Int32) (f_near : Nat → Int32) (H : Heap) (locs : List Loc) (ls : Array Slot), lv_has ls 3 [(0, .ref (a_f 0)), (1, .ref (a_g 0)), (2, .int x2)] → va_P D vwCl (wX0 cA a_f f_number f_components f_genus f_next f_owner f_first f_length f_nodeSet f_near ++ (wX1 cA a_g g_nodes g_edges g_outer g_low g_high g_degree g_turns)) H → va_D A (wX0 cA a_f f_number f_components f_genus f_next f_owner f_first f_length f_nodeSet f_near ++ (wX1 cA a_g g_nodes g_edges g_outer g_low g_high g_degree g_turns)) → va_S A s.heap H locs → f_X0_trace_b44 N g_nodes g_edges g_low g_high g_degree g_turns n44 x2 f_number f_components f_genus f_next f_owner f_first f_length f_nodeSet f_near = some ρ → W p l e ({ frames := 4, cells := 0, slots := 0, locals := 94 } : Room) s m ([.ref (a_f 0), .ref (a_g 0)] : List Value).toArray below meth c H locs 0 0 (MQ below (va_Qv (fun (_ : Unit) => True) (fun _ t => va_P D vwCl (wX0 cA a_f ρ.1 ρ.2.1 ρ.2.2.1 ρ.2.2.2.1 ρ.2.2.2.2.1 ρ.2.2.2.2.2.1 ρ.2.2.2.2.2.2.1 ρ.2.2.2.2.2.2.2.1 ρ.2.2.2.2.2.2.2.2 ++ (wX1 cA a_g g_nodes g_edges g_outer g_low g_high g_degree g_turns)) t.heap ∧ va_D A (wX0 cA a_f ρ.1 ρ.2.1 ρ.2.2.1 ρ.2.2.2.1 ρ.2.2.2.2.1 ρ.2.2.2.2.2.1 ρ.2.2.2.2.2.2.1 ρ.2.2.2.2.2.2.2.1 ρ.2.2.2.2.2.2.2.2 ++ (wX1 cA a_g g_nodes g_edges g_outer g_low g_high g_degree g_turns))) A) ([.ref (a_f 0), .ref (a_g 0)] : List Value).toArray s 0 0 A) (F0 m 44 ls []) := by
    intro n44
    induction n44 with
    | zero =>
      intro x2 f_number f_components f_genus f_next f_owner f_first f_length f_nodeSet f_near H locs ls hl hP hD hS hf
      cases (show (none : Option (Int32 × Int32 × Int32 × (Nat → Int32) × (Nat → Int32) × (Nat → Int32) × (Nat → Int32) × (Nat → Int32) × (Nat → Int32))) = some ρ from hf)
    | succ n44 ih44 =>
      have B69 : ∀ (x2 : Int32) (f_number : Int32) (f_components : Int32) (f_genus : Int32) (f_next : Nat → Int32) (f_owner : Nat → Int32) (f_first : Nat → Int32) (f_length : Nat → Int32) (f_nodeSet : Nat → Int32) (f_near : Nat → Int32) (H : Heap) (locs : List Loc) (ls : Array Slot), lv_has ls 3 [(0, .ref (a_f 0)), (1, .ref (a_g 0)), (2, .int x2)] → va_P D vwCl (wX0 cA a_f f_number f_components f_genus f_next f_owner f_first f_length f_nodeSet f_near ++ (wX1 cA a_g g_nodes g_edges g_outer g_low g_high g_degree g_turns)) H → va_D A (wX0 cA a_f f_number f_components f_genus f_next f_owner f_first f_length f_nodeSet f_near ++ (wX1 cA a_g g_nodes g_edges g_outer g_low g_high g_degree g_turns)) → va_S A s.heap H locs → f_X0_trace_b69 N g_nodes g_edges g_low g_high g_degree g_turns (f_X0_trace_b44 N g_nodes g_edges g_low g_high g_degree g_turns n44) x2 f_number f_components f_genus f_next f_owner f_first f_length f_nodeSet f_near = some ρ → W p l e ({ frames := 4, cells := 0, slots := 0, locals := 94 } : Room) s m ([.ref (a_f 0), .ref (a_g 0)] : List Value).toArray below meth c H locs 0 0 (MQ below (va_Qv (fun (_ : Unit) => True) (fun _ t => va_P D vwCl (wX0 cA a_f ρ.1 ρ.2.1 ρ.2.2.1 ρ.2.2.2.1 ρ.2.2.2.2.1 ρ.2.2.2.2.2.1 ρ.2.2.2.2.2.2.1 ρ.2.2.2.2.2.2.2.1 ρ.2.2.2.2.2.2.2.2 ++ (wX1 cA a_g g_nodes g_edges g_outer g_low g_high g_degree g_turns)) t.heap ∧ va_D A (wX0 cA a_f ρ.1 ρ.2.1 ρ.2.2.1 ρ.2.2.2.1 ρ.2.2.2.2.1 ρ.2.2.2.2.2.1 ρ.2.2.2.2.2.2.1 ρ.2.2.2.2.2.2.2.1 ρ.2.2.2.2.2.2.2.2 ++ (wX1 cA a_g g_nodes g_edges g_outer g_low g_high g_degree g_turns))) A) ([.ref (a_f 0), .ref (a_g 0)] : List Value).toArray s 0 0 A) (F0 m 69 ls []) := by
        intro x2 f_number f_components f_genus f_next f_owner f_first f_length f_nodeSet f_near H locs ls hl hP hD hS hf
        refine lv_iinc (v := (x2 + 1)) (lv' := [(2, .int (x2 + 1)), (0, .ref (a_f 0)), (1, .ref (a_g 0))]) hx hb dX0_trace_69 hl (k := 2) rfl rfl (by decide) rfl (fun ls hl => ?_)
        refine lv_goto (tgt := 44) hx hb dX0_trace_72 (by decide) ?_
        exact ih44 (x2 + 1) f_number f_components f_genus f_next f_owner f_first f_length f_nodeSet f_near _ _ _ (lv_sub hl [1, 2, 0] rfl) hP hD hS hf
      intro x2 f_number f_components f_genus f_next f_owner f_first f_length f_nodeSet f_near H locs ls hl hP hD hS hf
      refine lv_iload_n hx hb dX0_trace_44 rfl (lv_at hl 2 rfl) ?_
      refine lv_iconst (v := 2) hx hb dX0_trace_45 (by decide) ?_
      refine lv_aload_n hx hb dX0_trace_46 rfl (lv_at hl 1 rfl) ?_
      refine va_get (D := D) (ci := 1) (C := RX1) (T := TX1) (N := 7) hx hb hT kwX1 hown hK.1 hP 7 rfl rfl 1 (by decide) (hT _ kf_X0_43) (fun _ h9 => h9) rfl dX0_trace_47 ?_
      refine lv_imul hx hb dX0_trace_50 ?_
      refine lv_icmp_ge (tgt := 75) hx hb dX0_trace_51 (by decide) (fun c_4 => ?_) (fun c_4 => ?_)
      · have hf := ite_t c_4 hf
        exact B75 f_number f_components f_genus f_next f_owner f_first f_length f_nodeSet f_near _ _ _ (lv_sub hl [0, 1] rfl) hP hD hS hf
      · have hf := ite_f c_4 hf
        refine lv_aload_n hx hb dX0_trace_54 rfl (lv_at hl 0 rfl) ?_
        refine va_get (D := D) (ci := 0) (C := RX0) (T := TX0) (N := 9) hx hb hT kwX0 hown hK.1 hP 0 rfl rfl 4 (by decide) (hT _ kf_X0_19) (fun _ h9 => h9) rfl dX0_trace_55 ?_
        refine lv_iload_n hx hb dX0_trace_58 rfl (lv_at hl 2 rfl) ?_
        obtain ⟨h_5, hf⟩ := chk_s hf
        refine va_iald hx hb hK.1 hP 2 0 rfl rfl (inb_in h_5) dX0_trace_59 ?_
        refine lv_if_ge (tgt := 69) hx hb dX0_trace_60 (by decide) (fun c_6 => ?_) (fun c_6 => ?_)
        · have hf := ite_t c_6 hf
          exact B69 x2 f_number f_components f_genus f_next f_owner f_first f_length f_nodeSet f_near _ _ _ (lv_sub hl [0, 1, 2] rfl) hP hD hS hf
        · have hf := ite_f c_6 hf
          refine lv_aload_n hx hb dX0_trace_63 rfl (lv_at hl 0 rfl) ?_
          refine lv_aload_n hx hb dX0_trace_64 rfl (lv_at hl 1 rfl) ?_
          refine lv_iload_n hx hb dX0_trace_65 rfl (lv_at hl 2 rfl) ?_
          obtain ⟨r_7, hcr_7, hf⟩ := bd1_s hf
          refine backWv (w2 := (wX0 cA a_f r_7.1 f_components f_genus f_next r_7.2.1 r_7.2.2.1 r_7.2.2.2.1 r_7.2.2.2.2 f_near ++ (wX1 cA a_g g_nodes g_edges g_outer g_low g_high g_degree g_turns))) (runVw C (c_X0_walkFrom l D cA a_f a_g f_number f_components f_genus f_next f_owner f_first f_length f_nodeSet f_near g_nodes g_edges g_outer g_low g_high g_degree g_turns x2 _ N r_7 hcr_7) cf_X0_walkFrom km_X0_52 ⟨rfl, rfl, by decide, by decide⟩ ⟨Nat.zero_le _, Nat.zero_le _⟩ (va_recv hK.1 hP (ci := 0) (q0 := 0) rfl rfl) (hP.sub [0, 1, 2, 3, 4, 5, 6, 7, 8, 9, 10, 11] rfl) (hD.sub [0, 1, 2, 3, 4, 5, 6, 7, 8, 9, 10, 11] rfl rfl) hK hl.1 rfl rfl (Nat.le_of_ble_eq_true rfl) dX0_trace_66) hP hD hS hA [0, 1, 2, 3, 4, 5, 6, 7, 8, 9, 10, 11] rfl [] rfl rfl (by decide) [0, 1, 2, 3, 4, 5, 6, 7, 8, 9, 10, 11] rfl rfl (fun H locs hP hD hS => ?_)
          exact B69 x2 r_7.1 f_components f_genus f_next r_7.2.1 r_7.2.2.1 r_7.2.2.2.1 r_7.2.2.2.2 f_near _ _ _ (lv_sub hl [0, 1, 2] rfl) hP hD hS hf
  have B42 : ∀ (f_number : Int32) (f_components : Int32) (f_genus : Int32) (f_next : Nat → Int32) (f_owner : Nat → Int32) (f_first : Nat → Int32) (f_length : Nat → Int32) (f_nodeSet : Nat → Int32) (f_near : Nat → Int32) (H : Heap) (locs : List Loc) (ls : Array Slot), lv_has ls 3 [(0, .ref (a_f 0)), (1, .ref (a_g 0))] → va_P D vwCl (wX0 cA a_f f_number f_components f_genus f_next f_owner f_first f_length f_nodeSet f_near ++ (wX1 cA a_g g_nodes g_edges g_outer g_low g_high g_degree g_turns)) H → va_D A (wX0 cA a_f f_number f_components f_genus f_next f_owner f_first f_length f_nodeSet f_near ++ (wX1 cA a_g g_nodes g_edges g_outer g_low g_high g_degree g_turns)) → va_S A s.heap H locs → f_X0_trace_b42 N g_nodes g_edges g_low g_high g_degree g_turns f_number f_components f_genus f_next f_owner f_first f_length f_nodeSet f_near = some ρ → W p l e ({ frames := 4, cells := 0, slots := 0, locals := 94 } : Room) s m ([.ref (a_f 0), .ref (a_g 0)] : List Value).toArray below meth c H locs 0 0 (MQ below (va_Qv (fun (_ : Unit) => True) (fun _ t => va_P D vwCl (wX0 cA a_f ρ.1 ρ.2.1 ρ.2.2.1 ρ.2.2.2.1 ρ.2.2.2.2.1 ρ.2.2.2.2.2.1 ρ.2.2.2.2.2.2.1 ρ.2.2.2.2.2.2.2.1 ρ.2.2.2.2.2.2.2.2 ++ (wX1 cA a_g g_nodes g_edges g_outer g_low g_high g_degree g_turns)) t.heap ∧ va_D A (wX0 cA a_f ρ.1 ρ.2.1 ρ.2.2.1 ρ.2.2.2.1 ρ.2.2.2.2.1 ρ.2.2.2.2.2.1 ρ.2.2.2.2.2.2.1 ρ.2.2.2.2.2.2.2.1 ρ.2.2.2.2.2.2.2.2 ++ (wX1 cA a_g g_nodes g_edges g_outer g_low g_high g_degree g_turns))) A) ([.ref (a_f 0), .ref (a_g 0)] : List Value).toArray s 0 0 A) (F0 m 42 ls []) := by
    intro f_number f_components f_genus f_next f_owner f_first f_length f_nodeSet f_near H locs ls hl hP hD hS hf
    refine lv_iconst (v := 0) hx hb dX0_trace_42 (by decide) ?_
    refine lv_istore_n (lv' := [(2, .int 0), (0, .ref (a_f 0)), (1, .ref (a_g 0))]) hx hb dX0_trace_43 rfl hl (by decide) rfl (fun ls hl => ?_)
    exact B44 N 0 f_number f_components f_genus f_next f_owner f_first f_length f_nodeSet f_near _ _ _ (lv_sub hl [1, 2, 0] rfl) hP hD hS hf
  have B15 : ∀ (n15 : Nat), ∀ (x2 : Int32) (f_number : Int32) (f_components : Int32) (f_genus : Int32) (f_next : Nat → Int32) (f_owner : Nat → Int32) (f_first : Nat → Int32) (f_length : Nat → Int32) (f_nodeSet : Nat → Int32) (f_near : Nat → Int32) (H : Heap) (locs : List Loc) (ls : Array Slot), lv_has ls 3 [(0, .ref (a_f 0)), (1, .ref (a_g 0)), (2, .int x2)] → va_P D vwCl (wX0 cA a_f f_number f_components f_genus f_next f_owner f_first f_length f_nodeSet f_near ++ (wX1 cA a_g g_nodes g_edges g_outer g_low g_high g_degree g_turns)) H → va_D A (wX0 cA a_f f_number f_components f_genus f_next f_owner f_first f_length f_nodeSet f_near ++ (wX1 cA a_g g_nodes g_edges g_outer g_low g_high g_degree g_turns)) → va_S A s.heap H locs → f_X0_trace_b15 N g_nodes g_edges g_low g_high g_degree g_turns n15 x2 f_number f_components f_genus f_next f_owner f_first f_length f_nodeSet f_near = some ρ → W p l e ({ frames := 4, cells := 0, slots := 0, locals := 94 } : Room) s m ([.ref (a_f 0), .ref (a_g 0)] : List Value).toArray below meth c H locs 0 0 (MQ below (va_Qv (fun (_ : Unit) => True) (fun _ t => va_P D vwCl (wX0 cA a_f ρ.1 ρ.2.1 ρ.2.2.1 ρ.2.2.2.1 ρ.2.2.2.2.1 ρ.2.2.2.2.2.1 ρ.2.2.2.2.2.2.1 ρ.2.2.2.2.2.2.2.1 ρ.2.2.2.2.2.2.2.2 ++ (wX1 cA a_g g_nodes g_edges g_outer g_low g_high g_degree g_turns)) t.heap ∧ va_D A (wX0 cA a_f ρ.1 ρ.2.1 ρ.2.2.1 ρ.2.2.2.1 ρ.2.2.2.2.1 ρ.2.2.2.2.2.1 ρ.2.2.2.2.2.2.1 ρ.2.2.2.2.2.2.2.1 ρ.2.2.2.2.2.2.2.2 ++ (wX1 cA a_g g_nodes g_edges g_outer g_low g_high g_degree g_turns))) A) ([.ref (a_f 0), .ref (a_g 0)] : List Value).toArray s 0 0 A) (F0 m 15 ls []) := by
    intro n15
    induction n15 with
    | zero =>
      intro x2 f_number f_components f_genus f_next f_owner f_first f_length f_nodeSet f_near H locs ls hl hP hD hS hf
      cases (show (none : Option (Int32 × Int32 × Int32 × (Nat → Int32) × (Nat → Int32) × (Nat → Int32) × (Nat → Int32) × (Nat → Int32) × (Nat → Int32))) = some ρ from hf)
    | succ n15 ih15 =>
      intro x2 f_number f_components f_genus f_next f_owner f_first f_length f_nodeSet f_near H locs ls hl hP hD hS hf
      refine lv_iload_n hx hb dX0_trace_15 rfl (lv_at hl 2 rfl) ?_
      refine lv_iconst (v := 2) hx hb dX0_trace_16 (by decide) ?_
      refine lv_aload_n hx hb dX0_trace_17 rfl (lv_at hl 1 rfl) ?_
      refine va_get (D := D) (ci := 1) (C := RX1) (T := TX1) (N := 7) hx hb hT kwX1 hown hK.1 hP 7 rfl rfl 1 (by decide) (hT _ kf_X0_43) (fun _ h9 => h9) rfl dX0_trace_18 ?_
      refine lv_imul hx hb dX0_trace_21 ?_
      refine lv_icmp_ge (tgt := 42) hx hb dX0_trace_22 (by decide) (fun c_1 => ?_) (fun c_1 => ?_)
      · have hf := ite_t c_1 hf
        exact B42 f_number f_components f_genus f_next f_owner f_first f_length f_nodeSet f_near _ _ _ (lv_sub hl [0, 1] rfl) hP hD hS hf
      · have hf := ite_f c_1 hf
        refine lv_aload_n hx hb dX0_trace_25 rfl (lv_at hl 0 rfl) ?_
        refine va_get (D := D) (ci := 0) (C := RX0) (T := TX0) (N := 9) hx hb hT kwX0 hown hK.1 hP 0 rfl rfl 3 (by decide) (hT _ kf_X0_15) (fun _ h9 => h9) rfl dX0_trace_26 ?_
        refine lv_iload_n hx hb dX0_trace_29 rfl (lv_at hl 2 rfl) ?_
        refine lv_aload_n hx hb dX0_trace_30 rfl (lv_at hl 1 rfl) ?_
        refine lv_iload_n hx hb dX0_trace_31 rfl (lv_at hl 2 rfl) ?_
        obtain ⟨r_2, hcr_2, hf⟩ := bd1_s hf
        refine backI (runV0 C (c_X1_following l D cA a_g g_nodes g_edges g_outer g_low g_high g_degree g_turns x2 N r_2 hcr_2) cf_X1_following km_X0_48 ⟨rfl, rfl, by decide, by decide⟩ ⟨Nat.zero_le _, Nat.zero_le _⟩ (va_recv hK.1 hP (ci := 1) (q0 := 7) rfl rfl) (hP.sub [7, 8, 9, 10, 11] rfl) hK hl.1 rfl rfl (Nat.le_of_ble_eq_true rfl) dX0_trace_32) ?_
        obtain ⟨h_3, hf⟩ := chk_s hf
        refine va_iast hx hb hK.1 hP hD hS 1 0 rfl rfl (inb_in h_3) dX0_trace_35 (fun H locs hP hD hS => ?_)
        have hP : va_P D vwCl (wX0 cA a_f f_number f_components f_genus (upd f_next x2.toNatClampNeg r_2) f_owner f_first f_length f_nodeSet f_near ++ (wX1 cA a_g g_nodes g_edges g_outer g_low g_high g_degree g_turns)) H := hP
        have hD : va_D A (wX0 cA a_f f_number f_components f_genus (upd f_next x2.toNatClampNeg r_2) f_owner f_first f_length f_nodeSet f_near ++ (wX1 cA a_g g_nodes g_edges g_outer g_low g_high g_degree g_turns)) := hD
        refine lv_iinc (v := (x2 + 1)) (lv' := [(2, .int (x2 + 1)), (0, .ref (a_f 0)), (1, .ref (a_g 0))]) hx hb dX0_trace_36 hl (k := 2) rfl rfl (by decide) rfl (fun ls hl => ?_)
        refine lv_goto (tgt := 15) hx hb dX0_trace_39 (by decide) ?_
        exact ih15 (x2 + 1) f_number f_components f_genus (upd f_next x2.toNatClampNeg r_2) f_owner f_first f_length f_nodeSet f_near _ _ _ (lv_sub hl [1, 2, 0] rfl) hP hD hS hf
  refine lv_aload_n hx hb dX0_trace_0 rfl (lv_at hl 0 rfl) ?_
  refine lv_iconst (v := 0) hx hb dX0_trace_1 (by decide) ?_
  refine va_put (D := D) (ci := 0) (v := .int 0) (ty := .int) (C := RX0) (T := TX0) (N := 9) hx hb hT kwX0 tyX0 tyX0_ok nmX0 hown hK.1 hP hD hS 0 rfl rfl 0 (by decide) (hT _ kf_X0_34) (fun _ h9 => h9) rfl (by decide +kernel) rfl rfl (Nat.le_of_ble_eq_true rfl) dX0_trace_2 (fun H locs hP hD hS => ?_)
  have hP : va_P D vwCl (wX0 cA a_f 0 f_components f_genus f_next f_owner f_first f_length f_nodeSet f_near ++ (wX1 cA a_g g_nodes g_edges g_outer g_low g_high g_degree g_turns)) H := hP
  have hD : va_D A (wX0 cA a_f 0 f_components f_genus f_next f_owner f_first f_length f_nodeSet f_near ++ (wX1 cA a_g g_nodes g_edges g_outer g_low g_high g_degree g_turns)) := hD
  refine lv_aload_n hx hb dX0_trace_5 rfl (lv_at hl 0 rfl) ?_
  refine va_get (D := D) (ci := 0) (C := RX0) (T := TX0) (N := 9) hx hb hT kwX0 hown hK.1 hP 0 rfl rfl 4 (by decide) (hT _ kf_X0_19) (fun _ h9 => h9) rfl dX0_trace_6 ?_
  refine lv_iconst (v := (-1)) hx hb dX0_trace_9 (by decide) ?_
  refine backWv (w2 := (wX0 cA a_f 0 f_components f_genus f_next (filled 40 (-1 : Int32) f_owner) f_first f_length f_nodeSet f_near ++ (wX1 cA a_g g_nodes g_edges g_outer g_low g_high g_degree g_turns))) (runSw C (c_J7_fill_53178 l D cA (a_f 2) 40 (by decide) f_owner (-1 : Int32) _) cf_J7_fill_53178 km_X0_37 ⟨rfl, rfl, by decide, by decide⟩ ⟨Nat.zero_le _, Nat.zero_le _⟩ (hP.sub [2] rfl) (hD.sub [2] rfl rfl) hK hl.1 rfl rfl (Nat.le_of_ble_eq_true rfl) dX0_trace_10) hP hD hS hA [2] rfl [0, 1, 3, 4, 5, 6, 7, 8, 9, 10, 11] rfl rfl (by decide) [0, 1, 11, 2, 3, 4, 5, 6, 7, 8, 9, 10] rfl rfl (fun H locs hP hD hS => ?_)
  refine lv_iconst (v := 0) hx hb dX0_trace_13 (by decide) ?_
  refine lv_istore_n (lv' := [(2, .int 0), (0, .ref (a_f 0)), (1, .ref (a_g 0))]) hx hb dX0_trace_14 rfl hl (by decide) rfl (fun ls hl => ?_)
  exact B15 N 0 0 f_components f_genus f_next (filled 40 (-1 : Int32) f_owner) f_first f_length f_nodeSet f_near _ _ _ (lv_sub hl [1, 2, 0] rfl) hP hD hS hf
set_option maxRecDepth 100000 in
set_option maxHeartbeats 4000000 in
theorem c_X0_widen (l : Launch) (D : va_G) (cA : Nat → ClassId) (a_f : Nat → Nat) (f_number : Int32) (f_components : Int32) (f_genus : Int32) (f_next : Nat → Int32) (f_owner : Nat → Int32) (f_first : Nat → Int32) (f_length : Nat → Int32) (f_nodeSet : Nat → Int32) (f_near : Nat → Int32) (p1 : Int32) (N : Nat) (ρ : Int32) (hf : f_X0_widen N f_number f_nodeSet p1 = some ρ) : Met l yX0_widen (Cond.code yX0_widen cX0_widen 4 (Option.some Jvm.ClassFile.FieldType.int) :: lw_g) ({ frames := 0, cells := 0, slots := 0, locals := 0 } : Room) (PcS D (tyA cA) (wX0 cA a_f f_number f_components f_genus f_next f_owner f_first f_length f_nodeSet f_near) [.ref (a_f 0), .int p1]) (vp_Si (fun r => r = ρ)) 0 0 (fun _ => False) := by
  refine mkS (by decide +kernel) (Nat.le_of_ble_eq_true rfl) fun p e s m below meth c ls C hl hP hK => ?_
  obtain ⟨hx, hb, hml, hown, hT, hr, hlk⟩ := id C
  have hl : lv_has ls 4 [(0, .ref (a_f 0)), (1, .int p1)] := hl
  have B4 : ∀ (n4 : Nat), ∀ (x1 : Int32) (x2 : Int32) (x3 : Int32) (ls : Array Slot), lv_has ls 4 [(0, .ref (a_f 0)), (1, .int x1), (2, .int x2), (3, .int x3)] → f_X0_widen_b4 N f_number f_nodeSet n4 x1 x2 x3 = some ρ → W p l e ({ frames := 0, cells := 0, slots := 0, locals := 0 } : Room) s m ([.ref (a_f 0), .int p1] : List Value).toArray below meth c s.heap [] 0 0 (MQ below (vp_Si (fun r => r = ρ)) ([.ref (a_f 0), .int p1] : List Value).toArray s 0 0 (fun _ => False)) (F0 m 4 ls []) := by
    intro n4
    induction n4 with
    | zero =>
      intro x1 x2 x3 ls hl hf
      cases (show (none : Option (Int32)) = some ρ from hf)
    | succ n4 ih4 =>
      have B32 : ∀ (x1 : Int32) (x2 : Int32) (x3 : Int32) (ls : Array Slot), lv_has ls 4 [(0, .ref (a_f 0)), (1, .int x1), (2, .int x2), (3, .int x3)] → f_X0_widen_b32 N f_number f_nodeSet (f_X0_widen_b4 N f_number f_nodeSet n4) x1 x2 x3 = some ρ → W p l e ({ frames := 0, cells := 0, slots := 0, locals := 0 } : Room) s m ([.ref (a_f 0), .int p1] : List Value).toArray below meth c s.heap [] 0 0 (MQ below (vp_Si (fun r => r = ρ)) ([.ref (a_f 0), .int p1] : List Value).toArray s 0 0 (fun _ => False)) (F0 m 32 ls []) := by
        intro x1 x2 x3 ls hl hf
        refine lv_iinc (v := (x3 + 1)) (lv' := [(3, .int (x3 + 1)), (0, .ref (a_f 0)), (1, .int x1), (2, .int x2)]) hx hb dX0_widen_32 hl (k := 3) rfl rfl (by decide) rfl (fun ls hl => ?_)
        refine lv_goto (tgt := 4) hx hb dX0_widen_35 (by decide) ?_
        exact ih4 x1 x2 (x3 + 1) _ (lv_sub hl [1, 2, 3, 0] rfl) hf
      intro x1 x2 x3 ls hl hf
      refine lv_iload_n hx hb dX0_widen_4 rfl (lv_at hl 3 rfl) ?_
      refine lv_aload_n hx hb dX0_widen_5 rfl (lv_at hl 0 rfl) ?_
      refine va_get (D := D) (ci := 0) (C := RX0) (T := TX0) (N := 9) hx hb hT kwX0 hown hK.1 hP 0 rfl rfl 0 (by decide) (hT _ kf_X0_34) (fun _ h9 => h9) rfl dX0_widen_6 ?_
      refine lv_icmp_ge (tgt := 38) hx hb dX0_widen_9 (by decide) (fun c_1 => ?_) (fun c_1 => ?_)
      · have hf := ite_t c_1 hf
        refine lv_iload_n hx hb dX0_widen_38 rfl (lv_at hl 2 rfl) ?_
        exact W.iret hx hb hr (fun t ht hW => ⟨_, rfl, some_i hf, ht⟩) (fun _ h => by cases h) dX0_widen_39 (hlocks := hlk)
      · have hf := ite_f c_1 hf
        refine lv_aload_n hx hb dX0_widen_12 rfl (lv_at hl 0 rfl) ?_
        refine va_get (D := D) (ci := 0) (C := RX0) (T := TX0) (N := 9) hx hb hT kwX0 hown hK.1 hP 0 rfl rfl 7 (by decide) (hT _ kf_X0_28) (fun _ h9 => h9) rfl dX0_widen_13 ?_
        refine lv_iload_n hx hb dX0_widen_16 rfl (lv_at hl 3 rfl) ?_
        obtain ⟨h_2, hf⟩ := chk_s hf
        refine va_iald hx hb hK.1 hP 5 0 rfl rfl (inb_in h_2) dX0_widen_17 ?_
        refine lv_iload_n hx hb dX0_widen_18 rfl (lv_at hl 1 rfl) ?_
        refine lv_iand hx hb dX0_widen_19 ?_
        refine lv_if_eq (tgt := 32) hx hb dX0_widen_20 (by decide) (fun c_3 => ?_) (fun c_3 => ?_)
        · have hf := ite_t c_3 hf
          exact B32 x1 x2 x3 _ (lv_sub hl [0, 1, 2, 3] rfl) hf
        · have hf := ite_f c_3 hf
          refine lv_iload_n hx hb dX0_widen_23 rfl (lv_at hl 2 rfl) ?_
          refine lv_aload_n hx hb dX0_widen_24 rfl (lv_at hl 0 rfl) ?_
          refine va_get (D := D) (ci := 0) (C := RX0) (T := TX0) (N := 9) hx hb hT kwX0 hown hK.1 hP 0 rfl rfl 7 (by decide) (hT _ kf_X0_28) (fun _ h9 => h9) rfl dX0_widen_25 ?_
          refine lv_iload_n hx hb dX0_widen_28 rfl (lv_at hl 3 rfl) ?_
          obtain ⟨h_4, hf⟩ := chk_s hf
          refine va_iald hx hb hK.1 hP 5 0 rfl rfl (inb_in h_4) dX0_widen_29 ?_
          refine lv_ior hx hb dX0_widen_30 ?_
          refine lv_topi (fun x2_5 ex2_5 => ?_)
          have hf := nm_t ex2_5 hf
          refine lv_istore_n (lv' := [(2, .int x2_5), (0, .ref (a_f 0)), (1, .int x1), (3, .int x3)]) hx hb dX0_widen_31 rfl hl (by decide) rfl (fun ls hl => ?_)
          exact B32 x1 x2_5 x3 _ (lv_sub hl [1, 2, 0, 3] rfl) hf
  refine lv_iload_n hx hb dX0_widen_0 rfl (lv_at hl 1 rfl) ?_
  refine lv_istore_n (lv' := [(2, .int p1), (0, .ref (a_f 0)), (1, .int p1)]) hx hb dX0_widen_1 rfl hl (by decide) rfl (fun ls hl => ?_)
  refine lv_iconst (v := 0) hx hb dX0_widen_2 (by decide) ?_
  refine lv_istore_n (lv' := [(3, .int 0), (2, .int p1), (0, .ref (a_f 0)), (1, .int p1)]) hx hb dX0_widen_3 rfl hl (by decide) rfl (fun ls hl => ?_)
  exact B4 N p1 p1 0 _ (lv_sub hl [2, 3, 1, 0] rfl) hf
