set_option maxRecDepth 100000 in
set_option maxHeartbeats 4000000 in
theorem c_X4_extendRing (l : Launch) (D : va_G) (cA : Nat → ClassId) (a_pl : Nat → Nat) (pl_rest : Nat → Int32) (pl_sketch : Nat → Int32) (pl_placed : Int32) (pl_rings : Int32) (pl_ringNodes : Nat → Int32) (pl_ringLength : Nat → Int32) (pl_ringSet : Nat → Int32) (pl_oldRing : Nat → Int32) (pl_path : Nat → Int32) (pl_pathLength : Int32) (pl_queue : Nat → Int32) (pl_origin : Nat → Int32) (pl_inside : Int32) (pl_ends : Int32) (pl_ring : Int32) (pl_choices : Int32) (p1 : Int32) (p2 : Int32) (sz N : Nat) (ρ : (Nat → Int32) × (Nat → Int32) × (Nat → Int32)) (hf : f_X4_extendRing N pl_ringNodes pl_ringLength pl_ringSet p1 p2 = some ρ) : Met l yX4_extendRing (Cond.code yX4_extendRing cX4_extendRing 3 (Option.none : Option Jvm.ClassFile.FieldType) :: lw_g) ({ frames := 1, cells := 0, slots := 0, locals := 20 } : Room) (PcW D (tyA cA) (wX4 cA a_pl pl_rest pl_sketch pl_placed pl_rings pl_ringNodes pl_ringLength pl_ringSet pl_oldRing pl_path pl_pathLength pl_queue pl_origin pl_inside pl_ends pl_ring pl_choices) sz [.ref (a_pl 0), .int p1, .int p2]) (va_Qv (fun (_ : Unit) => True) (fun _ t => va_P D vwCl (wX4 cA a_pl pl_rest pl_sketch pl_placed pl_rings ρ.1 ρ.2.1 ρ.2.2 pl_oldRing pl_path pl_pathLength pl_queue pl_origin pl_inside pl_ends pl_ring pl_choices) t.heap ∧ va_D (va_A (wX4 cA a_pl pl_rest pl_sketch pl_placed pl_rings pl_ringNodes pl_ringLength pl_ringSet pl_oldRing pl_path pl_pathLength pl_queue pl_origin pl_inside pl_ends pl_ring pl_choices) sz) (wX4 cA a_pl pl_rest pl_sketch pl_placed pl_rings ρ.1 ρ.2.1 ρ.2.2 pl_oldRing pl_path pl_pathLength pl_queue pl_origin pl_inside pl_ends pl_ring pl_choices)) (va_A (wX4 cA a_pl pl_rest pl_sketch pl_placed pl_rings pl_ringNodes pl_ringLength pl_ringSet pl_oldRing pl_path pl_pathLength pl_queue pl_origin pl_inside pl_ends pl_ring pl_choices) sz)) 0 0 (va_A (wX4 cA a_pl pl_rest pl_sketch pl_placed pl_rings pl_ringNodes pl_ringLength pl_ringSet pl_oldRing pl_path pl_pathLength pl_queue pl_origin pl_inside pl_ends pl_ring pl_choices) sz) := by
  refine mkW (QQ := fun A => va_Qv (fun (_ : Unit) => True) (fun _ t => va_P D vwCl (wX4 cA a_pl pl_rest pl_sketch pl_placed pl_rings ρ.1 ρ.2.1 ρ.2.2 pl_oldRing pl_path pl_pathLength pl_queue pl_origin pl_inside pl_ends pl_ring pl_choices) t.heap ∧ va_D A (wX4 cA a_pl pl_rest pl_sketch pl_placed pl_rings ρ.1 ρ.2.1 ρ.2.2 pl_oldRing pl_path pl_pathLength pl_queue pl_origin pl_inside pl_ends pl_ring pl_choices)) A) (by decide) (Nat.le_of_ble_eq_true rfl) fun p e s m below meth c ls A C hl hP hK hD hA hS => ?_
  obtain ⟨hx, hb, hml, hown, hT, hr, hlk⟩ := id C
  have hl : lv_has ls 3 [(0, .ref (a_pl 0)), (1, .int p1), (2, .int p2)] := hl
  refine lv_aload_n hx hb dX4_extendRing_0 rfl (lv_at hl 0 rfl) ?_
  refine va_get (D := D) (ci := 4) (C := RX4) (T := TX4) (N := 16) hx hb hT kwX4 hown hK.1 hP 0 rfl rfl 5 (by decide) (hT _ kf_X4_21) (fun _ h9 => h9) rfl dX4_extendRing_1 ?_
  refine lv_iload_n hx hb dX4_extendRing_4 rfl (lv_at hl 1 rfl) ?_
  obtain ⟨h_1, hf⟩ := chk_s hf
  refine va_iald hx hb hK.1 hP 4 0 rfl rfl (inb_in h_1) dX4_extendRing_5 ?_
  refine lv_bipush (v := 9) hx hb dX4_extendRing_6 (by decide) ?_
  refine lv_icmp_ge (tgt := 51) hx hb dX4_extendRing_8 (by decide) (fun c_2 => ?_) (fun c_2 => ?_)
  · have hf := ite_t c_2 hf
    have eR := some_i hf
    exact W.vret hx hb hr (fun t ht hW => ⟨⟨(), rfl, trivial, by rw [← eR, ht]; exact hP, by rw [← eR]; exact hD⟩, hS.F ht⟩) hS.2.2 dX4_extendRing_51 (hlocks := hlk)
  · have hf := ite_f c_2 hf
    refine lv_aload_n hx hb dX4_extendRing_11 rfl (lv_at hl 0 rfl) ?_
    refine va_get (D := D) (ci := 4) (C := RX4) (T := TX4) (N := 16) hx hb hT kwX4 hown hK.1 hP 0 rfl rfl 4 (by decide) (hT _ kf_X4_18) (fun _ h9 => h9) rfl dX4_extendRing_12 ?_
    refine lv_iload_n hx hb dX4_extendRing_15 rfl (lv_at hl 1 rfl) ?_
    refine lv_bipush (v := 9) hx hb dX4_extendRing_16 (by decide) ?_
    refine lv_imul hx hb dX4_extendRing_18 ?_
    refine lv_aload_n hx hb dX4_extendRing_19 rfl (lv_at hl 0 rfl) ?_
    refine va_get (D := D) (ci := 4) (C := RX4) (T := TX4) (N := 16) hx hb hT kwX4 hown hK.1 hP 0 rfl rfl 5 (by decide) (hT _ kf_X4_21) (fun _ h9 => h9) rfl dX4_extendRing_20 ?_
    refine lv_iload_n hx hb dX4_extendRing_23 rfl (lv_at hl 1 rfl) ?_
    obtain ⟨h_3, hf⟩ := chk_s hf
    refine va_iald hx hb hK.1 hP 4 0 rfl rfl (inb_in h_3) dX4_extendRing_24 ?_
    refine lv_iadd hx hb dX4_extendRing_25 ?_
    refine lv_iload_n hx hb dX4_extendRing_26 rfl (lv_at hl 2 rfl) ?_
    obtain ⟨h_4, hf⟩ := chk_s hf
    refine va_iast hx hb hK.1 hP hD hS 3 0 rfl rfl (inb_in h_4) dX4_extendRing_27 (fun H locs hP hD hS => ?_)
    have hP : va_P D vwCl (wX4 cA a_pl pl_rest pl_sketch pl_placed pl_rings (upd pl_ringNodes ((p1 * 9) + (pl_ringLength p1.toNatClampNeg)).toNatClampNeg p2) pl_ringLength pl_ringSet pl_oldRing pl_path pl_pathLength pl_queue pl_origin pl_inside pl_ends pl_ring pl_choices) H := hP
    have hD : va_D A (wX4 cA a_pl pl_rest pl_sketch pl_placed pl_rings (upd pl_ringNodes ((p1 * 9) + (pl_ringLength p1.toNatClampNeg)).toNatClampNeg p2) pl_ringLength pl_ringSet pl_oldRing pl_path pl_pathLength pl_queue pl_origin pl_inside pl_ends pl_ring pl_choices) := hD
    refine lv_aload_n hx hb dX4_extendRing_28 rfl (lv_at hl 0 rfl) ?_
    refine va_get (D := D) (ci := 4) (C := RX4) (T := TX4) (N := 16) hx hb hT kwX4 hown hK.1 hP 0 rfl rfl 5 (by decide) (hT _ kf_X4_21) (fun _ h9 => h9) rfl dX4_extendRing_29 ?_
    refine lv_iload_n hx hb dX4_extendRing_32 rfl (lv_at hl 1 rfl) ?_
    refine lv_dup2_11 hx hb dX4_extendRing_33 rfl rfl ?_
    obtain ⟨h_5, hf⟩ := chk_s hf
    refine va_iald hx hb hK.1 hP 4 0 rfl rfl (inb_in h_5) dX4_extendRing_34 ?_
    refine lv_iconst (v := 1) hx hb dX4_extendRing_35 (by decide) ?_
    refine lv_iadd hx hb dX4_extendRing_36 ?_
    obtain ⟨h_6, hf⟩ := chk_s hf
    refine va_iast hx hb hK.1 hP hD hS 4 0 rfl rfl (inb_in h_6) dX4_extendRing_37 (fun H locs hP hD hS => ?_)
    have hP : va_P D vwCl (wX4 cA a_pl pl_rest pl_sketch pl_placed pl_rings (upd pl_ringNodes ((p1 * 9) + (pl_ringLength p1.toNatClampNeg)).toNatClampNeg p2) (upd pl_ringLength p1.toNatClampNeg ((pl_ringLength p1.toNatClampNeg) + 1)) pl_ringSet pl_oldRing pl_path pl_pathLength pl_queue pl_origin pl_inside pl_ends pl_ring pl_choices) H := hP
    have hD : va_D A (wX4 cA a_pl pl_rest pl_sketch pl_placed pl_rings (upd pl_ringNodes ((p1 * 9) + (pl_ringLength p1.toNatClampNeg)).toNatClampNeg p2) (upd pl_ringLength p1.toNatClampNeg ((pl_ringLength p1.toNatClampNeg) + 1)) pl_ringSet pl_oldRing pl_path pl_pathLength pl_queue pl_origin pl_inside pl_ends pl_ring pl_choices) := hD
    refine lv_aload_n hx hb dX4_extendRing_38 rfl (lv_at hl 0 rfl) ?_
    refine va_get (D := D) (ci := 4) (C := RX4) (T := TX4) (N := 16) hx hb hT kwX4 hown hK.1 hP 0 rfl rfl 6 (by decide) (hT _ kf_X4_24) (fun _ h9 => h9) rfl dX4_extendRing_39 ?_
    refine lv_iload_n hx hb dX4_extendRing_42 rfl (lv_at hl 1 rfl) ?_
    refine lv_dup2_11 hx hb dX4_extendRing_43 rfl rfl ?_
    obtain ⟨h_7, hf⟩ := chk_s hf
    refine va_iald hx hb hK.1 hP 5 0 rfl rfl (inb_in h_7) dX4_extendRing_44 ?_
    refine lv_iload_n hx hb dX4_extendRing_45 rfl (lv_at hl 2 rfl) ?_
    obtain ⟨r_8, hcr_8, hf⟩ := bd1_s hf
    refine backI (runN0 C (c_X7_bit l D cA p2 N r_8 hcr_8) cf_X7_bit kn_X4_73 ⟨rfl, rfl, by decide, by decide⟩ ⟨Nat.zero_le _, Nat.zero_le _⟩ (hP.sub [] rfl) hK hl.1 rfl rfl (Nat.le_of_ble_eq_true rfl) dX4_extendRing_46) ?_
    refine lv_ior hx hb dX4_extendRing_49 ?_
    obtain ⟨h_9, hf⟩ := chk_s hf
    refine va_iast hx hb hK.1 hP hD hS 5 0 rfl rfl (inb_in h_9) dX4_extendRing_50 (fun H locs hP hD hS => ?_)
    have hP : va_P D vwCl (wX4 cA a_pl pl_rest pl_sketch pl_placed pl_rings (upd pl_ringNodes ((p1 * 9) + (pl_ringLength p1.toNatClampNeg)).toNatClampNeg p2) (upd pl_ringLength p1.toNatClampNeg ((pl_ringLength p1.toNatClampNeg) + 1)) (upd pl_ringSet p1.toNatClampNeg ((pl_ringSet p1.toNatClampNeg) ||| r_8)) pl_oldRing pl_path pl_pathLength pl_queue pl_origin pl_inside pl_ends pl_ring pl_choices) H := hP
    have hD : va_D A (wX4 cA a_pl pl_rest pl_sketch pl_placed pl_rings (upd pl_ringNodes ((p1 * 9) + (pl_ringLength p1.toNatClampNeg)).toNatClampNeg p2) (upd pl_ringLength p1.toNatClampNeg ((pl_ringLength p1.toNatClampNeg) + 1)) (upd pl_ringSet p1.toNatClampNeg ((pl_ringSet p1.toNatClampNeg) ||| r_8)) pl_oldRing pl_path pl_pathLength pl_queue pl_origin pl_inside pl_ends pl_ring pl_choices) := hD
    have eR := some_i hf
    exact W.vret hx hb hr (fun t ht hW => ⟨⟨(), rfl, trivial, by rw [← eR, ht]; exact hP, by rw [← eR]; exact hD⟩, hS.F ht⟩) hS.2.2 dX4_extendRing_51 (hlocks := hlk)
set_option maxRecDepth 100000 in
set_option maxHeartbeats 4000000 in
theorem c_X4_copyArc (l : Launch) (D : va_G) (cA : Nat → ClassId) (a_pl : Nat → Nat) (pl_rest : Nat → Int32) (pl_sketch : Nat → Int32) (pl_placed : Int32) (pl_rings : Int32) (pl_ringNodes : Nat → Int32) (pl_ringLength : Nat → Int32) (pl_ringSet : Nat → Int32) (pl_oldRing : Nat → Int32) (pl_path : Nat → Int32) (pl_pathLength : Int32) (pl_queue : Nat → Int32) (pl_origin : Nat → Int32) (pl_inside : Int32) (pl_ends : Int32) (pl_ring : Int32) (pl_choices : Int32) (p1 : Int32) (p2 : Int32) (p3 : Int32) (p4 : Int32) (sz N : Nat) (ρ : (Nat → Int32) × (Nat → Int32) × (Nat → Int32)) (hf : f_X4_copyArc N pl_ringNodes pl_ringLength pl_ringSet pl_oldRing p1 p2 p3 p4 = some ρ) : Met l yX4_copyArc (Cond.code yX4_copyArc cX4_copyArc 8 (Option.none : Option Jvm.ClassFile.FieldType) :: lw_g) ({ frames := 2, cells := 0, slots := 0, locals := 42 } : Room) (PcW D (tyA cA) (wX4 cA a_pl pl_rest pl_sketch pl_placed pl_rings pl_ringNodes pl_ringLength pl_ringSet pl_oldRing pl_path pl_pathLength pl_queue pl_origin pl_inside pl_ends pl_ring pl_choices) sz [.ref (a_pl 0), .int p1, .int p2, .int p3, .int p4]) (va_Qv (fun (_ : Unit) => True) (fun _ t => va_P D vwCl (wX4 cA a_pl pl_rest pl_sketch pl_placed pl_rings ρ.1 ρ.2.1 ρ.2.2 pl_oldRing pl_path pl_pathLength pl_queue pl_origin pl_inside pl_ends pl_ring pl_choices) t.heap ∧ va_D (va_A (wX4 cA a_pl pl_rest pl_sketch pl_placed pl_rings pl_ringNodes pl_ringLength pl_ringSet pl_oldRing pl_path pl_pathLength pl_queue pl_origin pl_inside pl_ends pl_ring pl_choices) sz) (wX4 cA a_pl pl_rest pl_sketch pl_placed pl_rings ρ.1 ρ.2.1 ρ.2.2 pl_oldRing pl_path pl_pathLength pl_queue pl_origin pl_inside pl_ends pl_ring pl_choices)) (va_A (wX4 cA a_pl pl_rest pl_sketch pl_placed pl_rings pl_ringNodes pl_ringLength pl_ringSet pl_oldRing pl_path pl_pathLength pl_queue pl_origin pl_inside pl_ends pl_ring pl_choices) sz)) 0 0 (va_A (wX4 cA a_pl pl_rest pl_sketch pl_placed pl_rings pl_ringNodes pl_ringLength pl_ringSet pl_oldRing pl_path pl_pathLength pl_queue pl_origin pl_inside pl_ends pl_ring pl_choices) sz) := by
  refine mkW (QQ := fun A => va_Qv (fun (_ : Unit) => True) (fun _ t => va_P D vwCl (wX4 cA a_pl pl_rest pl_sketch pl_placed pl_rings ρ.1 ρ.2.1 ρ.2.2 pl_oldRing pl_path pl_pathLength pl_queue pl_origin pl_inside pl_ends pl_ring pl_choices) t.heap ∧ va_D A (wX4 cA a_pl pl_rest pl_sketch pl_placed pl_rings ρ.1 ρ.2.1 ρ.2.2 pl_oldRing pl_path pl_pathLength pl_queue pl_origin pl_inside pl_ends pl_ring pl_choices)) A) (by decide) (Nat.le_of_ble_eq_true rfl) fun p e s m below meth c ls A C hl hP hK hD hA hS => ?_
  obtain ⟨hx, hb, hml, hown, hT, hr, hlk⟩ := id C
  have hl : lv_has ls 8 [(0, .ref (a_pl 0)), (1, .int p1), (2, .int p2), (3, .int p3), (4, .int p4)] := hl
  have B56 : ∀ (n56 : Nat), ∀ (x1 : Int32) (x3 : Int32) (x4 : Int32) (x5 : Int32) (x6 : Int32) (pl_ringNodes : Nat → Int32) (pl_ringLength : Nat → Int32) (pl_ringSet : Nat → Int32) (H : Heap) (locs : List Loc) (ls : Array Slot), lv_has ls 8 [(0, .ref (a_pl 0)), (1, .int x1), (3, .int x3), (4, .int x4), (5, .int x5), (6, .int x6)] → va_P D vwCl (wX4 cA a_pl pl_rest pl_sketch pl_placed pl_rings pl_ringNodes pl_ringLength pl_ringSet pl_oldRing pl_path pl_pathLength pl_queue pl_origin pl_inside pl_ends pl_ring pl_choices) H → va_D A (wX4 cA a_pl pl_rest pl_sketch pl_placed pl_rings pl_ringNodes pl_ringLength pl_ringSet pl_oldRing pl_path pl_pathLength pl_queue pl_origin pl_inside pl_ends pl_ring pl_choices) → va_S A s.heap H locs → f_X4_copyArc_b56 N pl_oldRing n56 x1 x3 x4 x5 x6 pl_ringNodes pl_ringLength pl_ringSet = some ρ → W p l e ({ frames := 2, cells := 0, slots := 0, locals := 42 } : Room) s m ([.ref (a_pl 0), .int p1, .int p2, .int p3, .int p4] : List Value).toArray below meth c H locs 0 0 (MQ below (va_Qv (fun (_ : Unit) => True) (fun _ t => va_P D vwCl (wX4 cA a_pl pl_rest pl_sketch pl_placed pl_rings ρ.1 ρ.2.1 ρ.2.2 pl_oldRing pl_path pl_pathLength pl_queue pl_origin pl_inside pl_ends pl_ring pl_choices) t.heap ∧ va_D A (wX4 cA a_pl pl_rest pl_sketch pl_placed pl_rings ρ.1 ρ.2.1 ρ.2.2 pl_oldRing pl_path pl_pathLength pl_queue pl_origin pl_inside pl_ends pl_ring pl_choices)) A) ([.ref (a_pl 0), .int p1, .int p2, .int p3, .int p4] : List Value).toArray s 0 0 A) (F0 m 56 ls []) := by
    intro n56
    induction n56 with
    | zero =>
      intro x1 x3 x4 x5 x6 pl_ringNodes pl_ringLength pl_ringSet H locs ls hl hP hD hS hf
      cases (show (none : Option ((Nat → Int32) × (Nat → Int32) × (Nat → Int32))) = some ρ from hf)
    | succ n56 ih56 =>
      have B103 : ∀ (x1 : Int32) (x3 : Int32) (x4 : Int32) (x6 : Int32) (y0 : Int32) (pl_ringNodes : Nat → Int32) (pl_ringLength : Nat → Int32) (pl_ringSet : Nat → Int32) (H : Heap) (locs : List Loc) (ls : Array Slot), lv_has ls 8 [(0, .ref (a_pl 0)), (1, .int x1), (3, .int x3), (4, .int x4), (6, .int x6)] → va_P D vwCl (wX4 cA a_pl pl_rest pl_sketch pl_placed pl_rings pl_ringNodes pl_ringLength pl_ringSet pl_oldRing pl_path pl_pathLength pl_queue pl_origin pl_inside pl_ends pl_ring pl_choices) H → va_D A (wX4 cA a_pl pl_rest pl_sketch pl_placed pl_rings pl_ringNodes pl_ringLength pl_ringSet pl_oldRing pl_path pl_pathLength pl_queue pl_origin pl_inside pl_ends pl_ring pl_choices) → va_S A s.heap H locs → f_X4_copyArc_b103 N pl_oldRing (f_X4_copyArc_b56 N pl_oldRing n56) x1 x3 x4 x6 y0 pl_ringNodes pl_ringLength pl_ringSet = some ρ → W p l e ({ frames := 2, cells := 0, slots := 0, locals := 42 } : Room) s m ([.ref (a_pl 0), .int p1, .int p2, .int p3, .int p4] : List Value).toArray below meth c H locs 0 0 (MQ below (va_Qv (fun (_ : Unit) => True) (fun _ t => va_P D vwCl (wX4 cA a_pl pl_rest pl_sketch pl_placed pl_rings ρ.1 ρ.2.1 ρ.2.2 pl_oldRing pl_path pl_pathLength pl_queue pl_origin pl_inside pl_ends pl_ring pl_choices) t.heap ∧ va_D A (wX4 cA a_pl pl_rest pl_sketch pl_placed pl_rings ρ.1 ρ.2.1 ρ.2.2 pl_oldRing pl_path pl_pathLength pl_queue pl_origin pl_inside pl_ends pl_ring pl_choices)) A) ([.ref (a_pl 0), .int p1, .int p2, .int p3, .int p4] : List Value).toArray s 0 0 A) (F0 m 103 ls [.int y0]) := by
        intro x1 x3 x4 x6 y0 pl_ringNodes pl_ringLength pl_ringSet H locs ls hl hP hD hS hf
        refine lv_istore (lv' := [(5, .int y0), (0, .ref (a_pl 0)), (1, .int x1), (3, .int x3), (4, .int x4), (6, .int x6)]) hx hb dX4_copyArc_103 hl (by decide) rfl (fun ls hl => ?_)
        refine lv_iinc (v := (x6 + 1)) (lv' := [(6, .int (x6 + 1)), (5, .int y0), (0, .ref (a_pl 0)), (1, .int x1), (3, .int x3), (4, .int x4)]) hx hb dX4_copyArc_105 hl (k := 5) rfl rfl (by decide) rfl (fun ls hl => ?_)
        refine lv_goto (tgt := 56) hx hb dX4_copyArc_108 (by decide) ?_
        exact ih56 x1 x3 x4 y0 (x6 + 1) pl_ringNodes pl_ringLength pl_ringSet _ _ _ (lv_sub hl [2, 3, 4, 5, 1, 0] rfl) hP hD hS hf
      intro x1 x3 x4 x5 x6 pl_ringNodes pl_ringLength pl_ringSet H locs ls hl hP hD hS hf
      refine lv_iload hx hb dX4_copyArc_56 (lv_at hl 5 rfl) ?_
      refine lv_iload hx hb dX4_copyArc_58 (lv_at hl 3 rfl) ?_
      refine lv_icmp_ge (tgt := 111) hx hb dX4_copyArc_60 (by decide) (fun c_6 => ?_) (fun c_6 => ?_)
      · have hf := ite_t c_6 hf
        have eR := some_i hf
        exact W.vret hx hb hr (fun t ht hW => ⟨⟨(), rfl, trivial, by rw [← eR, ht]; exact hP, by rw [← eR]; exact hD⟩, hS.F ht⟩) hS.2.2 dX4_copyArc_111 (hlocks := hlk)
      · have hf := ite_f c_6 hf
        refine lv_aload_n hx hb dX4_copyArc_63 rfl (lv_at hl 0 rfl) ?_
        refine va_get (D := D) (ci := 4) (C := RX4) (T := TX4) (N := 16) hx hb hT kwX4 hown hK.1 hP 0 rfl rfl 7 (by decide) (hT _ kf_X4_27) (fun _ h9 => h9) rfl dX4_copyArc_64 ?_
        refine lv_iload hx hb dX4_copyArc_67 (lv_at hl 4 rfl) ?_
        obtain ⟨h_7, hf⟩ := chk_s hf
        refine va_iald hx hb hK.1 hP 6 0 rfl rfl (inb_in h_7) dX4_copyArc_69 ?_
        refine lv_topi (fun x7_8 ex7_8 => ?_)
        have hf := nm_t ex7_8 hf
        refine lv_istore (lv' := [(7, .int x7_8), (0, .ref (a_pl 0)), (1, .int x1), (3, .int x3), (4, .int x4), (5, .int x5), (6, .int x6)]) hx hb dX4_copyArc_70 hl (by decide) rfl (fun ls hl => ?_)
        refine lv_aload_n hx hb dX4_copyArc_72 rfl (lv_at hl 1 rfl) ?_
        refine lv_iload_n hx hb dX4_copyArc_73 rfl (lv_at hl 2 rfl) ?_
        refine lv_iload hx hb dX4_copyArc_74 (lv_at hl 0 rfl) ?_
        obtain ⟨r_9, hcr_9, hf⟩ := bd1_s hf
        refine backWv (w2 := (wX4 cA a_pl pl_rest pl_sketch pl_placed pl_rings r_9.1 r_9.2.1 r_9.2.2 pl_oldRing pl_path pl_pathLength pl_queue pl_origin pl_inside pl_ends pl_ring pl_choices)) (runVw C (c_X4_extendRing l D cA a_pl pl_rest pl_sketch pl_placed pl_rings pl_ringNodes pl_ringLength pl_ringSet pl_oldRing pl_path pl_pathLength pl_queue pl_origin pl_inside pl_ends pl_ring pl_choices x1 x7_8 _ N r_9 hcr_9) cf_X4_extendRing km_X4_151 ⟨rfl, rfl, by decide, by decide⟩ ⟨Nat.zero_le _, Nat.zero_le _⟩ (va_recv hK.1 hP (ci := 4) (q0 := 0) rfl rfl) (hP.sub [0, 1, 2, 3, 4, 5, 6, 7, 8, 9] rfl) (hD.sub [0, 1, 2, 3, 4, 5, 6, 7, 8, 9] rfl rfl) hK hl.1 rfl rfl (Nat.le_of_ble_eq_true rfl) dX4_copyArc_76) hP hD hS hA [0, 1, 2, 3, 4, 5, 6, 7, 8, 9] rfl [] rfl rfl (by decide) [0, 1, 2, 3, 4, 5, 6, 7, 8, 9] rfl rfl (fun H locs hP hD hS => ?_)
        refine lv_iload hx hb dX4_copyArc_79 (lv_at hl 0 rfl) ?_
        refine lv_iload_n hx hb dX4_copyArc_81 rfl (lv_at hl 3 rfl) ?_
        refine lv_icmp_ne (tgt := 86) hx hb dX4_copyArc_82 (by decide) (fun c_10 => ?_) (fun c_10 => ?_)
        · have hf := ite_t c_10 hf
          refine lv_iload hx hb dX4_copyArc_86 (lv_at hl 5 rfl) ?_
          refine lv_iconst (v := 1) hx hb dX4_copyArc_88 (by decide) ?_
          refine lv_iadd hx hb dX4_copyArc_89 ?_
          refine lv_iload hx hb dX4_copyArc_90 (lv_at hl 4 rfl) ?_
          refine lv_icmp_ge (tgt := 102) hx hb dX4_copyArc_92 (by decide) (fun c_11 => ?_) (fun c_11 => ?_)
          · have hf := ite_t c_11 hf
            refine lv_iconst (v := 0) hx hb dX4_copyArc_102 (by decide) ?_
            exact B103 x1 x3 x4 x6 0 r_9.1 r_9.2.1 r_9.2.2 _ _ _ (lv_sub hl [1, 2, 3, 4, 6] rfl) hP hD hS hf
          · have hf := ite_f c_11 hf
            refine lv_iload hx hb dX4_copyArc_95 (lv_at hl 5 rfl) ?_
            refine lv_iconst (v := 1) hx hb dX4_copyArc_97 (by decide) ?_
            refine lv_iadd hx hb dX4_copyArc_98 ?_
            refine lv_goto (tgt := 103) hx hb dX4_copyArc_99 (by decide) ?_
            exact B103 x1 x3 x4 x6 (x5 + 1) r_9.1 r_9.2.1 r_9.2.2 _ _ _ (lv_sub hl [1, 2, 3, 4, 6] rfl) hP hD hS hf
        · have hf := ite_fn c_10 hf
          have eR := some_i hf
          exact W.vret hx hb hr (fun t ht hW => ⟨⟨(), rfl, trivial, by rw [← eR, ht]; exact hP, by rw [← eR]; exact hD⟩, hS.F ht⟩) hS.2.2 dX4_copyArc_85 (hlocks := hlk)
  have B39 : ∀ (x1 : Int32) (x3 : Int32) (x4 : Int32) (x5 : Int32) (pl_ringNodes : Nat → Int32) (pl_ringLength : Nat → Int32) (pl_ringSet : Nat → Int32) (H : Heap) (locs : List Loc) (ls : Array Slot), lv_has ls 8 [(0, .ref (a_pl 0)), (1, .int x1), (3, .int x3), (4, .int x4), (5, .int x5)] → va_P D vwCl (wX4 cA a_pl pl_rest pl_sketch pl_placed pl_rings pl_ringNodes pl_ringLength pl_ringSet pl_oldRing pl_path pl_pathLength pl_queue pl_origin pl_inside pl_ends pl_ring pl_choices) H → va_D A (wX4 cA a_pl pl_rest pl_sketch pl_placed pl_rings pl_ringNodes pl_ringLength pl_ringSet pl_oldRing pl_path pl_pathLength pl_queue pl_origin pl_inside pl_ends pl_ring pl_choices) → va_S A s.heap H locs → f_X4_copyArc_b39 N pl_oldRing x1 x3 x4 x5 pl_ringNodes pl_ringLength pl_ringSet = some ρ → W p l e ({ frames := 2, cells := 0, slots := 0, locals := 42 } : Room) s m ([.ref (a_pl 0), .int p1, .int p2, .int p3, .int p4] : List Value).toArray below meth c H locs 0 0 (MQ below (va_Qv (fun (_ : Unit) => True) (fun _ t => va_P D vwCl (wX4 cA a_pl pl_rest pl_sketch pl_placed pl_rings ρ.1 ρ.2.1 ρ.2.2 pl_oldRing pl_path pl_pathLength pl_queue pl_origin pl_inside pl_ends pl_ring pl_choices) t.heap ∧ va_D A (wX4 cA a_pl pl_rest pl_sketch pl_placed pl_rings ρ.1 ρ.2.1 ρ.2.2 pl_oldRing pl_path pl_pathLength pl_queue pl_origin pl_inside pl_ends pl_ring pl_choices)) A) ([.ref (a_pl 0), .int p1, .int p2, .int p3, .int p4] : List Value).toArray s 0 0 A) (F0 m 39 ls []) := by
    intro x1 x3 x4 x5 pl_ringNodes pl_ringLength pl_ringSet H locs ls hl hP hD hS hf
    refine lv_aload_n hx hb dX4_copyArc_39 rfl (lv_at hl 0 rfl) ?_
    refine va_get (D := D) (ci := 4) (C := RX4) (T := TX4) (N := 16) hx hb hT kwX4 hown hK.1 hP 0 rfl rfl 5 (by decide) (hT _ kf_X4_21) (fun _ h9 => h9) rfl dX4_copyArc_40 ?_
    refine lv_iload_n hx hb dX4_copyArc_43 rfl (lv_at hl 1 rfl) ?_
    refine lv_iconst (v := 0) hx hb dX4_copyArc_44 (by decide) ?_
    obtain ⟨h_4, hf⟩ := chk_s hf
    refine va_iast hx hb hK.1 hP hD hS 4 0 rfl rfl (inb_in h_4) dX4_copyArc_45 (fun H locs hP hD hS => ?_)
    have hP : va_P D vwCl (wX4 cA a_pl pl_rest pl_sketch pl_placed pl_rings pl_ringNodes (upd pl_ringLength x1.toNatClampNeg 0) pl_ringSet pl_oldRing pl_path pl_pathLength pl_queue pl_origin pl_inside pl_ends pl_ring pl_choices) H := hP
    have hD : va_D A (wX4 cA a_pl pl_rest pl_sketch pl_placed pl_rings pl_ringNodes (upd pl_ringLength x1.toNatClampNeg 0) pl_ringSet pl_oldRing pl_path pl_pathLength pl_queue pl_origin pl_inside pl_ends pl_ring pl_choices) := hD
    refine lv_aload_n hx hb dX4_copyArc_46 rfl (lv_at hl 0 rfl) ?_
    refine va_get (D := D) (ci := 4) (C := RX4) (T := TX4) (N := 16) hx hb hT kwX4 hown hK.1 hP 0 rfl rfl 6 (by decide) (hT _ kf_X4_24) (fun _ h9 => h9) rfl dX4_copyArc_47 ?_
    refine lv_iload_n hx hb dX4_copyArc_50 rfl (lv_at hl 1 rfl) ?_
    refine lv_iconst (v := 0) hx hb dX4_copyArc_51 (by decide) ?_
    obtain ⟨h_5, hf⟩ := chk_s hf
    refine va_iast hx hb hK.1 hP hD hS 5 0 rfl rfl (inb_in h_5) dX4_copyArc_52 (fun H locs hP hD hS => ?_)
    have hP : va_P D vwCl (wX4 cA a_pl pl_rest pl_sketch pl_placed pl_rings pl_ringNodes (upd pl_ringLength x1.toNatClampNeg 0) (upd pl_ringSet x1.toNatClampNeg 0) pl_oldRing pl_path pl_pathLength pl_queue pl_origin pl_inside pl_ends pl_ring pl_choices) H := hP
    have hD : va_D A (wX4 cA a_pl pl_rest pl_sketch pl_placed pl_rings pl_ringNodes (upd pl_ringLength x1.toNatClampNeg 0) (upd pl_ringSet x1.toNatClampNeg 0) pl_oldRing pl_path pl_pathLength pl_queue pl_origin pl_inside pl_ends pl_ring pl_choices) := hD
    refine lv_iconst (v := 0) hx hb dX4_copyArc_53 (by decide) ?_
    refine lv_istore (lv' := [(6, .int 0), (0, .ref (a_pl 0)), (1, .int x1), (3, .int x3), (4, .int x4), (5, .int x5)]) hx hb dX4_copyArc_54 hl (by decide) rfl (fun ls hl => ?_)
    exact B56 N x1 x3 x4 x5 0 pl_ringNodes (upd pl_ringLength x1.toNatClampNeg 0) (upd pl_ringSet x1.toNatClampNeg 0) _ _ _ (lv_sub hl [1, 2, 3, 4, 5, 0] rfl) hP hD hS hf
  have B6 : ∀ (n6 : Nat), ∀ (x1 : Int32) (x2 : Int32) (x3 : Int32) (x4 : Int32) (x5 : Int32) (x6 : Int32) (pl_ringNodes : Nat → Int32) (pl_ringLength : Nat → Int32) (pl_ringSet : Nat → Int32) (H : Heap) (locs : List Loc) (ls : Array Slot), lv_has ls 8 [(0, .ref (a_pl 0)), (1, .int x1), (2, .int x2), (3, .int x3), (4, .int x4), (5, .int x5), (6, .int x6)] → va_P D vwCl (wX4 cA a_pl pl_rest pl_sketch pl_placed pl_rings pl_ringNodes pl_ringLength pl_ringSet pl_oldRing pl_path pl_pathLength pl_queue pl_origin pl_inside pl_ends pl_ring pl_choices) H → va_D A (wX4 cA a_pl pl_rest pl_sketch pl_placed pl_rings pl_ringNodes pl_ringLength pl_ringSet pl_oldRing pl_path pl_pathLength pl_queue pl_origin pl_inside pl_ends pl_ring pl_choices) → va_S A s.heap H locs → f_X4_copyArc_b6 N pl_oldRing n6 x1 x2 x3 x4 x5 x6 pl_ringNodes pl_ringLength pl_ringSet = some ρ → W p l e ({ frames := 2, cells := 0, slots := 0, locals := 42 } : Room) s m ([.ref (a_pl 0), .int p1, .int p2, .int p3, .int p4] : List Value).toArray below meth c H locs 0 0 (MQ below (va_Qv (fun (_ : Unit) => True) (fun _ t => va_P D vwCl (wX4 cA a_pl pl_rest pl_sketch pl_placed pl_rings ρ.1 ρ.2.1 ρ.2.2 pl_oldRing pl_path pl_pathLength pl_queue pl_origin pl_inside pl_ends pl_ring pl_choices) t.heap ∧ va_D A (wX4 cA a_pl pl_rest pl_sketch pl_placed pl_rings ρ.1 ρ.2.1 ρ.2.2 pl_oldRing pl_path pl_pathLength pl_queue pl_origin pl_inside pl_ends pl_ring pl_choices)) A) ([.ref (a_pl 0), .int p1, .int p2, .int p3, .int p4] : List Value).toArray s 0 0 A) (F0 m 6 ls []) := by
    intro n6
    induction n6 with
    | zero =>
      intro x1 x2 x3 x4 x5 x6 pl_ringNodes pl_ringLength pl_ringSet H locs ls hl hP hD hS hf
      cases (show (none : Option ((Nat → Int32) × (Nat → Int32) × (Nat → Int32))) = some ρ from hf)
    | succ n6 ih6 =>
      have B31 : ∀ (x1 : Int32) (x2 : Int32) (x3 : Int32) (x4 : Int32) (x6 : Int32) (y0 : Int32) (pl_ringNodes : Nat → Int32) (pl_ringLength : Nat → Int32) (pl_ringSet : Nat → Int32) (H : Heap) (locs : List Loc) (ls : Array Slot), lv_has ls 8 [(0, .ref (a_pl 0)), (1, .int x1), (2, .int x2), (3, .int x3), (4, .int x4), (6, .int x6)] → va_P D vwCl (wX4 cA a_pl pl_rest pl_sketch pl_placed pl_rings pl_ringNodes pl_ringLength pl_ringSet pl_oldRing pl_path pl_pathLength pl_queue pl_origin pl_inside pl_ends pl_ring pl_choices) H → va_D A (wX4 cA a_pl pl_rest pl_sketch pl_placed pl_rings pl_ringNodes pl_ringLength pl_ringSet pl_oldRing pl_path pl_pathLength pl_queue pl_origin pl_inside pl_ends pl_ring pl_choices) → va_S A s.heap H locs → f_X4_copyArc_b31 N pl_oldRing (f_X4_copyArc_b6 N pl_oldRing n6) x1 x2 x3 x4 x6 y0 pl_ringNodes pl_ringLength pl_ringSet = some ρ → W p l e ({ frames := 2, cells := 0, slots := 0, locals := 42 } : Room) s m ([.ref (a_pl 0), .int p1, .int p2, .int p3, .int p4] : List Value).toArray below meth c H locs 0 0 (MQ below (va_Qv (fun (_ : Unit) => True) (fun _ t => va_P D vwCl (wX4 cA a_pl pl_rest pl_sketch pl_placed pl_rings ρ.1 ρ.2.1 ρ.2.2 pl_oldRing pl_path pl_pathLength pl_queue pl_origin pl_inside pl_ends pl_ring pl_choices) t.heap ∧ va_D A (wX4 cA a_pl pl_rest pl_sketch pl_placed pl_rings ρ.1 ρ.2.1 ρ.2.2 pl_oldRing pl_path pl_pathLength pl_queue pl_origin pl_inside pl_ends pl_ring pl_choices)) A) ([.ref (a_pl 0), .int p1, .int p2, .int p3, .int p4] : List Value).toArray s 0 0 A) (F0 m 31 ls [.int y0]) := by
        intro x1 x2 x3 x4 x6 y0 pl_ringNodes pl_ringLength pl_ringSet H locs ls hl hP hD hS hf
        refine lv_istore (lv' := [(5, .int y0), (0, .ref (a_pl 0)), (1, .int x1), (2, .int x2), (3, .int x3), (4, .int x4), (6, .int x6)]) hx hb dX4_copyArc_31 hl (by decide) rfl (fun ls hl => ?_)
        refine lv_iinc (v := (x6 + 1)) (lv' := [(6, .int (x6 + 1)), (5, .int y0), (0, .ref (a_pl 0)), (1, .int x1), (2, .int x2), (3, .int x3), (4, .int x4)]) hx hb dX4_copyArc_33 hl (k := 6) rfl rfl (by decide) rfl (fun ls hl => ?_)
        refine lv_goto (tgt := 6) hx hb dX4_copyArc_36 (by decide) ?_
        exact ih6 x1 x2 x3 x4 y0 (x6 + 1) pl_ringNodes pl_ringLength pl_ringSet _ _ _ (lv_sub hl [2, 3, 4, 5, 6, 1, 0] rfl) hP hD hS hf
      intro x1 x2 x3 x4 x5 x6 pl_ringNodes pl_ringLength pl_ringSet H locs ls hl hP hD hS hf
      refine lv_iload hx hb dX4_copyArc_6 (lv_at hl 6 rfl) ?_
      refine lv_iload hx hb dX4_copyArc_8 (lv_at hl 4 rfl) ?_
      refine lv_icmp_ge (tgt := 39) hx hb dX4_copyArc_10 (by decide) (fun c_1 => ?_) (fun c_1 => ?_)
      · have hf := ite_t c_1 hf
        exact B39 x1 x3 x4 x5 pl_ringNodes pl_ringLength pl_ringSet _ _ _ (lv_sub hl [0, 1, 3, 4, 5] rfl) hP hD hS hf
      · have hf := ite_f c_1 hf
        refine lv_aload_n hx hb dX4_copyArc_13 rfl (lv_at hl 0 rfl) ?_
        refine va_get (D := D) (ci := 4) (C := RX4) (T := TX4) (N := 16) hx hb hT kwX4 hown hK.1 hP 0 rfl rfl 7 (by decide) (hT _ kf_X4_27) (fun _ h9 => h9) rfl dX4_copyArc_14 ?_
        refine lv_iload hx hb dX4_copyArc_17 (lv_at hl 6 rfl) ?_
        obtain ⟨h_2, hf⟩ := chk_s hf
        refine va_iald hx hb hK.1 hP 6 0 rfl rfl (inb_in h_2) dX4_copyArc_19 ?_
        refine lv_iload_n hx hb dX4_copyArc_20 rfl (lv_at hl 2 rfl) ?_
        refine lv_icmp_ne (tgt := 29) hx hb dX4_copyArc_21 (by decide) (fun c_3 => ?_) (fun c_3 => ?_)
        · have hf := ite_t c_3 hf
          refine lv_iload hx hb dX4_copyArc_29 (lv_at hl 5 rfl) ?_
          exact B31 x1 x2 x3 x4 x6 x5 pl_ringNodes pl_ringLength pl_ringSet _ _ _ (lv_sub hl [0, 1, 2, 3, 4, 6] rfl) hP hD hS hf
        · have hf := ite_fn c_3 hf
          refine lv_iload hx hb dX4_copyArc_24 (lv_at hl 6 rfl) ?_
          refine lv_goto (tgt := 31) hx hb dX4_copyArc_26 (by decide) ?_
          exact B31 x1 x2 x3 x4 x6 x6 pl_ringNodes pl_ringLength pl_ringSet _ _ _ (lv_sub hl [0, 1, 2, 3, 4, 6] rfl) hP hD hS hf
  refine lv_iconst (v := 0) hx hb dX4_copyArc_0 (by decide) ?_
  refine lv_istore (lv' := [(5, .int 0), (0, .ref (a_pl 0)), (1, .int p1), (2, .int p2), (3, .int p3), (4, .int p4)]) hx hb dX4_copyArc_1 hl (by decide) rfl (fun ls hl => ?_)
  refine lv_iconst (v := 0) hx hb dX4_copyArc_3 (by decide) ?_
  refine lv_istore (lv' := [(6, .int 0), (5, .int 0), (0, .ref (a_pl 0)), (1, .int p1), (2, .int p2), (3, .int p3), (4, .int p4)]) hx hb dX4_copyArc_4 hl (by decide) rfl (fun ls hl => ?_)
  exact B6 N p1 p2 p3 p4 0 0 pl_ringNodes pl_ringLength pl_ringSet _ _ _ (lv_sub hl [2, 3, 4, 5, 6, 1, 0] rfl) hP hD hS hf
set_option maxRecDepth 100000 in
set_option maxHeartbeats 4000000 in
theorem c_X4_splitRing (l : Launch) (D : va_G) (cA : Nat → ClassId) (a_pl : Nat → Nat) (pl_rest : Nat → Int32) (pl_sketch : Nat → Int32) (pl_placed : Int32) (pl_rings : Int32) (pl_ringNodes : Nat → Int32) (pl_ringLength : Nat → Int32) (pl_ringSet : Nat → Int32) (pl_oldRing : Nat → Int32) (pl_path : Nat → Int32) (pl_pathLength : Int32) (pl_queue : Nat → Int32) (pl_origin : Nat → Int32) (pl_inside : Int32) (pl_ends : Int32) (pl_ring : Int32) (pl_choices : Int32) (sz N : Nat) (ρ : Int32 × (Nat → Int32) × (Nat → Int32) × (Nat → Int32) × (Nat → Int32)) (hf : f_X4_splitRing N pl_rings pl_ringNodes pl_ringLength pl_ringSet pl_oldRing pl_path pl_pathLength pl_ring = some ρ) : Met l yX4_splitRing (Cond.code yX4_splitRing cX4_splitRing 5 (Option.none : Option Jvm.ClassFile.FieldType) :: lw_g) ({ frames := 3, cells := 0, slots := 0, locals := 69 } : Room) (PcW D (tyA cA) (wX4 cA a_pl pl_rest pl_sketch pl_placed pl_rings pl_ringNodes pl_ringLength pl_ringSet pl_oldRing pl_path pl_pathLength pl_queue pl_origin pl_inside pl_ends pl_ring pl_choices) sz [.ref (a_pl 0)]) (va_Qv (fun (_ : Unit) => True) (fun _ t => va_P D vwCl (wX4 cA a_pl pl_rest pl_sketch pl_placed ρ.1 ρ.2.1 ρ.2.2.1 ρ.2.2.2.1 ρ.2.2.2.2 pl_path pl_pathLength pl_queue pl_origin pl_inside pl_ends pl_ring pl_choices) t.heap ∧ va_D (va_A (wX4 cA a_pl pl_rest pl_sketch pl_placed pl_rings pl_ringNodes pl_ringLength pl_ringSet pl_oldRing pl_path pl_pathLength pl_queue pl_origin pl_inside pl_ends pl_ring pl_choices) sz) (wX4 cA a_pl pl_rest pl_sketch pl_placed ρ.1 ρ.2.1 ρ.2.2.1 ρ.2.2.2.1 ρ.2.2.2.2 pl_path pl_pathLength pl_queue pl_origin pl_inside pl_ends pl_ring pl_choices)) (va_A (wX4 cA a_pl pl_rest pl_sketch pl_placed pl_rings pl_ringNodes pl_ringLength pl_ringSet pl_oldRing pl_path pl_pathLength pl_queue pl_origin pl_inside pl_ends pl_ring pl_choices) sz)) 0 0 (va_A (wX4 cA a_pl pl_rest pl_sketch pl_placed pl_rings pl_ringNodes pl_ringLength pl_ringSet pl_oldRing pl_path pl_pathLength pl_queue pl_origin pl_inside pl_ends pl_ring pl_choices) sz) := by
  refine mkW (QQ := fun A => va_Qv (fun (_ : Unit) => True) (fun _ t => va_P D vwCl (wX4 cA a_pl pl_rest pl_sketch pl_placed ρ.1 ρ.2.1 ρ.2.2.1 ρ.2.2.2.1 ρ.2.2.2.2 pl_path pl_pathLength pl_queue pl_origin pl_inside pl_ends pl_ring pl_choices) t.heap ∧ va_D A (wX4 cA a_pl pl_rest pl_sketch pl_placed ρ.1 ρ.2.1 ρ.2.2.1 ρ.2.2.2.1 ρ.2.2.2.2 pl_path pl_pathLength pl_queue pl_origin pl_inside pl_ends pl_ring pl_choices)) A) (by decide) (Nat.le_of_ble_eq_true rfl) fun p e s m below meth c ls A C hl hP hK hD hA hS => ?_
  obtain ⟨hx, hb, hml, hown, hT, hr, hlk⟩ := id C
  have hl : lv_has ls 5 [(0, .ref (a_pl 0))] := hl
  have B140 : ∀ (pl_rings : Int32) (pl_ringNodes : Nat → Int32) (pl_ringLength : Nat → Int32) (pl_ringSet : Nat → Int32) (pl_oldRing : Nat → Int32) (H : Heap) (locs : List Loc) (ls : Array Slot), lv_has ls 5 [(0, .ref (a_pl 0))] → va_P D vwCl (wX4 cA a_pl pl_rest pl_sketch pl_placed pl_rings pl_ringNodes pl_ringLength pl_ringSet pl_oldRing pl_path pl_pathLength pl_queue pl_origin pl_inside pl_ends pl_ring pl_choices) H → va_D A (wX4 cA a_pl pl_rest pl_sketch pl_placed pl_rings pl_ringNodes pl_ringLength pl_ringSet pl_oldRing pl_path pl_pathLength pl_queue pl_origin pl_inside pl_ends pl_ring pl_choices) → va_S A s.heap H locs → f_X4_splitRing_b140 N pl_path pl_pathLength pl_ring pl_rings pl_ringNodes pl_ringLength pl_ringSet pl_oldRing = some ρ → W p l e ({ frames := 3, cells := 0, slots := 0, locals := 69 } : Room) s m ([.ref (a_pl 0)] : List Value).toArray below meth c H locs 0 0 (MQ below (va_Qv (fun (_ : Unit) => True) (fun _ t => va_P D vwCl (wX4 cA a_pl pl_rest pl_sketch pl_placed ρ.1 ρ.2.1 ρ.2.2.1 ρ.2.2.2.1 ρ.2.2.2.2 pl_path pl_pathLength pl_queue pl_origin pl_inside pl_ends pl_ring pl_choices) t.heap ∧ va_D A (wX4 cA a_pl pl_rest pl_sketch pl_placed ρ.1 ρ.2.1 ρ.2.2.1 ρ.2.2.2.1 ρ.2.2.2.2 pl_path pl_pathLength pl_queue pl_origin pl_inside pl_ends pl_ring pl_choices)) A) ([.ref (a_pl 0)] : List Value).toArray s 0 0 A) (F0 m 140 ls []) := by
    intro pl_rings pl_ringNodes pl_ringLength pl_ringSet pl_oldRing H locs ls hl hP hD hS hf
    refine lv_aload_n hx hb dX4_splitRing_140 rfl (lv_at hl 0 rfl) ?_
    refine lv_dup hx hb dX4_splitRing_141 rfl ?_
    refine va_get (D := D) (ci := 4) (C := RX4) (T := TX4) (N := 16) hx hb hT kwX4 hown hK.1 hP 0 rfl rfl 3 (by decide) (hT _ kf_X4_93) (fun _ h9 => h9) rfl dX4_splitRing_142 ?_
    refine lv_iconst (v := 1) hx hb dX4_splitRing_145 (by decide) ?_
    refine lv_iadd hx hb dX4_splitRing_146 ?_
    refine va_put (D := D) (ci := 4) (v := .int (pl_rings + 1)) (ty := .int) (C := RX4) (T := TX4) (N := 16) hx hb hT kwX4 tyX4 tyX4_ok nmX4 hown hK.1 hP hD hS 0 rfl rfl 3 (by decide) (hT _ kf_X4_93) (fun _ h9 => h9) rfl (by decide +kernel) rfl rfl (Nat.le_of_ble_eq_true rfl) dX4_splitRing_147 (fun H locs hP hD hS => ?_)
    have hP : va_P D vwCl (wX4 cA a_pl pl_rest pl_sketch pl_placed (pl_rings + 1) pl_ringNodes pl_ringLength pl_ringSet pl_oldRing pl_path pl_pathLength pl_queue pl_origin pl_inside pl_ends pl_ring pl_choices) H := hP
    have hD : va_D A (wX4 cA a_pl pl_rest pl_sketch pl_placed (pl_rings + 1) pl_ringNodes pl_ringLength pl_ringSet pl_oldRing pl_path pl_pathLength pl_queue pl_origin pl_inside pl_ends pl_ring pl_choices) := hD
    have eR := some_i hf
    exact W.vret hx hb hr (fun t ht hW => ⟨⟨(), rfl, trivial, by rw [← eR, ht]; exact hP, by rw [← eR]; exact hD⟩, hS.F ht⟩) hS.2.2 dX4_splitRing_150 (hlocks := hlk)
  have B108 : ∀ (n108 : Nat), ∀ (x4 : Int32) (pl_rings : Int32) (pl_ringNodes : Nat → Int32) (pl_ringLength : Nat → Int32) (pl_ringSet : Nat → Int32) (pl_oldRing : Nat → Int32) (H : Heap) (locs : List Loc) (ls : Array Slot), lv_has ls 5 [(0, .ref (a_pl 0)), (4, .int x4)] → va_P D vwCl (wX4 cA a_pl pl_rest pl_sketch pl_placed pl_rings pl_ringNodes pl_ringLength pl_ringSet pl_oldRing pl_path pl_pathLength pl_queue pl_origin pl_inside pl_ends pl_ring pl_choices) H → va_D A (wX4 cA a_pl pl_rest pl_sketch pl_placed pl_rings pl_ringNodes pl_ringLength pl_ringSet pl_oldRing pl_path pl_pathLength pl_queue pl_origin pl_inside pl_ends pl_ring pl_choices) → va_S A s.heap H locs → f_X4_splitRing_b108 N pl_path pl_pathLength pl_ring n108 x4 pl_rings pl_ringNodes pl_ringLength pl_ringSet pl_oldRing = some ρ → W p l e ({ frames := 3, cells := 0, slots := 0, locals := 69 } : Room) s m ([.ref (a_pl 0)] : List Value).toArray below meth c H locs 0 0 (MQ below (va_Qv (fun (_ : Unit) => True) (fun _ t => va_P D vwCl (wX4 cA a_pl pl_rest pl_sketch pl_placed ρ.1 ρ.2.1 ρ.2.2.1 ρ.2.2.2.1 ρ.2.2.2.2 pl_path pl_pathLength pl_queue pl_origin pl_inside pl_ends pl_ring pl_choices) t.heap ∧ va_D A (wX4 cA a_pl pl_rest pl_sketch pl_placed ρ.1 ρ.2.1 ρ.2.2.1 ρ.2.2.2.1 ρ.2.2.2.2 pl_path pl_pathLength pl_queue pl_origin pl_inside pl_ends pl_ring pl_choices)) A) ([.ref (a_pl 0)] : List Value).toArray s 0 0 A) (F0 m 108 ls []) := by
    intro n108
    induction n108 with
    | zero =>
      intro x4 pl_rings pl_ringNodes pl_ringLength pl_ringSet pl_oldRing H locs ls hl hP hD hS hf
      cases (show (none : Option (Int32 × (Nat → Int32) × (Nat → Int32) × (Nat → Int32) × (Nat → Int32))) = some ρ from hf)
    | succ n108 ih108 =>
      intro x4 pl_rings pl_ringNodes pl_ringLength pl_ringSet pl_oldRing H locs ls hl hP hD hS hf
      refine lv_iload hx hb dX4_splitRing_108 (lv_at hl 1 rfl) ?_
      refine lv_aload_n hx hb dX4_splitRing_110 rfl (lv_at hl 0 rfl) ?_
      refine va_get (D := D) (ci := 4) (C := RX4) (T := TX4) (N := 16) hx hb hT kwX4 hown hK.1 hP 0 rfl rfl 9 (by decide) (hT _ kf_X4_83) (fun _ h9 => h9) rfl dX4_splitRing_111 ?_
      refine lv_iconst (v := 1) hx hb dX4_splitRing_114 (by decide) ?_
      refine lv_isub hx hb dX4_splitRing_115 ?_
      refine lv_icmp_ge (tgt := 140) hx hb dX4_splitRing_116 (by decide) (fun c_14 => ?_) (fun c_14 => ?_)
      · have hf := ite_t c_14 hf
        exact B140 pl_rings pl_ringNodes pl_ringLength pl_ringSet pl_oldRing _ _ _ (lv_sub hl [0] rfl) hP hD hS hf
      · have hf := ite_f c_14 hf
        refine lv_aload_n hx hb dX4_splitRing_119 rfl (lv_at hl 0 rfl) ?_
        refine lv_aload_n hx hb dX4_splitRing_120 rfl (lv_at hl 0 rfl) ?_
        refine va_get (D := D) (ci := 4) (C := RX4) (T := TX4) (N := 16) hx hb hT kwX4 hown hK.1 hP 0 rfl rfl 3 (by decide) (hT _ kf_X4_93) (fun _ h9 => h9) rfl dX4_splitRing_121 ?_
        refine lv_aload_n hx hb dX4_splitRing_124 rfl (lv_at hl 0 rfl) ?_
        refine va_get (D := D) (ci := 4) (C := RX4) (T := TX4) (N := 16) hx hb hT kwX4 hown hK.1 hP 0 rfl rfl 8 (by decide) (hT _ kf_X4_30) (fun _ h9 => h9) rfl dX4_splitRing_125 ?_
        refine lv_iload hx hb dX4_splitRing_128 (lv_at hl 1 rfl) ?_
        obtain ⟨h_15, hf⟩ := chk_s hf
        refine va_iald hx hb hK.1 hP 7 0 rfl rfl (inb_in h_15) dX4_splitRing_130 ?_
        obtain ⟨r_16, hcr_16, hf⟩ := bd1_s hf
        refine backWv (w2 := (wX4 cA a_pl pl_rest pl_sketch pl_placed pl_rings r_16.1 r_16.2.1 r_16.2.2 pl_oldRing pl_path pl_pathLength pl_queue pl_origin pl_inside pl_ends pl_ring pl_choices)) (runVw C (c_X4_extendRing l D cA a_pl pl_rest pl_sketch pl_placed pl_rings pl_ringNodes pl_ringLength pl_ringSet pl_oldRing pl_path pl_pathLength pl_queue pl_origin pl_inside pl_ends pl_ring pl_choices pl_rings (pl_path x4.toNatClampNeg) _ N r_16 hcr_16) cf_X4_extendRing km_X4_151 ⟨rfl, rfl, by decide, by decide⟩ ⟨Nat.zero_le _, Nat.zero_le _⟩ (va_recv hK.1 hP (ci := 4) (q0 := 0) rfl rfl) (hP.sub [0, 1, 2, 3, 4, 5, 6, 7, 8, 9] rfl) (hD.sub [0, 1, 2, 3, 4, 5, 6, 7, 8, 9] rfl rfl) hK hl.1 rfl rfl (Nat.le_of_ble_eq_true rfl) dX4_splitRing_131) hP hD hS hA [0, 1, 2, 3, 4, 5, 6, 7, 8, 9] rfl [] rfl rfl (by decide) [0, 1, 2, 3, 4, 5, 6, 7, 8, 9] rfl rfl (fun H locs hP hD hS => ?_)
        refine lv_iinc (v := (x4 + 1)) (lv' := [(4, .int (x4 + 1)), (0, .ref (a_pl 0))]) hx hb dX4_splitRing_134 hl (k := 1) rfl rfl (by decide) rfl (fun ls hl => ?_)
        refine lv_goto (tgt := 108) hx hb dX4_splitRing_137 (by decide) ?_
        exact ih108 (x4 + 1) pl_rings r_16.1 r_16.2.1 r_16.2.2 pl_oldRing _ _ _ (lv_sub hl [1, 0] rfl) hP hD hS hf
  have B94 : ∀ (x1 : Int32) (x2 : Int32) (x3 : Int32) (pl_rings : Int32) (pl_ringNodes : Nat → Int32) (pl_ringLength : Nat → Int32) (pl_ringSet : Nat → Int32) (pl_oldRing : Nat → Int32) (H : Heap) (locs : List Loc) (ls : Array Slot), lv_has ls 5 [(0, .ref (a_pl 0)), (1, .int x1), (2, .int x2), (3, .int x3)] → va_P D vwCl (wX4 cA a_pl pl_rest pl_sketch pl_placed pl_rings pl_ringNodes pl_ringLength pl_ringSet pl_oldRing pl_path pl_pathLength pl_queue pl_origin pl_inside pl_ends pl_ring pl_choices) H → va_D A (wX4 cA a_pl pl_rest pl_sketch pl_placed pl_rings pl_ringNodes pl_ringLength pl_ringSet pl_oldRing pl_path pl_pathLength pl_queue pl_origin pl_inside pl_ends pl_ring pl_choices) → va_S A s.heap H locs → f_X4_splitRing_b94 N pl_path pl_pathLength pl_ring x1 x2 x3 pl_rings pl_ringNodes pl_ringLength pl_ringSet pl_oldRing = some ρ → W p l e ({ frames := 3, cells := 0, slots := 0, locals := 69 } : Room) s m ([.ref (a_pl 0)] : List Value).toArray below meth c H locs 0 0 (MQ below (va_Qv (fun (_ : Unit) => True) (fun _ t => va_P D vwCl (wX4 cA a_pl pl_rest pl_sketch pl_placed ρ.1 ρ.2.1 ρ.2.2.1 ρ.2.2.2.1 ρ.2.2.2.2 pl_path pl_pathLength pl_queue pl_origin pl_inside pl_ends pl_ring pl_choices) t.heap ∧ va_D A (wX4 cA a_pl pl_rest pl_sketch pl_placed ρ.1 ρ.2.1 ρ.2.2.1 ρ.2.2.2.1 ρ.2.2.2.2 pl_path pl_pathLength pl_queue pl_origin pl_inside pl_ends pl_ring pl_choices)) A) ([.ref (a_pl 0)] : List Value).toArray s 0 0 A) (F0 m 94 ls []) := by
    intro x1 x2 x3 pl_rings pl_ringNodes pl_ringLength pl_ringSet pl_oldRing H locs ls hl hP hD hS hf
    refine lv_aload_n hx hb dX4_splitRing_94 rfl (lv_at hl 0 rfl) ?_
    refine lv_aload_n hx hb dX4_splitRing_95 rfl (lv_at hl 0 rfl) ?_
    refine va_get (D := D) (ci := 4) (C := RX4) (T := TX4) (N := 16) hx hb hT kwX4 hown hK.1 hP 0 rfl rfl 3 (by decide) (hT _ kf_X4_93) (fun _ h9 => h9) rfl dX4_splitRing_96 ?_
    refine lv_iload_n hx hb dX4_splitRing_99 rfl (lv_at hl 3 rfl) ?_
    refine lv_iload_n hx hb dX4_splitRing_100 rfl (lv_at hl 2 rfl) ?_
    refine lv_iload_n hx hb dX4_splitRing_101 rfl (lv_at hl 1 rfl) ?_
    obtain ⟨r_13, hcr_13, hf⟩ := bd1_s hf
    refine backWv (w2 := (wX4 cA a_pl pl_rest pl_sketch pl_placed pl_rings r_13.1 r_13.2.1 r_13.2.2 pl_oldRing pl_path pl_pathLength pl_queue pl_origin pl_inside pl_ends pl_ring pl_choices)) (runVw C (c_X4_copyArc l D cA a_pl pl_rest pl_sketch pl_placed pl_rings pl_ringNodes pl_ringLength pl_ringSet pl_oldRing pl_path pl_pathLength pl_queue pl_origin pl_inside pl_ends pl_ring pl_choices pl_rings x3 x2 x1 _ N r_13 hcr_13) cf_X4_copyArc km_X4_147 ⟨rfl, rfl, by decide, by decide⟩ ⟨Nat.zero_le _, Nat.zero_le _⟩ (va_recv hK.1 hP (ci := 4) (q0 := 0) rfl rfl) (hP.sub [0, 1, 2, 3, 4, 5, 6, 7, 8, 9] rfl) (hD.sub [0, 1, 2, 3, 4, 5, 6, 7, 8, 9] rfl rfl) hK hl.1 rfl rfl (Nat.le_of_ble_eq_true rfl) dX4_splitRing_102) hP hD hS hA [0, 1, 2, 3, 4, 5, 6, 7, 8, 9] rfl [] rfl rfl (by decide) [0, 1, 2, 3, 4, 5, 6, 7, 8, 9] rfl rfl (fun H locs hP hD hS => ?_)
    refine lv_iconst (v := 1) hx hb dX4_splitRing_105 (by decide) ?_
    refine lv_istore (lv' := [(4, .int 1), (0, .ref (a_pl 0)), (1, .int x1), (2, .int x2), (3, .int x3)]) hx hb dX4_splitRing_106 hl (by decide) rfl (fun ls hl => ?_)
    exact B108 N 1 pl_rings r_13.1 r_13.2.1 r_13.2.2 pl_oldRing _ _ _ (lv_sub hl [1, 0] rfl) hP hD hS hf
  have B68 : ∀ (n68 : Nat), ∀ (x1 : Int32) (x2 : Int32) (x3 : Int32) (x4 : Int32) (pl_rings : Int32) (pl_ringNodes : Nat → Int32) (pl_ringLength : Nat → Int32) (pl_ringSet : Nat → Int32) (pl_oldRing : Nat → Int32) (H : Heap) (locs : List Loc) (ls : Array Slot), lv_has ls 5 [(0, .ref (a_pl 0)), (1, .int x1), (2, .int x2), (3, .int x3), (4, .int x4)] → va_P D vwCl (wX4 cA a_pl pl_rest pl_sketch pl_placed pl_rings pl_ringNodes pl_ringLength pl_ringSet pl_oldRing pl_path pl_pathLength pl_queue pl_origin pl_inside pl_ends pl_ring pl_choices) H → va_D A (wX4 cA a_pl pl_rest pl_sketch pl_placed pl_rings pl_ringNodes pl_ringLength pl_ringSet pl_oldRing pl_path pl_pathLength pl_queue pl_origin pl_inside pl_ends pl_ring pl_choices) → va_S A s.heap H locs → f_X4_splitRing_b68 N pl_path pl_pathLength pl_ring n68 x1 x2 x3 x4 pl_rings pl_ringNodes pl_ringLength pl_ringSet pl_oldRing = some ρ → W p l e ({ frames := 3, cells := 0, slots := 0, locals := 69 } : Room) s m ([.ref (a_pl 0)] : List Value).toArray below meth c H locs 0 0 (MQ below (va_Qv (fun (_ : Unit) => True) (fun _ t => va_P D vwCl (wX4 cA a_pl pl_rest pl_sketch pl_placed ρ.1 ρ.2.1 ρ.2.2.1 ρ.2.2.2.1 ρ.2.2.2.2 pl_path pl_pathLength pl_queue pl_origin pl_inside pl_ends pl_ring pl_choices) t.heap ∧ va_D A (wX4 cA a_pl pl_rest pl_sketch pl_placed ρ.1 ρ.2.1 ρ.2.2.1 ρ.2.2.2.1 ρ.2.2.2.2 pl_path pl_pathLength pl_queue pl_origin pl_inside pl_ends pl_ring pl_choices)) A) ([.ref (a_pl 0)] : List Value).toArray s 0 0 A) (F0 m 68 ls []) := by
    intro n68
    induction n68 with
    | zero =>
      intro x1 x2 x3 x4 pl_rings pl_ringNodes pl_ringLength pl_ringSet pl_oldRing H locs ls hl hP hD hS hf
      cases (show (none : Option (Int32 × (Nat → Int32) × (Nat → Int32) × (Nat → Int32) × (Nat → Int32))) = some ρ from hf)
    | succ n68 ih68 =>
      intro x1 x2 x3 x4 pl_rings pl_ringNodes pl_ringLength pl_ringSet pl_oldRing H locs ls hl hP hD hS hf
      refine lv_iload hx hb dX4_splitRing_68 (lv_at hl 4 rfl) ?_
      refine lv_if_le (tgt := 94) hx hb dX4_splitRing_70 (by decide) (fun c_10 => ?_) (fun c_10 => ?_)
      · have hf := ite_t c_10 hf
        exact B94 x1 x2 x3 pl_rings pl_ringNodes pl_ringLength pl_ringSet pl_oldRing _ _ _ (lv_sub hl [0, 1, 2, 3] rfl) hP hD hS hf
      · have hf := ite_f c_10 hf
        refine lv_aload_n hx hb dX4_splitRing_73 rfl (lv_at hl 0 rfl) ?_
        refine lv_aload_n hx hb dX4_splitRing_74 rfl (lv_at hl 0 rfl) ?_
        refine va_get (D := D) (ci := 4) (C := RX4) (T := TX4) (N := 16) hx hb hT kwX4 hown hK.1 hP 0 rfl rfl 14 (by decide) (hT _ kf_X4_140) (fun _ h9 => h9) rfl dX4_splitRing_75 ?_
        refine lv_aload_n hx hb dX4_splitRing_78 rfl (lv_at hl 0 rfl) ?_
        refine va_get (D := D) (ci := 4) (C := RX4) (T := TX4) (N := 16) hx hb hT kwX4 hown hK.1 hP 0 rfl rfl 8 (by decide) (hT _ kf_X4_30) (fun _ h9 => h9) rfl dX4_splitRing_79 ?_
        refine lv_iload hx hb dX4_splitRing_82 (lv_at hl 4 rfl) ?_
        obtain ⟨h_11, hf⟩ := chk_s hf
        refine va_iald hx hb hK.1 hP 7 0 rfl rfl (inb_in h_11) dX4_splitRing_84 ?_
        obtain ⟨r_12, hcr_12, hf⟩ := bd1_s hf
        refine backWv (w2 := (wX4 cA a_pl pl_rest pl_sketch pl_placed pl_rings r_12.1 r_12.2.1 r_12.2.2 pl_oldRing pl_path pl_pathLength pl_queue pl_origin pl_inside pl_ends pl_ring pl_choices)) (runVw C (c_X4_extendRing l D cA a_pl pl_rest pl_sketch pl_placed pl_rings pl_ringNodes pl_ringLength pl_ringSet pl_oldRing pl_path pl_pathLength pl_queue pl_origin pl_inside pl_ends pl_ring pl_choices pl_ring (pl_path x4.toNatClampNeg) _ N r_12 hcr_12) cf_X4_extendRing km_X4_151 ⟨rfl, rfl, by decide, by decide⟩ ⟨Nat.zero_le _, Nat.zero_le _⟩ (va_recv hK.1 hP (ci := 4) (q0 := 0) rfl rfl) (hP.sub [0, 1, 2, 3, 4, 5, 6, 7, 8, 9] rfl) (hD.sub [0, 1, 2, 3, 4, 5, 6, 7, 8, 9] rfl rfl) hK hl.1 rfl rfl (Nat.le_of_ble_eq_true rfl) dX4_splitRing_85) hP hD hS hA [0, 1, 2, 3, 4, 5, 6, 7, 8, 9] rfl [] rfl rfl (by decide) [0, 1, 2, 3, 4, 5, 6, 7, 8, 9] rfl rfl (fun H locs hP hD hS => ?_)
        refine lv_iinc (v := (x4 + (-1))) (lv' := [(4, .int (x4 + (-1))), (0, .ref (a_pl 0)), (1, .int x1), (2, .int x2), (3, .int x3)]) hx hb dX4_splitRing_88 hl (k := 4) rfl rfl (by decide) rfl (fun ls hl => ?_)
        refine lv_goto (tgt := 68) hx hb dX4_splitRing_91 (by decide) ?_
        exact ih68 x1 x2 x3 (x4 + (-1)) pl_rings r_12.1 r_12.2.1 r_12.2.2 pl_oldRing _ _ _ (lv_sub hl [1, 2, 3, 4, 0] rfl) hP hD hS hf
  refine lv_aload_n hx hb dX4_splitRing_0 rfl (lv_at hl 0 rfl) ?_
  refine va_get (D := D) (ci := 4) (C := RX4) (T := TX4) (N := 16) hx hb hT kwX4 hown hK.1 hP 0 rfl rfl 5 (by decide) (hT _ kf_X4_21) (fun _ h9 => h9) rfl dX4_splitRing_1 ?_
  refine lv_aload_n hx hb dX4_splitRing_4 rfl (lv_at hl 0 rfl) ?_
  refine va_get (D := D) (ci := 4) (C := RX4) (T := TX4) (N := 16) hx hb hT kwX4 hown hK.1 hP 0 rfl rfl 14 (by decide) (hT _ kf_X4_140) (fun _ h9 => h9) rfl dX4_splitRing_5 ?_
  obtain ⟨h_1, hf⟩ := chk_s hf
  refine va_iald hx hb hK.1 hP 4 0 rfl rfl (inb_in h_1) dX4_splitRing_8 ?_
  refine lv_topi (fun x1_2 ex1_2 => ?_)
  have hf := nm_t ex1_2 hf
  refine lv_istore_n (lv' := [(1, .int x1_2), (0, .ref (a_pl 0))]) hx hb dX4_splitRing_9 rfl hl (by decide) rfl (fun ls hl => ?_)
  refine lv_aload_n hx hb dX4_splitRing_10 rfl (lv_at hl 1 rfl) ?_
  refine va_get (D := D) (ci := 4) (C := RX4) (T := TX4) (N := 16) hx hb hT kwX4 hown hK.1 hP 0 rfl rfl 4 (by decide) (hT _ kf_X4_18) (fun _ h9 => h9) rfl dX4_splitRing_11 ?_
  refine lv_aload_n hx hb dX4_splitRing_14 rfl (lv_at hl 1 rfl) ?_
  refine va_get (D := D) (ci := 4) (C := RX4) (T := TX4) (N := 16) hx hb hT kwX4 hown hK.1 hP 0 rfl rfl 14 (by decide) (hT _ kf_X4_140) (fun _ h9 => h9) rfl dX4_splitRing_15 ?_
  refine lv_bipush (v := 9) hx hb dX4_splitRing_18 (by decide) ?_
  refine lv_imul hx hb dX4_splitRing_20 ?_
  refine lv_aload_n hx hb dX4_splitRing_21 rfl (lv_at hl 1 rfl) ?_
  refine va_get (D := D) (ci := 4) (C := RX4) (T := TX4) (N := 16) hx hb hT kwX4 hown hK.1 hP 0 rfl rfl 7 (by decide) (hT _ kf_X4_27) (fun _ h9 => h9) rfl dX4_splitRing_22 ?_
  refine lv_iconst (v := 0) hx hb dX4_splitRing_25 (by decide) ?_
  refine lv_iload_n hx hb dX4_splitRing_26 rfl (lv_at hl 0 rfl) ?_
  obtain ⟨h_3, hf⟩ := chk_s hf
  obtain ⟨h_3a, h_3b, h_3c, h_3d, h_3e⟩ := cpok_n h_3
  refine va_copyi hx hb (hml.trans hl.1.symm) hown (hT _ km_X4_39) (hT _ kv_System_arraycopy) (hT _ kt_System_arraycopy) (hT _ kin_J10) hK.1 hP hD hS 3 6 0 0 rfl rfl rfl rfl rfl h_3a h_3b h_3c h_3d h_3e (fun _ _ => rfl) (by decide) (Nat.le_of_ble_eq_true rfl) dX4_splitRing_27 (fun H locs hP hD hS => ?_)
  have hP : va_P D vwCl (wX4 cA a_pl pl_rest pl_sketch pl_placed pl_rings pl_ringNodes pl_ringLength pl_ringSet (va_cpy pl_ringNodes pl_oldRing (pl_ring * 9).toNatClampNeg (0 : Int32).toNatClampNeg x1_2.toNatClampNeg) pl_path pl_pathLength pl_queue pl_origin pl_inside pl_ends pl_ring pl_choices) H := hP
  have hD : va_D A (wX4 cA a_pl pl_rest pl_sketch pl_placed pl_rings pl_ringNodes pl_ringLength pl_ringSet (va_cpy pl_ringNodes pl_oldRing (pl_ring * 9).toNatClampNeg (0 : Int32).toNatClampNeg x1_2.toNatClampNeg) pl_path pl_pathLength pl_queue pl_origin pl_inside pl_ends pl_ring pl_choices) := hD
  refine lv_aload_n hx hb dX4_splitRing_30 rfl (lv_at hl 1 rfl) ?_
  refine va_get (D := D) (ci := 4) (C := RX4) (T := TX4) (N := 16) hx hb hT kwX4 hown hK.1 hP 0 rfl rfl 8 (by decide) (hT _ kf_X4_30) (fun _ h9 => h9) rfl dX4_splitRing_31 ?_
  refine lv_iconst (v := 0) hx hb dX4_splitRing_34 (by decide) ?_
  obtain ⟨h_4, hf⟩ := chk_s hf
  refine va_iald hx hb hK.1 hP 7 0 rfl rfl (inb_in h_4) dX4_splitRing_35 ?_
  refine lv_topi (fun x2_5 ex2_5 => ?_)
  have hf := nm_t ex2_5 hf
  refine lv_istore_n (lv' := [(2, .int x2_5), (1, .int x1_2), (0, .ref (a_pl 0))]) hx hb dX4_splitRing_36 rfl hl (by decide) rfl (fun ls hl => ?_)
  refine lv_aload_n hx hb dX4_splitRing_37 rfl (lv_at hl 2 rfl) ?_
  refine va_get (D := D) (ci := 4) (C := RX4) (T := TX4) (N := 16) hx hb hT kwX4 hown hK.1 hP 0 rfl rfl 8 (by decide) (hT _ kf_X4_30) (fun _ h9 => h9) rfl dX4_splitRing_38 ?_
  refine lv_aload_n hx hb dX4_splitRing_41 rfl (lv_at hl 2 rfl) ?_
  refine va_get (D := D) (ci := 4) (C := RX4) (T := TX4) (N := 16) hx hb hT kwX4 hown hK.1 hP 0 rfl rfl 9 (by decide) (hT _ kf_X4_83) (fun _ h9 => h9) rfl dX4_splitRing_42 ?_
  refine lv_iconst (v := 1) hx hb dX4_splitRing_45 (by decide) ?_
  refine lv_isub hx hb dX4_splitRing_46 ?_
  obtain ⟨h_6, hf⟩ := chk_s hf
  refine va_iald hx hb hK.1 hP 7 0 rfl rfl (inb_in h_6) dX4_splitRing_47 ?_
  refine lv_topi (fun x3_7 ex3_7 => ?_)
  have hf := nm_t ex3_7 hf
  refine lv_istore_n (lv' := [(3, .int x3_7), (2, .int x2_5), (1, .int x1_2), (0, .ref (a_pl 0))]) hx hb dX4_splitRing_48 rfl hl (by decide) rfl (fun ls hl => ?_)
  refine lv_aload_n hx hb dX4_splitRing_49 rfl (lv_at hl 3 rfl) ?_
  refine lv_aload_n hx hb dX4_splitRing_50 rfl (lv_at hl 3 rfl) ?_
  refine va_get (D := D) (ci := 4) (C := RX4) (T := TX4) (N := 16) hx hb hT kwX4 hown hK.1 hP 0 rfl rfl 14 (by decide) (hT _ kf_X4_140) (fun _ h9 => h9) rfl dX4_splitRing_51 ?_
  refine lv_iload_n hx hb dX4_splitRing_54 rfl (lv_at hl 1 rfl) ?_
  refine lv_iload_n hx hb dX4_splitRing_55 rfl (lv_at hl 0 rfl) ?_
  refine lv_iload_n hx hb dX4_splitRing_56 rfl (lv_at hl 2 rfl) ?_
  obtain ⟨r_8, hcr_8, hf⟩ := bd1_s hf
  refine backWv (w2 := (wX4 cA a_pl pl_rest pl_sketch pl_placed pl_rings r_8.1 r_8.2.1 r_8.2.2 (va_cpy pl_ringNodes pl_oldRing (pl_ring * 9).toNatClampNeg (0 : Int32).toNatClampNeg x1_2.toNatClampNeg) pl_path pl_pathLength pl_queue pl_origin pl_inside pl_ends pl_ring pl_choices)) (runVw C (c_X4_copyArc l D cA a_pl pl_rest pl_sketch pl_placed pl_rings pl_ringNodes pl_ringLength pl_ringSet (va_cpy pl_ringNodes pl_oldRing (pl_ring * 9).toNatClampNeg (0 : Int32).toNatClampNeg x1_2.toNatClampNeg) pl_path pl_pathLength pl_queue pl_origin pl_inside pl_ends pl_ring pl_choices pl_ring x2_5 x3_7 x1_2 _ N r_8 hcr_8) cf_X4_copyArc km_X4_147 ⟨rfl, rfl, by decide, by decide⟩ ⟨Nat.zero_le _, Nat.zero_le _⟩ (va_recv hK.1 hP (ci := 4) (q0 := 0) rfl rfl) (hP.sub [0, 1, 2, 3, 4, 5, 6, 7, 8, 9] rfl) (hD.sub [0, 1, 2, 3, 4, 5, 6, 7, 8, 9] rfl rfl) hK hl.1 rfl rfl (Nat.le_of_ble_eq_true rfl) dX4_splitRing_57) hP hD hS hA [0, 1, 2, 3, 4, 5, 6, 7, 8, 9] rfl [] rfl rfl (by decide) [0, 1, 2, 3, 4, 5, 6, 7, 8, 9] rfl rfl (fun H locs hP hD hS => ?_)
  refine lv_aload_n hx hb dX4_splitRing_60 rfl (lv_at hl 3 rfl) ?_
  refine va_get (D := D) (ci := 4) (C := RX4) (T := TX4) (N := 16) hx hb hT kwX4 hown hK.1 hP 0 rfl rfl 9 (by decide) (hT _ kf_X4_83) (fun _ h9 => h9) rfl dX4_splitRing_61 ?_
  refine lv_iconst (v := 2) hx hb dX4_splitRing_64 (by decide) ?_
  refine lv_isub hx hb dX4_splitRing_65 ?_
  refine lv_topi (fun x4_9 ex4_9 => ?_)
  have hf := nm_t ex4_9 hf
  refine lv_istore (lv' := [(4, .int x4_9), (3, .int x3_7), (2, .int x2_5), (1, .int x1_2), (0, .ref (a_pl 0))]) hx hb dX4_splitRing_66 hl (by decide) rfl (fun ls hl => ?_)
  exact B68 N x1_2 x2_5 x3_7 x4_9 pl_rings r_8.1 r_8.2.1 r_8.2.2 (va_cpy pl_ringNodes pl_oldRing (pl_ring * 9).toNatClampNeg (0 : Int32).toNatClampNeg x1_2.toNatClampNeg) _ _ _ (lv_sub hl [4, 3, 2, 1, 0] rfl) hP hD hS hf
set_option maxRecDepth 100000 in
set_option maxHeartbeats 4000000 in
theorem c_X4_sketchBlock (l : Launch) (D : va_G) (cA : Nat → ClassId) (a_pl : Nat → Nat) (pl_rest : Nat → Int32) (pl_sketch : Nat → Int32) (pl_placed : Int32) (pl_rings : Int32) (pl_ringNodes : Nat → Int32) (pl_ringLength : Nat → Int32) (pl_ringSet : Nat → Int32) (pl_oldRing : Nat → Int32) (pl_path : Nat → Int32) (pl_pathLength : Int32) (pl_queue : Nat → Int32) (pl_origin : Nat → Int32) (pl_inside : Int32) (pl_ends : Int32) (pl_ring : Int32) (pl_choices : Int32) (sz N : Nat) (ρ : Int32 × (Nat → Int32) × Int32 × Int32 × (Nat → Int32) × (Nat → Int32) × (Nat → Int32) × (Nat → Int32) × (Nat → Int32) × Int32 × (Nat → Int32) × (Nat → Int32) × Int32 × Int32 × Int32 × Int32) (hf : f_X4_sketchBlock N pl_rest pl_sketch pl_placed pl_rings pl_ringNodes pl_ringLength pl_ringSet pl_oldRing pl_path pl_pathLength pl_queue pl_origin pl_inside pl_ends pl_ring pl_choices = some ρ) : Met l yX4_sketchBlock (Cond.code yX4_sketchBlock cX4_sketchBlock 2 (Option.some Jvm.ClassFile.FieldType.boolean) :: lw_g) ({ frames := 4, cells := 0, slots := 0, locals := 93 } : Room) (PcW D (tyA cA) (wX4 cA a_pl pl_rest pl_sketch pl_placed pl_rings pl_ringNodes pl_ringLength pl_ringSet pl_oldRing pl_path pl_pathLength pl_queue pl_origin pl_inside pl_ends pl_ring pl_choices) sz [.ref (a_pl 0)]) (va_Qi (fun r (_ : Unit) => r = ρ.1) (fun _ t => va_P D vwCl (wX4 cA a_pl pl_rest ρ.2.1 ρ.2.2.1 ρ.2.2.2.1 ρ.2.2.2.2.1 ρ.2.2.2.2.2.1 ρ.2.2.2.2.2.2.1 ρ.2.2.2.2.2.2.2.1 ρ.2.2.2.2.2.2.2.2.1 ρ.2.2.2.2.2.2.2.2.2.1 ρ.2.2.2.2.2.2.2.2.2.2.1 ρ.2.2.2.2.2.2.2.2.2.2.2.1 ρ.2.2.2.2.2.2.2.2.2.2.2.2.1 ρ.2.2.2.2.2.2.2.2.2.2.2.2.2.1 ρ.2.2.2.2.2.2.2.2.2.2.2.2.2.2.1 ρ.2.2.2.2.2.2.2.2.2.2.2.2.2.2.2) t.heap ∧ va_D (va_A (wX4 cA a_pl pl_rest pl_sketch pl_placed pl_rings pl_ringNodes pl_ringLength pl_ringSet pl_oldRing pl_path pl_pathLength pl_queue pl_origin pl_inside pl_ends pl_ring pl_choices) sz) (wX4 cA a_pl pl_rest ρ.2.1 ρ.2.2.1 ρ.2.2.2.1 ρ.2.2.2.2.1 ρ.2.2.2.2.2.1 ρ.2.2.2.2.2.2.1 ρ.2.2.2.2.2.2.2.1 ρ.2.2.2.2.2.2.2.2.1 ρ.2.2.2.2.2.2.2.2.2.1 ρ.2.2.2.2.2.2.2.2.2.2.1 ρ.2.2.2.2.2.2.2.2.2.2.2.1 ρ.2.2.2.2.2.2.2.2.2.2.2.2.1 ρ.2.2.2.2.2.2.2.2.2.2.2.2.2.1 ρ.2.2.2.2.2.2.2.2.2.2.2.2.2.2.1 ρ.2.2.2.2.2.2.2.2.2.2.2.2.2.2.2)) (va_A (wX4 cA a_pl pl_rest pl_sketch pl_placed pl_rings pl_ringNodes pl_ringLength pl_ringSet pl_oldRing pl_path pl_pathLength pl_queue pl_origin pl_inside pl_ends pl_ring pl_choices) sz)) 0 0 (va_A (wX4 cA a_pl pl_rest pl_sketch pl_placed pl_rings pl_ringNodes pl_ringLength pl_ringSet pl_oldRing pl_path pl_pathLength pl_queue pl_origin pl_inside pl_ends pl_ring pl_choices) sz) := by
  refine mkW (QQ := fun A => va_Qi (fun r (_ : Unit) => r = ρ.1) (fun _ t => va_P D vwCl (wX4 cA a_pl pl_rest ρ.2.1 ρ.2.2.1 ρ.2.2.2.1 ρ.2.2.2.2.1 ρ.2.2.2.2.2.1 ρ.2.2.2.2.2.2.1 ρ.2.2.2.2.2.2.2.1 ρ.2.2.2.2.2.2.2.2.1 ρ.2.2.2.2.2.2.2.2.2.1 ρ.2.2.2.2.2.2.2.2.2.2.1 ρ.2.2.2.2.2.2.2.2.2.2.2.1 ρ.2.2.2.2.2.2.2.2.2.2.2.2.1 ρ.2.2.2.2.2.2.2.2.2.2.2.2.2.1 ρ.2.2.2.2.2.2.2.2.2.2.2.2.2.2.1 ρ.2.2.2.2.2.2.2.2.2.2.2.2.2.2.2) t.heap ∧ va_D A (wX4 cA a_pl pl_rest ρ.2.1 ρ.2.2.1 ρ.2.2.2.1 ρ.2.2.2.2.1 ρ.2.2.2.2.2.1 ρ.2.2.2.2.2.2.1 ρ.2.2.2.2.2.2.2.1 ρ.2.2.2.2.2.2.2.2.1 ρ.2.2.2.2.2.2.2.2.2.1 ρ.2.2.2.2.2.2.2.2.2.2.1 ρ.2.2.2.2.2.2.2.2.2.2.2.1 ρ.2.2.2.2.2.2.2.2.2.2.2.2.1 ρ.2.2.2.2.2.2.2.2.2.2.2.2.2.1 ρ.2.2.2.2.2.2.2.2.2.2.2.2.2.2.1 ρ.2.2.2.2.2.2.2.2.2.2.2.2.2.2.2)) A) (by decide) (Nat.le_of_ble_eq_true rfl) fun p e s m below meth c ls A C hl hP hK hD hA hS => ?_
  obtain ⟨hx, hb, hml, hown, hT, hr, hlk⟩ := id C
  have hl : lv_has ls 2 [(0, .ref (a_pl 0))] := hl
  have B9 : ∀ (n9 : Nat), ∀ (x1 : Int32) (pl_sketch : Nat → Int32) (pl_placed : Int32) (pl_rings : Int32) (pl_ringNodes : Nat → Int32) (pl_ringLength : Nat → Int32) (pl_ringSet : Nat → Int32) (pl_oldRing : Nat → Int32) (pl_path : Nat → Int32) (pl_pathLength : Int32) (pl_queue : Nat → Int32) (pl_origin : Nat → Int32) (pl_inside : Int32) (pl_ends : Int32) (pl_ring : Int32) (pl_choices : Int32) (H : Heap) (locs : List Loc) (ls : Array Slot), lv_has ls 2 [(0, .ref (a_pl 0)), (1, .int x1)] → va_P D vwCl (wX4 cA a_pl pl_rest pl_sketch pl_placed pl_rings pl_ringNodes pl_ringLength pl_ringSet pl_oldRing pl_path pl_pathLength pl_queue pl_origin pl_inside pl_ends pl_ring pl_choices) H → va_D A (wX4 cA a_pl pl_rest pl_sketch pl_placed pl_rings pl_ringNodes pl_ringLength pl_ringSet pl_oldRing pl_path pl_pathLength pl_queue pl_origin pl_inside pl_ends pl_ring pl_choices) → va_S A s.heap H locs → f_X4_sketchBlock_b9 N pl_rest n9 x1 pl_sketch pl_placed pl_rings pl_ringNodes pl_ringLength pl_ringSet pl_oldRing pl_path pl_pathLength pl_queue pl_origin pl_inside pl_ends pl_ring pl_choices = some ρ → W p l e ({ frames := 4, cells := 0, slots := 0, locals := 93 } : Room) s m ([.ref (a_pl 0)] : List Value).toArray below meth c H locs 0 0 (MQ below (va_Qi (fun r (_ : Unit) => r = ρ.1) (fun _ t => va_P D vwCl (wX4 cA a_pl pl_rest ρ.2.1 ρ.2.2.1 ρ.2.2.2.1 ρ.2.2.2.2.1 ρ.2.2.2.2.2.1 ρ.2.2.2.2.2.2.1 ρ.2.2.2.2.2.2.2.1 ρ.2.2.2.2.2.2.2.2.1 ρ.2.2.2.2.2.2.2.2.2.1 ρ.2.2.2.2.2.2.2.2.2.2.1 ρ.2.2.2.2.2.2.2.2.2.2.2.1 ρ.2.2.2.2.2.2.2.2.2.2.2.2.1 ρ.2.2.2.2.2.2.2.2.2.2.2.2.2.1 ρ.2.2.2.2.2.2.2.2.2.2.2.2.2.2.1 ρ.2.2.2.2.2.2.2.2.2.2.2.2.2.2.2) t.heap ∧ va_D A (wX4 cA a_pl pl_rest ρ.2.1 ρ.2.2.1 ρ.2.2.2.1 ρ.2.2.2.2.1 ρ.2.2.2.2.2.1 ρ.2.2.2.2.2.2.1 ρ.2.2.2.2.2.2.2.1 ρ.2.2.2.2.2.2.2.2.1 ρ.2.2.2.2.2.2.2.2.2.1 ρ.2.2.2.2.2.2.2.2.2.2.1 ρ.2.2.2.2.2.2.2.2.2.2.2.1 ρ.2.2.2.2.2.2.2.2.2.2.2.2.1 ρ.2.2.2.2.2.2.2.2.2.2.2.2.2.1 ρ.2.2.2.2.2.2.2.2.2.2.2.2.2.2.1 ρ.2.2.2.2.2.2.2.2.2.2.2.2.2.2.2)) A) ([.ref (a_pl 0)] : List Value).toArray s 0 0 A) (F0 m 9 ls []) := by
    intro n9
    induction n9 with
    | zero =>
      intro x1 pl_sketch pl_placed pl_rings pl_ringNodes pl_ringLength pl_ringSet pl_oldRing pl_path pl_pathLength pl_queue pl_origin pl_inside pl_ends pl_ring pl_choices H locs ls hl hP hD hS hf
      cases (show (none : Option (Int32 × (Nat → Int32) × Int32 × Int32 × (Nat → Int32) × (Nat → Int32) × (Nat → Int32) × (Nat → Int32) × (Nat → Int32) × Int32 × (Nat → Int32) × (Nat → Int32) × Int32 × Int32 × Int32 × Int32)) = some ρ from hf)
    | succ n9 ih9 =>
      intro x1 pl_sketch pl_placed pl_rings pl_ringNodes pl_ringLength pl_ringSet pl_oldRing pl_path pl_pathLength pl_queue pl_origin pl_inside pl_ends pl_ring pl_choices H locs ls hl hP hD hS hf
      refine lv_iload_n hx hb dX4_sketchBlock_9 rfl (lv_at hl 1 rfl) ?_
      refine lv_bipush (v := 15) hx hb dX4_sketchBlock_10 (by decide) ?_
      refine lv_icmp_ge (tgt := 67) hx hb dX4_sketchBlock_12 (by decide) (fun c_3 => ?_) (fun c_3 => ?_)
      · have hf := ite_t c_3 hf
        refine lv_iconst (v := 1) hx hb dX4_sketchBlock_67 (by decide) ?_
        have eR := some_i hf
        exact W.zret hx hb hr (by decide) (fun t ht hW => ⟨⟨1, (), rfl, fst_e eR, by rw [← eR, ht]; exact hP, by rw [← eR]; exact hD⟩, hS.F ht⟩) hS.2.2 dX4_sketchBlock_68 (hlocks := hlk)
      · have hf := ite_f c_3 hf
        refine lv_aload_n hx hb dX4_sketchBlock_15 rfl (lv_at hl 0 rfl) ?_
        refine lv_iconst (v := 0) hx hb dX4_sketchBlock_16 (by decide) ?_
        refine va_put (D := D) (ci := 4) (v := .int 0) (ty := .int) (C := RX4) (T := TX4) (N := 16) hx hb hT kwX4 tyX4 tyX4_ok nmX4 hown hK.1 hP hD hS 0 rfl rfl 13 (by decide) (hT _ kf_X4_96) (fun _ h9 => h9) rfl (by decide +kernel) rfl rfl (Nat.le_of_ble_eq_true rfl) dX4_sketchBlock_17 (fun H locs hP hD hS => ?_)
        have hP : va_P D vwCl (wX4 cA a_pl pl_rest pl_sketch pl_placed pl_rings pl_ringNodes pl_ringLength pl_ringSet pl_oldRing pl_path pl_pathLength pl_queue pl_origin pl_inside 0 pl_ring pl_choices) H := hP
        have hD : va_D A (wX4 cA a_pl pl_rest pl_sketch pl_placed pl_rings pl_ringNodes pl_ringLength pl_ringSet pl_oldRing pl_path pl_pathLength pl_queue pl_origin pl_inside 0 pl_ring pl_choices) := hD
        refine lv_aload_n hx hb dX4_sketchBlock_20 rfl (lv_at hl 0 rfl) ?_
        obtain ⟨r_4, hcr_4, hf⟩ := bd1_s hf
        refine backWi (w2 := (wX4 cA a_pl pl_rest pl_sketch pl_placed pl_rings pl_ringNodes pl_ringLength pl_ringSet pl_oldRing pl_path pl_pathLength pl_queue pl_origin r_4.2.1 r_4.2.2.1 r_4.2.2.2.1 r_4.2.2.2.2)) (runVw C (c_X4_weighEdges l D cA a_pl pl_rest pl_sketch pl_placed pl_rings pl_ringNodes pl_ringLength pl_ringSet pl_oldRing pl_path pl_pathLength pl_queue pl_origin pl_inside 0 pl_ring pl_choices _ N r_4 hcr_4) cf_X4_weighEdges km_X4_99 ⟨rfl, rfl, by decide, by decide⟩ ⟨Nat.zero_le _, Nat.zero_le _⟩ (va_recv hK.1 hP (ci := 4) (q0 := 0) rfl rfl) (hP.sub [0, 1, 2, 3, 4, 5, 6, 7, 8, 9] rfl) (hD.sub [0, 1, 2, 3, 4, 5, 6, 7, 8, 9] rfl rfl) hK hl.1 rfl rfl (Nat.le_of_ble_eq_true rfl) dX4_sketchBlock_21) hP hD hS hA [0, 1, 2, 3, 4, 5, 6, 7, 8, 9] rfl [] rfl rfl (by decide) [0, 1, 2, 3, 4, 5, 6, 7, 8, 9] rfl rfl (fun H locs hP hD hS => ?_)
        refine lv_if_eq (tgt := 34) hx hb dX4_sketchBlock_24 (by decide) (fun c_5 => ?_) (fun c_5 => ?_)
        · have hf := ite_t c_5 hf
          refine lv_iconst (v := 0) hx hb dX4_sketchBlock_34 (by decide) ?_
          have eR := some_i hf
          exact W.zret hx hb hr (by decide) (fun t ht hW => ⟨⟨0, (), rfl, fst_e eR, by rw [← eR, ht]; exact hP, by rw [← eR]; exact hD⟩, hS.F ht⟩) hS.2.2 dX4_sketchBlock_35 (hlocks := hlk)
        · have hf := ite_f c_5 hf
          refine lv_aload_n hx hb dX4_sketchBlock_27 rfl (lv_at hl 0 rfl) ?_
          obtain ⟨r_6, hcr_6, hf⟩ := bd1_s hf
          refine backWi (w2 := (wX4 cA a_pl pl_rest pl_sketch pl_placed pl_rings pl_ringNodes pl_ringLength pl_ringSet pl_oldRing pl_path pl_pathLength pl_queue pl_origin r_6.2.1 r_6.2.2.1 r_6.2.2.2.1 r_6.2.2.2.2)) (runVw C (c_X4_weighParts l D cA a_pl pl_rest pl_sketch pl_placed pl_rings pl_ringNodes pl_ringLength pl_ringSet pl_oldRing pl_path pl_pathLength pl_queue pl_origin r_4.2.1 r_4.2.2.1 r_4.2.2.2.1 r_4.2.2.2.2 _ N r_6 hcr_6) cf_X4_weighParts km_X4_102 ⟨rfl, rfl, by decide, by decide⟩ ⟨Nat.zero_le _, Nat.zero_le _⟩ (va_recv hK.1 hP (ci := 4) (q0 := 0) rfl rfl) (hP.sub [0, 1, 2, 3, 4, 5, 6, 7, 8, 9] rfl) (hD.sub [0, 1, 2, 3, 4, 5, 6, 7, 8, 9] rfl rfl) hK hl.1 rfl rfl (Nat.le_of_ble_eq_true rfl) dX4_sketchBlock_28) hP hD hS hA [0, 1, 2, 3, 4, 5, 6, 7, 8, 9] rfl [] rfl rfl (by decide) [0, 1, 2, 3, 4, 5, 6, 7, 8, 9] rfl rfl (fun H locs hP hD hS => ?_)
          refine lv_if_ne (tgt := 36) hx hb dX4_sketchBlock_31 (by decide) (fun c_7 => ?_) (fun c_7 => ?_)
          · have hf := ite_t c_7 hf
            refine lv_aload_n hx hb dX4_sketchBlock_36 rfl (lv_at hl 0 rfl) ?_
            refine va_get (D := D) (ci := 4) (C := RX4) (T := TX4) (N := 16) hx hb hT kwX4 hown hK.1 hP 0 rfl rfl 13 (by decide) (hT _ kf_X4_96) (fun _ h9 => h9) rfl dX4_sketchBlock_37 ?_
            obtain ⟨r_8, hcr_8, hf⟩ := bd1_s hf
            refine backI (runS0 C (c_J6_bitCount_0f7a4 l D cA r_6.2.2.1 N r_8 hcr_8) cf_J6_bitCount_0f7a4 km_X4_59 ⟨rfl, rfl, by decide, by decide⟩ ⟨Nat.zero_le _, Nat.zero_le _⟩ (hP.sub [] rfl) hK hl.1 rfl rfl (Nat.le_of_ble_eq_true rfl) dX4_sketchBlock_40) ?_
            refine lv_iconst (v := 2) hx hb dX4_sketchBlock_43 (by decide) ?_
            refine lv_icmp_ge (tgt := 49) hx hb dX4_sketchBlock_44 (by decide) (fun c_9 => ?_) (fun c_9 => ?_)
            · have hf := ite_t c_9 hf
              refine lv_aload_n hx hb dX4_sketchBlock_49 rfl (lv_at hl 0 rfl) ?_
              obtain ⟨r_10, hcr_10, hf⟩ := bd1_s hf
              refine backWv (w2 := (wX4 cA a_pl pl_rest pl_sketch pl_placed pl_rings pl_ringNodes pl_ringLength pl_ringSet pl_oldRing r_10.1 r_10.2.1 r_10.2.2.1 r_10.2.2.2 r_6.2.1 r_6.2.2.1 r_6.2.2.2.1 r_6.2.2.2.2)) (runVw C (c_X4_findPath l D cA a_pl pl_rest pl_sketch pl_placed pl_rings pl_ringNodes pl_ringLength pl_ringSet pl_oldRing pl_path pl_pathLength pl_queue pl_origin r_6.2.1 r_6.2.2.1 r_6.2.2.2.1 r_6.2.2.2.2 _ N r_10 hcr_10) cf_X4_findPath km_X4_105 ⟨rfl, rfl, by decide, by decide⟩ ⟨Nat.zero_le _, Nat.zero_le _⟩ (va_recv hK.1 hP (ci := 4) (q0 := 0) rfl rfl) (hP.sub [0, 1, 2, 3, 4, 5, 6, 7, 8, 9] rfl) (hD.sub [0, 1, 2, 3, 4, 5, 6, 7, 8, 9] rfl rfl) hK hl.1 rfl rfl (Nat.le_of_ble_eq_true rfl) dX4_sketchBlock_50) hP hD hS hA [0, 1, 2, 3, 4, 5, 6, 7, 8, 9] rfl [] rfl rfl (by decide) [0, 1, 2, 3, 4, 5, 6, 7, 8, 9] rfl rfl (fun H locs hP hD hS => ?_)
              refine lv_aload_n hx hb dX4_sketchBlock_53 rfl (lv_at hl 0 rfl) ?_
              obtain ⟨r_11, hcr_11, hf⟩ := bd1_s hf
              refine backWv (w2 := (wX4 cA a_pl pl_rest pl_sketch pl_placed r_11.1 r_11.2.1 r_11.2.2.1 r_11.2.2.2.1 r_11.2.2.2.2 r_10.1 r_10.2.1 r_10.2.2.1 r_10.2.2.2 r_6.2.1 r_6.2.2.1 r_6.2.2.2.1 r_6.2.2.2.2)) (runVw C (c_X4_splitRing l D cA a_pl pl_rest pl_sketch pl_placed pl_rings pl_ringNodes pl_ringLength pl_ringSet pl_oldRing r_10.1 r_10.2.1 r_10.2.2.1 r_10.2.2.2 r_6.2.1 r_6.2.2.1 r_6.2.2.2.1 r_6.2.2.2.2 _ N r_11 hcr_11) cf_X4_splitRing km_X4_108 ⟨rfl, rfl, by decide, by decide⟩ ⟨Nat.zero_le _, Nat.zero_le _⟩ (va_recv hK.1 hP (ci := 4) (q0 := 0) rfl rfl) (hP.sub [0, 1, 2, 3, 4, 5, 6, 7, 8, 9] rfl) (hD.sub [0, 1, 2, 3, 4, 5, 6, 7, 8, 9] rfl rfl) hK hl.1 rfl rfl (Nat.le_of_ble_eq_true rfl) dX4_sketchBlock_54) hP hD hS hA [0, 1, 2, 3, 4, 5, 6, 7, 8, 9] rfl [] rfl rfl (by decide) [0, 1, 2, 3, 4, 5, 6, 7, 8, 9] rfl rfl (fun H locs hP hD hS => ?_)
              refine lv_aload_n hx hb dX4_sketchBlock_57 rfl (lv_at hl 0 rfl) ?_
              obtain ⟨r_12, hcr_12, hf⟩ := bd1_s hf
              refine backWv (w2 := (wX4 cA a_pl pl_rest r_12.1 r_12.2 r_11.1 r_11.2.1 r_11.2.2.1 r_11.2.2.2.1 r_11.2.2.2.2 r_10.1 r_10.2.1 r_10.2.2.1 r_10.2.2.2 r_6.2.1 r_6.2.2.1 r_6.2.2.2.1 r_6.2.2.2.2)) (runVw C (c_X4_drawPath l D cA a_pl pl_rest pl_sketch pl_placed r_11.1 r_11.2.1 r_11.2.2.1 r_11.2.2.2.1 r_11.2.2.2.2 r_10.1 r_10.2.1 r_10.2.2.1 r_10.2.2.2 r_6.2.1 r_6.2.2.1 r_6.2.2.2.1 r_6.2.2.2.2 _ N r_12 hcr_12) cf_X4_drawPath km_X4_111 ⟨rfl, rfl, by decide, by decide⟩ ⟨Nat.zero_le _, Nat.zero_le _⟩ (va_recv hK.1 hP (ci := 4) (q0 := 0) rfl rfl) (hP.sub [0, 1, 2, 3, 4, 5, 6, 7, 8, 9] rfl) (hD.sub [0, 1, 2, 3, 4, 5, 6, 7, 8, 9] rfl rfl) hK hl.1 rfl rfl (Nat.le_of_ble_eq_true rfl) dX4_sketchBlock_58) hP hD hS hA [0, 1, 2, 3, 4, 5, 6, 7, 8, 9] rfl [] rfl rfl (by decide) [0, 1, 2, 3, 4, 5, 6, 7, 8, 9] rfl rfl (fun H locs hP hD hS => ?_)
              refine lv_iinc (v := (x1 + 1)) (lv' := [(1, .int (x1 + 1)), (0, .ref (a_pl 0))]) hx hb dX4_sketchBlock_61 hl (k := 1) rfl rfl (by decide) rfl (fun ls hl => ?_)
              refine lv_goto (tgt := 9) hx hb dX4_sketchBlock_64 (by decide) ?_
              exact ih9 (x1 + 1) r_12.1 r_12.2 r_11.1 r_11.2.1 r_11.2.2.1 r_11.2.2.2.1 r_11.2.2.2.2 r_10.1 r_10.2.1 r_10.2.2.1 r_10.2.2.2 r_6.2.1 r_6.2.2.1 r_6.2.2.2.1 r_6.2.2.2.2 _ _ _ (lv_sub hl [1, 0] rfl) hP hD hS hf
            · have hf := ite_f c_9 hf
              refine lv_iconst (v := 1) hx hb dX4_sketchBlock_47 (by decide) ?_
              have eR := some_i hf
              exact W.zret hx hb hr (by decide) (fun t ht hW => ⟨⟨1, (), rfl, fst_e eR, by rw [← eR, ht]; exact hP, by rw [← eR]; exact hD⟩, hS.F ht⟩) hS.2.2 dX4_sketchBlock_48 (hlocks := hlk)
          · have hf := ite_fn c_7 hf
            refine lv_iconst (v := 0) hx hb dX4_sketchBlock_34 (by decide) ?_
            have eR := some_i hf
            exact W.zret hx hb hr (by decide) (fun t ht hW => ⟨⟨0, (), rfl, fst_e eR, by rw [← eR, ht]; exact hP, by rw [← eR]; exact hD⟩, hS.F ht⟩) hS.2.2 dX4_sketchBlock_35 (hlocks := hlk)
  refine lv_aload_n hx hb dX4_sketchBlock_0 rfl (lv_at hl 0 rfl) ?_
  obtain ⟨r_1, hcr_1, hf⟩ := bd1_s hf
  refine backWv (w2 := (wX4 cA a_pl pl_rest r_1.1 r_1.2.1 r_1.2.2.1 r_1.2.2.2.1 r_1.2.2.2.2.1 r_1.2.2.2.2.2 pl_oldRing pl_path pl_pathLength pl_queue pl_origin pl_inside pl_ends pl_ring pl_choices)) (runVw C (c_X4_startSketch l D cA a_pl pl_rest pl_sketch pl_placed pl_rings pl_ringNodes pl_ringLength pl_ringSet pl_oldRing pl_path pl_pathLength pl_queue pl_origin pl_inside pl_ends pl_ring pl_choices _ N r_1 hcr_1) cf_X4_startSketch km_X4_90 ⟨rfl, rfl, by decide, by decide⟩ ⟨Nat.zero_le _, Nat.zero_le _⟩ (va_recv hK.1 hP (ci := 4) (q0 := 0) rfl rfl) (hP.sub [0, 1, 2, 3, 4, 5, 6, 7, 8, 9] rfl) (hD.sub [0, 1, 2, 3, 4, 5, 6, 7, 8, 9] rfl rfl) hK hl.1 rfl rfl (Nat.le_of_ble_eq_true rfl) dX4_sketchBlock_1) hP hD hS hA [0, 1, 2, 3, 4, 5, 6, 7, 8, 9] rfl [] rfl rfl (by decide) [0, 1, 2, 3, 4, 5, 6, 7, 8, 9] rfl rfl (fun H locs hP hD hS => ?_)
  refine lv_aload_n hx hb dX4_sketchBlock_4 rfl (lv_at hl 0 rfl) ?_
  refine va_get (D := D) (ci := 4) (C := RX4) (T := TX4) (N := 16) hx hb hT kwX4 hown hK.1 hP 0 rfl rfl 3 (by decide) (hT _ kf_X4_93) (fun _ h9 => h9) rfl dX4_sketchBlock_5 ?_
  refine lv_topi (fun x1_2 ex1_2 => ?_)
  have hf := nm_t ex1_2 hf
  refine lv_istore_n (lv' := [(1, .int x1_2), (0, .ref (a_pl 0))]) hx hb dX4_sketchBlock_8 rfl hl (by decide) rfl (fun ls hl => ?_)
  exact B9 N x1_2 r_1.1 r_1.2.1 r_1.2.2.1 r_1.2.2.2.1 r_1.2.2.2.2.1 r_1.2.2.2.2.2 pl_oldRing pl_path pl_pathLength pl_queue pl_origin pl_inside pl_ends pl_ring pl_choices _ _ _ (lv_sub hl [1, 0] rfl) hP hD hS hf
set_option maxRecDepth 100000 in
set_option maxHeartbeats 4000000 in
theorem c_X4_accepts (l : Launch) (D : va_G) (cA : Nat → ClassId) (a_pl : Nat → Nat) (a_nr : Nat) (pl_rest : Nat → Int32) (pl_sketch : Nat → Int32) (pl_placed : Int32) (pl_rings : Int32) (pl_ringNodes : Nat → Int32) (pl_ringLength : Nat → Int32) (pl_ringSet : Nat → Int32) (pl_oldRing : Nat → Int32) (pl_path : Nat → Int32) (pl_pathLength : Int32) (pl_queue : Nat → Int32) (pl_origin : Nat → Int32) (pl_inside : Int32) (pl_ends : Int32) (pl_ring : Int32) (pl_choices : Int32) (nr_a : Nat → Int32) (sz N : Nat) (ρ : Int32 × (Nat → Int32) × (Nat → Int32) × Int32 × Int32 × (Nat → Int32) × (Nat → Int32) × (Nat → Int32) × (Nat → Int32) × (Nat → Int32) × Int32 × (Nat → Int32) × (Nat → Int32) × Int32 × Int32 × Int32 × Int32) (hf : f_X4_accepts N nr_a pl_rest pl_sketch pl_placed pl_rings pl_ringNodes pl_ringLength pl_ringSet pl_oldRing pl_path pl_pathLength pl_queue pl_origin pl_inside pl_ends pl_ring pl_choices = some ρ) : Met l yX4_accepts (Cond.code yX4_accepts cX4_accepts 4 (Option.some Jvm.ClassFile.FieldType.boolean) :: lw_g) ({ frames := 5, cells := 0, slots := 0, locals := 114 } : Room) (PcW D (tyA cA) (wX4 cA a_pl pl_rest pl_sketch pl_placed pl_rings pl_ringNodes pl_ringLength pl_ringSet pl_oldRing pl_path pl_pathLength pl_queue pl_origin pl_inside pl_ends pl_ring pl_choices ++ (wA cA a_nr nr_a)) sz [.ref (a_pl 0), .ref a_nr]) (va_Qi (fun r (_ : Unit) => r = ρ.1) (fun _ t => va_P D vwCl (wX4 cA a_pl ρ.2.1 ρ.2.2.1 ρ.2.2.2.1 ρ.2.2.2.2.1 ρ.2.2.2.2.2.1 ρ.2.2.2.2.2.2.1 ρ.2.2.2.2.2.2.2.1 ρ.2.2.2.2.2.2.2.2.1 ρ.2.2.2.2.2.2.2.2.2.1 ρ.2.2.2.2.2.2.2.2.2.2.1 ρ.2.2.2.2.2.2.2.2.2.2.2.1 ρ.2.2.2.2.2.2.2.2.2.2.2.2.1 ρ.2.2.2.2.2.2.2.2.2.2.2.2.2.1 ρ.2.2.2.2.2.2.2.2.2.2.2.2.2.2.1 ρ.2.2.2.2.2.2.2.2.2.2.2.2.2.2.2.1 ρ.2.2.2.2.2.2.2.2.2.2.2.2.2.2.2.2 ++ (wA cA a_nr nr_a)) t.heap ∧ va_D (va_A (wX4 cA a_pl pl_rest pl_sketch pl_placed pl_rings pl_ringNodes pl_ringLength pl_ringSet pl_oldRing pl_path pl_pathLength pl_queue pl_origin pl_inside pl_ends pl_ring pl_choices ++ (wA cA a_nr nr_a)) sz) (wX4 cA a_pl ρ.2.1 ρ.2.2.1 ρ.2.2.2.1 ρ.2.2.2.2.1 ρ.2.2.2.2.2.1 ρ.2.2.2.2.2.2.1 ρ.2.2.2.2.2.2.2.1 ρ.2.2.2.2.2.2.2.2.1 ρ.2.2.2.2.2.2.2.2.2.1 ρ.2.2.2.2.2.2.2.2.2.2.1 ρ.2.2.2.2.2.2.2.2.2.2.2.1 ρ.2.2.2.2.2.2.2.2.2.2.2.2.1 ρ.2.2.2.2.2.2.2.2.2.2.2.2.2.1 ρ.2.2.2.2.2.2.2.2.2.2.2.2.2.2.1 ρ.2.2.2.2.2.2.2.2.2.2.2.2.2.2.2.1 ρ.2.2.2.2.2.2.2.2.2.2.2.2.2.2.2.2 ++ (wA cA a_nr nr_a))) (va_A (wX4 cA a_pl pl_rest pl_sketch pl_placed pl_rings pl_ringNodes pl_ringLength pl_ringSet pl_oldRing pl_path pl_pathLength pl_queue pl_origin pl_inside pl_ends pl_ring pl_choices ++ (wA cA a_nr nr_a)) sz)) 0 0 (va_A (wX4 cA a_pl pl_rest pl_sketch pl_placed pl_rings pl_ringNodes pl_ringLength pl_ringSet pl_oldRing pl_path pl_pathLength pl_queue pl_origin pl_inside pl_ends pl_ring pl_choices ++ (wA cA a_nr nr_a)) sz) := by
  refine mkW (QQ := fun A => va_Qi (fun r (_ : Unit) => r = ρ.1) (fun _ t => va_P D vwCl (wX4 cA a_pl ρ.2.1 ρ.2.2.1 ρ.2.2.2.1 ρ.2.2.2.2.1 ρ.2.2.2.2.2.1 ρ.2.2.2.2.2.2.1 ρ.2.2.2.2.2.2.2.1 ρ.2.2.2.2.2.2.2.2.1 ρ.2.2.2.2.2.2.2.2.2.1 ρ.2.2.2.2.2.2.2.2.2.2.1 ρ.2.2.2.2.2.2.2.2.2.2.2.1 ρ.2.2.2.2.2.2.2.2.2.2.2.2.1 ρ.2.2.2.2.2.2.2.2.2.2.2.2.2.1 ρ.2.2.2.2.2.2.2.2.2.2.2.2.2.2.1 ρ.2.2.2.2.2.2.2.2.2.2.2.2.2.2.2.1 ρ.2.2.2.2.2.2.2.2.2.2.2.2.2.2.2.2 ++ (wA cA a_nr nr_a)) t.heap ∧ va_D A (wX4 cA a_pl ρ.2.1 ρ.2.2.1 ρ.2.2.2.1 ρ.2.2.2.2.1 ρ.2.2.2.2.2.1 ρ.2.2.2.2.2.2.1 ρ.2.2.2.2.2.2.2.1 ρ.2.2.2.2.2.2.2.2.1 ρ.2.2.2.2.2.2.2.2.2.1 ρ.2.2.2.2.2.2.2.2.2.2.1 ρ.2.2.2.2.2.2.2.2.2.2.2.1 ρ.2.2.2.2.2.2.2.2.2.2.2.2.1 ρ.2.2.2.2.2.2.2.2.2.2.2.2.2.1 ρ.2.2.2.2.2.2.2.2.2.2.2.2.2.2.1 ρ.2.2.2.2.2.2.2.2.2.2.2.2.2.2.2.1 ρ.2.2.2.2.2.2.2.2.2.2.2.2.2.2.2.2 ++ (wA cA a_nr nr_a))) A) (by decide) (Nat.le_of_ble_eq_true rfl) fun p e s m below meth c ls A C hl hP hK hD hA hS => ?_
  obtain ⟨hx, hb, hml, hown, hT, hr, hlk⟩ := id C
  have hl : lv_has ls 4 [(0, .ref (a_pl 0)), (1, .ref a_nr)] := hl
  have B14 : ∀ (n14 : Nat), ∀ (x2 : Int32) (pl_rest : Nat → Int32) (pl_sketch : Nat → Int32) (pl_placed : Int32) (pl_rings : Int32) (pl_ringNodes : Nat → Int32) (pl_ringLength : Nat → Int32) (pl_ringSet : Nat → Int32) (pl_oldRing : Nat → Int32) (pl_path : Nat → Int32) (pl_pathLength : Int32) (pl_queue : Nat → Int32) (pl_origin : Nat → Int32) (pl_inside : Int32) (pl_ends : Int32) (pl_ring : Int32) (pl_choices : Int32) (H : Heap) (locs : List Loc) (ls : Array Slot), lv_has ls 4 [(0, .ref (a_pl 0)), (2, .int x2)] → va_P D vwCl (wX4 cA a_pl pl_rest pl_sketch pl_placed pl_rings pl_ringNodes pl_ringLength pl_ringSet pl_oldRing pl_path pl_pathLength pl_queue pl_origin pl_inside pl_ends pl_ring pl_choices ++ (wA cA a_nr nr_a)) H → va_D A (wX4 cA a_pl pl_rest pl_sketch pl_placed pl_rings pl_ringNodes pl_ringLength pl_ringSet pl_oldRing pl_path pl_pathLength pl_queue pl_origin pl_inside pl_ends pl_ring pl_choices ++ (wA cA a_nr nr_a)) → va_S A s.heap H locs → f_X4_accepts_b14 N nr_a n14 x2 pl_rest pl_sketch pl_placed pl_rings pl_ringNodes pl_ringLength pl_ringSet pl_oldRing pl_path pl_pathLength pl_queue pl_origin pl_inside pl_ends pl_ring pl_choices = some ρ → W p l e ({ frames := 5, cells := 0, slots := 0, locals := 114 } : Room) s m ([.ref (a_pl 0), .ref a_nr] : List Value).toArray below meth c H locs 0 0 (MQ below (va_Qi (fun r (_ : Unit) => r = ρ.1) (fun _ t => va_P D vwCl (wX4 cA a_pl ρ.2.1 ρ.2.2.1 ρ.2.2.2.1 ρ.2.2.2.2.1 ρ.2.2.2.2.2.1 ρ.2.2.2.2.2.2.1 ρ.2.2.2.2.2.2.2.1 ρ.2.2.2.2.2.2.2.2.1 ρ.2.2.2.2.2.2.2.2.2.1 ρ.2.2.2.2.2.2.2.2.2.2.1 ρ.2.2.2.2.2.2.2.2.2.2.2.1 ρ.2.2.2.2.2.2.2.2.2.2.2.2.1 ρ.2.2.2.2.2.2.2.2.2.2.2.2.2.1 ρ.2.2.2.2.2.2.2.2.2.2.2.2.2.2.1 ρ.2.2.2.2.2.2.2.2.2.2.2.2.2.2.2.1 ρ.2.2.2.2.2.2.2.2.2.2.2.2.2.2.2.2 ++ (wA cA a_nr nr_a)) t.heap ∧ va_D A (wX4 cA a_pl ρ.2.1 ρ.2.2.1 ρ.2.2.2.1 ρ.2.2.2.2.1 ρ.2.2.2.2.2.1 ρ.2.2.2.2.2.2.1 ρ.2.2.2.2.2.2.2.1 ρ.2.2.2.2.2.2.2.2.1 ρ.2.2.2.2.2.2.2.2.2.1 ρ.2.2.2.2.2.2.2.2.2.2.1 ρ.2.2.2.2.2.2.2.2.2.2.2.1 ρ.2.2.2.2.2.2.2.2.2.2.2.2.1 ρ.2.2.2.2.2.2.2.2.2.2.2.2.2.1 ρ.2.2.2.2.2.2.2.2.2.2.2.2.2.2.1 ρ.2.2.2.2.2.2.2.2.2.2.2.2.2.2.2.1 ρ.2.2.2.2.2.2.2.2.2.2.2.2.2.2.2.2 ++ (wA cA a_nr nr_a))) A) ([.ref (a_pl 0), .ref a_nr] : List Value).toArray s 0 0 A) (F0 m 14 ls []) := by
    intro n14
    induction n14 with
    | zero =>
      intro x2 pl_rest pl_sketch pl_placed pl_rings pl_ringNodes pl_ringLength pl_ringSet pl_oldRing pl_path pl_pathLength pl_queue pl_origin pl_inside pl_ends pl_ring pl_choices H locs ls hl hP hD hS hf
      cases (show (none : Option (Int32 × (Nat → Int32) × (Nat → Int32) × Int32 × Int32 × (Nat → Int32) × (Nat → Int32) × (Nat → Int32) × (Nat → Int32) × (Nat → Int32) × Int32 × (Nat → Int32) × (Nat → Int32) × Int32 × Int32 × Int32 × Int32)) = some ρ from hf)
    | succ n14 ih14 =>
      have B82 : ∀ (x2 : Int32) (pl_rest : Nat → Int32) (pl_sketch : Nat → Int32) (pl_placed : Int32) (pl_rings : Int32) (pl_ringNodes : Nat → Int32) (pl_ringLength : Nat → Int32) (pl_ringSet : Nat → Int32) (pl_oldRing : Nat → Int32) (pl_path : Nat → Int32) (pl_pathLength : Int32) (pl_queue : Nat → Int32) (pl_origin : Nat → Int32) (pl_inside : Int32) (pl_ends : Int32) (pl_ring : Int32) (pl_choices : Int32) (H : Heap) (locs : List Loc) (ls : Array Slot), lv_has ls 4 [(0, .ref (a_pl 0)), (2, .int x2)] → va_P D vwCl (wX4 cA a_pl pl_rest pl_sketch pl_placed pl_rings pl_ringNodes pl_ringLength pl_ringSet pl_oldRing pl_path pl_pathLength pl_queue pl_origin pl_inside pl_ends pl_ring pl_choices ++ (wA cA a_nr nr_a)) H → va_D A (wX4 cA a_pl pl_rest pl_sketch pl_placed pl_rings pl_ringNodes pl_ringLength pl_ringSet pl_oldRing pl_path pl_pathLength pl_queue pl_origin pl_inside pl_ends pl_ring pl_choices ++ (wA cA a_nr nr_a)) → va_S A s.heap H locs → f_X4_accepts_b82 N nr_a (f_X4_accepts_b14 N nr_a n14) x2 pl_rest pl_sketch pl_placed pl_rings pl_ringNodes pl_ringLength pl_ringSet pl_oldRing pl_path pl_pathLength pl_queue pl_origin pl_inside pl_ends pl_ring pl_choices = some ρ → W p l e ({ frames := 5, cells := 0, slots := 0, locals := 114 } : Room) s m ([.ref (a_pl 0), .ref a_nr] : List Value).toArray below meth c H locs 0 0 (MQ below (va_Qi (fun r (_ : Unit) => r = ρ.1) (fun _ t => va_P D vwCl (wX4 cA a_pl ρ.2.1 ρ.2.2.1 ρ.2.2.2.1 ρ.2.2.2.2.1 ρ.2.2.2.2.2.1 ρ.2.2.2.2.2.2.1 ρ.2.2.2.2.2.2.2.1 ρ.2.2.2.2.2.2.2.2.1 ρ.2.2.2.2.2.2.2.2.2.1 ρ.2.2.2.2.2.2.2.2.2.2.1 ρ.2.2.2.2.2.2.2.2.2.2.2.1 ρ.2.2.2.2.2.2.2.2.2.2.2.2.1 ρ.2.2.2.2.2.2.2.2.2.2.2.2.2.1 ρ.2.2.2.2.2.2.2.2.2.2.2.2.2.2.1 ρ.2.2.2.2.2.2.2.2.2.2.2.2.2.2.2.1 ρ.2.2.2.2.2.2.2.2.2.2.2.2.2.2.2.2 ++ (wA cA a_nr nr_a)) t.heap ∧ va_D A (wX4 cA a_pl ρ.2.1 ρ.2.2.1 ρ.2.2.2.1 ρ.2.2.2.2.1 ρ.2.2.2.2.2.1 ρ.2.2.2.2.2.2.1 ρ.2.2.2.2.2.2.2.1 ρ.2.2.2.2.2.2.2.2.1 ρ.2.2.2.2.2.2.2.2.2.1 ρ.2.2.2.2.2.2.2.2.2.2.1 ρ.2.2.2.2.2.2.2.2.2.2.2.1 ρ.2.2.2.2.2.2.2.2.2.2.2.2.1 ρ.2.2.2.2.2.2.2.2.2.2.2.2.2.1 ρ.2.2.2.2.2.2.2.2.2.2.2.2.2.2.1 ρ.2.2.2.2.2.2.2.2.2.2.2.2.2.2.2.1 ρ.2.2.2.2.2.2.2.2.2.2.2.2.2.2.2.2 ++ (wA cA a_nr nr_a))) A) ([.ref (a_pl 0), .ref a_nr] : List Value).toArray s 0 0 A) (F0 m 82 ls []) := by
        intro x2 pl_rest pl_sketch pl_placed pl_rings pl_ringNodes pl_ringLength pl_ringSet pl_oldRing pl_path pl_pathLength pl_queue pl_origin pl_inside pl_ends pl_ring pl_choices H locs ls hl hP hD hS hf
        refine lv_iinc (v := (x2 + 1)) (lv' := [(2, .int (x2 + 1)), (0, .ref (a_pl 0))]) hx hb dX4_accepts_82 hl (k := 1) rfl rfl (by decide) rfl (fun ls hl => ?_)
        refine lv_goto (tgt := 14) hx hb dX4_accepts_85 (by decide) ?_
        exact ih14 (x2 + 1) pl_rest pl_sketch pl_placed pl_rings pl_ringNodes pl_ringLength pl_ringSet pl_oldRing pl_path pl_pathLength pl_queue pl_origin pl_inside pl_ends pl_ring pl_choices _ _ _ (lv_sub hl [1, 0] rfl) hP hD hS hf
      have B53 : ∀ (n53 : Nat), ∀ (x2 : Int32) (x3 : Int32) (pl_rest : Nat → Int32) (pl_sketch : Nat → Int32) (pl_placed : Int32) (pl_rings : Int32) (pl_ringNodes : Nat → Int32) (pl_ringLength : Nat → Int32) (pl_ringSet : Nat → Int32) (pl_oldRing : Nat → Int32) (pl_path : Nat → Int32) (pl_pathLength : Int32) (pl_queue : Nat → Int32) (pl_origin : Nat → Int32) (pl_inside : Int32) (pl_ends : Int32) (pl_ring : Int32) (pl_choices : Int32) (H : Heap) (locs : List Loc) (ls : Array Slot), lv_has ls 4 [(0, .ref (a_pl 0)), (2, .int x2), (3, .int x3)] → va_P D vwCl (wX4 cA a_pl pl_rest pl_sketch pl_placed pl_rings pl_ringNodes pl_ringLength pl_ringSet pl_oldRing pl_path pl_pathLength pl_queue pl_origin pl_inside pl_ends pl_ring pl_choices ++ (wA cA a_nr nr_a)) H → va_D A (wX4 cA a_pl pl_rest pl_sketch pl_placed pl_rings pl_ringNodes pl_ringLength pl_ringSet pl_oldRing pl_path pl_pathLength pl_queue pl_origin pl_inside pl_ends pl_ring pl_choices ++ (wA cA a_nr nr_a)) → va_S A s.heap H locs → f_X4_accepts_b53 N nr_a (f_X4_accepts_b14 N nr_a n14) n53 x2 x3 pl_rest pl_sketch pl_placed pl_rings pl_ringNodes pl_ringLength pl_ringSet pl_oldRing pl_path pl_pathLength pl_queue pl_origin pl_inside pl_ends pl_ring pl_choices = some ρ → W p l e ({ frames := 5, cells := 0, slots := 0, locals := 114 } : Room) s m ([.ref (a_pl 0), .ref a_nr] : List Value).toArray below meth c H locs 0 0 (MQ below (va_Qi (fun r (_ : Unit) => r = ρ.1) (fun _ t => va_P D vwCl (wX4 cA a_pl ρ.2.1 ρ.2.2.1 ρ.2.2.2.1 ρ.2.2.2.2.1 ρ.2.2.2.2.2.1 ρ.2.2.2.2.2.2.1 ρ.2.2.2.2.2.2.2.1 ρ.2.2.2.2.2.2.2.2.1 ρ.2.2.2.2.2.2.2.2.2.1 ρ.2.2.2.2.2.2.2.2.2.2.1 ρ.2.2.2.2.2.2.2.2.2.2.2.1 ρ.2.2.2.2.2.2.2.2.2.2.2.2.1 ρ.2.2.2.2.2.2.2.2.2.2.2.2.2.1 ρ.2.2.2.2.2.2.2.2.2.2.2.2.2.2.1 ρ.2.2.2.2.2.2.2.2.2.2.2.2.2.2.2.1 ρ.2.2.2.2.2.2.2.2.2.2.2.2.2.2.2.2 ++ (wA cA a_nr nr_a)) t.heap ∧ va_D A (wX4 cA a_pl ρ.2.1 ρ.2.2.1 ρ.2.2.2.1 ρ.2.2.2.2.1 ρ.2.2.2.2.2.1 ρ.2.2.2.2.2.2.1 ρ.2.2.2.2.2.2.2.1 ρ.2.2.2.2.2.2.2.2.1 ρ.2.2.2.2.2.2.2.2.2.1 ρ.2.2.2.2.2.2.2.2.2.2.1 ρ.2.2.2.2.2.2.2.2.2.2.2.1 ρ.2.2.2.2.2.2.2.2.2.2.2.2.1 ρ.2.2.2.2.2.2.2.2.2.2.2.2.2.1 ρ.2.2.2.2.2.2.2.2.2.2.2.2.2.2.1 ρ.2.2.2.2.2.2.2.2.2.2.2.2.2.2.2.1 ρ.2.2.2.2.2.2.2.2.2.2.2.2.2.2.2.2 ++ (wA cA a_nr nr_a))) A) ([.ref (a_pl 0), .ref a_nr] : List Value).toArray s 0 0 A) (F0 m 53 ls []) := by
        intro n53
        induction n53 with
        | zero =>
          intro x2 x3 pl_rest pl_sketch pl_placed pl_rings pl_ringNodes pl_ringLength pl_ringSet pl_oldRing pl_path pl_pathLength pl_queue pl_origin pl_inside pl_ends pl_ring pl_choices H locs ls hl hP hD hS hf
          cases (show (none : Option (Int32 × (Nat → Int32) × (Nat → Int32) × Int32 × Int32 × (Nat → Int32) × (Nat → Int32) × (Nat → Int32) × (Nat → Int32) × (Nat → Int32) × Int32 × (Nat → Int32) × (Nat → Int32) × Int32 × Int32 × Int32 × Int32)) = some ρ from hf)
        | succ n53 ih53 =>
          intro x2 x3 pl_rest pl_sketch pl_placed pl_rings pl_ringNodes pl_ringLength pl_ringSet pl_oldRing pl_path pl_pathLength pl_queue pl_origin pl_inside pl_ends pl_ring pl_choices H locs ls hl hP hD hS hf
          refine lv_iload_n hx hb dX4_accepts_53 rfl (lv_at hl 2 rfl) ?_
          refine lv_bipush (v := 9) hx hb dX4_accepts_54 (by decide) ?_
          refine lv_icmp_ge (tgt := 82) hx hb dX4_accepts_56 (by decide) (fun c_10 => ?_) (fun c_10 => ?_)
          · have hf := ite_t c_10 hf
            exact B82 x2 pl_rest pl_sketch pl_placed pl_rings pl_ringNodes pl_ringLength pl_ringSet pl_oldRing pl_path pl_pathLength pl_queue pl_origin pl_inside pl_ends pl_ring pl_choices _ _ _ (lv_sub hl [0, 1] rfl) hP hD hS hf
          · have hf := ite_f c_10 hf
            refine lv_aload_n hx hb dX4_accepts_59 rfl (lv_at hl 0 rfl) ?_
            refine va_get (D := D) (ci := 4) (C := RX4) (T := TX4) (N := 16) hx hb hT kwX4 hown hK.1 hP 0 rfl rfl 0 (by decide) (hT _ kf_X4_9) (fun _ h9 => h9) rfl dX4_accepts_60 ?_
            refine lv_iload_n hx hb dX4_accepts_63 rfl (lv_at hl 2 rfl) ?_
            refine lv_dup2_11 hx hb dX4_accepts_64 rfl rfl ?_
            obtain ⟨h_11, hf⟩ := chk_s hf
            refine va_iald hx hb hK.1 hP 1 0 rfl rfl (inb_in h_11) dX4_accepts_65 ?_
            refine lv_aload_n hx hb dX4_accepts_66 rfl (lv_at hl 0 rfl) ?_
            refine va_get (D := D) (ci := 4) (C := RX4) (T := TX4) (N := 16) hx hb hT kwX4 hown hK.1 hP 0 rfl rfl 1 (by decide) (hT _ kf_X4_15) (fun _ h9 => h9) rfl dX4_accepts_67 ?_
            refine lv_iload_n hx hb dX4_accepts_70 rfl (lv_at hl 2 rfl) ?_
            obtain ⟨h_12, hf⟩ := chk_s hf
            refine va_iald hx hb hK.1 hP 2 0 rfl rfl (inb_in h_12) dX4_accepts_71 ?_
            refine lv_iconst (v := (-1)) hx hb dX4_accepts_72 (by decide) ?_
            refine lv_ixor hx hb dX4_accepts_73 ?_
            refine lv_iand hx hb dX4_accepts_74 ?_
            obtain ⟨h_13, hf⟩ := chk_s hf
            refine va_iast hx hb hK.1 hP hD hS 1 0 rfl rfl (inb_in h_13) dX4_accepts_75 (fun H locs hP hD hS => ?_)
            have hP : va_P D vwCl (wX4 cA a_pl (upd pl_rest x3.toNatClampNeg ((pl_rest x3.toNatClampNeg) &&& ((pl_sketch x3.toNatClampNeg) ^^^ (-1)))) pl_sketch pl_placed pl_rings pl_ringNodes pl_ringLength pl_ringSet pl_oldRing pl_path pl_pathLength pl_queue pl_origin pl_inside pl_ends pl_ring pl_choices ++ (wA cA a_nr nr_a)) H := hP
            have hD : va_D A (wX4 cA a_pl (upd pl_rest x3.toNatClampNeg ((pl_rest x3.toNatClampNeg) &&& ((pl_sketch x3.toNatClampNeg) ^^^ (-1)))) pl_sketch pl_placed pl_rings pl_ringNodes pl_ringLength pl_ringSet pl_oldRing pl_path pl_pathLength pl_queue pl_origin pl_inside pl_ends pl_ring pl_choices ++ (wA cA a_nr nr_a)) := hD
            refine lv_iinc (v := (x3 + 1)) (lv' := [(3, .int (x3 + 1)), (0, .ref (a_pl 0)), (2, .int x2)]) hx hb dX4_accepts_76 hl (k := 2) rfl rfl (by decide) rfl (fun ls hl => ?_)
            refine lv_goto (tgt := 53) hx hb dX4_accepts_79 (by decide) ?_
            exact ih53 x2 (x3 + 1) (upd pl_rest x3.toNatClampNeg ((pl_rest x3.toNatClampNeg) &&& ((pl_sketch x3.toNatClampNeg) ^^^ (-1)))) pl_sketch pl_placed pl_rings pl_ringNodes pl_ringLength pl_ringSet pl_oldRing pl_path pl_pathLength pl_queue pl_origin pl_inside pl_ends pl_ring pl_choices _ _ _ (lv_sub hl [1, 2, 0] rfl) hP hD hS hf
      intro x2 pl_rest pl_sketch pl_placed pl_rings pl_ringNodes pl_ringLength pl_ringSet pl_oldRing pl_path pl_pathLength pl_queue pl_origin pl_inside pl_ends pl_ring pl_choices H locs ls hl hP hD hS hf
      refine lv_iload_n hx hb dX4_accepts_14 rfl (lv_at hl 1 rfl) ?_
      refine lv_bipush (v := 9) hx hb dX4_accepts_15 (by decide) ?_
      refine lv_icmp_ge (tgt := 88) hx hb dX4_accepts_17 (by decide) (fun c_2 => ?_) (fun c_2 => ?_)
      · have hf := ite_t c_2 hf
        refine lv_iconst (v := 1) hx hb dX4_accepts_88 (by decide) ?_
        have eR := some_i hf
        exact W.zret hx hb hr (by decide) (fun t ht hW => ⟨⟨1, (), rfl, fst_e eR, by rw [← eR, ht]; exact hP, by rw [← eR]; exact hD⟩, hS.F ht⟩) hS.2.2 dX4_accepts_89 (hlocks := hlk)
      · have hf := ite_f c_2 hf
        refine lv_aload_n hx hb dX4_accepts_20 rfl (lv_at hl 0 rfl) ?_
        obtain ⟨r_3, hcr_3, hf⟩ := bd1_s hf
        refine backWv (w2 := (wX4 cA a_pl r_3 pl_sketch pl_placed pl_rings pl_ringNodes pl_ringLength pl_ringSet pl_oldRing pl_path pl_pathLength pl_queue pl_origin pl_inside pl_ends pl_ring pl_choices ++ (wA cA a_nr nr_a))) (runVw C (c_X4_reduce l D cA a_pl pl_rest pl_sketch pl_placed pl_rings pl_ringNodes pl_ringLength pl_ringSet pl_oldRing pl_path pl_pathLength pl_queue pl_origin pl_inside pl_ends pl_ring pl_choices _ N r_3 hcr_3) cf_X4_reduce km_X4_45 ⟨rfl, rfl, by decide, by decide⟩ ⟨Nat.zero_le _, Nat.zero_le _⟩ (va_recv hK.1 hP (ci := 4) (q0 := 0) rfl rfl) (hP.sub [0, 1, 2, 3, 4, 5, 6, 7, 8, 9] rfl) (hD.sub [0, 1, 2, 3, 4, 5, 6, 7, 8, 9] rfl rfl) hK hl.1 rfl rfl (Nat.le_of_ble_eq_true rfl) dX4_accepts_21) hP hD hS hA [0, 1, 2, 3, 4, 5, 6, 7, 8, 9] rfl [10] rfl rfl (by decide) [1, 2, 3, 4, 5, 6, 7, 8, 9, 10, 0] rfl rfl (fun H locs hP hD hS => ?_)
        refine lv_aload_n hx hb dX4_accepts_24 rfl (lv_at hl 0 rfl) ?_
        obtain ⟨r_4, hcr_4, hf⟩ := bd1_s hf
        refine backI (runV0 C (c_X4_countEdges l D cA a_pl r_3 pl_sketch pl_placed pl_rings pl_ringNodes pl_ringLength pl_ringSet pl_oldRing pl_path pl_pathLength pl_queue pl_origin pl_inside pl_ends pl_ring pl_choices N r_4 hcr_4) cf_X4_countEdges km_X4_48 ⟨rfl, rfl, by decide, by decide⟩ ⟨Nat.zero_le _, Nat.zero_le _⟩ (va_recv hK.1 hP (ci := 4) (q0 := 0) rfl rfl) (hP.sub [0, 1, 2, 3, 4, 5, 6, 7, 8, 9] rfl) hK hl.1 rfl rfl (Nat.le_of_ble_eq_true rfl) dX4_accepts_25) ?_
        refine lv_bipush (v := 9) hx hb dX4_accepts_28 (by decide) ?_
        refine lv_icmp_lt (tgt := 40) hx hb dX4_accepts_30 (by decide) (fun c_5 => ?_) (fun c_5 => ?_)
        · have hf := ite_t c_5 hf
          refine lv_iconst (v := 1) hx hb dX4_accepts_40 (by decide) ?_
          have eR := some_i hf
          exact W.zret hx hb hr (by decide) (fun t ht hW => ⟨⟨1, (), rfl, fst_e eR, by rw [← eR, ht]; exact hP, by rw [← eR]; exact hD⟩, hS.F ht⟩) hS.2.2 dX4_accepts_41 (hlocks := hlk)
        · have hf := ite_f c_5 hf
          refine lv_aload_n hx hb dX4_accepts_33 rfl (lv_at hl 0 rfl) ?_
          obtain ⟨r_6, hcr_6, hf⟩ := bd1_s hf
          refine backWi (w2 := (wX4 cA a_pl r_3 pl_sketch pl_placed pl_rings pl_ringNodes pl_ringLength pl_ringSet pl_oldRing r_6.2.1 r_6.2.2 pl_queue pl_origin pl_inside pl_ends pl_ring pl_choices ++ (wA cA a_nr nr_a))) (runVw C (c_X4_findCycle l D cA a_pl r_3 pl_sketch pl_placed pl_rings pl_ringNodes pl_ringLength pl_ringSet pl_oldRing pl_path pl_pathLength pl_queue pl_origin pl_inside pl_ends pl_ring pl_choices _ N r_6 hcr_6) cf_X4_findCycle km_X4_52 ⟨rfl, rfl, by decide, by decide⟩ ⟨Nat.zero_le _, Nat.zero_le _⟩ (va_recv hK.1 hP (ci := 4) (q0 := 0) rfl rfl) (hP.sub [0, 1, 2, 3, 4, 5, 6, 7, 8, 9] rfl) (hD.sub [0, 1, 2, 3, 4, 5, 6, 7, 8, 9] rfl rfl) hK hl.1 rfl rfl (Nat.le_of_ble_eq_true rfl) dX4_accepts_34) hP hD hS hA [0, 1, 2, 3, 4, 5, 6, 7, 8, 9] rfl [10] rfl rfl (by decide) [1, 2, 3, 4, 5, 6, 7, 8, 9, 10, 0] rfl rfl (fun H locs hP hD hS => ?_)
          refine lv_if_ne (tgt := 42) hx hb dX4_accepts_37 (by decide) (fun c_7 => ?_) (fun c_7 => ?_)
          · have hf := ite_t c_7 hf
            refine lv_aload_n hx hb dX4_accepts_42 rfl (lv_at hl 0 rfl) ?_
            obtain ⟨r_8, hcr_8, hf⟩ := bd1_s hf
            refine backWi (w2 := (wX4 cA a_pl r_3 r_8.2.1 r_8.2.2.1 r_8.2.2.2.1 r_8.2.2.2.2.1 r_8.2.2.2.2.2.1 r_8.2.2.2.2.2.2.1 r_8.2.2.2.2.2.2.2.1 r_8.2.2.2.2.2.2.2.2.1 r_8.2.2.2.2.2.2.2.2.2.1 r_8.2.2.2.2.2.2.2.2.2.2.1 r_8.2.2.2.2.2.2.2.2.2.2.2.1 r_8.2.2.2.2.2.2.2.2.2.2.2.2.1 r_8.2.2.2.2.2.2.2.2.2.2.2.2.2.1 r_8.2.2.2.2.2.2.2.2.2.2.2.2.2.2.1 r_8.2.2.2.2.2.2.2.2.2.2.2.2.2.2.2 ++ (wA cA a_nr nr_a))) (runVw C (c_X4_sketchBlock l D cA a_pl r_3 pl_sketch pl_placed pl_rings pl_ringNodes pl_ringLength pl_ringSet pl_oldRing r_6.2.1 r_6.2.2 pl_queue pl_origin pl_inside pl_ends pl_ring pl_choices _ N r_8 hcr_8) cf_X4_sketchBlock km_X4_56 ⟨rfl, rfl, by decide, by decide⟩ ⟨Nat.zero_le _, Nat.zero_le _⟩ (va_recv hK.1 hP (ci := 4) (q0 := 0) rfl rfl) (hP.sub [0, 1, 2, 3, 4, 5, 6, 7, 8, 9] rfl) (hD.sub [0, 1, 2, 3, 4, 5, 6, 7, 8, 9] rfl rfl) hK hl.1 rfl rfl (Nat.le_of_ble_eq_true rfl) dX4_accepts_43) hP hD hS hA [0, 1, 2, 3, 4, 5, 6, 7, 8, 9] rfl [10] rfl rfl (by decide) [1, 2, 3, 4, 5, 6, 7, 8, 9, 10, 0] rfl rfl (fun H locs hP hD hS => ?_)
            refine lv_if_ne (tgt := 51) hx hb dX4_accepts_46 (by decide) (fun c_9 => ?_) (fun c_9 => ?_)
            · have hf := ite_t c_9 hf
              refine lv_iconst (v := 0) hx hb dX4_accepts_51 (by decide) ?_
              refine lv_istore_n (lv' := [(3, .int 0), (0, .ref (a_pl 0)), (2, .int x2)]) hx hb dX4_accepts_52 rfl hl (by decide) rfl (fun ls hl => ?_)
              exact B53 N x2 0 r_3 r_8.2.1 r_8.2.2.1 r_8.2.2.2.1 r_8.2.2.2.2.1 r_8.2.2.2.2.2.1 r_8.2.2.2.2.2.2.1 r_8.2.2.2.2.2.2.2.1 r_8.2.2.2.2.2.2.2.2.1 r_8.2.2.2.2.2.2.2.2.2.1 r_8.2.2.2.2.2.2.2.2.2.2.1 r_8.2.2.2.2.2.2.2.2.2.2.2.1 r_8.2.2.2.2.2.2.2.2.2.2.2.2.1 r_8.2.2.2.2.2.2.2.2.2.2.2.2.2.1 r_8.2.2.2.2.2.2.2.2.2.2.2.2.2.2.1 r_8.2.2.2.2.2.2.2.2.2.2.2.2.2.2.2 _ _ _ (lv_sub hl [1, 2, 0] rfl) hP hD hS hf
            · have hf := ite_fn c_9 hf
              refine lv_iconst (v := 0) hx hb dX4_accepts_49 (by decide) ?_
              have eR := some_i hf
              exact W.zret hx hb hr (by decide) (fun t ht hW => ⟨⟨0, (), rfl, fst_e eR, by rw [← eR, ht]; exact hP, by rw [← eR]; exact hD⟩, hS.F ht⟩) hS.2.2 dX4_accepts_50 (hlocks := hlk)
          · have hf := ite_fn c_7 hf
            refine lv_iconst (v := 1) hx hb dX4_accepts_40 (by decide) ?_
            have eR := some_i hf
            exact W.zret hx hb hr (by decide) (fun t ht hW => ⟨⟨1, (), rfl, fst_e eR, by rw [← eR, ht]; exact hP, by rw [← eR]; exact hD⟩, hS.F ht⟩) hS.2.2 dX4_accepts_41 (hlocks := hlk)
  refine lv_aload_n hx hb dX4_accepts_0 rfl (lv_at hl 1 rfl) ?_
  refine lv_iconst (v := 0) hx hb dX4_accepts_1 (by decide) ?_
  refine lv_aload_n hx hb dX4_accepts_2 rfl (lv_at hl 0 rfl) ?_
  refine va_get (D := D) (ci := 4) (C := RX4) (T := TX4) (N := 16) hx hb hT kwX4 hown hK.1 hP 0 rfl rfl 0 (by decide) (hT _ kf_X4_9) (fun _ h9 => h9) rfl dX4_accepts_3 ?_
  refine lv_iconst (v := 0) hx hb dX4_accepts_6 (by decide) ?_
  refine lv_bipush (v := 9) hx hb dX4_accepts_7 (by decide) ?_
  obtain ⟨h_1, hf⟩ := chk_s hf
  obtain ⟨h_1a, h_1b, h_1c, h_1d, h_1e⟩ := cpok_n h_1
  refine va_copyi hx hb (hml.trans hl.1.symm) hown (hT _ km_X4_39) (hT _ kv_System_arraycopy) (hT _ kt_System_arraycopy) (hT _ kin_J10) hK.1 hP hD hS 10 1 0 0 rfl rfl rfl rfl rfl h_1a h_1b h_1c h_1d h_1e (fun _ _ => rfl) (by decide) (Nat.le_of_ble_eq_true rfl) dX4_accepts_9 (fun H locs hP hD hS => ?_)
  have hP : va_P D vwCl (wX4 cA a_pl (va_cpy nr_a pl_rest (0 : Int32).toNatClampNeg (0 : Int32).toNatClampNeg (9 : Int32).toNatClampNeg) pl_sketch pl_placed pl_rings pl_ringNodes pl_ringLength pl_ringSet pl_oldRing pl_path pl_pathLength pl_queue pl_origin pl_inside pl_ends pl_ring pl_choices ++ (wA cA a_nr nr_a)) H := hP
  have hD : va_D A (wX4 cA a_pl (va_cpy nr_a pl_rest (0 : Int32).toNatClampNeg (0 : Int32).toNatClampNeg (9 : Int32).toNatClampNeg) pl_sketch pl_placed pl_rings pl_ringNodes pl_ringLength pl_ringSet pl_oldRing pl_path pl_pathLength pl_queue pl_origin pl_inside pl_ends pl_ring pl_choices ++ (wA cA a_nr nr_a)) := hD
  refine lv_iconst (v := 0) hx hb dX4_accepts_12 (by decide) ?_
  refine lv_istore_n (lv' := [(2, .int 0), (0, .ref (a_pl 0)), (1, .ref a_nr)]) hx hb dX4_accepts_13 rfl hl (by decide) rfl (fun ls hl => ?_)
  exact B14 N 0 (va_cpy nr_a pl_rest (0 : Int32).toNatClampNeg (0 : Int32).toNatClampNeg (9 : Int32).toNatClampNeg) pl_sketch pl_placed pl_rings pl_ringNodes pl_ringLength pl_ringSet pl_oldRing pl_path pl_pathLength pl_queue pl_origin pl_inside pl_ends pl_ring pl_choices _ _ _ (lv_sub hl [1, 0] rfl) hP hD hS hf
