set_option maxRecDepth 100000 in
set_option maxHeartbeats 4000000 in
theorem c_X4_bridgeOver (l : Launch) (D : va_G) (cA : Nat → ClassId) (a_pl : Nat → Nat) (pl_rest : Nat → Int32) (pl_sketch : Nat → Int32) (pl_placed : Int32) (pl_rings : Int32) (pl_ringNodes : Nat → Int32) (pl_ringLength : Nat → Int32) (pl_ringSet : Nat → Int32) (pl_oldRing : Nat → Int32) (pl_path : Nat → Int32) (pl_pathLength : Int32) (pl_queue : Nat → Int32) (pl_origin : Nat → Int32) (pl_inside : Int32) (pl_ends : Int32) (pl_ring : Int32) (pl_choices : Int32) (p1 : Int32) (sz N : Nat) (ρ : (Nat → Int32)) (hf : f_X4_bridgeOver N pl_rest p1 = some ρ) : Met l yX4_bridgeOver (Cond.code yX4_bridgeOver cX4_bridgeOver 4 (Option.none : Option Jvm.ClassFile.FieldType) :: lw_g) ({ frames := 1, cells := 0, slots := 0, locals := 21 } : Room) (PcW D (tyA cA) (wX4 cA a_pl pl_rest pl_sketch pl_placed pl_rings pl_ringNodes pl_ringLength pl_ringSet pl_oldRing pl_path pl_pathLength pl_queue pl_origin pl_inside pl_ends pl_ring pl_choices) sz [.ref (a_pl 0), .int p1]) (va_Qv (fun (_ : Unit) => True) (fun _ t => va_P D vwCl (wX4 cA a_pl ρ pl_sketch pl_placed pl_rings pl_ringNodes pl_ringLength pl_ringSet pl_oldRing pl_path pl_pathLength pl_queue pl_origin pl_inside pl_ends pl_ring pl_choices) t.heap ∧ va_D (va_A (wX4 cA a_pl pl_rest pl_sketch pl_placed pl_rings pl_ringNodes pl_ringLength pl_ringSet pl_oldRing pl_path pl_pathLength pl_queue pl_origin pl_inside pl_ends pl_ring pl_choices) sz) (wX4 cA a_pl ρ pl_sketch pl_placed pl_rings pl_ringNodes pl_ringLength pl_ringSet pl_oldRing pl_path pl_pathLength pl_queue pl_origin pl_inside pl_ends pl_ring pl_choices)) (va_A (wX4 cA a_pl pl_rest pl_sketch pl_placed pl_rings pl_ringNodes pl_ringLength pl_ringSet pl_oldRing pl_path pl_pathLength pl_queue pl_origin pl_inside pl_ends pl_ring pl_choices) sz)) 0 0 (va_A (wX4 cA a_pl pl_rest pl_sketch pl_placed pl_rings pl_ringNodes pl_ringLength pl_ringSet pl_oldRing pl_path pl_pathLength pl_queue pl_origin pl_inside pl_ends pl_ring pl_choices) sz) := by
  refine mkW (QQ := fun A => va_Qv (fun (_ : Unit) => True) (fun _ t => va_P D vwCl (wX4 cA a_pl ρ pl_sketch pl_placed pl_rings pl_ringNodes pl_ringLength pl_ringSet pl_oldRing pl_path pl_pathLength pl_queue pl_origin pl_inside pl_ends pl_ring pl_choices) t.heap ∧ va_D A (wX4 cA a_pl ρ pl_sketch pl_placed pl_rings pl_ringNodes pl_ringLength pl_ringSet pl_oldRing pl_path pl_pathLength pl_queue pl_origin pl_inside pl_ends pl_ring pl_choices)) A) (by decide) (Nat.le_of_ble_eq_true rfl) fun p e s m below meth c ls A C hl hP hK hD hA hS => ?_
  obtain ⟨hx, hb, hml, hown, hT, hr, hlk⟩ := id C
  have hl : lv_has ls 4 [(0, .ref (a_pl 0)), (1, .int p1)] := hl
  have B16 : ∀ (n16 : Nat), ∀ (x1 : Int32) (x2 : Int32) (x3 : Int32) (pl_rest : Nat → Int32) (H : Heap) (locs : List Loc) (ls : Array Slot), lv_has ls 4 [(0, .ref (a_pl 0)), (1, .int x1), (2, .int x2), (3, .int x3)] → va_P D vwCl (wX4 cA a_pl pl_rest pl_sketch pl_placed pl_rings pl_ringNodes pl_ringLength pl_ringSet pl_oldRing pl_path pl_pathLength pl_queue pl_origin pl_inside pl_ends pl_ring pl_choices) H → va_D A (wX4 cA a_pl pl_rest pl_sketch pl_placed pl_rings pl_ringNodes pl_ringLength pl_ringSet pl_oldRing pl_path pl_pathLength pl_queue pl_origin pl_inside pl_ends pl_ring pl_choices) → va_S A s.heap H locs → f_X4_bridgeOver_b16 N n16 x1 x2 x3 pl_rest = some ρ → W p l e ({ frames := 1, cells := 0, slots := 0, locals := 21 } : Room) s m ([.ref (a_pl 0), .int p1] : List Value).toArray below meth c H locs 0 0 (MQ below (va_Qv (fun (_ : Unit) => True) (fun _ t => va_P D vwCl (wX4 cA a_pl ρ pl_sketch pl_placed pl_rings pl_ringNodes pl_ringLength pl_ringSet pl_oldRing pl_path pl_pathLength pl_queue pl_origin pl_inside pl_ends pl_ring pl_choices) t.heap ∧ va_D A (wX4 cA a_pl ρ pl_sketch pl_placed pl_rings pl_ringNodes pl_ringLength pl_ringSet pl_oldRing pl_path pl_pathLength pl_queue pl_origin pl_inside pl_ends pl_ring pl_choices)) A) ([.ref (a_pl 0), .int p1] : List Value).toArray s 0 0 A) (F0 m 16 ls []) := by
    intro n16
    induction n16 with
    | zero =>
      intro x1 x2 x3 pl_rest H locs ls hl hP hD hS hf
      cases (show (none : Option ((Nat → Int32))) = some ρ from hf)
    | succ n16 ih16 =>
      have B58 : ∀ (x1 : Int32) (x2 : Int32) (x3 : Int32) (pl_rest : Nat → Int32) (H : Heap) (locs : List Loc) (ls : Array Slot), lv_has ls 4 [(0, .ref (a_pl 0)), (1, .int x1), (2, .int x2), (3, .int x3)] → va_P D vwCl (wX4 cA a_pl pl_rest pl_sketch pl_placed pl_rings pl_ringNodes pl_ringLength pl_ringSet pl_oldRing pl_path pl_pathLength pl_queue pl_origin pl_inside pl_ends pl_ring pl_choices) H → va_D A (wX4 cA a_pl pl_rest pl_sketch pl_placed pl_rings pl_ringNodes pl_ringLength pl_ringSet pl_oldRing pl_path pl_pathLength pl_queue pl_origin pl_inside pl_ends pl_ring pl_choices) → va_S A s.heap H locs → f_X4_bridgeOver_b58 N (f_X4_bridgeOver_b16 N n16) x1 x2 x3 pl_rest = some ρ → W p l e ({ frames := 1, cells := 0, slots := 0, locals := 21 } : Room) s m ([.ref (a_pl 0), .int p1] : List Value).toArray below meth c H locs 0 0 (MQ below (va_Qv (fun (_ : Unit) => True) (fun _ t => va_P D vwCl (wX4 cA a_pl ρ pl_sketch pl_placed pl_rings pl_ringNodes pl_ringLength pl_ringSet pl_oldRing pl_path pl_pathLength pl_queue pl_origin pl_inside pl_ends pl_ring pl_choices) t.heap ∧ va_D A (wX4 cA a_pl ρ pl_sketch pl_placed pl_rings pl_ringNodes pl_ringLength pl_ringSet pl_oldRing pl_path pl_pathLength pl_queue pl_origin pl_inside pl_ends pl_ring pl_choices)) A) ([.ref (a_pl 0), .int p1] : List Value).toArray s 0 0 A) (F0 m 58 ls []) := by
        intro x1 x2 x3 pl_rest H locs ls hl hP hD hS hf
        refine lv_iinc (v := (x3 + 1)) (lv' := [(3, .int (x3 + 1)), (0, .ref (a_pl 0)), (1, .int x1), (2, .int x2)]) hx hb dX4_bridgeOver_58 hl (k := 3) rfl rfl (by decide) rfl (fun ls hl => ?_)
        refine lv_goto (tgt := 16) hx hb dX4_bridgeOver_61 (by decide) ?_
        exact ih16 x1 x2 (x3 + 1) pl_rest _ _ _ (lv_sub hl [1, 2, 3, 0] rfl) hP hD hS hf
      intro x1 x2 x3 pl_rest H locs ls hl hP hD hS hf
      refine lv_iload_n hx hb dX4_bridgeOver_16 rfl (lv_at hl 3 rfl) ?_
      refine lv_bipush (v := 9) hx hb dX4_bridgeOver_17 (by decide) ?_
      refine lv_icmp_ge (tgt := 64) hx hb dX4_bridgeOver_19 (by decide) (fun c_4 => ?_) (fun c_4 => ?_)
      · have hf := ite_t c_4 hf
        have eR := some_i hf
        exact W.vret hx hb hr (fun t ht hW => ⟨⟨(), rfl, trivial, by rw [← eR, ht]; exact hP, by rw [← eR]; exact hD⟩, hS.F ht⟩) hS.2.2 dX4_bridgeOver_64 (hlocks := hlk)
      · have hf := ite_f c_4 hf
        refine lv_iload_n hx hb dX4_bridgeOver_22 rfl (lv_at hl 2 rfl) ?_
        refine lv_iload_n hx hb dX4_bridgeOver_23 rfl (lv_at hl 3 rfl) ?_
        obtain ⟨r_5, hcr_5, hf⟩ := bd1_s hf
        refine backI (runN0 C (c_X7_contains l D cA x2 x3 N r_5 hcr_5) cf_X7_contains kn_X4_69 ⟨rfl, rfl, by decide, by decide⟩ ⟨Nat.zero_le _, Nat.zero_le _⟩ (hP.sub [] rfl) hK hl.1 rfl rfl (Nat.le_of_ble_eq_true rfl) dX4_bridgeOver_24) ?_
        refine lv_if_eq (tgt := 58) hx hb dX4_bridgeOver_27 (by decide) (fun c_6 => ?_) (fun c_6 => ?_)
        · have hf := ite_t c_6 hf
          exact B58 x1 x2 x3 pl_rest _ _ _ (lv_sub hl [0, 1, 2, 3] rfl) hP hD hS hf
        · have hf := ite_f c_6 hf
          refine lv_aload_n hx hb dX4_bridgeOver_30 rfl (lv_at hl 0 rfl) ?_
          refine va_get (D := D) (ci := 4) (C := RX4) (T := TX4) (N := 16) hx hb hT kwX4 hown hK.1 hP 0 rfl rfl 0 (by decide) (hT _ kf_X4_9) (fun _ h9 => h9) rfl dX4_bridgeOver_31 ?_
          refine lv_iload_n hx hb dX4_bridgeOver_34 rfl (lv_at hl 3 rfl) ?_
          refine lv_aload_n hx hb dX4_bridgeOver_35 rfl (lv_at hl 0 rfl) ?_
          refine va_get (D := D) (ci := 4) (C := RX4) (T := TX4) (N := 16) hx hb hT kwX4 hown hK.1 hP 0 rfl rfl 0 (by decide) (hT _ kf_X4_9) (fun _ h9 => h9) rfl dX4_bridgeOver_36 ?_
          refine lv_iload_n hx hb dX4_bridgeOver_39 rfl (lv_at hl 3 rfl) ?_
          obtain ⟨h_7, hf⟩ := chk_s hf
          refine va_iald hx hb hK.1 hP 1 0 rfl rfl (inb_in h_7) dX4_bridgeOver_40 ?_
          refine lv_iload_n hx hb dX4_bridgeOver_41 rfl (lv_at hl 1 rfl) ?_
          obtain ⟨r_8, hcr_8, hf⟩ := bd1_s hf
          refine backI (runN0 C (c_X7_bit l D cA x1 N r_8 hcr_8) cf_X7_bit kn_X4_73 ⟨rfl, rfl, by decide, by decide⟩ ⟨Nat.zero_le _, Nat.zero_le _⟩ (hP.sub [] rfl) hK hl.1 rfl rfl (Nat.le_of_ble_eq_true rfl) dX4_bridgeOver_42) ?_
          refine lv_iconst (v := (-1)) hx hb dX4_bridgeOver_45 (by decide) ?_
          refine lv_ixor hx hb dX4_bridgeOver_46 ?_
          refine lv_iand hx hb dX4_bridgeOver_47 ?_
          refine lv_iload_n hx hb dX4_bridgeOver_48 rfl (lv_at hl 2 rfl) ?_
          refine lv_iload_n hx hb dX4_bridgeOver_49 rfl (lv_at hl 3 rfl) ?_
          obtain ⟨r_9, hcr_9, hf⟩ := bd1_s hf
          refine backI (runN0 C (c_X7_bit l D cA x3 N r_9 hcr_9) cf_X7_bit kn_X4_73 ⟨rfl, rfl, by decide, by decide⟩ ⟨Nat.zero_le _, Nat.zero_le _⟩ (hP.sub [] rfl) hK hl.1 rfl rfl (Nat.le_of_ble_eq_true rfl) dX4_bridgeOver_50) ?_
          refine lv_iconst (v := (-1)) hx hb dX4_bridgeOver_53 (by decide) ?_
          refine lv_ixor hx hb dX4_bridgeOver_54 ?_
          refine lv_iand hx hb dX4_bridgeOver_55 ?_
          refine lv_ior hx hb dX4_bridgeOver_56 ?_
          obtain ⟨h_10, hf⟩ := chk_s hf
          refine va_iast hx hb hK.1 hP hD hS 1 0 rfl rfl (inb_in h_10) dX4_bridgeOver_57 (fun H locs hP hD hS => ?_)
          have hP : va_P D vwCl (wX4 cA a_pl (upd pl_rest x3.toNatClampNeg (((pl_rest x3.toNatClampNeg) &&& (r_8 ^^^ (-1))) ||| (x2 &&& (r_9 ^^^ (-1))))) pl_sketch pl_placed pl_rings pl_ringNodes pl_ringLength pl_ringSet pl_oldRing pl_path pl_pathLength pl_queue pl_origin pl_inside pl_ends pl_ring pl_choices) H := hP
          have hD : va_D A (wX4 cA a_pl (upd pl_rest x3.toNatClampNeg (((pl_rest x3.toNatClampNeg) &&& (r_8 ^^^ (-1))) ||| (x2 &&& (r_9 ^^^ (-1))))) pl_sketch pl_placed pl_rings pl_ringNodes pl_ringLength pl_ringSet pl_oldRing pl_path pl_pathLength pl_queue pl_origin pl_inside pl_ends pl_ring pl_choices) := hD
          exact B58 x1 x2 x3 (upd pl_rest x3.toNatClampNeg (((pl_rest x3.toNatClampNeg) &&& (r_8 ^^^ (-1))) ||| (x2 &&& (r_9 ^^^ (-1))))) _ _ _ (lv_sub hl [0, 1, 2, 3] rfl) hP hD hS hf
  refine lv_aload_n hx hb dX4_bridgeOver_0 rfl (lv_at hl 0 rfl) ?_
  refine va_get (D := D) (ci := 4) (C := RX4) (T := TX4) (N := 16) hx hb hT kwX4 hown hK.1 hP 0 rfl rfl 0 (by decide) (hT _ kf_X4_9) (fun _ h9 => h9) rfl dX4_bridgeOver_1 ?_
  refine lv_iload_n hx hb dX4_bridgeOver_4 rfl (lv_at hl 1 rfl) ?_
  obtain ⟨h_1, hf⟩ := chk_s hf
  refine va_iald hx hb hK.1 hP 1 0 rfl rfl (inb_in h_1) dX4_bridgeOver_5 ?_
  refine lv_topi (fun x2_2 ex2_2 => ?_)
  have hf := nm_t ex2_2 hf
  refine lv_istore_n (lv' := [(2, .int x2_2), (0, .ref (a_pl 0)), (1, .int p1)]) hx hb dX4_bridgeOver_6 rfl hl (by decide) rfl (fun ls hl => ?_)
  refine lv_aload_n hx hb dX4_bridgeOver_7 rfl (lv_at hl 1 rfl) ?_
  refine va_get (D := D) (ci := 4) (C := RX4) (T := TX4) (N := 16) hx hb hT kwX4 hown hK.1 hP 0 rfl rfl 0 (by decide) (hT _ kf_X4_9) (fun _ h9 => h9) rfl dX4_bridgeOver_8 ?_
  refine lv_iload_n hx hb dX4_bridgeOver_11 rfl (lv_at hl 2 rfl) ?_
  refine lv_iconst (v := 0) hx hb dX4_bridgeOver_12 (by decide) ?_
  obtain ⟨h_3, hf⟩ := chk_s hf
  refine va_iast hx hb hK.1 hP hD hS 1 0 rfl rfl (inb_in h_3) dX4_bridgeOver_13 (fun H locs hP hD hS => ?_)
  have hP : va_P D vwCl (wX4 cA a_pl (upd pl_rest p1.toNatClampNeg 0) pl_sketch pl_placed pl_rings pl_ringNodes pl_ringLength pl_ringSet pl_oldRing pl_path pl_pathLength pl_queue pl_origin pl_inside pl_ends pl_ring pl_choices) H := hP
  have hD : va_D A (wX4 cA a_pl (upd pl_rest p1.toNatClampNeg 0) pl_sketch pl_placed pl_rings pl_ringNodes pl_ringLength pl_ringSet pl_oldRing pl_path pl_pathLength pl_queue pl_origin pl_inside pl_ends pl_ring pl_choices) := hD
  refine lv_iconst (v := 0) hx hb dX4_bridgeOver_14 (by decide) ?_
  refine lv_istore_n (lv' := [(3, .int 0), (2, .int x2_2), (0, .ref (a_pl 0)), (1, .int p1)]) hx hb dX4_bridgeOver_15 rfl hl (by decide) rfl (fun ls hl => ?_)
  exact B16 N p1 x2_2 0 (upd pl_rest p1.toNatClampNeg 0) _ _ _ (lv_sub hl [2, 3, 1, 0] rfl) hP hD hS hf
set_option maxRecDepth 100000 in
set_option maxHeartbeats 4000000 in
theorem c_X4_reduce (l : Launch) (D : va_G) (cA : Nat → ClassId) (a_pl : Nat → Nat) (pl_rest : Nat → Int32) (pl_sketch : Nat → Int32) (pl_placed : Int32) (pl_rings : Int32) (pl_ringNodes : Nat → Int32) (pl_ringLength : Nat → Int32) (pl_ringSet : Nat → Int32) (pl_oldRing : Nat → Int32) (pl_path : Nat → Int32) (pl_pathLength : Int32) (pl_queue : Nat → Int32) (pl_origin : Nat → Int32) (pl_inside : Int32) (pl_ends : Int32) (pl_ring : Int32) (pl_choices : Int32) (sz N : Nat) (ρ : (Nat → Int32)) (hf : f_X4_reduce N pl_rest = some ρ) : Met l yX4_reduce (Cond.code yX4_reduce cX4_reduce 4 (Option.none : Option Jvm.ClassFile.FieldType) :: lw_g) ({ frames := 2, cells := 0, slots := 0, locals := 44 } : Room) (PcW D (tyA cA) (wX4 cA a_pl pl_rest pl_sketch pl_placed pl_rings pl_ringNodes pl_ringLength pl_ringSet pl_oldRing pl_path pl_pathLength pl_queue pl_origin pl_inside pl_ends pl_ring pl_choices) sz [.ref (a_pl 0)]) (va_Qv (fun (_ : Unit) => True) (fun _ t => va_P D vwCl (wX4 cA a_pl ρ pl_sketch pl_placed pl_rings pl_ringNodes pl_ringLength pl_ringSet pl_oldRing pl_path pl_pathLength pl_queue pl_origin pl_inside pl_ends pl_ring pl_choices) t.heap ∧ va_D (va_A (wX4 cA a_pl pl_rest pl_sketch pl_placed pl_rings pl_ringNodes pl_ringLength pl_ringSet pl_oldRing pl_path pl_pathLength pl_queue pl_origin pl_inside pl_ends pl_ring pl_choices) sz) (wX4 cA a_pl ρ pl_sketch pl_placed pl_rings pl_ringNodes pl_ringLength pl_ringSet pl_oldRing pl_path pl_pathLength pl_queue pl_origin pl_inside pl_ends pl_ring pl_choices)) (va_A (wX4 cA a_pl pl_rest pl_sketch pl_placed pl_rings pl_ringNodes pl_ringLength pl_ringSet pl_oldRing pl_path pl_pathLength pl_queue pl_origin pl_inside pl_ends pl_ring pl_choices) sz)) 0 0 (va_A (wX4 cA a_pl pl_rest pl_sketch pl_placed pl_rings pl_ringNodes pl_ringLength pl_ringSet pl_oldRing pl_path pl_pathLength pl_queue pl_origin pl_inside pl_ends pl_ring pl_choices) sz) := by
  refine mkW (QQ := fun A => va_Qv (fun (_ : Unit) => True) (fun _ t => va_P D vwCl (wX4 cA a_pl ρ pl_sketch pl_placed pl_rings pl_ringNodes pl_ringLength pl_ringSet pl_oldRing pl_path pl_pathLength pl_queue pl_origin pl_inside pl_ends pl_ring pl_choices) t.heap ∧ va_D A (wX4 cA a_pl ρ pl_sketch pl_placed pl_rings pl_ringNodes pl_ringLength pl_ringSet pl_oldRing pl_path pl_pathLength pl_queue pl_origin pl_inside pl_ends pl_ring pl_choices)) A) (by decide) (Nat.le_of_ble_eq_true rfl) fun p e s m below meth c ls A C hl hP hK hD hA hS => ?_
  obtain ⟨hx, hb, hml, hown, hT, hr, hlk⟩ := id C
  have hl : lv_has ls 4 [(0, .ref (a_pl 0))] := hl
  have B2 : ∀ (n2 : Nat), ∀ (x1 : Int32) (pl_rest : Nat → Int32) (H : Heap) (locs : List Loc) (ls : Array Slot), lv_has ls 4 [(0, .ref (a_pl 0)), (1, .int x1)] → va_P D vwCl (wX4 cA a_pl pl_rest pl_sketch pl_placed pl_rings pl_ringNodes pl_ringLength pl_ringSet pl_oldRing pl_path pl_pathLength pl_queue pl_origin pl_inside pl_ends pl_ring pl_choices) H → va_D A (wX4 cA a_pl pl_rest pl_sketch pl_placed pl_rings pl_ringNodes pl_ringLength pl_ringSet pl_oldRing pl_path pl_pathLength pl_queue pl_origin pl_inside pl_ends pl_ring pl_choices) → va_S A s.heap H locs → f_X4_reduce_b2 N n2 x1 pl_rest = some ρ → W p l e ({ frames := 2, cells := 0, slots := 0, locals := 44 } : Room) s m ([.ref (a_pl 0)] : List Value).toArray below meth c H locs 0 0 (MQ below (va_Qv (fun (_ : Unit) => True) (fun _ t => va_P D vwCl (wX4 cA a_pl ρ pl_sketch pl_placed pl_rings pl_ringNodes pl_ringLength pl_ringSet pl_oldRing pl_path pl_pathLength pl_queue pl_origin pl_inside pl_ends pl_ring pl_choices) t.heap ∧ va_D A (wX4 cA a_pl ρ pl_sketch pl_placed pl_rings pl_ringNodes pl_ringLength pl_ringSet pl_oldRing pl_path pl_pathLength pl_queue pl_origin pl_inside pl_ends pl_ring pl_choices)) A) ([.ref (a_pl 0)] : List Value).toArray s 0 0 A) (F0 m 2 ls []) := by
    intro n2
    induction n2 with
    | zero =>
      intro x1 pl_rest H locs ls hl hP hD hS hf
      cases (show (none : Option ((Nat → Int32))) = some ρ from hf)
    | succ n2 ih2 =>
      have B53 : ∀ (x1 : Int32) (x2 : Int32) (pl_rest : Nat → Int32) (H : Heap) (locs : List Loc) (ls : Array Slot), lv_has ls 4 [(0, .ref (a_pl 0)), (1, .int x1), (2, .int x2)] → va_P D vwCl (wX4 cA a_pl pl_rest pl_sketch pl_placed pl_rings pl_ringNodes pl_ringLength pl_ringSet pl_oldRing pl_path pl_pathLength pl_queue pl_origin pl_inside pl_ends pl_ring pl_choices) H → va_D A (wX4 cA a_pl pl_rest pl_sketch pl_placed pl_rings pl_ringNodes pl_ringLength pl_ringSet pl_oldRing pl_path pl_pathLength pl_queue pl_origin pl_inside pl_ends pl_ring pl_choices) → va_S A s.heap H locs → f_X4_reduce_b53 N (f_X4_reduce_b2 N n2) x1 x2 pl_rest = some ρ → W p l e ({ frames := 2, cells := 0, slots := 0, locals := 44 } : Room) s m ([.ref (a_pl 0)] : List Value).toArray below meth c H locs 0 0 (MQ below (va_Qv (fun (_ : Unit) => True) (fun _ t => va_P D vwCl (wX4 cA a_pl ρ pl_sketch pl_placed pl_rings pl_ringNodes pl_ringLength pl_ringSet pl_oldRing pl_path pl_pathLength pl_queue pl_origin pl_inside pl_ends pl_ring pl_choices) t.heap ∧ va_D A (wX4 cA a_pl ρ pl_sketch pl_placed pl_rings pl_ringNodes pl_ringLength pl_ringSet pl_oldRing pl_path pl_pathLength pl_queue pl_origin pl_inside pl_ends pl_ring pl_choices)) A) ([.ref (a_pl 0)] : List Value).toArray s 0 0 A) (F0 m 53 ls []) := by
        intro x1 x2 pl_rest H locs ls hl hP hD hS hf
        refine lv_iload_n hx hb dX4_reduce_53 rfl (lv_at hl 2 rfl) ?_
        refine lv_if_ne (tgt := 58) hx hb dX4_reduce_54 (by decide) (fun c_9 => ?_) (fun c_9 => ?_)
        · have hf := ite_t c_9 hf
          refine lv_iinc (v := (x1 + 1)) (lv' := [(1, .int (x1 + 1)), (0, .ref (a_pl 0)), (2, .int x2)]) hx hb dX4_reduce_58 hl (k := 1) rfl rfl (by decide) rfl (fun ls hl => ?_)
          refine lv_goto (tgt := 2) hx hb dX4_reduce_61 (by decide) ?_
          exact ih2 (x1 + 1) pl_rest _ _ _ (lv_sub hl [1, 0] rfl) hP hD hS hf
        · have hf := ite_fn c_9 hf
          have eR := some_i hf
          exact W.vret hx hb hr (fun t ht hW => ⟨⟨(), rfl, trivial, by rw [← eR, ht]; exact hP, by rw [← eR]; exact hD⟩, hS.F ht⟩) hS.2.2 dX4_reduce_57 (hlocks := hlk)
      have B12 : ∀ (n12 : Nat), ∀ (x1 : Int32) (x2 : Int32) (x3 : Int32) (pl_rest : Nat → Int32) (H : Heap) (locs : List Loc) (ls : Array Slot), lv_has ls 4 [(0, .ref (a_pl 0)), (1, .int x1), (2, .int x2), (3, .int x3)] → va_P D vwCl (wX4 cA a_pl pl_rest pl_sketch pl_placed pl_rings pl_ringNodes pl_ringLength pl_ringSet pl_oldRing pl_path pl_pathLength pl_queue pl_origin pl_inside pl_ends pl_ring pl_choices) H → va_D A (wX4 cA a_pl pl_rest pl_sketch pl_placed pl_rings pl_ringNodes pl_ringLength pl_ringSet pl_oldRing pl_path pl_pathLength pl_queue pl_origin pl_inside pl_ends pl_ring pl_choices) → va_S A s.heap H locs → f_X4_reduce_b12 N (f_X4_reduce_b2 N n2) n12 x1 x2 x3 pl_rest = some ρ → W p l e ({ frames := 2, cells := 0, slots := 0, locals := 44 } : Room) s m ([.ref (a_pl 0)] : List Value).toArray below meth c H locs 0 0 (MQ below (va_Qv (fun (_ : Unit) => True) (fun _ t => va_P D vwCl (wX4 cA a_pl ρ pl_sketch pl_placed pl_rings pl_ringNodes pl_ringLength pl_ringSet pl_oldRing pl_path pl_pathLength pl_queue pl_origin pl_inside pl_ends pl_ring pl_choices) t.heap ∧ va_D A (wX4 cA a_pl ρ pl_sketch pl_placed pl_rings pl_ringNodes pl_ringLength pl_ringSet pl_oldRing pl_path pl_pathLength pl_queue pl_origin pl_inside pl_ends pl_ring pl_choices)) A) ([.ref (a_pl 0)] : List Value).toArray s 0 0 A) (F0 m 12 ls []) := by
        intro n12
        induction n12 with
        | zero =>
          intro x1 x2 x3 pl_rest H locs ls hl hP hD hS hf
          cases (show (none : Option ((Nat → Int32))) = some ρ from hf)
        | succ n12 ih12 =>
          have B47 : ∀ (x1 : Int32) (x2 : Int32) (x3 : Int32) (pl_rest : Nat → Int32) (H : Heap) (locs : List Loc) (ls : Array Slot), lv_has ls 4 [(0, .ref (a_pl 0)), (1, .int x1), (2, .int x2), (3, .int x3)] → va_P D vwCl (wX4 cA a_pl pl_rest pl_sketch pl_placed pl_rings pl_ringNodes pl_ringLength pl_ringSet pl_oldRing pl_path pl_pathLength pl_queue pl_origin pl_inside pl_ends pl_ring pl_choices) H → va_D A (wX4 cA a_pl pl_rest pl_sketch pl_placed pl_rings pl_ringNodes pl_ringLength pl_ringSet pl_oldRing pl_path pl_pathLength pl_queue pl_origin pl_inside pl_ends pl_ring pl_choices) → va_S A s.heap H locs → f_X4_reduce_b47 N (f_X4_reduce_b2 N n2) (f_X4_reduce_b12 N (f_X4_reduce_b2 N n2) n12) x1 x2 x3 pl_rest = some ρ → W p l e ({ frames := 2, cells := 0, slots := 0, locals := 44 } : Room) s m ([.ref (a_pl 0)] : List Value).toArray below meth c H locs 0 0 (MQ below (va_Qv (fun (_ : Unit) => True) (fun _ t => va_P D vwCl (wX4 cA a_pl ρ pl_sketch pl_placed pl_rings pl_ringNodes pl_ringLength pl_ringSet pl_oldRing pl_path pl_pathLength pl_queue pl_origin pl_inside pl_ends pl_ring pl_choices) t.heap ∧ va_D A (wX4 cA a_pl ρ pl_sketch pl_placed pl_rings pl_ringNodes pl_ringLength pl_ringSet pl_oldRing pl_path pl_pathLength pl_queue pl_origin pl_inside pl_ends pl_ring pl_choices)) A) ([.ref (a_pl 0)] : List Value).toArray s 0 0 A) (F0 m 47 ls []) := by
            intro x1 x2 x3 pl_rest H locs ls hl hP hD hS hf
            refine lv_iinc (v := (x3 + 1)) (lv' := [(3, .int (x3 + 1)), (0, .ref (a_pl 0)), (1, .int x1), (2, .int x2)]) hx hb dX4_reduce_47 hl (k := 3) rfl rfl (by decide) rfl (fun ls hl => ?_)
            refine lv_goto (tgt := 12) hx hb dX4_reduce_50 (by decide) ?_
            exact ih12 x1 x2 (x3 + 1) pl_rest _ _ _ (lv_sub hl [1, 2, 3, 0] rfl) hP hD hS hf
          intro x1 x2 x3 pl_rest H locs ls hl hP hD hS hf
          refine lv_iload_n hx hb dX4_reduce_12 rfl (lv_at hl 3 rfl) ?_
          refine lv_bipush (v := 9) hx hb dX4_reduce_13 (by decide) ?_
          refine lv_icmp_ge (tgt := 53) hx hb dX4_reduce_15 (by decide) (fun c_2 => ?_) (fun c_2 => ?_)
          · have hf := ite_t c_2 hf
            exact B53 x1 x2 pl_rest _ _ _ (lv_sub hl [0, 1, 2] rfl) hP hD hS hf
          · have hf := ite_f c_2 hf
            refine lv_aload_n hx hb dX4_reduce_18 rfl (lv_at hl 0 rfl) ?_
            refine va_get (D := D) (ci := 4) (C := RX4) (T := TX4) (N := 16) hx hb hT kwX4 hown hK.1 hP 0 rfl rfl 0 (by decide) (hT _ kf_X4_9) (fun _ h9 => h9) rfl dX4_reduce_19 ?_
            refine lv_iload_n hx hb dX4_reduce_22 rfl (lv_at hl 3 rfl) ?_
            obtain ⟨h_3, hf⟩ := chk_s hf
            refine va_iald hx hb hK.1 hP 1 0 rfl rfl (inb_in h_3) dX4_reduce_23 ?_
            refine lv_if_eq (tgt := 47) hx hb dX4_reduce_24 (by decide) (fun c_4 => ?_) (fun c_4 => ?_)
            · have hf := ite_t c_4 hf
              exact B47 x1 x2 x3 pl_rest _ _ _ (lv_sub hl [0, 1, 2, 3] rfl) hP hD hS hf
            · have hf := ite_f c_4 hf
              refine lv_aload_n hx hb dX4_reduce_27 rfl (lv_at hl 0 rfl) ?_
              refine va_get (D := D) (ci := 4) (C := RX4) (T := TX4) (N := 16) hx hb hT kwX4 hown hK.1 hP 0 rfl rfl 0 (by decide) (hT _ kf_X4_9) (fun _ h9 => h9) rfl dX4_reduce_28 ?_
              refine lv_iload_n hx hb dX4_reduce_31 rfl (lv_at hl 3 rfl) ?_
              obtain ⟨h_5, hf⟩ := chk_s hf
              refine va_iald hx hb hK.1 hP 1 0 rfl rfl (inb_in h_5) dX4_reduce_32 ?_
              obtain ⟨r_6, hcr_6, hf⟩ := bd1_s hf
              refine backI (runS0 C (c_J6_bitCount_0f7a4 l D cA (pl_rest x3.toNatClampNeg) N r_6 hcr_6) cf_J6_bitCount_0f7a4 km_X4_59 ⟨rfl, rfl, by decide, by decide⟩ ⟨Nat.zero_le _, Nat.zero_le _⟩ (hP.sub [] rfl) hK hl.1 rfl rfl (Nat.le_of_ble_eq_true rfl) dX4_reduce_33) ?_
              refine lv_iconst (v := 2) hx hb dX4_reduce_36 (by decide) ?_
              refine lv_icmp_gt (tgt := 47) hx hb dX4_reduce_37 (by decide) (fun c_7 => ?_) (fun c_7 => ?_)
              · have hf := ite_t c_7 hf
                exact B47 x1 x2 x3 pl_rest _ _ _ (lv_sub hl [0, 1, 2, 3] rfl) hP hD hS hf
              · have hf := ite_f c_7 hf
                refine lv_aload_n hx hb dX4_reduce_40 rfl (lv_at hl 0 rfl) ?_
                refine lv_iload_n hx hb dX4_reduce_41 rfl (lv_at hl 3 rfl) ?_
                obtain ⟨r_8, hcr_8, hf⟩ := bd1_s hf
                refine backWv (w2 := (wX4 cA a_pl r_8 pl_sketch pl_placed pl_rings pl_ringNodes pl_ringLength pl_ringSet pl_oldRing pl_path pl_pathLength pl_queue pl_origin pl_inside pl_ends pl_ring pl_choices)) (runVw C (c_X4_bridgeOver l D cA a_pl pl_rest pl_sketch pl_placed pl_rings pl_ringNodes pl_ringLength pl_ringSet pl_oldRing pl_path pl_pathLength pl_queue pl_origin pl_inside pl_ends pl_ring pl_choices x3 _ N r_8 hcr_8) cf_X4_bridgeOver km_X4_65 ⟨rfl, rfl, by decide, by decide⟩ ⟨Nat.zero_le _, Nat.zero_le _⟩ (va_recv hK.1 hP (ci := 4) (q0 := 0) rfl rfl) (hP.sub [0, 1, 2, 3, 4, 5, 6, 7, 8, 9] rfl) (hD.sub [0, 1, 2, 3, 4, 5, 6, 7, 8, 9] rfl rfl) hK hl.1 rfl rfl (Nat.le_of_ble_eq_true rfl) dX4_reduce_42) hP hD hS hA [0, 1, 2, 3, 4, 5, 6, 7, 8, 9] rfl [] rfl rfl (by decide) [0, 1, 2, 3, 4, 5, 6, 7, 8, 9] rfl rfl (fun H locs hP hD hS => ?_)
                refine lv_iconst (v := 1) hx hb dX4_reduce_45 (by decide) ?_
                refine lv_istore_n (lv' := [(2, .int 1), (0, .ref (a_pl 0)), (1, .int x1), (3, .int x3)]) hx hb dX4_reduce_46 rfl hl (by decide) rfl (fun ls hl => ?_)
                exact B47 x1 1 x3 r_8 _ _ _ (lv_sub hl [1, 2, 0, 3] rfl) hP hD hS hf
      intro x1 pl_rest H locs ls hl hP hD hS hf
      refine lv_iload_n hx hb dX4_reduce_2 rfl (lv_at hl 1 rfl) ?_
      refine lv_bipush (v := 9) hx hb dX4_reduce_3 (by decide) ?_
      refine lv_icmp_ge (tgt := 64) hx hb dX4_reduce_5 (by decide) (fun c_1 => ?_) (fun c_1 => ?_)
      · have hf := ite_t c_1 hf
        have eR := some_i hf
        exact W.vret hx hb hr (fun t ht hW => ⟨⟨(), rfl, trivial, by rw [← eR, ht]; exact hP, by rw [← eR]; exact hD⟩, hS.F ht⟩) hS.2.2 dX4_reduce_64 (hlocks := hlk)
      · have hf := ite_f c_1 hf
        refine lv_iconst (v := 0) hx hb dX4_reduce_8 (by decide) ?_
        refine lv_istore_n (lv' := [(2, .int 0), (0, .ref (a_pl 0)), (1, .int x1)]) hx hb dX4_reduce_9 rfl hl (by decide) rfl (fun ls hl => ?_)
        refine lv_iconst (v := 0) hx hb dX4_reduce_10 (by decide) ?_
        refine lv_istore_n (lv' := [(3, .int 0), (2, .int 0), (0, .ref (a_pl 0)), (1, .int x1)]) hx hb dX4_reduce_11 rfl hl (by decide) rfl (fun ls hl => ?_)
        exact B12 N x1 0 0 pl_rest _ _ _ (lv_sub hl [2, 3, 1, 0] rfl) hP hD hS hf
  refine lv_iconst (v := 0) hx hb dX4_reduce_0 (by decide) ?_
  refine lv_istore_n (lv' := [(1, .int 0), (0, .ref (a_pl 0))]) hx hb dX4_reduce_1 rfl hl (by decide) rfl (fun ls hl => ?_)
  exact B2 N 0 pl_rest _ _ _ (lv_sub hl [1, 0] rfl) hP hD hS hf
set_option maxRecDepth 100000 in
set_option maxHeartbeats 4000000 in
theorem c_X4_countEdges (l : Launch) (D : va_G) (cA : Nat → ClassId) (a_pl : Nat → Nat) (pl_rest : Nat → Int32) (pl_sketch : Nat → Int32) (pl_placed : Int32) (pl_rings : Int32) (pl_ringNodes : Nat → Int32) (pl_ringLength : Nat → Int32) (pl_ringSet : Nat → Int32) (pl_oldRing : Nat → Int32) (pl_path : Nat → Int32) (pl_pathLength : Int32) (pl_queue : Nat → Int32) (pl_origin : Nat → Int32) (pl_inside : Int32) (pl_ends : Int32) (pl_ring : Int32) (pl_choices : Int32) (N : Nat) (ρ : Int32) (hf : f_X4_countEdges N pl_rest = some ρ) : Met l yX4_countEdges (Cond.code yX4_countEdges cX4_countEdges 3 (Option.some Jvm.ClassFile.FieldType.int) :: lw_g) ({ frames := 1, cells := 0, slots := 0, locals := 20 } : Room) (PcS D (tyA cA) (wX4 cA a_pl pl_rest pl_sketch pl_placed pl_rings pl_ringNodes pl_ringLength pl_ringSet pl_oldRing pl_path pl_pathLength pl_queue pl_origin pl_inside pl_ends pl_ring pl_choices) [.ref (a_pl 0)]) (vp_Si (fun r => r = ρ)) 0 0 (fun _ => False) := by
  refine mkS (by decide +kernel) (Nat.le_of_ble_eq_true rfl) fun p e s m below meth c ls C hl hP hK => ?_
  obtain ⟨hx, hb, hml, hown, hT, hr, hlk⟩ := id C
  have hl : lv_has ls 3 [(0, .ref (a_pl 0))] := hl
  have B4 : ∀ (n4 : Nat), ∀ (x1 : Int32) (x2 : Int32) (ls : Array Slot), lv_has ls 3 [(0, .ref (a_pl 0)), (1, .int x1), (2, .int x2)] → f_X4_countEdges_b4 N pl_rest n4 x1 x2 = some ρ → W p l e ({ frames := 1, cells := 0, slots := 0, locals := 20 } : Room) s m ([.ref (a_pl 0)] : List Value).toArray below meth c s.heap [] 0 0 (MQ below (vp_Si (fun r => r = ρ)) ([.ref (a_pl 0)] : List Value).toArray s 0 0 (fun _ => False)) (F0 m 4 ls []) := by
    intro n4
    induction n4 with
    | zero =>
      intro x1 x2 ls hl hf
      cases (show (none : Option (Int32)) = some ρ from hf)
    | succ n4 ih4 =>
      intro x1 x2 ls hl hf
      refine lv_iload_n hx hb dX4_countEdges_4 rfl (lv_at hl 2 rfl) ?_
      refine lv_bipush (v := 9) hx hb dX4_countEdges_5 (by decide) ?_
      refine lv_icmp_ge (tgt := 28) hx hb dX4_countEdges_7 (by decide) (fun c_1 => ?_) (fun c_1 => ?_)
      · have hf := ite_t c_1 hf
        refine lv_iload_n hx hb dX4_countEdges_28 rfl (lv_at hl 1 rfl) ?_
        refine lv_iconst (v := 2) hx hb dX4_countEdges_29 (by decide) ?_
        refine lv_idiv hx hb dX4_countEdges_30 (by decide) ?_
        exact W.iret hx hb hr (fun t ht hW => ⟨_, rfl, some_i hf, ht⟩) (fun _ h => by cases h) dX4_countEdges_31 (hlocks := hlk)
      · have hf := ite_f c_1 hf
        refine lv_iload_n hx hb dX4_countEdges_10 rfl (lv_at hl 1 rfl) ?_
        refine lv_aload_n hx hb dX4_countEdges_11 rfl (lv_at hl 0 rfl) ?_
        refine va_get (D := D) (ci := 4) (C := RX4) (T := TX4) (N := 16) hx hb hT kwX4 hown hK.1 hP 0 rfl rfl 0 (by decide) (hT _ kf_X4_9) (fun _ h9 => h9) rfl dX4_countEdges_12 ?_
        refine lv_iload_n hx hb dX4_countEdges_15 rfl (lv_at hl 2 rfl) ?_
        obtain ⟨h_2, hf⟩ := chk_s hf
        refine va_iald hx hb hK.1 hP 1 0 rfl rfl (inb_in h_2) dX4_countEdges_16 ?_
        obtain ⟨r_3, hcr_3, hf⟩ := bd1_s hf
        refine backI (runS0 C (c_J6_bitCount_0f7a4 l D cA (pl_rest x2.toNatClampNeg) N r_3 hcr_3) cf_J6_bitCount_0f7a4 km_X4_59 ⟨rfl, rfl, by decide, by decide⟩ ⟨Nat.zero_le _, Nat.zero_le _⟩ (hP.sub [] rfl) hK hl.1 rfl rfl (Nat.le_of_ble_eq_true rfl) dX4_countEdges_17) ?_
        refine lv_iadd hx hb dX4_countEdges_20 ?_
        refine lv_topi (fun x1_4 ex1_4 => ?_)
        have hf := nm_t ex1_4 hf
        refine lv_istore_n (lv' := [(1, .int x1_4), (0, .ref (a_pl 0)), (2, .int x2)]) hx hb dX4_countEdges_21 rfl hl (by decide) rfl (fun ls hl => ?_)
        refine lv_iinc (v := (x2 + 1)) (lv' := [(2, .int (x2 + 1)), (1, .int x1_4), (0, .ref (a_pl 0))]) hx hb dX4_countEdges_22 hl (k := 2) rfl rfl (by decide) rfl (fun ls hl => ?_)
        refine lv_goto (tgt := 4) hx hb dX4_countEdges_25 (by decide) ?_
        exact ih4 x1_4 (x2 + 1) _ (lv_sub hl [2, 1, 0] rfl) hf
  refine lv_iconst (v := 0) hx hb dX4_countEdges_0 (by decide) ?_
  refine lv_istore_n (lv' := [(1, .int 0), (0, .ref (a_pl 0))]) hx hb dX4_countEdges_1 rfl hl (by decide) rfl (fun ls hl => ?_)
  refine lv_iconst (v := 0) hx hb dX4_countEdges_2 (by decide) ?_
  refine lv_istore_n (lv' := [(2, .int 0), (1, .int 0), (0, .ref (a_pl 0))]) hx hb dX4_countEdges_3 rfl hl (by decide) rfl (fun ls hl => ?_)
  exact B4 N 0 0 _ (lv_sub hl [2, 1, 0] rfl) hf
set_option maxRecDepth 100000 in
set_option maxHeartbeats 4000000 in
theorem c_X4_cutPathBefore (l : Launch) (D : va_G) (cA : Nat → ClassId) (a_pl : Nat → Nat) (pl_rest : Nat → Int32) (pl_sketch : Nat → Int32) (pl_placed : Int32) (pl_rings : Int32) (pl_ringNodes : Nat → Int32) (pl_ringLength : Nat → Int32) (pl_ringSet : Nat → Int32) (pl_oldRing : Nat → Int32) (pl_path : Nat → Int32) (pl_pathLength : Int32) (pl_queue : Nat → Int32) (pl_origin : Nat → Int32) (pl_inside : Int32) (pl_ends : Int32) (pl_ring : Int32) (pl_choices : Int32) (p1 : Int32) (sz N : Nat) (ρ : (Nat → Int32) × Int32) (hf : f_X4_cutPathBefore N pl_path pl_pathLength p1 = some ρ) : Met l yX4_cutPathBefore (Cond.code yX4_cutPathBefore cX4_cutPathBefore 5 (Option.none : Option Jvm.ClassFile.FieldType) :: lw_g) ({ frames := 0, cells := 0, slots := 0, locals := 0 } : Room) (PcW D (tyA cA) (wX4 cA a_pl pl_rest pl_sketch pl_placed pl_rings pl_ringNodes pl_ringLength pl_ringSet pl_oldRing pl_path pl_pathLength pl_queue pl_origin pl_inside pl_ends pl_ring pl_choices) sz [.ref (a_pl 0), .int p1]) (va_Qv (fun (_ : Unit) => True) (fun _ t => va_P D vwCl (wX4 cA a_pl pl_rest pl_sketch pl_placed pl_rings pl_ringNodes pl_ringLength pl_ringSet pl_oldRing ρ.1 ρ.2 pl_queue pl_origin pl_inside pl_ends pl_ring pl_choices) t.heap ∧ va_D (va_A (wX4 cA a_pl pl_rest pl_sketch pl_placed pl_rings pl_ringNodes pl_ringLength pl_ringSet pl_oldRing pl_path pl_pathLength pl_queue pl_origin pl_inside pl_ends pl_ring pl_choices) sz) (wX4 cA a_pl pl_rest pl_sketch pl_placed pl_rings pl_ringNodes pl_ringLength pl_ringSet pl_oldRing ρ.1 ρ.2 pl_queue pl_origin pl_inside pl_ends pl_ring pl_choices)) (va_A (wX4 cA a_pl pl_rest pl_sketch pl_placed pl_rings pl_ringNodes pl_ringLength pl_ringSet pl_oldRing pl_path pl_pathLength pl_queue pl_origin pl_inside pl_ends pl_ring pl_choices) sz)) 0 0 (va_A (wX4 cA a_pl pl_rest pl_sketch pl_placed pl_rings pl_ringNodes pl_ringLength pl_ringSet pl_oldRing pl_path pl_pathLength pl_queue pl_origin pl_inside pl_ends pl_ring pl_choices) sz) := by
  refine mkW (QQ := fun A => va_Qv (fun (_ : Unit) => True) (fun _ t => va_P D vwCl (wX4 cA a_pl pl_rest pl_sketch pl_placed pl_rings pl_ringNodes pl_ringLength pl_ringSet pl_oldRing ρ.1 ρ.2 pl_queue pl_origin pl_inside pl_ends pl_ring pl_choices) t.heap ∧ va_D A (wX4 cA a_pl pl_rest pl_sketch pl_placed pl_rings pl_ringNodes pl_ringLength pl_ringSet pl_oldRing ρ.1 ρ.2 pl_queue pl_origin pl_inside pl_ends pl_ring pl_choices)) A) (by decide) (Nat.le_of_ble_eq_true rfl) fun p e s m below meth c ls A C hl hP hK hD hA hS => ?_
  obtain ⟨hx, hb, hml, hown, hT, hr, hlk⟩ := id C
  have hl : lv_has ls 5 [(0, .ref (a_pl 0)), (1, .int p1)] := hl
  have B63 : ∀ (x2 : Int32) (pl_path : Nat → Int32) (pl_pathLength : Int32) (H : Heap) (locs : List Loc) (ls : Array Slot), lv_has ls 5 [(0, .ref (a_pl 0)), (2, .int x2)] → va_P D vwCl (wX4 cA a_pl pl_rest pl_sketch pl_placed pl_rings pl_ringNodes pl_ringLength pl_ringSet pl_oldRing pl_path pl_pathLength pl_queue pl_origin pl_inside pl_ends pl_ring pl_choices) H → va_D A (wX4 cA a_pl pl_rest pl_sketch pl_placed pl_rings pl_ringNodes pl_ringLength pl_ringSet pl_oldRing pl_path pl_pathLength pl_queue pl_origin pl_inside pl_ends pl_ring pl_choices) → va_S A s.heap H locs → f_X4_cutPathBefore_b63 N x2 pl_path pl_pathLength = some ρ → W p l e ({ frames := 0, cells := 0, slots := 0, locals := 0 } : Room) s m ([.ref (a_pl 0), .int p1] : List Value).toArray below meth c H locs 0 0 (MQ below (va_Qv (fun (_ : Unit) => True) (fun _ t => va_P D vwCl (wX4 cA a_pl pl_rest pl_sketch pl_placed pl_rings pl_ringNodes pl_ringLength pl_ringSet pl_oldRing ρ.1 ρ.2 pl_queue pl_origin pl_inside pl_ends pl_ring pl_choices) t.heap ∧ va_D A (wX4 cA a_pl pl_rest pl_sketch pl_placed pl_rings pl_ringNodes pl_ringLength pl_ringSet pl_oldRing ρ.1 ρ.2 pl_queue pl_origin pl_inside pl_ends pl_ring pl_choices)) A) ([.ref (a_pl 0), .int p1] : List Value).toArray s 0 0 A) (F0 m 63 ls []) := by
    intro x2 pl_path pl_pathLength H locs ls hl hP hD hS hf
    refine lv_aload_n hx hb dX4_cutPathBefore_63 rfl (lv_at hl 0 rfl) ?_
    refine lv_iload_n hx hb dX4_cutPathBefore_64 rfl (lv_at hl 1 rfl) ?_
    refine va_put (D := D) (ci := 4) (v := .int x2) (ty := .int) (C := RX4) (T := TX4) (N := 16) hx hb hT kwX4 tyX4 tyX4_ok nmX4 hown hK.1 hP hD hS 0 rfl rfl 9 (by decide) (hT _ kf_X4_83) (fun _ h9 => h9) rfl (by decide +kernel) rfl rfl (Nat.le_of_ble_eq_true rfl) dX4_cutPathBefore_65 (fun H locs hP hD hS => ?_)
    have hP : va_P D vwCl (wX4 cA a_pl pl_rest pl_sketch pl_placed pl_rings pl_ringNodes pl_ringLength pl_ringSet pl_oldRing pl_path x2 pl_queue pl_origin pl_inside pl_ends pl_ring pl_choices) H := hP
    have hD : va_D A (wX4 cA a_pl pl_rest pl_sketch pl_placed pl_rings pl_ringNodes pl_ringLength pl_ringSet pl_oldRing pl_path x2 pl_queue pl_origin pl_inside pl_ends pl_ring pl_choices) := hD
    have eR := some_i hf
    exact W.vret hx hb hr (fun t ht hW => ⟨⟨(), rfl, trivial, by rw [← eR, ht]; exact hP, by rw [← eR]; exact hD⟩, hS.F ht⟩) hS.2.2 dX4_cutPathBefore_68 (hlocks := hlk)
  have B7 : ∀ (n7 : Nat), ∀ (x1 : Int32) (x2 : Int32) (x3 : Int32) (x4 : Int32) (pl_path : Nat → Int32) (pl_pathLength : Int32) (H : Heap) (locs : List Loc) (ls : Array Slot), lv_has ls 5 [(0, .ref (a_pl 0)), (1, .int x1), (2, .int x2), (3, .int x3), (4, .int x4)] → va_P D vwCl (wX4 cA a_pl pl_rest pl_sketch pl_placed pl_rings pl_ringNodes pl_ringLength pl_ringSet pl_oldRing pl_path pl_pathLength pl_queue pl_origin pl_inside pl_ends pl_ring pl_choices) H → va_D A (wX4 cA a_pl pl_rest pl_sketch pl_placed pl_rings pl_ringNodes pl_ringLength pl_ringSet pl_oldRing pl_path pl_pathLength pl_queue pl_origin pl_inside pl_ends pl_ring pl_choices) → va_S A s.heap H locs → f_X4_cutPathBefore_b7 N n7 x1 x2 x3 x4 pl_path pl_pathLength = some ρ → W p l e ({ frames := 0, cells := 0, slots := 0, locals := 0 } : Room) s m ([.ref (a_pl 0), .int p1] : List Value).toArray below meth c H locs 0 0 (MQ below (va_Qv (fun (_ : Unit) => True) (fun _ t => va_P D vwCl (wX4 cA a_pl pl_rest pl_sketch pl_placed pl_rings pl_ringNodes pl_ringLength pl_ringSet pl_oldRing ρ.1 ρ.2 pl_queue pl_origin pl_inside pl_ends pl_ring pl_choices) t.heap ∧ va_D A (wX4 cA a_pl pl_rest pl_sketch pl_placed pl_rings pl_ringNodes pl_ringLength pl_ringSet pl_oldRing ρ.1 ρ.2 pl_queue pl_origin pl_inside pl_ends pl_ring pl_choices)) A) ([.ref (a_pl 0), .int p1] : List Value).toArray s 0 0 A) (F0 m 7 ls []) := by
    intro n7
    induction n7 with
    | zero =>
      intro x1 x2 x3 x4 pl_path pl_pathLength H locs ls hl hP hD hS hf
      cases (show (none : Option ((Nat → Int32) × Int32)) = some ρ from hf)
    | succ n7 ih7 =>
      have B57 : ∀ (x1 : Int32) (x2 : Int32) (x3 : Int32) (x4 : Int32) (pl_path : Nat → Int32) (pl_pathLength : Int32) (H : Heap) (locs : List Loc) (ls : Array Slot), lv_has ls 5 [(0, .ref (a_pl 0)), (1, .int x1), (2, .int x2), (3, .int x3), (4, .int x4)] → va_P D vwCl (wX4 cA a_pl pl_rest pl_sketch pl_placed pl_rings pl_ringNodes pl_ringLength pl_ringSet pl_oldRing pl_path pl_pathLength pl_queue pl_origin pl_inside pl_ends pl_ring pl_choices) H → va_D A (wX4 cA a_pl pl_rest pl_sketch pl_placed pl_rings pl_ringNodes pl_ringLength pl_ringSet pl_oldRing pl_path pl_pathLength pl_queue pl_origin pl_inside pl_ends pl_ring pl_choices) → va_S A s.heap H locs → f_X4_cutPathBefore_b57 N (f_X4_cutPathBefore_b7 N n7) x1 x2 x3 x4 pl_path pl_pathLength = some ρ → W p l e ({ frames := 0, cells := 0, slots := 0, locals := 0 } : Room) s m ([.ref (a_pl 0), .int p1] : List Value).toArray below meth c H locs 0 0 (MQ below (va_Qv (fun (_ : Unit) => True) (fun _ t => va_P D vwCl (wX4 cA a_pl pl_rest pl_sketch pl_placed pl_rings pl_ringNodes pl_ringLength pl_ringSet pl_oldRing ρ.1 ρ.2 pl_queue pl_origin pl_inside pl_ends pl_ring pl_choices) t.heap ∧ va_D A (wX4 cA a_pl pl_rest pl_sketch pl_placed pl_rings pl_ringNodes pl_ringLength pl_ringSet pl_oldRing ρ.1 ρ.2 pl_queue pl_origin pl_inside pl_ends pl_ring pl_choices)) A) ([.ref (a_pl 0), .int p1] : List Value).toArray s 0 0 A) (F0 m 57 ls []) := by
        intro x1 x2 x3 x4 pl_path pl_pathLength H locs ls hl hP hD hS hf
        refine lv_iinc (v := (x4 + 1)) (lv' := [(4, .int (x4 + 1)), (0, .ref (a_pl 0)), (1, .int x1), (2, .int x2), (3, .int x3)]) hx hb dX4_cutPathBefore_57 hl (k := 4) rfl rfl (by decide) rfl (fun ls hl => ?_)
        refine lv_goto (tgt := 7) hx hb dX4_cutPathBefore_60 (by decide) ?_
        exact ih7 x1 x2 x3 (x4 + 1) pl_path pl_pathLength _ _ _ (lv_sub hl [1, 2, 3, 4, 0] rfl) hP hD hS hf
      have B36 : ∀ (x1 : Int32) (x2 : Int32) (x4 : Int32) (y0 : Int32) (pl_path : Nat → Int32) (pl_pathLength : Int32) (H : Heap) (locs : List Loc) (ls : Array Slot), lv_has ls 5 [(0, .ref (a_pl 0)), (1, .int x1), (2, .int x2), (4, .int x4)] → va_P D vwCl (wX4 cA a_pl pl_rest pl_sketch pl_placed pl_rings pl_ringNodes pl_ringLength pl_ringSet pl_oldRing pl_path pl_pathLength pl_queue pl_origin pl_inside pl_ends pl_ring pl_choices) H → va_D A (wX4 cA a_pl pl_rest pl_sketch pl_placed pl_rings pl_ringNodes pl_ringLength pl_ringSet pl_oldRing pl_path pl_pathLength pl_queue pl_origin pl_inside pl_ends pl_ring pl_choices) → va_S A s.heap H locs → f_X4_cutPathBefore_b36 N (f_X4_cutPathBefore_b7 N n7) x1 x2 x4 y0 pl_path pl_pathLength = some ρ → W p l e ({ frames := 0, cells := 0, slots := 0, locals := 0 } : Room) s m ([.ref (a_pl 0), .int p1] : List Value).toArray below meth c H locs 0 0 (MQ below (va_Qv (fun (_ : Unit) => True) (fun _ t => va_P D vwCl (wX4 cA a_pl pl_rest pl_sketch pl_placed pl_rings pl_ringNodes pl_ringLength pl_ringSet pl_oldRing ρ.1 ρ.2 pl_queue pl_origin pl_inside pl_ends pl_ring pl_choices) t.heap ∧ va_D A (wX4 cA a_pl pl_rest pl_sketch pl_placed pl_rings pl_ringNodes pl_ringLength pl_ringSet pl_oldRing ρ.1 ρ.2 pl_queue pl_origin pl_inside pl_ends pl_ring pl_choices)) A) ([.ref (a_pl 0), .int p1] : List Value).toArray s 0 0 A) (F0 m 36 ls [.int y0]) := by
        intro x1 x2 x4 y0 pl_path pl_pathLength H locs ls hl hP hD hS hf
        refine lv_istore_n (lv' := [(3, .int y0), (0, .ref (a_pl 0)), (1, .int x1), (2, .int x2), (4, .int x4)]) hx hb dX4_cutPathBefore_36 rfl hl (by decide) rfl (fun ls hl => ?_)
        refine lv_iload_n hx hb dX4_cutPathBefore_37 rfl (lv_at hl 0 rfl) ?_
        refine lv_if_eq (tgt := 57) hx hb dX4_cutPathBefore_38 (by decide) (fun c_5 => ?_) (fun c_5 => ?_)
        · have hf := ite_t c_5 hf
          exact B57 x1 x2 y0 x4 pl_path pl_pathLength _ _ _ (lv_sub hl [1, 2, 3, 0, 4] rfl) hP hD hS hf
        · have hf := ite_f c_5 hf
          refine lv_aload_n hx hb dX4_cutPathBefore_41 rfl (lv_at hl 1 rfl) ?_
          refine va_get (D := D) (ci := 4) (C := RX4) (T := TX4) (N := 16) hx hb hT kwX4 hown hK.1 hP 0 rfl rfl 8 (by decide) (hT _ kf_X4_30) (fun _ h9 => h9) rfl dX4_cutPathBefore_42 ?_
          refine lv_iload_n hx hb dX4_cutPathBefore_45 rfl (lv_at hl 3 rfl) ?_
          refine lv_aload_n hx hb dX4_cutPathBefore_46 rfl (lv_at hl 1 rfl) ?_
          refine va_get (D := D) (ci := 4) (C := RX4) (T := TX4) (N := 16) hx hb hT kwX4 hown hK.1 hP 0 rfl rfl 8 (by decide) (hT _ kf_X4_30) (fun _ h9 => h9) rfl dX4_cutPathBefore_47 ?_
          refine lv_iload hx hb dX4_cutPathBefore_50 (lv_at hl 4 rfl) ?_
          obtain ⟨h_6, hf⟩ := chk_s hf
          refine va_iald hx hb hK.1 hP 7 0 rfl rfl (inb_in h_6) dX4_cutPathBefore_52 ?_
          obtain ⟨h_7, hf⟩ := chk_s hf
          refine va_iast hx hb hK.1 hP hD hS 7 0 rfl rfl (inb_in h_7) dX4_cutPathBefore_53 (fun H locs hP hD hS => ?_)
          have hP : va_P D vwCl (wX4 cA a_pl pl_rest pl_sketch pl_placed pl_rings pl_ringNodes pl_ringLength pl_ringSet pl_oldRing (upd pl_path x2.toNatClampNeg (pl_path x4.toNatClampNeg)) pl_pathLength pl_queue pl_origin pl_inside pl_ends pl_ring pl_choices) H := hP
          have hD : va_D A (wX4 cA a_pl pl_rest pl_sketch pl_placed pl_rings pl_ringNodes pl_ringLength pl_ringSet pl_oldRing (upd pl_path x2.toNatClampNeg (pl_path x4.toNatClampNeg)) pl_pathLength pl_queue pl_origin pl_inside pl_ends pl_ring pl_choices) := hD
          refine lv_iinc (v := (x2 + 1)) (lv' := [(2, .int (x2 + 1)), (3, .int y0), (0, .ref (a_pl 0)), (1, .int x1), (4, .int x4)]) hx hb dX4_cutPathBefore_54 hl (k := 3) rfl rfl (by decide) rfl (fun ls hl => ?_)
          exact B57 x1 (x2 + 1) y0 x4 (upd pl_path x2.toNatClampNeg (pl_path x4.toNatClampNeg)) pl_pathLength _ _ _ (lv_sub hl [2, 3, 0, 1, 4] rfl) hP hD hS hf
      have B31 : ∀ (x1 : Int32) (x2 : Int32) (x4 : Int32) (pl_path : Nat → Int32) (pl_pathLength : Int32) (H : Heap) (locs : List Loc) (ls : Array Slot), lv_has ls 5 [(0, .ref (a_pl 0)), (1, .int x1), (2, .int x2), (4, .int x4)] → va_P D vwCl (wX4 cA a_pl pl_rest pl_sketch pl_placed pl_rings pl_ringNodes pl_ringLength pl_ringSet pl_oldRing pl_path pl_pathLength pl_queue pl_origin pl_inside pl_ends pl_ring pl_choices) H → va_D A (wX4 cA a_pl pl_rest pl_sketch pl_placed pl_rings pl_ringNodes pl_ringLength pl_ringSet pl_oldRing pl_path pl_pathLength pl_queue pl_origin pl_inside pl_ends pl_ring pl_choices) → va_S A s.heap H locs → f_X4_cutPathBefore_b31 N (f_X4_cutPathBefore_b7 N n7) x1 x2 x4 pl_path pl_pathLength = some ρ → W p l e ({ frames := 0, cells := 0, slots := 0, locals := 0 } : Room) s m ([.ref (a_pl 0), .int p1] : List Value).toArray below meth c H locs 0 0 (MQ below (va_Qv (fun (_ : Unit) => True) (fun _ t => va_P D vwCl (wX4 cA a_pl pl_rest pl_sketch pl_placed pl_rings pl_ringNodes pl_ringLength pl_ringSet pl_oldRing ρ.1 ρ.2 pl_queue pl_origin pl_inside pl_ends pl_ring pl_choices) t.heap ∧ va_D A (wX4 cA a_pl pl_rest pl_sketch pl_placed pl_rings pl_ringNodes pl_ringLength pl_ringSet pl_oldRing ρ.1 ρ.2 pl_queue pl_origin pl_inside pl_ends pl_ring pl_choices)) A) ([.ref (a_pl 0), .int p1] : List Value).toArray s 0 0 A) (F0 m 31 ls []) := by
        intro x1 x2 x4 pl_path pl_pathLength H locs ls hl hP hD hS hf
        refine lv_iconst (v := 1) hx hb dX4_cutPathBefore_31 (by decide) ?_
        refine lv_goto (tgt := 36) hx hb dX4_cutPathBefore_32 (by decide) ?_
        exact B36 x1 x2 x4 1 pl_path pl_pathLength _ _ _ (lv_sub hl [0, 1, 2, 3] rfl) hP hD hS hf
      intro x1 x2 x3 x4 pl_path pl_pathLength H locs ls hl hP hD hS hf
      refine lv_iload hx hb dX4_cutPathBefore_7 (lv_at hl 4 rfl) ?_
      refine lv_aload_n hx hb dX4_cutPathBefore_9 rfl (lv_at hl 0 rfl) ?_
      refine va_get (D := D) (ci := 4) (C := RX4) (T := TX4) (N := 16) hx hb hT kwX4 hown hK.1 hP 0 rfl rfl 9 (by decide) (hT _ kf_X4_83) (fun _ h9 => h9) rfl dX4_cutPathBefore_10 ?_
      refine lv_icmp_ge (tgt := 63) hx hb dX4_cutPathBefore_13 (by decide) (fun c_1 => ?_) (fun c_1 => ?_)
      · have hf := ite_t c_1 hf
        exact B63 x2 pl_path pl_pathLength _ _ _ (lv_sub hl [0, 2] rfl) hP hD hS hf
      · have hf := ite_f c_1 hf
        refine lv_iload_n hx hb dX4_cutPathBefore_16 rfl (lv_at hl 3 rfl) ?_
        refine lv_if_ne (tgt := 31) hx hb dX4_cutPathBefore_17 (by decide) (fun c_2 => ?_) (fun c_2 => ?_)
        · have hf := ite_t c_2 hf
          exact B31 x1 x2 x4 pl_path pl_pathLength _ _ _ (lv_sub hl [0, 1, 2, 4] rfl) hP hD hS hf
        · have hf := ite_fn c_2 hf
          refine lv_aload_n hx hb dX4_cutPathBefore_20 rfl (lv_at hl 0 rfl) ?_
          refine va_get (D := D) (ci := 4) (C := RX4) (T := TX4) (N := 16) hx hb hT kwX4 hown hK.1 hP 0 rfl rfl 8 (by decide) (hT _ kf_X4_30) (fun _ h9 => h9) rfl dX4_cutPathBefore_21 ?_
          refine lv_iload hx hb dX4_cutPathBefore_24 (lv_at hl 4 rfl) ?_
          obtain ⟨h_3, hf⟩ := chk_s hf
          refine va_iald hx hb hK.1 hP 7 0 rfl rfl (inb_in h_3) dX4_cutPathBefore_26 ?_
          refine lv_iload_n hx hb dX4_cutPathBefore_27 rfl (lv_at hl 1 rfl) ?_
          refine lv_icmp_ne (tgt := 35) hx hb dX4_cutPathBefore_28 (by decide) (fun c_4 => ?_) (fun c_4 => ?_)
          · have hf := ite_t c_4 hf
            refine lv_iconst (v := 0) hx hb dX4_cutPathBefore_35 (by decide) ?_
            exact B36 x1 x2 x4 0 pl_path pl_pathLength _ _ _ (lv_sub hl [0, 1, 2, 4] rfl) hP hD hS hf
          · have hf := ite_fn c_4 hf
            exact B31 x1 x2 x4 pl_path pl_pathLength _ _ _ (lv_sub hl [0, 1, 2, 4] rfl) hP hD hS hf
  refine lv_iconst (v := 0) hx hb dX4_cutPathBefore_0 (by decide) ?_
  refine lv_istore_n (lv' := [(2, .int 0), (0, .ref (a_pl 0)), (1, .int p1)]) hx hb dX4_cutPathBefore_1 rfl hl (by decide) rfl (fun ls hl => ?_)
  refine lv_iconst (v := 0) hx hb dX4_cutPathBefore_2 (by decide) ?_
  refine lv_istore_n (lv' := [(3, .int 0), (2, .int 0), (0, .ref (a_pl 0)), (1, .int p1)]) hx hb dX4_cutPathBefore_3 rfl hl (by decide) rfl (fun ls hl => ?_)
  refine lv_iconst (v := 0) hx hb dX4_cutPathBefore_4 (by decide) ?_
  refine lv_istore (lv' := [(4, .int 0), (3, .int 0), (2, .int 0), (0, .ref (a_pl 0)), (1, .int p1)]) hx hb dX4_cutPathBefore_5 hl (by decide) rfl (fun ls hl => ?_)
  exact B7 N p1 0 0 0 pl_path pl_pathLength _ _ _ (lv_sub hl [3, 4, 2, 1, 0] rfl) hP hD hS hf
set_option maxRecDepth 100000 in
set_option maxHeartbeats 4000000 in
theorem c_X4_findCycle (l : Launch) (D : va_G) (cA : Nat → ClassId) (a_pl : Nat → Nat) (pl_rest : Nat → Int32) (pl_sketch : Nat → Int32) (pl_placed : Int32) (pl_rings : Int32) (pl_ringNodes : Nat → Int32) (pl_ringLength : Nat → Int32) (pl_ringSet : Nat → Int32) (pl_oldRing : Nat → Int32) (pl_path : Nat → Int32) (pl_pathLength : Int32) (pl_queue : Nat → Int32) (pl_origin : Nat → Int32) (pl_inside : Int32) (pl_ends : Int32) (pl_ring : Int32) (pl_choices : Int32) (sz N : Nat) (ρ : Int32 × (Nat → Int32) × Int32) (hf : f_X4_findCycle N pl_rest pl_path pl_pathLength = some ρ) : Met l yX4_findCycle (Cond.code yX4_findCycle cX4_findCycle 6 (Option.some Jvm.ClassFile.FieldType.boolean) :: lw_g) ({ frames := 2, cells := 0, slots := 0, locals := 44 } : Room) (PcW D (tyA cA) (wX4 cA a_pl pl_rest pl_sketch pl_placed pl_rings pl_ringNodes pl_ringLength pl_ringSet pl_oldRing pl_path pl_pathLength pl_queue pl_origin pl_inside pl_ends pl_ring pl_choices) sz [.ref (a_pl 0)]) (va_Qi (fun r (_ : Unit) => r = ρ.1) (fun _ t => va_P D vwCl (wX4 cA a_pl pl_rest pl_sketch pl_placed pl_rings pl_ringNodes pl_ringLength pl_ringSet pl_oldRing ρ.2.1 ρ.2.2 pl_queue pl_origin pl_inside pl_ends pl_ring pl_choices) t.heap ∧ va_D (va_A (wX4 cA a_pl pl_rest pl_sketch pl_placed pl_rings pl_ringNodes pl_ringLength pl_ringSet pl_oldRing pl_path pl_pathLength pl_queue pl_origin pl_inside pl_ends pl_ring pl_choices) sz) (wX4 cA a_pl pl_rest pl_sketch pl_placed pl_rings pl_ringNodes pl_ringLength pl_ringSet pl_oldRing ρ.2.1 ρ.2.2 pl_queue pl_origin pl_inside pl_ends pl_ring pl_choices)) (va_A (wX4 cA a_pl pl_rest pl_sketch pl_placed pl_rings pl_ringNodes pl_ringLength pl_ringSet pl_oldRing pl_path pl_pathLength pl_queue pl_origin pl_inside pl_ends pl_ring pl_choices) sz)) 0 0 (va_A (wX4 cA a_pl pl_rest pl_sketch pl_placed pl_rings pl_ringNodes pl_ringLength pl_ringSet pl_oldRing pl_path pl_pathLength pl_queue pl_origin pl_inside pl_ends pl_ring pl_choices) sz) := by
  refine mkW (QQ := fun A => va_Qi (fun r (_ : Unit) => r = ρ.1) (fun _ t => va_P D vwCl (wX4 cA a_pl pl_rest pl_sketch pl_placed pl_rings pl_ringNodes pl_ringLength pl_ringSet pl_oldRing ρ.2.1 ρ.2.2 pl_queue pl_origin pl_inside pl_ends pl_ring pl_choices) t.heap ∧ va_D A (wX4 cA a_pl pl_rest pl_sketch pl_placed pl_rings pl_ringNodes pl_ringLength pl_ringSet pl_oldRing ρ.2.1 ρ.2.2 pl_queue pl_origin pl_inside pl_ends pl_ring pl_choices)) A) (by decide) (Nat.le_of_ble_eq_true rfl) fun p e s m below meth c ls A C hl hP hK hD hA hS => ?_
  obtain ⟨hx, hb, hml, hown, hT, hr, hlk⟩ := id C
  have hl : lv_has ls 6 [(0, .ref (a_pl 0))] := hl
  have B95 : ∀ (x1 : Int32) (x2 : Int32) (pl_path : Nat → Int32) (pl_pathLength : Int32) (H : Heap) (locs : List Loc) (ls : Array Slot), lv_has ls 6 [(0, .ref (a_pl 0)), (1, .int x1), (2, .int x2)] → va_P D vwCl (wX4 cA a_pl pl_rest pl_sketch pl_placed pl_rings pl_ringNodes pl_ringLength pl_ringSet pl_oldRing pl_path pl_pathLength pl_queue pl_origin pl_inside pl_ends pl_ring pl_choices) H → va_D A (wX4 cA a_pl pl_rest pl_sketch pl_placed pl_rings pl_ringNodes pl_ringLength pl_ringSet pl_oldRing pl_path pl_pathLength pl_queue pl_origin pl_inside pl_ends pl_ring pl_choices) → va_S A s.heap H locs → f_X4_findCycle_b95 N pl_rest x1 x2 pl_path pl_pathLength = some ρ → W p l e ({ frames := 2, cells := 0, slots := 0, locals := 44 } : Room) s m ([.ref (a_pl 0)] : List Value).toArray below meth c H locs 0 0 (MQ below (va_Qi (fun r (_ : Unit) => r = ρ.1) (fun _ t => va_P D vwCl (wX4 cA a_pl pl_rest pl_sketch pl_placed pl_rings pl_ringNodes pl_ringLength pl_ringSet pl_oldRing ρ.2.1 ρ.2.2 pl_queue pl_origin pl_inside pl_ends pl_ring pl_choices) t.heap ∧ va_D A (wX4 cA a_pl pl_rest pl_sketch pl_placed pl_rings pl_ringNodes pl_ringLength pl_ringSet pl_oldRing ρ.2.1 ρ.2.2 pl_queue pl_origin pl_inside pl_ends pl_ring pl_choices)) A) ([.ref (a_pl 0)] : List Value).toArray s 0 0 A) (F0 m 95 ls []) := by
    intro x1 x2 pl_path pl_pathLength H locs ls hl hP hD hS hf
    refine lv_iload_n hx hb dX4_findCycle_95 rfl (lv_at hl 1 rfl) ?_
    refine lv_if_lt (tgt := 107) hx hb dX4_findCycle_96 (by decide) (fun c_13 => ?_) (fun c_13 => ?_)
    · have hf := ite_t c_13 hf
      refine lv_iconst (v := 0) hx hb dX4_findCycle_107 (by decide) ?_
      have eR := some_i hf
      exact W.zret hx hb hr (by decide) (fun t ht hW => ⟨⟨0, (), rfl, fst_e eR, by rw [← eR, ht]; exact hP, by rw [← eR]; exact hD⟩, hS.F ht⟩) hS.2.2 dX4_findCycle_108 (hlocks := hlk)
    · have hf := ite_f c_13 hf
      refine lv_iload_n hx hb dX4_findCycle_99 rfl (lv_at hl 2 rfl) ?_
      refine lv_iload_n hx hb dX4_findCycle_100 rfl (lv_at hl 1 rfl) ?_
      obtain ⟨r_14, hcr_14, hf⟩ := bd1_s hf
      refine backI (runN0 C (c_X7_contains l D cA x2 x1 N r_14 hcr_14) cf_X7_contains kn_X4_69 ⟨rfl, rfl, by decide, by decide⟩ ⟨Nat.zero_le _, Nat.zero_le _⟩ (hP.sub [] rfl) hK hl.1 rfl rfl (Nat.le_of_ble_eq_true rfl) dX4_findCycle_101) ?_
      refine lv_if_ne (tgt := 109) hx hb dX4_findCycle_104 (by decide) (fun c_15 => ?_) (fun c_15 => ?_)
      · have hf := ite_t c_15 hf
        refine lv_aload_n hx hb dX4_findCycle_109 rfl (lv_at hl 0 rfl) ?_
        refine lv_iload_n hx hb dX4_findCycle_110 rfl (lv_at hl 1 rfl) ?_
        obtain ⟨r_16, hcr_16, hf⟩ := bd1_s hf
        refine backWv (w2 := (wX4 cA a_pl pl_rest pl_sketch pl_placed pl_rings pl_ringNodes pl_ringLength pl_ringSet pl_oldRing r_16.1 r_16.2 pl_queue pl_origin pl_inside pl_ends pl_ring pl_choices)) (runVw C (c_X4_cutPathBefore l D cA a_pl pl_rest pl_sketch pl_placed pl_rings pl_ringNodes pl_ringLength pl_ringSet pl_oldRing pl_path pl_pathLength pl_queue pl_origin pl_inside pl_ends pl_ring pl_choices x1 _ N r_16 hcr_16) cf_X4_cutPathBefore km_X4_87 ⟨rfl, rfl, by decide, by decide⟩ ⟨Nat.zero_le _, Nat.zero_le _⟩ (va_recv hK.1 hP (ci := 4) (q0 := 0) rfl rfl) (hP.sub [0, 1, 2, 3, 4, 5, 6, 7, 8, 9] rfl) (hD.sub [0, 1, 2, 3, 4, 5, 6, 7, 8, 9] rfl rfl) hK hl.1 rfl rfl (Nat.le_of_ble_eq_true rfl) dX4_findCycle_111) hP hD hS hA [0, 1, 2, 3, 4, 5, 6, 7, 8, 9] rfl [] rfl rfl (by decide) [0, 1, 2, 3, 4, 5, 6, 7, 8, 9] rfl rfl (fun H locs hP hD hS => ?_)
        refine lv_iconst (v := 1) hx hb dX4_findCycle_114 (by decide) ?_
        have eR := some_i hf
        exact W.zret hx hb hr (by decide) (fun t ht hW => ⟨⟨1, (), rfl, fst_e eR, by rw [← eR, ht]; exact hP, by rw [← eR]; exact hD⟩, hS.F ht⟩) hS.2.2 dX4_findCycle_115 (hlocks := hlk)
      · have hf := ite_fn c_15 hf
        refine lv_iconst (v := 0) hx hb dX4_findCycle_107 (by decide) ?_
        have eR := some_i hf
        exact W.zret hx hb hr (by decide) (fun t ht hW => ⟨⟨0, (), rfl, fst_e eR, by rw [← eR, ht]; exact hP, by rw [← eR]; exact hD⟩, hS.F ht⟩) hS.2.2 dX4_findCycle_108 (hlocks := hlk)
  have B24 : ∀ (n24 : Nat), ∀ (x1 : Int32) (x2 : Int32) (x3 : Int32) (x4 : Int32) (pl_path : Nat → Int32) (pl_pathLength : Int32) (H : Heap) (locs : List Loc) (ls : Array Slot), lv_has ls 6 [(0, .ref (a_pl 0)), (1, .int x1), (2, .int x2), (3, .int x3), (4, .int x4)] → va_P D vwCl (wX4 cA a_pl pl_rest pl_sketch pl_placed pl_rings pl_ringNodes pl_ringLength pl_ringSet pl_oldRing pl_path pl_pathLength pl_queue pl_origin pl_inside pl_ends pl_ring pl_choices) H → va_D A (wX4 cA a_pl pl_rest pl_sketch pl_placed pl_rings pl_ringNodes pl_ringLength pl_ringSet pl_oldRing pl_path pl_pathLength pl_queue pl_origin pl_inside pl_ends pl_ring pl_choices) → va_S A s.heap H locs → f_X4_findCycle_b24 N pl_rest n24 x1 x2 x3 x4 pl_path pl_pathLength = some ρ → W p l e ({ frames := 2, cells := 0, slots := 0, locals := 44 } : Room) s m ([.ref (a_pl 0)] : List Value).toArray below meth c H locs 0 0 (MQ below (va_Qi (fun r (_ : Unit) => r = ρ.1) (fun _ t => va_P D vwCl (wX4 cA a_pl pl_rest pl_sketch pl_placed pl_rings pl_ringNodes pl_ringLength pl_ringSet pl_oldRing ρ.2.1 ρ.2.2 pl_queue pl_origin pl_inside pl_ends pl_ring pl_choices) t.heap ∧ va_D A (wX4 cA a_pl pl_rest pl_sketch pl_placed pl_rings pl_ringNodes pl_ringLength pl_ringSet pl_oldRing ρ.2.1 ρ.2.2 pl_queue pl_origin pl_inside pl_ends pl_ring pl_choices)) A) ([.ref (a_pl 0)] : List Value).toArray s 0 0 A) (F0 m 24 ls []) := by
    intro n24
    induction n24 with
    | zero =>
      intro x1 x2 x3 x4 pl_path pl_pathLength H locs ls hl hP hD hS hf
      cases (show (none : Option (Int32 × (Nat → Int32) × Int32)) = some ρ from hf)
    | succ n24 ih24 =>
      intro x1 x2 x3 x4 pl_path pl_pathLength H locs ls hl hP hD hS hf
      refine lv_iload hx hb dX4_findCycle_24 (lv_at hl 4 rfl) ?_
      refine lv_bipush (v := 9) hx hb dX4_findCycle_26 (by decide) ?_
      refine lv_icmp_ge (tgt := 95) hx hb dX4_findCycle_28 (by decide) (fun c_3 => ?_) (fun c_3 => ?_)
      · have hf := ite_t c_3 hf
        exact B95 x1 x2 pl_path pl_pathLength _ _ _ (lv_sub hl [0, 1, 2] rfl) hP hD hS hf
      · have hf := ite_f c_3 hf
        refine lv_iload_n hx hb dX4_findCycle_31 rfl (lv_at hl 1 rfl) ?_
        refine lv_if_lt (tgt := 95) hx hb dX4_findCycle_32 (by decide) (fun c_4 => ?_) (fun c_4 => ?_)
        · have hf := ite_t c_4 hf
          exact B95 x1 x2 pl_path pl_pathLength _ _ _ (lv_sub hl [0, 1, 2] rfl) hP hD hS hf
        · have hf := ite_f c_4 hf
          refine lv_iload_n hx hb dX4_findCycle_35 rfl (lv_at hl 2 rfl) ?_
          refine lv_iload_n hx hb dX4_findCycle_36 rfl (lv_at hl 1 rfl) ?_
          obtain ⟨r_5, hcr_5, hf⟩ := bd1_s hf
          refine backI (runN0 C (c_X7_contains l D cA x2 x1 N r_5 hcr_5) cf_X7_contains kn_X4_69 ⟨rfl, rfl, by decide, by decide⟩ ⟨Nat.zero_le _, Nat.zero_le _⟩ (hP.sub [] rfl) hK hl.1 rfl rfl (Nat.le_of_ble_eq_true rfl) dX4_findCycle_37) ?_
          refine lv_if_ne (tgt := 95) hx hb dX4_findCycle_40 (by decide) (fun c_6 => ?_) (fun c_6 => ?_)
          · have hf := ite_t c_6 hf
            exact B95 x1 x2 pl_path pl_pathLength _ _ _ (lv_sub hl [0, 1, 2] rfl) hP hD hS hf
          · have hf := ite_fn c_6 hf
            refine lv_aload_n hx hb dX4_findCycle_43 rfl (lv_at hl 0 rfl) ?_
            refine va_get (D := D) (ci := 4) (C := RX4) (T := TX4) (N := 16) hx hb hT kwX4 hown hK.1 hP 0 rfl rfl 8 (by decide) (hT _ kf_X4_30) (fun _ h9 => h9) rfl dX4_findCycle_44 ?_
            refine lv_iload hx hb dX4_findCycle_47 (lv_at hl 4 rfl) ?_
            refine lv_iload_n hx hb dX4_findCycle_49 rfl (lv_at hl 1 rfl) ?_
            obtain ⟨h_7, hf⟩ := chk_s hf
            refine va_iast hx hb hK.1 hP hD hS 7 0 rfl rfl (inb_in h_7) dX4_findCycle_50 (fun H locs hP hD hS => ?_)
            have hP : va_P D vwCl (wX4 cA a_pl pl_rest pl_sketch pl_placed pl_rings pl_ringNodes pl_ringLength pl_ringSet pl_oldRing (upd pl_path x4.toNatClampNeg x1) pl_pathLength pl_queue pl_origin pl_inside pl_ends pl_ring pl_choices) H := hP
            have hD : va_D A (wX4 cA a_pl pl_rest pl_sketch pl_placed pl_rings pl_ringNodes pl_ringLength pl_ringSet pl_oldRing (upd pl_path x4.toNatClampNeg x1) pl_pathLength pl_queue pl_origin pl_inside pl_ends pl_ring pl_choices) := hD
            refine lv_aload_n hx hb dX4_findCycle_51 rfl (lv_at hl 0 rfl) ?_
            refine lv_iload hx hb dX4_findCycle_52 (lv_at hl 4 rfl) ?_
            refine lv_iconst (v := 1) hx hb dX4_findCycle_54 (by decide) ?_
            refine lv_iadd hx hb dX4_findCycle_55 ?_
            refine va_put (D := D) (ci := 4) (v := .int (x4 + 1)) (ty := .int) (C := RX4) (T := TX4) (N := 16) hx hb hT kwX4 tyX4 tyX4_ok nmX4 hown hK.1 hP hD hS 0 rfl rfl 9 (by decide) (hT _ kf_X4_83) (fun _ h9 => h9) rfl (by decide +kernel) rfl rfl (Nat.le_of_ble_eq_true rfl) dX4_findCycle_56 (fun H locs hP hD hS => ?_)
            have hP : va_P D vwCl (wX4 cA a_pl pl_rest pl_sketch pl_placed pl_rings pl_ringNodes pl_ringLength pl_ringSet pl_oldRing (upd pl_path x4.toNatClampNeg x1) (x4 + 1) pl_queue pl_origin pl_inside pl_ends pl_ring pl_choices) H := hP
            have hD : va_D A (wX4 cA a_pl pl_rest pl_sketch pl_placed pl_rings pl_ringNodes pl_ringLength pl_ringSet pl_oldRing (upd pl_path x4.toNatClampNeg x1) (x4 + 1) pl_queue pl_origin pl_inside pl_ends pl_ring pl_choices) := hD
            refine lv_iload_n hx hb dX4_findCycle_59 rfl (lv_at hl 2 rfl) ?_
            refine lv_iload_n hx hb dX4_findCycle_60 rfl (lv_at hl 1 rfl) ?_
            obtain ⟨r_8, hcr_8, hf⟩ := bd1_s hf
            refine backI (runN0 C (c_X7_bit l D cA x1 N r_8 hcr_8) cf_X7_bit kn_X4_73 ⟨rfl, rfl, by decide, by decide⟩ ⟨Nat.zero_le _, Nat.zero_le _⟩ (hP.sub [] rfl) hK hl.1 rfl rfl (Nat.le_of_ble_eq_true rfl) dX4_findCycle_61) ?_
            refine lv_ior hx hb dX4_findCycle_64 ?_
            refine lv_topi (fun x2_9 ex2_9 => ?_)
            have hf := nm_t ex2_9 hf
            refine lv_istore_n (lv' := [(2, .int x2_9), (0, .ref (a_pl 0)), (1, .int x1), (3, .int x3), (4, .int x4)]) hx hb dX4_findCycle_65 rfl hl (by decide) rfl (fun ls hl => ?_)
            refine lv_aload_n hx hb dX4_findCycle_66 rfl (lv_at hl 1 rfl) ?_
            refine va_get (D := D) (ci := 4) (C := RX4) (T := TX4) (N := 16) hx hb hT kwX4 hown hK.1 hP 0 rfl rfl 0 (by decide) (hT _ kf_X4_9) (fun _ h9 => h9) rfl dX4_findCycle_67 ?_
            refine lv_iload_n hx hb dX4_findCycle_70 rfl (lv_at hl 2 rfl) ?_
            obtain ⟨h_10, hf⟩ := chk_s hf
            refine va_iald hx hb hK.1 hP 1 0 rfl rfl (inb_in h_10) dX4_findCycle_71 ?_
            refine lv_iload_n hx hb dX4_findCycle_72 rfl (lv_at hl 3 rfl) ?_
            refine lv_iconst (v := (-1)) hx hb dX4_findCycle_73 (by decide) ?_
            refine lv_ixor hx hb dX4_findCycle_74 ?_
            refine lv_iand hx hb dX4_findCycle_75 ?_
            obtain ⟨r_11, hcr_11, hf⟩ := bd1_s hf
            refine backI (runN0 C (c_X7_smallestOf l D cA ((pl_rest x1.toNatClampNeg) &&& (x3 ^^^ (-1))) N r_11 hcr_11) cf_X7_smallestOf kn_X4_80 ⟨rfl, rfl, by decide, by decide⟩ ⟨Nat.zero_le _, Nat.zero_le _⟩ (hP.sub [] rfl) hK hl.1 rfl rfl (Nat.le_of_ble_eq_true rfl) dX4_findCycle_76) ?_
            refine lv_istore (lv' := [(5, .int r_11), (2, .int x2_9), (0, .ref (a_pl 0)), (1, .int x1), (3, .int x3), (4, .int x4)]) hx hb dX4_findCycle_79 hl (by decide) rfl (fun ls hl => ?_)
            refine lv_iload_n hx hb dX4_findCycle_81 rfl (lv_at hl 3 rfl) ?_
            obtain ⟨r_12, hcr_12, hf⟩ := bd1_s hf
            refine backI (runN0 C (c_X7_bit l D cA x1 N r_12 hcr_12) cf_X7_bit kn_X4_73 ⟨rfl, rfl, by decide, by decide⟩ ⟨Nat.zero_le _, Nat.zero_le _⟩ (hP.sub [] rfl) hK hl.1 rfl rfl (Nat.le_of_ble_eq_true rfl) dX4_findCycle_82) ?_
            refine lv_istore_n (lv' := [(3, .int r_12), (5, .int r_11), (2, .int x2_9), (0, .ref (a_pl 0)), (1, .int x1), (4, .int x4)]) hx hb dX4_findCycle_85 rfl hl (by decide) rfl (fun ls hl => ?_)
            refine lv_iload hx hb dX4_findCycle_86 (lv_at hl 1 rfl) ?_
            refine lv_istore_n (lv' := [(1, .int r_11), (3, .int r_12), (5, .int r_11), (2, .int x2_9), (0, .ref (a_pl 0)), (4, .int x4)]) hx hb dX4_findCycle_88 rfl hl (by decide) rfl (fun ls hl => ?_)
            refine lv_iinc (v := (x4 + 1)) (lv' := [(4, .int (x4 + 1)), (1, .int r_11), (3, .int r_12), (5, .int r_11), (2, .int x2_9), (0, .ref (a_pl 0))]) hx hb dX4_findCycle_89 hl (k := 5) rfl rfl (by decide) rfl (fun ls hl => ?_)
            refine lv_goto (tgt := 24) hx hb dX4_findCycle_92 (by decide) ?_
            exact ih24 r_11 x2_9 r_12 (x4 + 1) (upd pl_path x4.toNatClampNeg x1) (x4 + 1) _ _ _ (lv_sub hl [5, 1, 4, 2, 0] rfl) hP hD hS hf
  refine lv_iconst (v := (-1)) hx hb dX4_findCycle_0 (by decide) ?_
  refine lv_aload_n hx hb dX4_findCycle_1 rfl (lv_at hl 0 rfl) ?_
  refine va_get (D := D) (ci := 4) (C := RX4) (T := TX4) (N := 16) hx hb hT kwX4 hown hK.1 hP 0 rfl rfl 0 (by decide) (hT _ kf_X4_9) (fun _ h9 => h9) rfl dX4_findCycle_2 ?_
  obtain ⟨r_1, hcr_1, hf⟩ := bd1_s hf
  refine backI (runN0 C (c_X7_neighboursOf l D cA (a_pl 1) pl_rest (-1) N r_1 hcr_1) cf_X7_neighboursOf kn_X4_76 ⟨rfl, rfl, by decide, by decide⟩ ⟨Nat.zero_le _, Nat.zero_le _⟩ (hP.sub [1] rfl) hK hl.1 rfl rfl (Nat.le_of_ble_eq_true rfl) dX4_findCycle_5) ?_
  obtain ⟨r_2, hcr_2, hf⟩ := bd1_s hf
  refine backI (runN0 C (c_X7_smallestOf l D cA r_1 N r_2 hcr_2) cf_X7_smallestOf kn_X4_80 ⟨rfl, rfl, by decide, by decide⟩ ⟨Nat.zero_le _, Nat.zero_le _⟩ (hP.sub [] rfl) hK hl.1 rfl rfl (Nat.le_of_ble_eq_true rfl) dX4_findCycle_8) ?_
  refine lv_istore_n (lv' := [(1, .int r_2), (0, .ref (a_pl 0))]) hx hb dX4_findCycle_11 rfl hl (by decide) rfl (fun ls hl => ?_)
  refine lv_iconst (v := 0) hx hb dX4_findCycle_12 (by decide) ?_
  refine lv_istore_n (lv' := [(2, .int 0), (1, .int r_2), (0, .ref (a_pl 0))]) hx hb dX4_findCycle_13 rfl hl (by decide) rfl (fun ls hl => ?_)
  refine lv_iconst (v := 0) hx hb dX4_findCycle_14 (by decide) ?_
  refine lv_istore_n (lv' := [(3, .int 0), (2, .int 0), (1, .int r_2), (0, .ref (a_pl 0))]) hx hb dX4_findCycle_15 rfl hl (by decide) rfl (fun ls hl => ?_)
  refine lv_aload_n hx hb dX4_findCycle_16 rfl (lv_at hl 3 rfl) ?_
  refine lv_iconst (v := 0) hx hb dX4_findCycle_17 (by decide) ?_
  refine va_put (D := D) (ci := 4) (v := .int 0) (ty := .int) (C := RX4) (T := TX4) (N := 16) hx hb hT kwX4 tyX4 tyX4_ok nmX4 hown hK.1 hP hD hS 0 rfl rfl 9 (by decide) (hT _ kf_X4_83) (fun _ h9 => h9) rfl (by decide +kernel) rfl rfl (Nat.le_of_ble_eq_true rfl) dX4_findCycle_18 (fun H locs hP hD hS => ?_)
  have hP : va_P D vwCl (wX4 cA a_pl pl_rest pl_sketch pl_placed pl_rings pl_ringNodes pl_ringLength pl_ringSet pl_oldRing pl_path 0 pl_queue pl_origin pl_inside pl_ends pl_ring pl_choices) H := hP
  have hD : va_D A (wX4 cA a_pl pl_rest pl_sketch pl_placed pl_rings pl_ringNodes pl_ringLength pl_ringSet pl_oldRing pl_path 0 pl_queue pl_origin pl_inside pl_ends pl_ring pl_choices) := hD
  refine lv_iconst (v := 0) hx hb dX4_findCycle_21 (by decide) ?_
  refine lv_istore (lv' := [(4, .int 0), (3, .int 0), (2, .int 0), (1, .int r_2), (0, .ref (a_pl 0))]) hx hb dX4_findCycle_22 hl (by decide) rfl (fun ls hl => ?_)
  exact B24 N r_2 0 0 0 pl_path 0 _ _ _ (lv_sub hl [4, 3, 2, 1, 0] rfl) hP hD hS hf
set_option maxRecDepth 100000 in
set_option maxHeartbeats 4000000 in
theorem c_X4_drawPath (l : Launch) (D : va_G) (cA : Nat → ClassId) (a_pl : Nat → Nat) (pl_rest : Nat → Int32) (pl_sketch : Nat → Int32) (pl_placed : Int32) (pl_rings : Int32) (pl_ringNodes : Nat → Int32) (pl_ringLength : Nat → Int32) (pl_ringSet : Nat → Int32) (pl_oldRing : Nat → Int32) (pl_path : Nat → Int32) (pl_pathLength : Int32) (pl_queue : Nat → Int32) (pl_origin : Nat → Int32) (pl_inside : Int32) (pl_ends : Int32) (pl_ring : Int32) (pl_choices : Int32) (sz N : Nat) (ρ : (Nat → Int32) × Int32) (hf : f_X4_drawPath N pl_sketch pl_placed pl_path pl_pathLength = some ρ) : Met l yX4_drawPath (Cond.code yX4_drawPath cX4_drawPath 2 (Option.none : Option Jvm.ClassFile.FieldType) :: lw_g) ({ frames := 2, cells := 0, slots := 0, locals := 42 } : Room) (PcW D (tyA cA) (wX4 cA a_pl pl_rest pl_sketch pl_placed pl_rings pl_ringNodes pl_ringLength pl_ringSet pl_oldRing pl_path pl_pathLength pl_queue pl_origin pl_inside pl_ends pl_ring pl_choices) sz [.ref (a_pl 0)]) (va_Qv (fun (_ : Unit) => True) (fun _ t => va_P D vwCl (wX4 cA a_pl pl_rest ρ.1 ρ.2 pl_rings pl_ringNodes pl_ringLength pl_ringSet pl_oldRing pl_path pl_pathLength pl_queue pl_origin pl_inside pl_ends pl_ring pl_choices) t.heap ∧ va_D (va_A (wX4 cA a_pl pl_rest pl_sketch pl_placed pl_rings pl_ringNodes pl_ringLength pl_ringSet pl_oldRing pl_path pl_pathLength pl_queue pl_origin pl_inside pl_ends pl_ring pl_choices) sz) (wX4 cA a_pl pl_rest ρ.1 ρ.2 pl_rings pl_ringNodes pl_ringLength pl_ringSet pl_oldRing pl_path pl_pathLength pl_queue pl_origin pl_inside pl_ends pl_ring pl_choices)) (va_A (wX4 cA a_pl pl_rest pl_sketch pl_placed pl_rings pl_ringNodes pl_ringLength pl_ringSet pl_oldRing pl_path pl_pathLength pl_queue pl_origin pl_inside pl_ends pl_ring pl_choices) sz)) 0 0 (va_A (wX4 cA a_pl pl_rest pl_sketch pl_placed pl_rings pl_ringNodes pl_ringLength pl_ringSet pl_oldRing pl_path pl_pathLength pl_queue pl_origin pl_inside pl_ends pl_ring pl_choices) sz) := by
  refine mkW (QQ := fun A => va_Qv (fun (_ : Unit) => True) (fun _ t => va_P D vwCl (wX4 cA a_pl pl_rest ρ.1 ρ.2 pl_rings pl_ringNodes pl_ringLength pl_ringSet pl_oldRing pl_path pl_pathLength pl_queue pl_origin pl_inside pl_ends pl_ring pl_choices) t.heap ∧ va_D A (wX4 cA a_pl pl_rest ρ.1 ρ.2 pl_rings pl_ringNodes pl_ringLength pl_ringSet pl_oldRing pl_path pl_pathLength pl_queue pl_origin pl_inside pl_ends pl_ring pl_choices)) A) (by decide) (Nat.le_of_ble_eq_true rfl) fun p e s m below meth c ls A C hl hP hK hD hA hS => ?_
  obtain ⟨hx, hb, hml, hown, hT, hr, hlk⟩ := id C
  have hl : lv_has ls 2 [(0, .ref (a_pl 0))] := hl
  have B2 : ∀ (n2 : Nat), ∀ (x1 : Int32) (pl_sketch : Nat → Int32) (pl_placed : Int32) (H : Heap) (locs : List Loc) (ls : Array Slot), lv_has ls 2 [(0, .ref (a_pl 0)), (1, .int x1)] → va_P D vwCl (wX4 cA a_pl pl_rest pl_sketch pl_placed pl_rings pl_ringNodes pl_ringLength pl_ringSet pl_oldRing pl_path pl_pathLength pl_queue pl_origin pl_inside pl_ends pl_ring pl_choices) H → va_D A (wX4 cA a_pl pl_rest pl_sketch pl_placed pl_rings pl_ringNodes pl_ringLength pl_ringSet pl_oldRing pl_path pl_pathLength pl_queue pl_origin pl_inside pl_ends pl_ring pl_choices) → va_S A s.heap H locs → f_X4_drawPath_b2 N pl_path pl_pathLength n2 x1 pl_sketch pl_placed = some ρ → W p l e ({ frames := 2, cells := 0, slots := 0, locals := 42 } : Room) s m ([.ref (a_pl 0)] : List Value).toArray below meth c H locs 0 0 (MQ below (va_Qv (fun (_ : Unit) => True) (fun _ t => va_P D vwCl (wX4 cA a_pl pl_rest ρ.1 ρ.2 pl_rings pl_ringNodes pl_ringLength pl_ringSet pl_oldRing pl_path pl_pathLength pl_queue pl_origin pl_inside pl_ends pl_ring pl_choices) t.heap ∧ va_D A (wX4 cA a_pl pl_rest ρ.1 ρ.2 pl_rings pl_ringNodes pl_ringLength pl_ringSet pl_oldRing pl_path pl_pathLength pl_queue pl_origin pl_inside pl_ends pl_ring pl_choices)) A) ([.ref (a_pl 0)] : List Value).toArray s 0 0 A) (F0 m 2 ls []) := by
    intro n2
    induction n2 with
    | zero =>
      intro x1 pl_sketch pl_placed H locs ls hl hP hD hS hf
      cases (show (none : Option ((Nat → Int32) × Int32)) = some ρ from hf)
    | succ n2 ih2 =>
      have B53 : ∀ (x1 : Int32) (pl_sketch : Nat → Int32) (pl_placed : Int32) (H : Heap) (locs : List Loc) (ls : Array Slot), lv_has ls 2 [(0, .ref (a_pl 0)), (1, .int x1)] → va_P D vwCl (wX4 cA a_pl pl_rest pl_sketch pl_placed pl_rings pl_ringNodes pl_ringLength pl_ringSet pl_oldRing pl_path pl_pathLength pl_queue pl_origin pl_inside pl_ends pl_ring pl_choices) H → va_D A (wX4 cA a_pl pl_rest pl_sketch pl_placed pl_rings pl_ringNodes pl_ringLength pl_ringSet pl_oldRing pl_path pl_pathLength pl_queue pl_origin pl_inside pl_ends pl_ring pl_choices) → va_S A s.heap H locs → f_X4_drawPath_b53 N pl_path pl_pathLength (f_X4_drawPath_b2 N pl_path pl_pathLength n2) x1 pl_sketch pl_placed = some ρ → W p l e ({ frames := 2, cells := 0, slots := 0, locals := 42 } : Room) s m ([.ref (a_pl 0)] : List Value).toArray below meth c H locs 0 0 (MQ below (va_Qv (fun (_ : Unit) => True) (fun _ t => va_P D vwCl (wX4 cA a_pl pl_rest ρ.1 ρ.2 pl_rings pl_ringNodes pl_ringLength pl_ringSet pl_oldRing pl_path pl_pathLength pl_queue pl_origin pl_inside pl_ends pl_ring pl_choices) t.heap ∧ va_D A (wX4 cA a_pl pl_rest ρ.1 ρ.2 pl_rings pl_ringNodes pl_ringLength pl_ringSet pl_oldRing pl_path pl_pathLength pl_queue pl_origin pl_inside pl_ends pl_ring pl_choices)) A) ([.ref (a_pl 0)] : List Value).toArray s 0 0 A) (F0 m 53 ls []) := by
        intro x1 pl_sketch pl_placed H locs ls hl hP hD hS hf
        refine lv_iinc (v := (x1 + 1)) (lv' := [(1, .int (x1 + 1)), (0, .ref (a_pl 0))]) hx hb dX4_drawPath_53 hl (k := 1) rfl rfl (by decide) rfl (fun ls hl => ?_)
        refine lv_goto (tgt := 2) hx hb dX4_drawPath_56 (by decide) ?_
        exact ih2 (x1 + 1) pl_sketch pl_placed _ _ _ (lv_sub hl [1, 0] rfl) hP hD hS hf
      intro x1 pl_sketch pl_placed H locs ls hl hP hD hS hf
      refine lv_iload_n hx hb dX4_drawPath_2 rfl (lv_at hl 1 rfl) ?_
      refine lv_aload_n hx hb dX4_drawPath_3 rfl (lv_at hl 0 rfl) ?_
      refine va_get (D := D) (ci := 4) (C := RX4) (T := TX4) (N := 16) hx hb hT kwX4 hown hK.1 hP 0 rfl rfl 9 (by decide) (hT _ kf_X4_83) (fun _ h9 => h9) rfl dX4_drawPath_4 ?_
      refine lv_icmp_ge (tgt := 59) hx hb dX4_drawPath_7 (by decide) (fun c_1 => ?_) (fun c_1 => ?_)
      · have hf := ite_t c_1 hf
        have eR := some_i hf
        exact W.vret hx hb hr (fun t ht hW => ⟨⟨(), rfl, trivial, by rw [← eR, ht]; exact hP, by rw [← eR]; exact hD⟩, hS.F ht⟩) hS.2.2 dX4_drawPath_59 (hlocks := hlk)
      · have hf := ite_f c_1 hf
        refine lv_aload_n hx hb dX4_drawPath_10 rfl (lv_at hl 0 rfl) ?_
        refine lv_dup hx hb dX4_drawPath_11 rfl ?_
        refine va_get (D := D) (ci := 4) (C := RX4) (T := TX4) (N := 16) hx hb hT kwX4 hown hK.1 hP 0 rfl rfl 2 (by decide) (hT _ kf_X4_120) (fun _ h9 => h9) rfl dX4_drawPath_12 ?_
        refine lv_aload_n hx hb dX4_drawPath_15 rfl (lv_at hl 0 rfl) ?_
        refine va_get (D := D) (ci := 4) (C := RX4) (T := TX4) (N := 16) hx hb hT kwX4 hown hK.1 hP 0 rfl rfl 8 (by decide) (hT _ kf_X4_30) (fun _ h9 => h9) rfl dX4_drawPath_16 ?_
        refine lv_iload_n hx hb dX4_drawPath_19 rfl (lv_at hl 1 rfl) ?_
        obtain ⟨h_2, hf⟩ := chk_s hf
        refine va_iald hx hb hK.1 hP 7 0 rfl rfl (inb_in h_2) dX4_drawPath_20 ?_
        obtain ⟨r_3, hcr_3, hf⟩ := bd1_s hf
        refine backI (runN0 C (c_X7_bit l D cA (pl_path x1.toNatClampNeg) N r_3 hcr_3) cf_X7_bit kn_X4_73 ⟨rfl, rfl, by decide, by decide⟩ ⟨Nat.zero_le _, Nat.zero_le _⟩ (hP.sub [] rfl) hK hl.1 rfl rfl (Nat.le_of_ble_eq_true rfl) dX4_drawPath_21) ?_
        refine lv_ior hx hb dX4_drawPath_24 ?_
        refine va_put (D := D) (ci := 4) (v := .int (pl_placed ||| r_3)) (ty := .int) (C := RX4) (T := TX4) (N := 16) hx hb hT kwX4 tyX4 tyX4_ok nmX4 hown hK.1 hP hD hS 0 rfl rfl 2 (by decide) (hT _ kf_X4_120) (fun _ h9 => h9) rfl (by decide +kernel) rfl rfl (Nat.le_of_ble_eq_true rfl) dX4_drawPath_25 (fun H locs hP hD hS => ?_)
        have hP : va_P D vwCl (wX4 cA a_pl pl_rest pl_sketch (pl_placed ||| r_3) pl_rings pl_ringNodes pl_ringLength pl_ringSet pl_oldRing pl_path pl_pathLength pl_queue pl_origin pl_inside pl_ends pl_ring pl_choices) H := hP
        have hD : va_D A (wX4 cA a_pl pl_rest pl_sketch (pl_placed ||| r_3) pl_rings pl_ringNodes pl_ringLength pl_ringSet pl_oldRing pl_path pl_pathLength pl_queue pl_origin pl_inside pl_ends pl_ring pl_choices) := hD
        refine lv_iload_n hx hb dX4_drawPath_28 rfl (lv_at hl 1 rfl) ?_
        refine lv_if_le (tgt := 53) hx hb dX4_drawPath_29 (by decide) (fun c_4 => ?_) (fun c_4 => ?_)
        · have hf := ite_t c_4 hf
          exact B53 x1 pl_sketch (pl_placed ||| r_3) _ _ _ (lv_sub hl [0, 1] rfl) hP hD hS hf
        · have hf := ite_f c_4 hf
          refine lv_aload_n hx hb dX4_drawPath_32 rfl (lv_at hl 0 rfl) ?_
          refine va_get (D := D) (ci := 4) (C := RX4) (T := TX4) (N := 16) hx hb hT kwX4 hown hK.1 hP 0 rfl rfl 1 (by decide) (hT _ kf_X4_15) (fun _ h9 => h9) rfl dX4_drawPath_33 ?_
          refine lv_aload_n hx hb dX4_drawPath_36 rfl (lv_at hl 0 rfl) ?_
          refine va_get (D := D) (ci := 4) (C := RX4) (T := TX4) (N := 16) hx hb hT kwX4 hown hK.1 hP 0 rfl rfl 8 (by decide) (hT _ kf_X4_30) (fun _ h9 => h9) rfl dX4_drawPath_37 ?_
          refine lv_iload_n hx hb dX4_drawPath_40 rfl (lv_at hl 1 rfl) ?_
          refine lv_iconst (v := 1) hx hb dX4_drawPath_41 (by decide) ?_
          refine lv_isub hx hb dX4_drawPath_42 ?_
          obtain ⟨h_5, hf⟩ := chk_s hf
          refine va_iald hx hb hK.1 hP 7 0 rfl rfl (inb_in h_5) dX4_drawPath_43 ?_
          refine lv_aload_n hx hb dX4_drawPath_44 rfl (lv_at hl 0 rfl) ?_
          refine va_get (D := D) (ci := 4) (C := RX4) (T := TX4) (N := 16) hx hb hT kwX4 hown hK.1 hP 0 rfl rfl 8 (by decide) (hT _ kf_X4_30) (fun _ h9 => h9) rfl dX4_drawPath_45 ?_
          refine lv_iload_n hx hb dX4_drawPath_48 rfl (lv_at hl 1 rfl) ?_
          obtain ⟨h_6, hf⟩ := chk_s hf
          refine va_iald hx hb hK.1 hP 7 0 rfl rfl (inb_in h_6) dX4_drawPath_49 ?_
          obtain ⟨r_7, hcr_7, hf⟩ := bd1_s hf
          refine backWv (w2 := (wX4 cA a_pl pl_rest r_7 (pl_placed ||| r_3) pl_rings pl_ringNodes pl_ringLength pl_ringSet pl_oldRing pl_path pl_pathLength pl_queue pl_origin pl_inside pl_ends pl_ring pl_choices)) (runNw C (c_X7_toggleLink l D cA (a_pl 2) pl_sketch (pl_path (x1 - 1).toNatClampNeg) (pl_path x1.toNatClampNeg) _ N r_7 hcr_7) cf_X7_toggleLink kn_X4_123 ⟨rfl, rfl, by decide, by decide⟩ ⟨Nat.zero_le _, Nat.zero_le _⟩ (hP.sub [2] rfl) (hD.sub [2] rfl rfl) hK hl.1 rfl rfl (Nat.le_of_ble_eq_true rfl) dX4_drawPath_50) hP hD hS hA [2] rfl [0, 1, 3, 4, 5, 6, 7, 8, 9] rfl rfl (by decide) [0, 1, 9, 2, 3, 4, 5, 6, 7, 8] rfl rfl (fun H locs hP hD hS => ?_)
          exact B53 x1 r_7 (pl_placed ||| r_3) _ _ _ (lv_sub hl [0, 1] rfl) hP hD hS hf
  refine lv_iconst (v := 0) hx hb dX4_drawPath_0 (by decide) ?_
  refine lv_istore_n (lv' := [(1, .int 0), (0, .ref (a_pl 0))]) hx hb dX4_drawPath_1 rfl hl (by decide) rfl (fun ls hl => ?_)
  exact B2 N 0 pl_sketch pl_placed _ _ _ (lv_sub hl [1, 0] rfl) hP hD hS hf
set_option maxRecDepth 100000 in
set_option maxHeartbeats 4000000 in
theorem c_X4_startSketch (l : Launch) (D : va_G) (cA : Nat → ClassId) (a_pl : Nat → Nat) (pl_rest : Nat → Int32) (pl_sketch : Nat → Int32) (pl_placed : Int32) (pl_rings : Int32) (pl_ringNodes : Nat → Int32) (pl_ringLength : Nat → Int32) (pl_ringSet : Nat → Int32) (pl_oldRing : Nat → Int32) (pl_path : Nat → Int32) (pl_pathLength : Int32) (pl_queue : Nat → Int32) (pl_origin : Nat → Int32) (pl_inside : Int32) (pl_ends : Int32) (pl_ring : Int32) (pl_choices : Int32) (sz N : Nat) (ρ : (Nat → Int32) × Int32 × Int32 × (Nat → Int32) × (Nat → Int32) × (Nat → Int32)) (hf : f_X4_startSketch N pl_sketch pl_placed pl_rings pl_ringNodes pl_ringLength pl_ringSet pl_path pl_pathLength = some ρ) : Met l yX4_startSketch (Cond.code yX4_startSketch cX4_startSketch 2 (Option.none : Option Jvm.ClassFile.FieldType) :: lw_g) ({ frames := 3, cells := 0, slots := 0, locals := 63 } : Room) (PcW D (tyA cA) (wX4 cA a_pl pl_rest pl_sketch pl_placed pl_rings pl_ringNodes pl_ringLength pl_ringSet pl_oldRing pl_path pl_pathLength pl_queue pl_origin pl_inside pl_ends pl_ring pl_choices) sz [.ref (a_pl 0)]) (va_Qv (fun (_ : Unit) => True) (fun _ t => va_P D vwCl (wX4 cA a_pl pl_rest ρ.1 ρ.2.1 ρ.2.2.1 ρ.2.2.2.1 ρ.2.2.2.2.1 ρ.2.2.2.2.2 pl_oldRing pl_path pl_pathLength pl_queue pl_origin pl_inside pl_ends pl_ring pl_choices) t.heap ∧ va_D (va_A (wX4 cA a_pl pl_rest pl_sketch pl_placed pl_rings pl_ringNodes pl_ringLength pl_ringSet pl_oldRing pl_path pl_pathLength pl_queue pl_origin pl_inside pl_ends pl_ring pl_choices) sz) (wX4 cA a_pl pl_rest ρ.1 ρ.2.1 ρ.2.2.1 ρ.2.2.2.1 ρ.2.2.2.2.1 ρ.2.2.2.2.2 pl_oldRing pl_path pl_pathLength pl_queue pl_origin pl_inside pl_ends pl_ring pl_choices)) (va_A (wX4 cA a_pl pl_rest pl_sketch pl_placed pl_rings pl_ringNodes pl_ringLength pl_ringSet pl_oldRing pl_path pl_pathLength pl_queue pl_origin pl_inside pl_ends pl_ring pl_choices) sz)) 0 0 (va_A (wX4 cA a_pl pl_rest pl_sketch pl_placed pl_rings pl_ringNodes pl_ringLength pl_ringSet pl_oldRing pl_path pl_pathLength pl_queue pl_origin pl_inside pl_ends pl_ring pl_choices) sz) := by
  refine mkW (QQ := fun A => va_Qv (fun (_ : Unit) => True) (fun _ t => va_P D vwCl (wX4 cA a_pl pl_rest ρ.1 ρ.2.1 ρ.2.2.1 ρ.2.2.2.1 ρ.2.2.2.2.1 ρ.2.2.2.2.2 pl_oldRing pl_path pl_pathLength pl_queue pl_origin pl_inside pl_ends pl_ring pl_choices) t.heap ∧ va_D A (wX4 cA a_pl pl_rest ρ.1 ρ.2.1 ρ.2.2.1 ρ.2.2.2.1 ρ.2.2.2.2.1 ρ.2.2.2.2.2 pl_oldRing pl_path pl_pathLength pl_queue pl_origin pl_inside pl_ends pl_ring pl_choices)) A) (by decide) (Nat.le_of_ble_eq_true rfl) fun p e s m below meth c ls A C hl hP hK hD hA hS => ?_
  obtain ⟨hx, hb, hml, hown, hT, hr, hlk⟩ := id C
  have hl : lv_has ls 2 [(0, .ref (a_pl 0))] := hl
  have B48 : ∀ (n48 : Nat), ∀ (x1 : Int32) (pl_sketch : Nat → Int32) (pl_placed : Int32) (pl_rings : Int32) (pl_ringNodes : Nat → Int32) (pl_ringLength : Nat → Int32) (pl_ringSet : Nat → Int32) (H : Heap) (locs : List Loc) (ls : Array Slot), lv_has ls 2 [(0, .ref (a_pl 0)), (1, .int x1)] → va_P D vwCl (wX4 cA a_pl pl_rest pl_sketch pl_placed pl_rings pl_ringNodes pl_ringLength pl_ringSet pl_oldRing pl_path pl_pathLength pl_queue pl_origin pl_inside pl_ends pl_ring pl_choices) H → va_D A (wX4 cA a_pl pl_rest pl_sketch pl_placed pl_rings pl_ringNodes pl_ringLength pl_ringSet pl_oldRing pl_path pl_pathLength pl_queue pl_origin pl_inside pl_ends pl_ring pl_choices) → va_S A s.heap H locs → f_X4_startSketch_b48 N pl_path pl_pathLength n48 x1 pl_sketch pl_placed pl_rings pl_ringNodes pl_ringLength pl_ringSet = some ρ → W p l e ({ frames := 3, cells := 0, slots := 0, locals := 63 } : Room) s m ([.ref (a_pl 0)] : List Value).toArray below meth c H locs 0 0 (MQ below (va_Qv (fun (_ : Unit) => True) (fun _ t => va_P D vwCl (wX4 cA a_pl pl_rest ρ.1 ρ.2.1 ρ.2.2.1 ρ.2.2.2.1 ρ.2.2.2.2.1 ρ.2.2.2.2.2 pl_oldRing pl_path pl_pathLength pl_queue pl_origin pl_inside pl_ends pl_ring pl_choices) t.heap ∧ va_D A (wX4 cA a_pl pl_rest ρ.1 ρ.2.1 ρ.2.2.1 ρ.2.2.2.1 ρ.2.2.2.2.1 ρ.2.2.2.2.2 pl_oldRing pl_path pl_pathLength pl_queue pl_origin pl_inside pl_ends pl_ring pl_choices)) A) ([.ref (a_pl 0)] : List Value).toArray s 0 0 A) (F0 m 48 ls []) := by
    intro n48
    induction n48 with
    | zero =>
      intro x1 pl_sketch pl_placed pl_rings pl_ringNodes pl_ringLength pl_ringSet H locs ls hl hP hD hS hf
      cases (show (none : Option ((Nat → Int32) × Int32 × Int32 × (Nat → Int32) × (Nat → Int32) × (Nat → Int32))) = some ρ from hf)
    | succ n48 ih48 =>
      intro x1 pl_sketch pl_placed pl_rings pl_ringNodes pl_ringLength pl_ringSet H locs ls hl hP hD hS hf
      refine lv_iload_n hx hb dX4_startSketch_48 rfl (lv_at hl 1 rfl) ?_
      refine lv_aload_n hx hb dX4_startSketch_49 rfl (lv_at hl 0 rfl) ?_
      refine va_get (D := D) (ci := 4) (C := RX4) (T := TX4) (N := 16) hx hb hT kwX4 hown hK.1 hP 0 rfl rfl 3 (by decide) (hT _ kf_X4_93) (fun _ h9 => h9) rfl dX4_startSketch_50 ?_
      refine lv_icmp_ge (tgt := 102) hx hb dX4_startSketch_53 (by decide) (fun c_5 => ?_) (fun c_5 => ?_)
      · have hf := ite_t c_5 hf
        have eR := some_i hf
        exact W.vret hx hb hr (fun t ht hW => ⟨⟨(), rfl, trivial, by rw [← eR, ht]; exact hP, by rw [← eR]; exact hD⟩, hS.F ht⟩) hS.2.2 dX4_startSketch_102 (hlocks := hlk)
      · have hf := ite_f c_5 hf
        refine lv_aload_n hx hb dX4_startSketch_56 rfl (lv_at hl 0 rfl) ?_
        refine va_get (D := D) (ci := 4) (C := RX4) (T := TX4) (N := 16) hx hb hT kwX4 hown hK.1 hP 0 rfl rfl 8 (by decide) (hT _ kf_X4_30) (fun _ h9 => h9) rfl dX4_startSketch_57 ?_
        refine lv_iconst (v := 0) hx hb dX4_startSketch_60 (by decide) ?_
        refine lv_aload_n hx hb dX4_startSketch_61 rfl (lv_at hl 0 rfl) ?_
        refine va_get (D := D) (ci := 4) (C := RX4) (T := TX4) (N := 16) hx hb hT kwX4 hown hK.1 hP 0 rfl rfl 4 (by decide) (hT _ kf_X4_18) (fun _ h9 => h9) rfl dX4_startSketch_62 ?_
        refine lv_iload_n hx hb dX4_startSketch_65 rfl (lv_at hl 1 rfl) ?_
        refine lv_bipush (v := 9) hx hb dX4_startSketch_66 (by decide) ?_
        refine lv_imul hx hb dX4_startSketch_68 ?_
        refine lv_aload_n hx hb dX4_startSketch_69 rfl (lv_at hl 0 rfl) ?_
        refine va_get (D := D) (ci := 4) (C := RX4) (T := TX4) (N := 16) hx hb hT kwX4 hown hK.1 hP 0 rfl rfl 9 (by decide) (hT _ kf_X4_83) (fun _ h9 => h9) rfl dX4_startSketch_70 ?_
        obtain ⟨h_6, hf⟩ := chk_s hf
        obtain ⟨h_6a, h_6b, h_6c, h_6d, h_6e⟩ := cpok_n h_6
        refine va_copyi hx hb (hml.trans hl.1.symm) hown (hT _ km_X4_39) (hT _ kv_System_arraycopy) (hT _ kt_System_arraycopy) (hT _ kin_J10) hK.1 hP hD hS 7 3 0 0 rfl rfl rfl rfl rfl h_6a h_6b h_6c h_6d h_6e (fun _ _ => rfl) (by decide) (Nat.le_of_ble_eq_true rfl) dX4_startSketch_73 (fun H locs hP hD hS => ?_)
        have hP : va_P D vwCl (wX4 cA a_pl pl_rest pl_sketch pl_placed pl_rings (va_cpy pl_path pl_ringNodes (0 : Int32).toNatClampNeg (x1 * 9).toNatClampNeg pl_pathLength.toNatClampNeg) pl_ringLength pl_ringSet pl_oldRing pl_path pl_pathLength pl_queue pl_origin pl_inside pl_ends pl_ring pl_choices) H := hP
        have hD : va_D A (wX4 cA a_pl pl_rest pl_sketch pl_placed pl_rings (va_cpy pl_path pl_ringNodes (0 : Int32).toNatClampNeg (x1 * 9).toNatClampNeg pl_pathLength.toNatClampNeg) pl_ringLength pl_ringSet pl_oldRing pl_path pl_pathLength pl_queue pl_origin pl_inside pl_ends pl_ring pl_choices) := hD
        refine lv_aload_n hx hb dX4_startSketch_76 rfl (lv_at hl 0 rfl) ?_
        refine va_get (D := D) (ci := 4) (C := RX4) (T := TX4) (N := 16) hx hb hT kwX4 hown hK.1 hP 0 rfl rfl 5 (by decide) (hT _ kf_X4_21) (fun _ h9 => h9) rfl dX4_startSketch_77 ?_
        refine lv_iload_n hx hb dX4_startSketch_80 rfl (lv_at hl 1 rfl) ?_
        refine lv_aload_n hx hb dX4_startSketch_81 rfl (lv_at hl 0 rfl) ?_
        refine va_get (D := D) (ci := 4) (C := RX4) (T := TX4) (N := 16) hx hb hT kwX4 hown hK.1 hP 0 rfl rfl 9 (by decide) (hT _ kf_X4_83) (fun _ h9 => h9) rfl dX4_startSketch_82 ?_
        obtain ⟨h_7, hf⟩ := chk_s hf
        refine va_iast hx hb hK.1 hP hD hS 4 0 rfl rfl (inb_in h_7) dX4_startSketch_85 (fun H locs hP hD hS => ?_)
        have hP : va_P D vwCl (wX4 cA a_pl pl_rest pl_sketch pl_placed pl_rings (va_cpy pl_path pl_ringNodes (0 : Int32).toNatClampNeg (x1 * 9).toNatClampNeg pl_pathLength.toNatClampNeg) (upd pl_ringLength x1.toNatClampNeg pl_pathLength) pl_ringSet pl_oldRing pl_path pl_pathLength pl_queue pl_origin pl_inside pl_ends pl_ring pl_choices) H := hP
        have hD : va_D A (wX4 cA a_pl pl_rest pl_sketch pl_placed pl_rings (va_cpy pl_path pl_ringNodes (0 : Int32).toNatClampNeg (x1 * 9).toNatClampNeg pl_pathLength.toNatClampNeg) (upd pl_ringLength x1.toNatClampNeg pl_pathLength) pl_ringSet pl_oldRing pl_path pl_pathLength pl_queue pl_origin pl_inside pl_ends pl_ring pl_choices) := hD
        refine lv_aload_n hx hb dX4_startSketch_86 rfl (lv_at hl 0 rfl) ?_
        refine va_get (D := D) (ci := 4) (C := RX4) (T := TX4) (N := 16) hx hb hT kwX4 hown hK.1 hP 0 rfl rfl 6 (by decide) (hT _ kf_X4_24) (fun _ h9 => h9) rfl dX4_startSketch_87 ?_
        refine lv_iload_n hx hb dX4_startSketch_90 rfl (lv_at hl 1 rfl) ?_
        refine lv_aload_n hx hb dX4_startSketch_91 rfl (lv_at hl 0 rfl) ?_
        refine va_get (D := D) (ci := 4) (C := RX4) (T := TX4) (N := 16) hx hb hT kwX4 hown hK.1 hP 0 rfl rfl 2 (by decide) (hT _ kf_X4_120) (fun _ h9 => h9) rfl dX4_startSketch_92 ?_
        obtain ⟨h_8, hf⟩ := chk_s hf
        refine va_iast hx hb hK.1 hP hD hS 5 0 rfl rfl (inb_in h_8) dX4_startSketch_95 (fun H locs hP hD hS => ?_)
        have hP : va_P D vwCl (wX4 cA a_pl pl_rest pl_sketch pl_placed pl_rings (va_cpy pl_path pl_ringNodes (0 : Int32).toNatClampNeg (x1 * 9).toNatClampNeg pl_pathLength.toNatClampNeg) (upd pl_ringLength x1.toNatClampNeg pl_pathLength) (upd pl_ringSet x1.toNatClampNeg pl_placed) pl_oldRing pl_path pl_pathLength pl_queue pl_origin pl_inside pl_ends pl_ring pl_choices) H := hP
        have hD : va_D A (wX4 cA a_pl pl_rest pl_sketch pl_placed pl_rings (va_cpy pl_path pl_ringNodes (0 : Int32).toNatClampNeg (x1 * 9).toNatClampNeg pl_pathLength.toNatClampNeg) (upd pl_ringLength x1.toNatClampNeg pl_pathLength) (upd pl_ringSet x1.toNatClampNeg pl_placed) pl_oldRing pl_path pl_pathLength pl_queue pl_origin pl_inside pl_ends pl_ring pl_choices) := hD
        refine lv_iinc (v := (x1 + 1)) (lv' := [(1, .int (x1 + 1)), (0, .ref (a_pl 0))]) hx hb dX4_startSketch_96 hl (k := 1) rfl rfl (by decide) rfl (fun ls hl => ?_)
        refine lv_goto (tgt := 48) hx hb dX4_startSketch_99 (by decide) ?_
        exact ih48 (x1 + 1) pl_sketch pl_placed pl_rings (va_cpy pl_path pl_ringNodes (0 : Int32).toNatClampNeg (x1 * 9).toNatClampNeg pl_pathLength.toNatClampNeg) (upd pl_ringLength x1.toNatClampNeg pl_pathLength) (upd pl_ringSet x1.toNatClampNeg pl_placed) _ _ _ (lv_sub hl [1, 0] rfl) hP hD hS hf
  refine lv_aload_n hx hb dX4_startSketch_0 rfl (lv_at hl 0 rfl) ?_
  refine va_get (D := D) (ci := 4) (C := RX4) (T := TX4) (N := 16) hx hb hT kwX4 hown hK.1 hP 0 rfl rfl 1 (by decide) (hT _ kf_X4_15) (fun _ h9 => h9) rfl dX4_startSketch_1 ?_
  refine lv_iconst (v := 0) hx hb dX4_startSketch_4 (by decide) ?_
  refine backWv (w2 := (wX4 cA a_pl pl_rest (filled 9 (0 : Int32) pl_sketch) pl_placed pl_rings pl_ringNodes pl_ringLength pl_ringSet pl_oldRing pl_path pl_pathLength pl_queue pl_origin pl_inside pl_ends pl_ring pl_choices)) (runSw C (c_J7_fill_53178 l D cA (a_pl 2) 9 (by decide) pl_sketch (0 : Int32) _) cf_J7_fill_53178 km_X4_114 ⟨rfl, rfl, by decide, by decide⟩ ⟨Nat.zero_le _, Nat.zero_le _⟩ (hP.sub [2] rfl) (hD.sub [2] rfl rfl) hK hl.1 rfl rfl (Nat.le_of_ble_eq_true rfl) dX4_startSketch_5) hP hD hS hA [2] rfl [0, 1, 3, 4, 5, 6, 7, 8, 9] rfl rfl (by decide) [0, 1, 9, 2, 3, 4, 5, 6, 7, 8] rfl rfl (fun H locs hP hD hS => ?_)
  refine lv_aload_n hx hb dX4_startSketch_8 rfl (lv_at hl 0 rfl) ?_
  refine lv_iconst (v := 0) hx hb dX4_startSketch_9 (by decide) ?_
  refine va_put (D := D) (ci := 4) (v := .int 0) (ty := .int) (C := RX4) (T := TX4) (N := 16) hx hb hT kwX4 tyX4 tyX4_ok nmX4 hown hK.1 hP hD hS 0 rfl rfl 2 (by decide) (hT _ kf_X4_120) (fun _ h9 => h9) rfl (by decide +kernel) rfl rfl (Nat.le_of_ble_eq_true rfl) dX4_startSketch_10 (fun H locs hP hD hS => ?_)
  have hP : va_P D vwCl (wX4 cA a_pl pl_rest (filled 9 (0 : Int32) pl_sketch) 0 pl_rings pl_ringNodes pl_ringLength pl_ringSet pl_oldRing pl_path pl_pathLength pl_queue pl_origin pl_inside pl_ends pl_ring pl_choices) H := hP
  have hD : va_D A (wX4 cA a_pl pl_rest (filled 9 (0 : Int32) pl_sketch) 0 pl_rings pl_ringNodes pl_ringLength pl_ringSet pl_oldRing pl_path pl_pathLength pl_queue pl_origin pl_inside pl_ends pl_ring pl_choices) := hD
  refine lv_aload_n hx hb dX4_startSketch_13 rfl (lv_at hl 0 rfl) ?_
  obtain ⟨r_1, hcr_1, hf⟩ := bd1_s hf
  refine backWv (w2 := (wX4 cA a_pl pl_rest r_1.1 r_1.2 pl_rings pl_ringNodes pl_ringLength pl_ringSet pl_oldRing pl_path pl_pathLength pl_queue pl_origin pl_inside pl_ends pl_ring pl_choices)) (runVw C (c_X4_drawPath l D cA a_pl pl_rest (filled 9 (0 : Int32) pl_sketch) 0 pl_rings pl_ringNodes pl_ringLength pl_ringSet pl_oldRing pl_path pl_pathLength pl_queue pl_origin pl_inside pl_ends pl_ring pl_choices _ N r_1 hcr_1) cf_X4_drawPath km_X4_111 ⟨rfl, rfl, by decide, by decide⟩ ⟨Nat.zero_le _, Nat.zero_le _⟩ (va_recv hK.1 hP (ci := 4) (q0 := 0) rfl rfl) (hP.sub [0, 1, 2, 3, 4, 5, 6, 7, 8, 9] rfl) (hD.sub [0, 1, 2, 3, 4, 5, 6, 7, 8, 9] rfl rfl) hK hl.1 rfl rfl (Nat.le_of_ble_eq_true rfl) dX4_startSketch_14) hP hD hS hA [0, 1, 2, 3, 4, 5, 6, 7, 8, 9] rfl [] rfl rfl (by decide) [0, 1, 2, 3, 4, 5, 6, 7, 8, 9] rfl rfl (fun H locs hP hD hS => ?_)
  refine lv_aload_n hx hb dX4_startSketch_17 rfl (lv_at hl 0 rfl) ?_
  refine va_get (D := D) (ci := 4) (C := RX4) (T := TX4) (N := 16) hx hb hT kwX4 hown hK.1 hP 0 rfl rfl 1 (by decide) (hT _ kf_X4_15) (fun _ h9 => h9) rfl dX4_startSketch_18 ?_
  refine lv_aload_n hx hb dX4_startSketch_21 rfl (lv_at hl 0 rfl) ?_
  refine va_get (D := D) (ci := 4) (C := RX4) (T := TX4) (N := 16) hx hb hT kwX4 hown hK.1 hP 0 rfl rfl 8 (by decide) (hT _ kf_X4_30) (fun _ h9 => h9) rfl dX4_startSketch_22 ?_
  refine lv_iconst (v := 0) hx hb dX4_startSketch_25 (by decide) ?_
  obtain ⟨h_2, hf⟩ := chk_s hf
  refine va_iald hx hb hK.1 hP 7 0 rfl rfl (inb_in h_2) dX4_startSketch_26 ?_
  refine lv_aload_n hx hb dX4_startSketch_27 rfl (lv_at hl 0 rfl) ?_
  refine va_get (D := D) (ci := 4) (C := RX4) (T := TX4) (N := 16) hx hb hT kwX4 hown hK.1 hP 0 rfl rfl 8 (by decide) (hT _ kf_X4_30) (fun _ h9 => h9) rfl dX4_startSketch_28 ?_
  refine lv_aload_n hx hb dX4_startSketch_31 rfl (lv_at hl 0 rfl) ?_
  refine va_get (D := D) (ci := 4) (C := RX4) (T := TX4) (N := 16) hx hb hT kwX4 hown hK.1 hP 0 rfl rfl 9 (by decide) (hT _ kf_X4_83) (fun _ h9 => h9) rfl dX4_startSketch_32 ?_
  refine lv_iconst (v := 1) hx hb dX4_startSketch_35 (by decide) ?_
  refine lv_isub hx hb dX4_startSketch_36 ?_
  obtain ⟨h_3, hf⟩ := chk_s hf
  refine va_iald hx hb hK.1 hP 7 0 rfl rfl (inb_in h_3) dX4_startSketch_37 ?_
  obtain ⟨r_4, hcr_4, hf⟩ := bd1_s hf
  refine backWv (w2 := (wX4 cA a_pl pl_rest r_4 r_1.2 pl_rings pl_ringNodes pl_ringLength pl_ringSet pl_oldRing pl_path pl_pathLength pl_queue pl_origin pl_inside pl_ends pl_ring pl_choices)) (runNw C (c_X7_toggleLink l D cA (a_pl 2) r_1.1 (pl_path (0 : Int32).toNatClampNeg) (pl_path (pl_pathLength - 1).toNatClampNeg) _ N r_4 hcr_4) cf_X7_toggleLink kn_X4_123 ⟨rfl, rfl, by decide, by decide⟩ ⟨Nat.zero_le _, Nat.zero_le _⟩ (hP.sub [2] rfl) (hD.sub [2] rfl rfl) hK hl.1 rfl rfl (Nat.le_of_ble_eq_true rfl) dX4_startSketch_38) hP hD hS hA [2] rfl [0, 1, 3, 4, 5, 6, 7, 8, 9] rfl rfl (by decide) [0, 1, 9, 2, 3, 4, 5, 6, 7, 8] rfl rfl (fun H locs hP hD hS => ?_)
  refine lv_aload_n hx hb dX4_startSketch_41 rfl (lv_at hl 0 rfl) ?_
  refine lv_iconst (v := 2) hx hb dX4_startSketch_42 (by decide) ?_
  refine va_put (D := D) (ci := 4) (v := .int 2) (ty := .int) (C := RX4) (T := TX4) (N := 16) hx hb hT kwX4 tyX4 tyX4_ok nmX4 hown hK.1 hP hD hS 0 rfl rfl 3 (by decide) (hT _ kf_X4_93) (fun _ h9 => h9) rfl (by decide +kernel) rfl rfl (Nat.le_of_ble_eq_true rfl) dX4_startSketch_43 (fun H locs hP hD hS => ?_)
  have hP : va_P D vwCl (wX4 cA a_pl pl_rest r_4 r_1.2 2 pl_ringNodes pl_ringLength pl_ringSet pl_oldRing pl_path pl_pathLength pl_queue pl_origin pl_inside pl_ends pl_ring pl_choices) H := hP
  have hD : va_D A (wX4 cA a_pl pl_rest r_4 r_1.2 2 pl_ringNodes pl_ringLength pl_ringSet pl_oldRing pl_path pl_pathLength pl_queue pl_origin pl_inside pl_ends pl_ring pl_choices) := hD
  refine lv_iconst (v := 0) hx hb dX4_startSketch_46 (by decide) ?_
  refine lv_istore_n (lv' := [(1, .int 0), (0, .ref (a_pl 0))]) hx hb dX4_startSketch_47 rfl hl (by decide) rfl (fun ls hl => ?_)
  exact B48 N 0 r_4 r_1.2 2 pl_ringNodes pl_ringLength pl_ringSet _ _ _ (lv_sub hl [1, 0] rfl) hP hD hS hf
set_option maxRecDepth 100000 in
set_option maxHeartbeats 4000000 in
theorem c_X4_weigh (l : Launch) (D : va_G) (cA : Nat → ClassId) (a_pl : Nat → Nat) (pl_rest : Nat → Int32) (pl_sketch : Nat → Int32) (pl_placed : Int32) (pl_rings : Int32) (pl_ringNodes : Nat → Int32) (pl_ringLength : Nat → Int32) (pl_ringSet : Nat → Int32) (pl_oldRing : Nat → Int32) (pl_path : Nat → Int32) (pl_pathLength : Int32) (pl_queue : Nat → Int32) (pl_origin : Nat → Int32) (pl_inside : Int32) (pl_ends : Int32) (pl_ring : Int32) (pl_choices : Int32) (p1 : Int32) (p2 : Int32) (sz N : Nat) (ρ : Int32 × Int32 × Int32 × Int32 × Int32) (hf : f_X4_weigh N pl_rings pl_ringSet pl_inside pl_ends pl_ring pl_choices p1 p2 = some ρ) : Met l yX4_weigh (Cond.code yX4_weigh cX4_weigh 6 (Option.some Jvm.ClassFile.FieldType.boolean) :: lw_g) ({ frames := 0, cells := 0, slots := 0, locals := 0 } : Room) (PcW D (tyA cA) (wX4 cA a_pl pl_rest pl_sketch pl_placed pl_rings pl_ringNodes pl_ringLength pl_ringSet pl_oldRing pl_path pl_pathLength pl_queue pl_origin pl_inside pl_ends pl_ring pl_choices) sz [.ref (a_pl 0), .int p1, .int p2]) (va_Qi (fun r (_ : Unit) => r = ρ.1) (fun _ t => va_P D vwCl (wX4 cA a_pl pl_rest pl_sketch pl_placed pl_rings pl_ringNodes pl_ringLength pl_ringSet pl_oldRing pl_path pl_pathLength pl_queue pl_origin ρ.2.1 ρ.2.2.1 ρ.2.2.2.1 ρ.2.2.2.2) t.heap ∧ va_D (va_A (wX4 cA a_pl pl_rest pl_sketch pl_placed pl_rings pl_ringNodes pl_ringLength pl_ringSet pl_oldRing pl_path pl_pathLength pl_queue pl_origin pl_inside pl_ends pl_ring pl_choices) sz) (wX4 cA a_pl pl_rest pl_sketch pl_placed pl_rings pl_ringNodes pl_ringLength pl_ringSet pl_oldRing pl_path pl_pathLength pl_queue pl_origin ρ.2.1 ρ.2.2.1 ρ.2.2.2.1 ρ.2.2.2.2)) (va_A (wX4 cA a_pl pl_rest pl_sketch pl_placed pl_rings pl_ringNodes pl_ringLength pl_ringSet pl_oldRing pl_path pl_pathLength pl_queue pl_origin pl_inside pl_ends pl_ring pl_choices) sz)) 0 0 (va_A (wX4 cA a_pl pl_rest pl_sketch pl_placed pl_rings pl_ringNodes pl_ringLength pl_ringSet pl_oldRing pl_path pl_pathLength pl_queue pl_origin pl_inside pl_ends pl_ring pl_choices) sz) := by
  refine mkW (QQ := fun A => va_Qi (fun r (_ : Unit) => r = ρ.1) (fun _ t => va_P D vwCl (wX4 cA a_pl pl_rest pl_sketch pl_placed pl_rings pl_ringNodes pl_ringLength pl_ringSet pl_oldRing pl_path pl_pathLength pl_queue pl_origin ρ.2.1 ρ.2.2.1 ρ.2.2.2.1 ρ.2.2.2.2) t.heap ∧ va_D A (wX4 cA a_pl pl_rest pl_sketch pl_placed pl_rings pl_ringNodes pl_ringLength pl_ringSet pl_oldRing pl_path pl_pathLength pl_queue pl_origin ρ.2.1 ρ.2.2.1 ρ.2.2.2.1 ρ.2.2.2.2)) A) (by decide) (Nat.le_of_ble_eq_true rfl) fun p e s m below meth c ls A C hl hP hK hD hA hS => ?_
  obtain ⟨hx, hb, hml, hown, hT, hr, hlk⟩ := id C
  have hl : lv_has ls 6 [(0, .ref (a_pl 0)), (1, .int p1), (2, .int p2)] := hl
  have B80 : ∀ (x3 : Int32) (pl_inside : Int32) (pl_ends : Int32) (pl_ring : Int32) (pl_choices : Int32) (H : Heap) (locs : List Loc) (ls : Array Slot), lv_has ls 6 [(3, .int x3)] → va_P D vwCl (wX4 cA a_pl pl_rest pl_sketch pl_placed pl_rings pl_ringNodes pl_ringLength pl_ringSet pl_oldRing pl_path pl_pathLength pl_queue pl_origin pl_inside pl_ends pl_ring pl_choices) H → va_D A (wX4 cA a_pl pl_rest pl_sketch pl_placed pl_rings pl_ringNodes pl_ringLength pl_ringSet pl_oldRing pl_path pl_pathLength pl_queue pl_origin pl_inside pl_ends pl_ring pl_choices) → va_S A s.heap H locs → f_X4_weigh_b80 N pl_rings pl_ringSet x3 pl_inside pl_ends pl_ring pl_choices = some ρ → W p l e ({ frames := 0, cells := 0, slots := 0, locals := 0 } : Room) s m ([.ref (a_pl 0), .int p1, .int p2] : List Value).toArray below meth c H locs 0 0 (MQ below (va_Qi (fun r (_ : Unit) => r = ρ.1) (fun _ t => va_P D vwCl (wX4 cA a_pl pl_rest pl_sketch pl_placed pl_rings pl_ringNodes pl_ringLength pl_ringSet pl_oldRing pl_path pl_pathLength pl_queue pl_origin ρ.2.1 ρ.2.2.1 ρ.2.2.2.1 ρ.2.2.2.2) t.heap ∧ va_D A (wX4 cA a_pl pl_rest pl_sketch pl_placed pl_rings pl_ringNodes pl_ringLength pl_ringSet pl_oldRing pl_path pl_pathLength pl_queue pl_origin ρ.2.1 ρ.2.2.1 ρ.2.2.2.1 ρ.2.2.2.2)) A) ([.ref (a_pl 0), .int p1, .int p2] : List Value).toArray s 0 0 A) (F0 m 80 ls []) := by
    intro x3 pl_inside pl_ends pl_ring pl_choices H locs ls hl hP hD hS hf
    refine lv_iload_n hx hb dX4_weigh_80 rfl (lv_at hl 0 rfl) ?_
    refine lv_if_le (tgt := 88) hx hb dX4_weigh_81 (by decide) (fun c_6 => ?_) (fun c_6 => ?_)
    · have hf := ite_t c_6 hf
      refine lv_iconst (v := 0) hx hb dX4_weigh_88 (by decide) ?_
      have eR := some_i hf
      exact W.zret hx hb hr (by decide) (fun t ht hW => ⟨⟨0, (), rfl, fst_e eR, by rw [← eR, ht]; exact hP, by rw [← eR]; exact hD⟩, hS.F ht⟩) hS.2.2 dX4_weigh_89 (hlocks := hlk)
    · have hf := ite_f c_6 hf
      refine lv_iconst (v := 1) hx hb dX4_weigh_84 (by decide) ?_
      refine lv_goto (tgt := 89) hx hb dX4_weigh_85 (by decide) ?_
      have eR := some_i hf
      exact W.zret hx hb hr (by decide) (fun t ht hW => ⟨⟨1, (), rfl, fst_e eR, by rw [← eR, ht]; exact hP, by rw [← eR]; exact hD⟩, hS.F ht⟩) hS.2.2 dX4_weigh_89 (hlocks := hlk)
  have B59 : ∀ (x1 : Int32) (x2 : Int32) (x3 : Int32) (x4 : Int32) (pl_inside : Int32) (pl_ends : Int32) (pl_ring : Int32) (pl_choices : Int32) (H : Heap) (locs : List Loc) (ls : Array Slot), lv_has ls 6 [(0, .ref (a_pl 0)), (1, .int x1), (2, .int x2), (3, .int x3), (4, .int x4)] → va_P D vwCl (wX4 cA a_pl pl_rest pl_sketch pl_placed pl_rings pl_ringNodes pl_ringLength pl_ringSet pl_oldRing pl_path pl_pathLength pl_queue pl_origin pl_inside pl_ends pl_ring pl_choices) H → va_D A (wX4 cA a_pl pl_rest pl_sketch pl_placed pl_rings pl_ringNodes pl_ringLength pl_ringSet pl_oldRing pl_path pl_pathLength pl_queue pl_origin pl_inside pl_ends pl_ring pl_choices) → va_S A s.heap H locs → f_X4_weigh_b59 N pl_rings pl_ringSet x1 x2 x3 x4 pl_inside pl_ends pl_ring pl_choices = some ρ → W p l e ({ frames := 0, cells := 0, slots := 0, locals := 0 } : Room) s m ([.ref (a_pl 0), .int p1, .int p2] : List Value).toArray below meth c H locs 0 0 (MQ below (va_Qi (fun r (_ : Unit) => r = ρ.1) (fun _ t => va_P D vwCl (wX4 cA a_pl pl_rest pl_sketch pl_placed pl_rings pl_ringNodes pl_ringLength pl_ringSet pl_oldRing pl_path pl_pathLength pl_queue pl_origin ρ.2.1 ρ.2.2.1 ρ.2.2.2.1 ρ.2.2.2.2) t.heap ∧ va_D A (wX4 cA a_pl pl_rest pl_sketch pl_placed pl_rings pl_ringNodes pl_ringLength pl_ringSet pl_oldRing pl_path pl_pathLength pl_queue pl_origin ρ.2.1 ρ.2.2.1 ρ.2.2.2.1 ρ.2.2.2.2)) A) ([.ref (a_pl 0), .int p1, .int p2] : List Value).toArray s 0 0 A) (F0 m 59 ls []) := by
    intro x1 x2 x3 x4 pl_inside pl_ends pl_ring pl_choices H locs ls hl hP hD hS hf
    refine lv_aload_n hx hb dX4_weigh_59 rfl (lv_at hl 0 rfl) ?_
    refine lv_iload_n hx hb dX4_weigh_60 rfl (lv_at hl 1 rfl) ?_
    refine va_put (D := D) (ci := 4) (v := .int x1) (ty := .int) (C := RX4) (T := TX4) (N := 16) hx hb hT kwX4 tyX4 tyX4_ok nmX4 hown hK.1 hP hD hS 0 rfl rfl 12 (by decide) (hT _ kf_X4_137) (fun _ h9 => h9) rfl (by decide +kernel) rfl rfl (Nat.le_of_ble_eq_true rfl) dX4_weigh_61 (fun H locs hP hD hS => ?_)
    have hP : va_P D vwCl (wX4 cA a_pl pl_rest pl_sketch pl_placed pl_rings pl_ringNodes pl_ringLength pl_ringSet pl_oldRing pl_path pl_pathLength pl_queue pl_origin x1 pl_ends pl_ring pl_choices) H := hP
    have hD : va_D A (wX4 cA a_pl pl_rest pl_sketch pl_placed pl_rings pl_ringNodes pl_ringLength pl_ringSet pl_oldRing pl_path pl_pathLength pl_queue pl_origin x1 pl_ends pl_ring pl_choices) := hD
    refine lv_aload_n hx hb dX4_weigh_64 rfl (lv_at hl 0 rfl) ?_
    refine lv_iload_n hx hb dX4_weigh_65 rfl (lv_at hl 2 rfl) ?_
    refine va_put (D := D) (ci := 4) (v := .int x2) (ty := .int) (C := RX4) (T := TX4) (N := 16) hx hb hT kwX4 tyX4 tyX4_ok nmX4 hown hK.1 hP hD hS 0 rfl rfl 13 (by decide) (hT _ kf_X4_96) (fun _ h9 => h9) rfl (by decide +kernel) rfl rfl (Nat.le_of_ble_eq_true rfl) dX4_weigh_66 (fun H locs hP hD hS => ?_)
    have hP : va_P D vwCl (wX4 cA a_pl pl_rest pl_sketch pl_placed pl_rings pl_ringNodes pl_ringLength pl_ringSet pl_oldRing pl_path pl_pathLength pl_queue pl_origin x1 x2 pl_ring pl_choices) H := hP
    have hD : va_D A (wX4 cA a_pl pl_rest pl_sketch pl_placed pl_rings pl_ringNodes pl_ringLength pl_ringSet pl_oldRing pl_path pl_pathLength pl_queue pl_origin x1 x2 pl_ring pl_choices) := hD
    refine lv_aload_n hx hb dX4_weigh_69 rfl (lv_at hl 0 rfl) ?_
    refine lv_iload hx hb dX4_weigh_70 (lv_at hl 4 rfl) ?_
    refine va_put (D := D) (ci := 4) (v := .int x4) (ty := .int) (C := RX4) (T := TX4) (N := 16) hx hb hT kwX4 tyX4 tyX4_ok nmX4 hown hK.1 hP hD hS 0 rfl rfl 14 (by decide) (hT _ kf_X4_140) (fun _ h9 => h9) rfl (by decide +kernel) rfl rfl (Nat.le_of_ble_eq_true rfl) dX4_weigh_72 (fun H locs hP hD hS => ?_)
    have hP : va_P D vwCl (wX4 cA a_pl pl_rest pl_sketch pl_placed pl_rings pl_ringNodes pl_ringLength pl_ringSet pl_oldRing pl_path pl_pathLength pl_queue pl_origin x1 x2 x4 pl_choices) H := hP
    have hD : va_D A (wX4 cA a_pl pl_rest pl_sketch pl_placed pl_rings pl_ringNodes pl_ringLength pl_ringSet pl_oldRing pl_path pl_pathLength pl_queue pl_origin x1 x2 x4 pl_choices) := hD
    refine lv_aload_n hx hb dX4_weigh_75 rfl (lv_at hl 0 rfl) ?_
    refine lv_iload_n hx hb dX4_weigh_76 rfl (lv_at hl 3 rfl) ?_
    refine va_put (D := D) (ci := 4) (v := .int x3) (ty := .int) (C := RX4) (T := TX4) (N := 16) hx hb hT kwX4 tyX4 tyX4_ok nmX4 hown hK.1 hP hD hS 0 rfl rfl 15 (by decide) (hT _ kf_X4_134) (fun _ h9 => h9) rfl (by decide +kernel) rfl rfl (Nat.le_of_ble_eq_true rfl) dX4_weigh_77 (fun H locs hP hD hS => ?_)
    have hP : va_P D vwCl (wX4 cA a_pl pl_rest pl_sketch pl_placed pl_rings pl_ringNodes pl_ringLength pl_ringSet pl_oldRing pl_path pl_pathLength pl_queue pl_origin x1 x2 x4 x3) H := hP
    have hD : va_D A (wX4 cA a_pl pl_rest pl_sketch pl_placed pl_rings pl_ringNodes pl_ringLength pl_ringSet pl_oldRing pl_path pl_pathLength pl_queue pl_origin x1 x2 x4 x3) := hD
    exact B80 x3 x1 x2 x4 x3 _ _ _ (lv_sub hl [3] rfl) hP hD hS hf
  have B44 : ∀ (x1 : Int32) (x2 : Int32) (x3 : Int32) (x4 : Int32) (pl_inside : Int32) (pl_ends : Int32) (pl_ring : Int32) (pl_choices : Int32) (H : Heap) (locs : List Loc) (ls : Array Slot), lv_has ls 6 [(0, .ref (a_pl 0)), (1, .int x1), (2, .int x2), (3, .int x3), (4, .int x4)] → va_P D vwCl (wX4 cA a_pl pl_rest pl_sketch pl_placed pl_rings pl_ringNodes pl_ringLength pl_ringSet pl_oldRing pl_path pl_pathLength pl_queue pl_origin pl_inside pl_ends pl_ring pl_choices) H → va_D A (wX4 cA a_pl pl_rest pl_sketch pl_placed pl_rings pl_ringNodes pl_ringLength pl_ringSet pl_oldRing pl_path pl_pathLength pl_queue pl_origin pl_inside pl_ends pl_ring pl_choices) → va_S A s.heap H locs → f_X4_weigh_b44 N pl_rings pl_ringSet x1 x2 x3 x4 pl_inside pl_ends pl_ring pl_choices = some ρ → W p l e ({ frames := 0, cells := 0, slots := 0, locals := 0 } : Room) s m ([.ref (a_pl 0), .int p1, .int p2] : List Value).toArray below meth c H locs 0 0 (MQ below (va_Qi (fun r (_ : Unit) => r = ρ.1) (fun _ t => va_P D vwCl (wX4 cA a_pl pl_rest pl_sketch pl_placed pl_rings pl_ringNodes pl_ringLength pl_ringSet pl_oldRing pl_path pl_pathLength pl_queue pl_origin ρ.2.1 ρ.2.2.1 ρ.2.2.2.1 ρ.2.2.2.2) t.heap ∧ va_D A (wX4 cA a_pl pl_rest pl_sketch pl_placed pl_rings pl_ringNodes pl_ringLength pl_ringSet pl_oldRing pl_path pl_pathLength pl_queue pl_origin ρ.2.1 ρ.2.2.1 ρ.2.2.2.1 ρ.2.2.2.2)) A) ([.ref (a_pl 0), .int p1, .int p2] : List Value).toArray s 0 0 A) (F0 m 44 ls []) := by
    intro x1 x2 x3 x4 pl_inside pl_ends pl_ring pl_choices H locs ls hl hP hD hS hf
    refine lv_aload_n hx hb dX4_weigh_44 rfl (lv_at hl 0 rfl) ?_
    refine va_get (D := D) (ci := 4) (C := RX4) (T := TX4) (N := 16) hx hb hT kwX4 hown hK.1 hP 0 rfl rfl 13 (by decide) (hT _ kf_X4_96) (fun _ h9 => h9) rfl dX4_weigh_45 ?_
    refine lv_if_eq (tgt := 59) hx hb dX4_weigh_48 (by decide) (fun c_4 => ?_) (fun c_4 => ?_)
    · have hf := ite_t c_4 hf
      exact B59 x1 x2 x3 x4 pl_inside pl_ends pl_ring pl_choices _ _ _ (lv_sub hl [0, 1, 2, 3, 4] rfl) hP hD hS hf
    · have hf := ite_f c_4 hf
      refine lv_iload_n hx hb dX4_weigh_51 rfl (lv_at hl 3 rfl) ?_
      refine lv_aload_n hx hb dX4_weigh_52 rfl (lv_at hl 0 rfl) ?_
      refine va_get (D := D) (ci := 4) (C := RX4) (T := TX4) (N := 16) hx hb hT kwX4 hown hK.1 hP 0 rfl rfl 15 (by decide) (hT _ kf_X4_134) (fun _ h9 => h9) rfl dX4_weigh_53 ?_
      refine lv_icmp_ge (tgt := 80) hx hb dX4_weigh_56 (by decide) (fun c_5 => ?_) (fun c_5 => ?_)
      · have hf := ite_t c_5 hf
        exact B80 x3 pl_inside pl_ends pl_ring pl_choices _ _ _ (lv_sub hl [3] rfl) hP hD hS hf
      · have hf := ite_f c_5 hf
        exact B59 x1 x2 x3 x4 pl_inside pl_ends pl_ring pl_choices _ _ _ (lv_sub hl [0, 1, 2, 3, 4] rfl) hP hD hS hf
  have B8 : ∀ (n8 : Nat), ∀ (x1 : Int32) (x2 : Int32) (x3 : Int32) (x4 : Int32) (x5 : Int32) (pl_inside : Int32) (pl_ends : Int32) (pl_ring : Int32) (pl_choices : Int32) (H : Heap) (locs : List Loc) (ls : Array Slot), lv_has ls 6 [(0, .ref (a_pl 0)), (1, .int x1), (2, .int x2), (3, .int x3), (4, .int x4), (5, .int x5)] → va_P D vwCl (wX4 cA a_pl pl_rest pl_sketch pl_placed pl_rings pl_ringNodes pl_ringLength pl_ringSet pl_oldRing pl_path pl_pathLength pl_queue pl_origin pl_inside pl_ends pl_ring pl_choices) H → va_D A (wX4 cA a_pl pl_rest pl_sketch pl_placed pl_rings pl_ringNodes pl_ringLength pl_ringSet pl_oldRing pl_path pl_pathLength pl_queue pl_origin pl_inside pl_ends pl_ring pl_choices) → va_S A s.heap H locs → f_X4_weigh_b8 N pl_rings pl_ringSet n8 x1 x2 x3 x4 x5 pl_inside pl_ends pl_ring pl_choices = some ρ → W p l e ({ frames := 0, cells := 0, slots := 0, locals := 0 } : Room) s m ([.ref (a_pl 0), .int p1, .int p2] : List Value).toArray below meth c H locs 0 0 (MQ below (va_Qi (fun r (_ : Unit) => r = ρ.1) (fun _ t => va_P D vwCl (wX4 cA a_pl pl_rest pl_sketch pl_placed pl_rings pl_ringNodes pl_ringLength pl_ringSet pl_oldRing pl_path pl_pathLength pl_queue pl_origin ρ.2.1 ρ.2.2.1 ρ.2.2.2.1 ρ.2.2.2.2) t.heap ∧ va_D A (wX4 cA a_pl pl_rest pl_sketch pl_placed pl_rings pl_ringNodes pl_ringLength pl_ringSet pl_oldRing pl_path pl_pathLength pl_queue pl_origin ρ.2.1 ρ.2.2.1 ρ.2.2.2.1 ρ.2.2.2.2)) A) ([.ref (a_pl 0), .int p1, .int p2] : List Value).toArray s 0 0 A) (F0 m 8 ls []) := by
    intro n8
    induction n8 with
    | zero =>
      intro x1 x2 x3 x4 x5 pl_inside pl_ends pl_ring pl_choices H locs ls hl hP hD hS hf
      cases (show (none : Option (Int32 × Int32 × Int32 × Int32 × Int32)) = some ρ from hf)
    | succ n8 ih8 =>
      have B38 : ∀ (x1 : Int32) (x2 : Int32) (x3 : Int32) (x4 : Int32) (x5 : Int32) (pl_inside : Int32) (pl_ends : Int32) (pl_ring : Int32) (pl_choices : Int32) (H : Heap) (locs : List Loc) (ls : Array Slot), lv_has ls 6 [(0, .ref (a_pl 0)), (1, .int x1), (2, .int x2), (3, .int x3), (4, .int x4), (5, .int x5)] → va_P D vwCl (wX4 cA a_pl pl_rest pl_sketch pl_placed pl_rings pl_ringNodes pl_ringLength pl_ringSet pl_oldRing pl_path pl_pathLength pl_queue pl_origin pl_inside pl_ends pl_ring pl_choices) H → va_D A (wX4 cA a_pl pl_rest pl_sketch pl_placed pl_rings pl_ringNodes pl_ringLength pl_ringSet pl_oldRing pl_path pl_pathLength pl_queue pl_origin pl_inside pl_ends pl_ring pl_choices) → va_S A s.heap H locs → f_X4_weigh_b38 N pl_rings pl_ringSet (f_X4_weigh_b8 N pl_rings pl_ringSet n8) x1 x2 x3 x4 x5 pl_inside pl_ends pl_ring pl_choices = some ρ → W p l e ({ frames := 0, cells := 0, slots := 0, locals := 0 } : Room) s m ([.ref (a_pl 0), .int p1, .int p2] : List Value).toArray below meth c H locs 0 0 (MQ below (va_Qi (fun r (_ : Unit) => r = ρ.1) (fun _ t => va_P D vwCl (wX4 cA a_pl pl_rest pl_sketch pl_placed pl_rings pl_ringNodes pl_ringLength pl_ringSet pl_oldRing pl_path pl_pathLength pl_queue pl_origin ρ.2.1 ρ.2.2.1 ρ.2.2.2.1 ρ.2.2.2.2) t.heap ∧ va_D A (wX4 cA a_pl pl_rest pl_sketch pl_placed pl_rings pl_ringNodes pl_ringLength pl_ringSet pl_oldRing pl_path pl_pathLength pl_queue pl_origin ρ.2.1 ρ.2.2.1 ρ.2.2.2.1 ρ.2.2.2.2)) A) ([.ref (a_pl 0), .int p1, .int p2] : List Value).toArray s 0 0 A) (F0 m 38 ls []) := by
        intro x1 x2 x3 x4 x5 pl_inside pl_ends pl_ring pl_choices H locs ls hl hP hD hS hf
        refine lv_iinc (v := (x5 + 1)) (lv' := [(5, .int (x5 + 1)), (0, .ref (a_pl 0)), (1, .int x1), (2, .int x2), (3, .int x3), (4, .int x4)]) hx hb dX4_weigh_38 hl (k := 5) rfl rfl (by decide) rfl (fun ls hl => ?_)
        refine lv_goto (tgt := 8) hx hb dX4_weigh_41 (by decide) ?_
        exact ih8 x1 x2 x3 x4 (x5 + 1) pl_inside pl_ends pl_ring pl_choices _ _ _ (lv_sub hl [1, 2, 3, 4, 5, 0] rfl) hP hD hS hf
      intro x1 x2 x3 x4 x5 pl_inside pl_ends pl_ring pl_choices H locs ls hl hP hD hS hf
      refine lv_iload hx hb dX4_weigh_8 (lv_at hl 5 rfl) ?_
      refine lv_aload_n hx hb dX4_weigh_10 rfl (lv_at hl 0 rfl) ?_
      refine va_get (D := D) (ci := 4) (C := RX4) (T := TX4) (N := 16) hx hb hT kwX4 hown hK.1 hP 0 rfl rfl 3 (by decide) (hT _ kf_X4_93) (fun _ h9 => h9) rfl dX4_weigh_11 ?_
      refine lv_icmp_ge (tgt := 44) hx hb dX4_weigh_14 (by decide) (fun c_1 => ?_) (fun c_1 => ?_)
      · have hf := ite_t c_1 hf
        exact B44 x1 x2 x3 x4 pl_inside pl_ends pl_ring pl_choices _ _ _ (lv_sub hl [0, 1, 2, 3, 4] rfl) hP hD hS hf
      · have hf := ite_f c_1 hf
        refine lv_iload_n hx hb dX4_weigh_17 rfl (lv_at hl 2 rfl) ?_
        refine lv_aload_n hx hb dX4_weigh_18 rfl (lv_at hl 0 rfl) ?_
        refine va_get (D := D) (ci := 4) (C := RX4) (T := TX4) (N := 16) hx hb hT kwX4 hown hK.1 hP 0 rfl rfl 6 (by decide) (hT _ kf_X4_24) (fun _ h9 => h9) rfl dX4_weigh_19 ?_
        refine lv_iload hx hb dX4_weigh_22 (lv_at hl 5 rfl) ?_
        obtain ⟨h_2, hf⟩ := chk_s hf
        refine va_iald hx hb hK.1 hP 5 0 rfl rfl (inb_in h_2) dX4_weigh_24 ?_
        refine lv_iconst (v := (-1)) hx hb dX4_weigh_25 (by decide) ?_
        refine lv_ixor hx hb dX4_weigh_26 ?_
        refine lv_iand hx hb dX4_weigh_27 ?_
        refine lv_if_ne (tgt := 38) hx hb dX4_weigh_28 (by decide) (fun c_3 => ?_) (fun c_3 => ?_)
        · have hf := ite_t c_3 hf
          exact B38 x1 x2 x3 x4 x5 pl_inside pl_ends pl_ring pl_choices _ _ _ (lv_sub hl [0, 1, 2, 3, 4, 5] rfl) hP hD hS hf
        · have hf := ite_fn c_3 hf
          refine lv_iinc (v := (x3 + 1)) (lv' := [(3, .int (x3 + 1)), (0, .ref (a_pl 0)), (1, .int x1), (2, .int x2), (4, .int x4), (5, .int x5)]) hx hb dX4_weigh_31 hl (k := 3) rfl rfl (by decide) rfl (fun ls hl => ?_)
          refine lv_iload hx hb dX4_weigh_34 (lv_at hl 5 rfl) ?_
          refine lv_istore (lv' := [(4, .int x5), (3, .int (x3 + 1)), (0, .ref (a_pl 0)), (1, .int x1), (2, .int x2), (5, .int x5)]) hx hb dX4_weigh_36 hl (by decide) rfl (fun ls hl => ?_)
          exact B38 x1 x2 (x3 + 1) x5 x5 pl_inside pl_ends pl_ring pl_choices _ _ _ (lv_sub hl [2, 3, 4, 1, 0, 5] rfl) hP hD hS hf
  refine lv_iconst (v := 0) hx hb dX4_weigh_0 (by decide) ?_
  refine lv_istore_n (lv' := [(3, .int 0), (0, .ref (a_pl 0)), (1, .int p1), (2, .int p2)]) hx hb dX4_weigh_1 rfl hl (by decide) rfl (fun ls hl => ?_)
  refine lv_iconst (v := 0) hx hb dX4_weigh_2 (by decide) ?_
  refine lv_istore (lv' := [(4, .int 0), (3, .int 0), (0, .ref (a_pl 0)), (1, .int p1), (2, .int p2)]) hx hb dX4_weigh_3 hl (by decide) rfl (fun ls hl => ?_)
  refine lv_iconst (v := 0) hx hb dX4_weigh_5 (by decide) ?_
  refine lv_istore (lv' := [(5, .int 0), (4, .int 0), (3, .int 0), (0, .ref (a_pl 0)), (1, .int p1), (2, .int p2)]) hx hb dX4_weigh_6 hl (by decide) rfl (fun ls hl => ?_)
  exact B8 N p1 p2 0 0 0 pl_inside pl_ends pl_ring pl_choices _ _ _ (lv_sub hl [3, 4, 5, 2, 1, 0] rfl) hP hD hS hf
set_option maxRecDepth 100000 in
set_option maxHeartbeats 4000000 in
theorem c_X4_weighEdges (l : Launch) (D : va_G) (cA : Nat → ClassId) (a_pl : Nat → Nat) (pl_rest : Nat → Int32) (pl_sketch : Nat → Int32) (pl_placed : Int32) (pl_rings : Int32) (pl_ringNodes : Nat → Int32) (pl_ringLength : Nat → Int32) (pl_ringSet : Nat → Int32) (pl_oldRing : Nat → Int32) (pl_path : Nat → Int32) (pl_pathLength : Int32) (pl_queue : Nat → Int32) (pl_origin : Nat → Int32) (pl_inside : Int32) (pl_ends : Int32) (pl_ring : Int32) (pl_choices : Int32) (sz N : Nat) (ρ : Int32 × Int32 × Int32 × Int32 × Int32) (hf : f_X4_weighEdges N pl_rest pl_sketch pl_placed pl_rings pl_ringSet pl_inside pl_ends pl_ring pl_choices = some ρ) : Met l yX4_weighEdges (Cond.code yX4_weighEdges cX4_weighEdges 4 (Option.some Jvm.ClassFile.FieldType.boolean) :: lw_g) ({ frames := 1, cells := 0, slots := 0, locals := 25 } : Room) (PcW D (tyA cA) (wX4 cA a_pl pl_rest pl_sketch pl_placed pl_rings pl_ringNodes pl_ringLength pl_ringSet pl_oldRing pl_path pl_pathLength pl_queue pl_origin pl_inside pl_ends pl_ring pl_choices) sz [.ref (a_pl 0)]) (va_Qi (fun r (_ : Unit) => r = ρ.1) (fun _ t => va_P D vwCl (wX4 cA a_pl pl_rest pl_sketch pl_placed pl_rings pl_ringNodes pl_ringLength pl_ringSet pl_oldRing pl_path pl_pathLength pl_queue pl_origin ρ.2.1 ρ.2.2.1 ρ.2.2.2.1 ρ.2.2.2.2) t.heap ∧ va_D (va_A (wX4 cA a_pl pl_rest pl_sketch pl_placed pl_rings pl_ringNodes pl_ringLength pl_ringSet pl_oldRing pl_path pl_pathLength pl_queue pl_origin pl_inside pl_ends pl_ring pl_choices) sz) (wX4 cA a_pl pl_rest pl_sketch pl_placed pl_rings pl_ringNodes pl_ringLength pl_ringSet pl_oldRing pl_path pl_pathLength pl_queue pl_origin ρ.2.1 ρ.2.2.1 ρ.2.2.2.1 ρ.2.2.2.2)) (va_A (wX4 cA a_pl pl_rest pl_sketch pl_placed pl_rings pl_ringNodes pl_ringLength pl_ringSet pl_oldRing pl_path pl_pathLength pl_queue pl_origin pl_inside pl_ends pl_ring pl_choices) sz)) 0 0 (va_A (wX4 cA a_pl pl_rest pl_sketch pl_placed pl_rings pl_ringNodes pl_ringLength pl_ringSet pl_oldRing pl_path pl_pathLength pl_queue pl_origin pl_inside pl_ends pl_ring pl_choices) sz) := by
  refine mkW (QQ := fun A => va_Qi (fun r (_ : Unit) => r = ρ.1) (fun _ t => va_P D vwCl (wX4 cA a_pl pl_rest pl_sketch pl_placed pl_rings pl_ringNodes pl_ringLength pl_ringSet pl_oldRing pl_path pl_pathLength pl_queue pl_origin ρ.2.1 ρ.2.2.1 ρ.2.2.2.1 ρ.2.2.2.2) t.heap ∧ va_D A (wX4 cA a_pl pl_rest pl_sketch pl_placed pl_rings pl_ringNodes pl_ringLength pl_ringSet pl_oldRing pl_path pl_pathLength pl_queue pl_origin ρ.2.1 ρ.2.2.1 ρ.2.2.2.1 ρ.2.2.2.2)) A) (by decide) (Nat.le_of_ble_eq_true rfl) fun p e s m below meth c ls A C hl hP hK hD hA hS => ?_
  obtain ⟨hx, hb, hml, hown, hT, hr, hlk⟩ := id C
  have hl : lv_has ls 4 [(0, .ref (a_pl 0))] := hl
  have B2 : ∀ (n2 : Nat), ∀ (x1 : Int32) (pl_inside : Int32) (pl_ends : Int32) (pl_ring : Int32) (pl_choices : Int32) (H : Heap) (locs : List Loc) (ls : Array Slot), lv_has ls 4 [(0, .ref (a_pl 0)), (1, .int x1)] → va_P D vwCl (wX4 cA a_pl pl_rest pl_sketch pl_placed pl_rings pl_ringNodes pl_ringLength pl_ringSet pl_oldRing pl_path pl_pathLength pl_queue pl_origin pl_inside pl_ends pl_ring pl_choices) H → va_D A (wX4 cA a_pl pl_rest pl_sketch pl_placed pl_rings pl_ringNodes pl_ringLength pl_ringSet pl_oldRing pl_path pl_pathLength pl_queue pl_origin pl_inside pl_ends pl_ring pl_choices) → va_S A s.heap H locs → f_X4_weighEdges_b2 N pl_rest pl_sketch pl_placed pl_rings pl_ringSet n2 x1 pl_inside pl_ends pl_ring pl_choices = some ρ → W p l e ({ frames := 1, cells := 0, slots := 0, locals := 25 } : Room) s m ([.ref (a_pl 0)] : List Value).toArray below meth c H locs 0 0 (MQ below (va_Qi (fun r (_ : Unit) => r = ρ.1) (fun _ t => va_P D vwCl (wX4 cA a_pl pl_rest pl_sketch pl_placed pl_rings pl_ringNodes pl_ringLength pl_ringSet pl_oldRing pl_path pl_pathLength pl_queue pl_origin ρ.2.1 ρ.2.2.1 ρ.2.2.2.1 ρ.2.2.2.2) t.heap ∧ va_D A (wX4 cA a_pl pl_rest pl_sketch pl_placed pl_rings pl_ringNodes pl_ringLength pl_ringSet pl_oldRing pl_path pl_pathLength pl_queue pl_origin ρ.2.1 ρ.2.2.1 ρ.2.2.2.1 ρ.2.2.2.2)) A) ([.ref (a_pl 0)] : List Value).toArray s 0 0 A) (F0 m 2 ls []) := by
    intro n2
    induction n2 with
    | zero =>
      intro x1 pl_inside pl_ends pl_ring pl_choices H locs ls hl hP hD hS hf
      cases (show (none : Option (Int32 × Int32 × Int32 × Int32 × Int32)) = some ρ from hf)
    | succ n2 ih2 =>
      have B87 : ∀ (x1 : Int32) (pl_inside : Int32) (pl_ends : Int32) (pl_ring : Int32) (pl_choices : Int32) (H : Heap) (locs : List Loc) (ls : Array Slot), lv_has ls 4 [(0, .ref (a_pl 0)), (1, .int x1)] → va_P D vwCl (wX4 cA a_pl pl_rest pl_sketch pl_placed pl_rings pl_ringNodes pl_ringLength pl_ringSet pl_oldRing pl_path pl_pathLength pl_queue pl_origin pl_inside pl_ends pl_ring pl_choices) H → va_D A (wX4 cA a_pl pl_rest pl_sketch pl_placed pl_rings pl_ringNodes pl_ringLength pl_ringSet pl_oldRing pl_path pl_pathLength pl_queue pl_origin pl_inside pl_ends pl_ring pl_choices) → va_S A s.heap H locs → f_X4_weighEdges_b87 N pl_rest pl_sketch pl_placed pl_rings pl_ringSet (f_X4_weighEdges_b2 N pl_rest pl_sketch pl_placed pl_rings pl_ringSet n2) x1 pl_inside pl_ends pl_ring pl_choices = some ρ → W p l e ({ frames := 1, cells := 0, slots := 0, locals := 25 } : Room) s m ([.ref (a_pl 0)] : List Value).toArray below meth c H locs 0 0 (MQ below (va_Qi (fun r (_ : Unit) => r = ρ.1) (fun _ t => va_P D vwCl (wX4 cA a_pl pl_rest pl_sketch pl_placed pl_rings pl_ringNodes pl_ringLength pl_ringSet pl_oldRing pl_path pl_pathLength pl_queue pl_origin ρ.2.1 ρ.2.2.1 ρ.2.2.2.1 ρ.2.2.2.2) t.heap ∧ va_D A (wX4 cA a_pl pl_rest pl_sketch pl_placed pl_rings pl_ringNodes pl_ringLength pl_ringSet pl_oldRing pl_path pl_pathLength pl_queue pl_origin ρ.2.1 ρ.2.2.1 ρ.2.2.2.1 ρ.2.2.2.2)) A) ([.ref (a_pl 0)] : List Value).toArray s 0 0 A) (F0 m 87 ls []) := by
        intro x1 pl_inside pl_ends pl_ring pl_choices H locs ls hl hP hD hS hf
        refine lv_iinc (v := (x1 + 1)) (lv' := [(1, .int (x1 + 1)), (0, .ref (a_pl 0))]) hx hb dX4_weighEdges_87 hl (k := 1) rfl rfl (by decide) rfl (fun ls hl => ?_)
        refine lv_goto (tgt := 2) hx hb dX4_weighEdges_90 (by decide) ?_
        exact ih2 (x1 + 1) pl_inside pl_ends pl_ring pl_choices _ _ _ (lv_sub hl [1, 0] rfl) hP hD hS hf
      have B48 : ∀ (n48 : Nat), ∀ (x1 : Int32) (x2 : Int32) (x3 : Int32) (pl_inside : Int32) (pl_ends : Int32) (pl_ring : Int32) (pl_choices : Int32) (H : Heap) (locs : List Loc) (ls : Array Slot), lv_has ls 4 [(0, .ref (a_pl 0)), (1, .int x1), (2, .int x2), (3, .int x3)] → va_P D vwCl (wX4 cA a_pl pl_rest pl_sketch pl_placed pl_rings pl_ringNodes pl_ringLength pl_ringSet pl_oldRing pl_path pl_pathLength pl_queue pl_origin pl_inside pl_ends pl_ring pl_choices) H → va_D A (wX4 cA a_pl pl_rest pl_sketch pl_placed pl_rings pl_ringNodes pl_ringLength pl_ringSet pl_oldRing pl_path pl_pathLength pl_queue pl_origin pl_inside pl_ends pl_ring pl_choices) → va_S A s.heap H locs → f_X4_weighEdges_b48 N pl_rest pl_sketch pl_placed pl_rings pl_ringSet (f_X4_weighEdges_b2 N pl_rest pl_sketch pl_placed pl_rings pl_ringSet n2) n48 x1 x2 x3 pl_inside pl_ends pl_ring pl_choices = some ρ → W p l e ({ frames := 1, cells := 0, slots := 0, locals := 25 } : Room) s m ([.ref (a_pl 0)] : List Value).toArray below meth c H locs 0 0 (MQ below (va_Qi (fun r (_ : Unit) => r = ρ.1) (fun _ t => va_P D vwCl (wX4 cA a_pl pl_rest pl_sketch pl_placed pl_rings pl_ringNodes pl_ringLength pl_ringSet pl_oldRing pl_path pl_pathLength pl_queue pl_origin ρ.2.1 ρ.2.2.1 ρ.2.2.2.1 ρ.2.2.2.2) t.heap ∧ va_D A (wX4 cA a_pl pl_rest pl_sketch pl_placed pl_rings pl_ringNodes pl_ringLength pl_ringSet pl_oldRing pl_path pl_pathLength pl_queue pl_origin ρ.2.1 ρ.2.2.1 ρ.2.2.2.1 ρ.2.2.2.2)) A) ([.ref (a_pl 0)] : List Value).toArray s 0 0 A) (F0 m 48 ls []) := by
        intro n48
        induction n48 with
        | zero =>
          intro x1 x2 x3 pl_inside pl_ends pl_ring pl_choices H locs ls hl hP hD hS hf
          cases (show (none : Option (Int32 × Int32 × Int32 × Int32 × Int32)) = some ρ from hf)
        | succ n48 ih48 =>
          have B81 : ∀ (x1 : Int32) (x2 : Int32) (x3 : Int32) (pl_inside : Int32) (pl_ends : Int32) (pl_ring : Int32) (pl_choices : Int32) (H : Heap) (locs : List Loc) (ls : Array Slot), lv_has ls 4 [(0, .ref (a_pl 0)), (1, .int x1), (2, .int x2), (3, .int x3)] → va_P D vwCl (wX4 cA a_pl pl_rest pl_sketch pl_placed pl_rings pl_ringNodes pl_ringLength pl_ringSet pl_oldRing pl_path pl_pathLength pl_queue pl_origin pl_inside pl_ends pl_ring pl_choices) H → va_D A (wX4 cA a_pl pl_rest pl_sketch pl_placed pl_rings pl_ringNodes pl_ringLength pl_ringSet pl_oldRing pl_path pl_pathLength pl_queue pl_origin pl_inside pl_ends pl_ring pl_choices) → va_S A s.heap H locs → f_X4_weighEdges_b81 N pl_rest pl_sketch pl_placed pl_rings pl_ringSet (f_X4_weighEdges_b2 N pl_rest pl_sketch pl_placed pl_rings pl_ringSet n2) (f_X4_weighEdges_b48 N pl_rest pl_sketch pl_placed pl_rings pl_ringSet (f_X4_weighEdges_b2 N pl_rest pl_sketch pl_placed pl_rings pl_ringSet n2) n48) x1 x2 x3 pl_inside pl_ends pl_ring pl_choices = some ρ → W p l e ({ frames := 1, cells := 0, slots := 0, locals := 25 } : Room) s m ([.ref (a_pl 0)] : List Value).toArray below meth c H locs 0 0 (MQ below (va_Qi (fun r (_ : Unit) => r = ρ.1) (fun _ t => va_P D vwCl (wX4 cA a_pl pl_rest pl_sketch pl_placed pl_rings pl_ringNodes pl_ringLength pl_ringSet pl_oldRing pl_path pl_pathLength pl_queue pl_origin ρ.2.1 ρ.2.2.1 ρ.2.2.2.1 ρ.2.2.2.2) t.heap ∧ va_D A (wX4 cA a_pl pl_rest pl_sketch pl_placed pl_rings pl_ringNodes pl_ringLength pl_ringSet pl_oldRing pl_path pl_pathLength pl_queue pl_origin ρ.2.1 ρ.2.2.1 ρ.2.2.2.1 ρ.2.2.2.2)) A) ([.ref (a_pl 0)] : List Value).toArray s 0 0 A) (F0 m 81 ls []) := by
            intro x1 x2 x3 pl_inside pl_ends pl_ring pl_choices H locs ls hl hP hD hS hf
            refine lv_iinc (v := (x3 + 1)) (lv' := [(3, .int (x3 + 1)), (0, .ref (a_pl 0)), (1, .int x1), (2, .int x2)]) hx hb dX4_weighEdges_81 hl (k := 3) rfl rfl (by decide) rfl (fun ls hl => ?_)
            refine lv_goto (tgt := 48) hx hb dX4_weighEdges_84 (by decide) ?_
            exact ih48 x1 x2 (x3 + 1) pl_inside pl_ends pl_ring pl_choices _ _ _ (lv_sub hl [1, 2, 3, 0] rfl) hP hD hS hf
          intro x1 x2 x3 pl_inside pl_ends pl_ring pl_choices H locs ls hl hP hD hS hf
          refine lv_iload_n hx hb dX4_weighEdges_48 rfl (lv_at hl 3 rfl) ?_
          refine lv_bipush (v := 9) hx hb dX4_weighEdges_49 (by decide) ?_
          refine lv_icmp_ge (tgt := 87) hx hb dX4_weighEdges_51 (by decide) (fun c_7 => ?_) (fun c_7 => ?_)
          · have hf := ite_t c_7 hf
            exact B87 x1 pl_inside pl_ends pl_ring pl_choices _ _ _ (lv_sub hl [0, 1] rfl) hP hD hS hf
          · have hf := ite_f c_7 hf
            refine lv_iload_n hx hb dX4_weighEdges_54 rfl (lv_at hl 2 rfl) ?_
            refine lv_iload_n hx hb dX4_weighEdges_55 rfl (lv_at hl 3 rfl) ?_
            obtain ⟨r_8, hcr_8, hf⟩ := bd1_s hf
            refine backI (runN0 C (c_X7_contains l D cA x2 x3 N r_8 hcr_8) cf_X7_contains kn_X4_69 ⟨rfl, rfl, by decide, by decide⟩ ⟨Nat.zero_le _, Nat.zero_le _⟩ (hP.sub [] rfl) hK hl.1 rfl rfl (Nat.le_of_ble_eq_true rfl) dX4_weighEdges_56) ?_
            refine lv_if_eq (tgt := 81) hx hb dX4_weighEdges_59 (by decide) (fun c_9 => ?_) (fun c_9 => ?_)
            · have hf := ite_t c_9 hf
              exact B81 x1 x2 x3 pl_inside pl_ends pl_ring pl_choices _ _ _ (lv_sub hl [0, 1, 2, 3] rfl) hP hD hS hf
            · have hf := ite_f c_9 hf
              refine lv_aload_n hx hb dX4_weighEdges_62 rfl (lv_at hl 0 rfl) ?_
              refine lv_iconst (v := 0) hx hb dX4_weighEdges_63 (by decide) ?_
              refine lv_iload_n hx hb dX4_weighEdges_64 rfl (lv_at hl 1 rfl) ?_
              obtain ⟨r_10, hcr_10, hf⟩ := bd1_s hf
              refine backI (runN0 C (c_X7_bit l D cA x1 N r_10 hcr_10) cf_X7_bit kn_X4_73 ⟨rfl, rfl, by decide, by decide⟩ ⟨Nat.zero_le _, Nat.zero_le _⟩ (hP.sub [] rfl) hK hl.1 rfl rfl (Nat.le_of_ble_eq_true rfl) dX4_weighEdges_65) ?_
              refine lv_iload_n hx hb dX4_weighEdges_68 rfl (lv_at hl 3 rfl) ?_
              obtain ⟨r_11, hcr_11, hf⟩ := bd1_s hf
              refine backI (runN0 C (c_X7_bit l D cA x3 N r_11 hcr_11) cf_X7_bit kn_X4_73 ⟨rfl, rfl, by decide, by decide⟩ ⟨Nat.zero_le _, Nat.zero_le _⟩ (hP.sub [] rfl) hK hl.1 rfl rfl (Nat.le_of_ble_eq_true rfl) dX4_weighEdges_69) ?_
              refine lv_ior hx hb dX4_weighEdges_72 ?_
              obtain ⟨r_12, hcr_12, hf⟩ := bd1_s hf
              refine backWi (w2 := (wX4 cA a_pl pl_rest pl_sketch pl_placed pl_rings pl_ringNodes pl_ringLength pl_ringSet pl_oldRing pl_path pl_pathLength pl_queue pl_origin r_12.2.1 r_12.2.2.1 r_12.2.2.2.1 r_12.2.2.2.2)) (runVw C (c_X4_weigh l D cA a_pl pl_rest pl_sketch pl_placed pl_rings pl_ringNodes pl_ringLength pl_ringSet pl_oldRing pl_path pl_pathLength pl_queue pl_origin pl_inside pl_ends pl_ring pl_choices 0 (r_10 ||| r_11) _ N r_12 hcr_12) cf_X4_weigh km_X4_127 ⟨rfl, rfl, by decide, by decide⟩ ⟨Nat.zero_le _, Nat.zero_le _⟩ (va_recv hK.1 hP (ci := 4) (q0 := 0) rfl rfl) (hP.sub [0, 1, 2, 3, 4, 5, 6, 7, 8, 9] rfl) (hD.sub [0, 1, 2, 3, 4, 5, 6, 7, 8, 9] rfl rfl) hK hl.1 rfl rfl (Nat.le_of_ble_eq_true rfl) dX4_weighEdges_73) hP hD hS hA [0, 1, 2, 3, 4, 5, 6, 7, 8, 9] rfl [] rfl rfl (by decide) [0, 1, 2, 3, 4, 5, 6, 7, 8, 9] rfl rfl (fun H locs hP hD hS => ?_)
              refine lv_if_ne (tgt := 81) hx hb dX4_weighEdges_76 (by decide) (fun c_13 => ?_) (fun c_13 => ?_)
              · have hf := ite_t c_13 hf
                exact B81 x1 x2 x3 r_12.2.1 r_12.2.2.1 r_12.2.2.2.1 r_12.2.2.2.2 _ _ _ (lv_sub hl [0, 1, 2, 3] rfl) hP hD hS hf
              · have hf := ite_fn c_13 hf
                refine lv_iconst (v := 0) hx hb dX4_weighEdges_79 (by decide) ?_
                have eR := some_i hf
                exact W.zret hx hb hr (by decide) (fun t ht hW => ⟨⟨0, (), rfl, fst_e eR, by rw [← eR, ht]; exact hP, by rw [← eR]; exact hD⟩, hS.F ht⟩) hS.2.2 dX4_weighEdges_80 (hlocks := hlk)
      have B43 : ∀ (x1 : Int32) (y0 : Int32) (pl_inside : Int32) (pl_ends : Int32) (pl_ring : Int32) (pl_choices : Int32) (H : Heap) (locs : List Loc) (ls : Array Slot), lv_has ls 4 [(0, .ref (a_pl 0)), (1, .int x1)] → va_P D vwCl (wX4 cA a_pl pl_rest pl_sketch pl_placed pl_rings pl_ringNodes pl_ringLength pl_ringSet pl_oldRing pl_path pl_pathLength pl_queue pl_origin pl_inside pl_ends pl_ring pl_choices) H → va_D A (wX4 cA a_pl pl_rest pl_sketch pl_placed pl_rings pl_ringNodes pl_ringLength pl_ringSet pl_oldRing pl_path pl_pathLength pl_queue pl_origin pl_inside pl_ends pl_ring pl_choices) → va_S A s.heap H locs → f_X4_weighEdges_b43 N pl_rest pl_sketch pl_placed pl_rings pl_ringSet (f_X4_weighEdges_b2 N pl_rest pl_sketch pl_placed pl_rings pl_ringSet n2) x1 y0 pl_inside pl_ends pl_ring pl_choices = some ρ → W p l e ({ frames := 1, cells := 0, slots := 0, locals := 25 } : Room) s m ([.ref (a_pl 0)] : List Value).toArray below meth c H locs 0 0 (MQ below (va_Qi (fun r (_ : Unit) => r = ρ.1) (fun _ t => va_P D vwCl (wX4 cA a_pl pl_rest pl_sketch pl_placed pl_rings pl_ringNodes pl_ringLength pl_ringSet pl_oldRing pl_path pl_pathLength pl_queue pl_origin ρ.2.1 ρ.2.2.1 ρ.2.2.2.1 ρ.2.2.2.2) t.heap ∧ va_D A (wX4 cA a_pl pl_rest pl_sketch pl_placed pl_rings pl_ringNodes pl_ringLength pl_ringSet pl_oldRing pl_path pl_pathLength pl_queue pl_origin ρ.2.1 ρ.2.2.1 ρ.2.2.2.1 ρ.2.2.2.2)) A) ([.ref (a_pl 0)] : List Value).toArray s 0 0 A) (F0 m 43 ls [.int y0]) := by
        intro x1 y0 pl_inside pl_ends pl_ring pl_choices H locs ls hl hP hD hS hf
        refine lv_istore_n (lv' := [(2, .int y0), (0, .ref (a_pl 0)), (1, .int x1)]) hx hb dX4_weighEdges_43 rfl hl (by decide) rfl (fun ls hl => ?_)
        refine lv_iload_n hx hb dX4_weighEdges_44 rfl (lv_at hl 2 rfl) ?_
        refine lv_iconst (v := 1) hx hb dX4_weighEdges_45 (by decide) ?_
        refine lv_iadd hx hb dX4_weighEdges_46 ?_
        refine lv_topi (fun x3_6 ex3_6 => ?_)
        have hf := nm_t ex3_6 hf
        refine lv_istore_n (lv' := [(3, .int x3_6), (2, .int y0), (0, .ref (a_pl 0)), (1, .int x1)]) hx hb dX4_weighEdges_47 rfl hl (by decide) rfl (fun ls hl => ?_)
        exact B48 N x1 y0 x3_6 pl_inside pl_ends pl_ring pl_choices _ _ _ (lv_sub hl [2, 3, 1, 0] rfl) hP hD hS hf
      intro x1 pl_inside pl_ends pl_ring pl_choices H locs ls hl hP hD hS hf
      refine lv_iload_n hx hb dX4_weighEdges_2 rfl (lv_at hl 1 rfl) ?_
      refine lv_bipush (v := 9) hx hb dX4_weighEdges_3 (by decide) ?_
      refine lv_icmp_ge (tgt := 93) hx hb dX4_weighEdges_5 (by decide) (fun c_1 => ?_) (fun c_1 => ?_)
      · have hf := ite_t c_1 hf
        refine lv_iconst (v := 1) hx hb dX4_weighEdges_93 (by decide) ?_
        have eR := some_i hf
        exact W.zret hx hb hr (by decide) (fun t ht hW => ⟨⟨1, (), rfl, fst_e eR, by rw [← eR, ht]; exact hP, by rw [← eR]; exact hD⟩, hS.F ht⟩) hS.2.2 dX4_weighEdges_94 (hlocks := hlk)
      · have hf := ite_f c_1 hf
        refine lv_aload_n hx hb dX4_weighEdges_8 rfl (lv_at hl 0 rfl) ?_
        refine va_get (D := D) (ci := 4) (C := RX4) (T := TX4) (N := 16) hx hb hT kwX4 hown hK.1 hP 0 rfl rfl 2 (by decide) (hT _ kf_X4_120) (fun _ h9 => h9) rfl dX4_weighEdges_9 ?_
        refine lv_iload_n hx hb dX4_weighEdges_12 rfl (lv_at hl 1 rfl) ?_
        obtain ⟨r_2, hcr_2, hf⟩ := bd1_s hf
        refine backI (runN0 C (c_X7_contains l D cA pl_placed x1 N r_2 hcr_2) cf_X7_contains kn_X4_69 ⟨rfl, rfl, by decide, by decide⟩ ⟨Nat.zero_le _, Nat.zero_le _⟩ (hP.sub [] rfl) hK hl.1 rfl rfl (Nat.le_of_ble_eq_true rfl) dX4_weighEdges_13) ?_
        refine lv_if_eq (tgt := 42) hx hb dX4_weighEdges_16 (by decide) (fun c_3 => ?_) (fun c_3 => ?_)
        · have hf := ite_t c_3 hf
          refine lv_iconst (v := 0) hx hb dX4_weighEdges_42 (by decide) ?_
          exact B43 x1 0 pl_inside pl_ends pl_ring pl_choices _ _ _ (lv_sub hl [0, 1] rfl) hP hD hS hf
        · have hf := ite_f c_3 hf
          refine lv_aload_n hx hb dX4_weighEdges_19 rfl (lv_at hl 0 rfl) ?_
          refine va_get (D := D) (ci := 4) (C := RX4) (T := TX4) (N := 16) hx hb hT kwX4 hown hK.1 hP 0 rfl rfl 0 (by decide) (hT _ kf_X4_9) (fun _ h9 => h9) rfl dX4_weighEdges_20 ?_
          refine lv_iload_n hx hb dX4_weighEdges_23 rfl (lv_at hl 1 rfl) ?_
          obtain ⟨h_4, hf⟩ := chk_s hf
          refine va_iald hx hb hK.1 hP 1 0 rfl rfl (inb_in h_4) dX4_weighEdges_24 ?_
          refine lv_aload_n hx hb dX4_weighEdges_25 rfl (lv_at hl 0 rfl) ?_
          refine va_get (D := D) (ci := 4) (C := RX4) (T := TX4) (N := 16) hx hb hT kwX4 hown hK.1 hP 0 rfl rfl 2 (by decide) (hT _ kf_X4_120) (fun _ h9 => h9) rfl dX4_weighEdges_26 ?_
          refine lv_iand hx hb dX4_weighEdges_29 ?_
          refine lv_aload_n hx hb dX4_weighEdges_30 rfl (lv_at hl 0 rfl) ?_
          refine va_get (D := D) (ci := 4) (C := RX4) (T := TX4) (N := 16) hx hb hT kwX4 hown hK.1 hP 0 rfl rfl 1 (by decide) (hT _ kf_X4_15) (fun _ h9 => h9) rfl dX4_weighEdges_31 ?_
          refine lv_iload_n hx hb dX4_weighEdges_34 rfl (lv_at hl 1 rfl) ?_
          obtain ⟨h_5, hf⟩ := chk_s hf
          refine va_iald hx hb hK.1 hP 2 0 rfl rfl (inb_in h_5) dX4_weighEdges_35 ?_
          refine lv_iconst (v := (-1)) hx hb dX4_weighEdges_36 (by decide) ?_
          refine lv_ixor hx hb dX4_weighEdges_37 ?_
          refine lv_iand hx hb dX4_weighEdges_38 ?_
          refine lv_goto (tgt := 43) hx hb dX4_weighEdges_39 (by decide) ?_
          exact B43 x1 (((pl_rest x1.toNatClampNeg) &&& pl_placed) &&& ((pl_sketch x1.toNatClampNeg) ^^^ (-1))) pl_inside pl_ends pl_ring pl_choices _ _ _ (lv_sub hl [0, 1] rfl) hP hD hS hf
  refine lv_iconst (v := 0) hx hb dX4_weighEdges_0 (by decide) ?_
  refine lv_istore_n (lv' := [(1, .int 0), (0, .ref (a_pl 0))]) hx hb dX4_weighEdges_1 rfl hl (by decide) rfl (fun ls hl => ?_)
  exact B2 N 0 pl_inside pl_ends pl_ring pl_choices _ _ _ (lv_sub hl [1, 0] rfl) hP hD hS hf
set_option maxRecDepth 100000 in
set_option maxHeartbeats 4000000 in
theorem c_X4_weighParts (l : Launch) (D : va_G) (cA : Nat → ClassId) (a_pl : Nat → Nat) (pl_rest : Nat → Int32) (pl_sketch : Nat → Int32) (pl_placed : Int32) (pl_rings : Int32) (pl_ringNodes : Nat → Int32) (pl_ringLength : Nat → Int32) (pl_ringSet : Nat → Int32) (pl_oldRing : Nat → Int32) (pl_path : Nat → Int32) (pl_pathLength : Int32) (pl_queue : Nat → Int32) (pl_origin : Nat → Int32) (pl_inside : Int32) (pl_ends : Int32) (pl_ring : Int32) (pl_choices : Int32) (sz N : Nat) (ρ : Int32 × Int32 × Int32 × Int32 × Int32) (hf : f_X4_weighParts N pl_rest pl_placed pl_rings pl_ringSet pl_inside pl_ends pl_ring pl_choices = some ρ) : Met l yX4_weighParts (Cond.code yX4_weighParts cX4_weighParts 5 (Option.some Jvm.ClassFile.FieldType.boolean) :: lw_g) ({ frames := 3, cells := 0, slots := 0, locals := 69 } : Room) (PcW D (tyA cA) (wX4 cA a_pl pl_rest pl_sketch pl_placed pl_rings pl_ringNodes pl_ringLength pl_ringSet pl_oldRing pl_path pl_pathLength pl_queue pl_origin pl_inside pl_ends pl_ring pl_choices) sz [.ref (a_pl 0)]) (va_Qi (fun r (_ : Unit) => r = ρ.1) (fun _ t => va_P D vwCl (wX4 cA a_pl pl_rest pl_sketch pl_placed pl_rings pl_ringNodes pl_ringLength pl_ringSet pl_oldRing pl_path pl_pathLength pl_queue pl_origin ρ.2.1 ρ.2.2.1 ρ.2.2.2.1 ρ.2.2.2.2) t.heap ∧ va_D (va_A (wX4 cA a_pl pl_rest pl_sketch pl_placed pl_rings pl_ringNodes pl_ringLength pl_ringSet pl_oldRing pl_path pl_pathLength pl_queue pl_origin pl_inside pl_ends pl_ring pl_choices) sz) (wX4 cA a_pl pl_rest pl_sketch pl_placed pl_rings pl_ringNodes pl_ringLength pl_ringSet pl_oldRing pl_path pl_pathLength pl_queue pl_origin ρ.2.1 ρ.2.2.1 ρ.2.2.2.1 ρ.2.2.2.2)) (va_A (wX4 cA a_pl pl_rest pl_sketch pl_placed pl_rings pl_ringNodes pl_ringLength pl_ringSet pl_oldRing pl_path pl_pathLength pl_queue pl_origin pl_inside pl_ends pl_ring pl_choices) sz)) 0 0 (va_A (wX4 cA a_pl pl_rest pl_sketch pl_placed pl_rings pl_ringNodes pl_ringLength pl_ringSet pl_oldRing pl_path pl_pathLength pl_queue pl_origin pl_inside pl_ends pl_ring pl_choices) sz) := by
  refine mkW (QQ := fun A => va_Qi (fun r (_ : Unit) => r = ρ.1) (fun _ t => va_P D vwCl (wX4 cA a_pl pl_rest pl_sketch pl_placed pl_rings pl_ringNodes pl_ringLength pl_ringSet pl_oldRing pl_path pl_pathLength pl_queue pl_origin ρ.2.1 ρ.2.2.1 ρ.2.2.2.1 ρ.2.2.2.2) t.heap ∧ va_D A (wX4 cA a_pl pl_rest pl_sketch pl_placed pl_rings pl_ringNodes pl_ringLength pl_ringSet pl_oldRing pl_path pl_pathLength pl_queue pl_origin ρ.2.1 ρ.2.2.1 ρ.2.2.2.1 ρ.2.2.2.2)) A) (by decide) (Nat.le_of_ble_eq_true rfl) fun p e s m below meth c ls A C hl hP hK hD hA hS => ?_
  obtain ⟨hx, hb, hml, hown, hT, hr, hlk⟩ := id C
  have hl : lv_has ls 5 [(0, .ref (a_pl 0))] := hl
  have B7 : ∀ (n7 : Nat), ∀ (x1 : Int32) (x2 : Int32) (pl_inside : Int32) (pl_ends : Int32) (pl_ring : Int32) (pl_choices : Int32) (H : Heap) (locs : List Loc) (ls : Array Slot), lv_has ls 5 [(0, .ref (a_pl 0)), (1, .int x1), (2, .int x2)] → va_P D vwCl (wX4 cA a_pl pl_rest pl_sketch pl_placed pl_rings pl_ringNodes pl_ringLength pl_ringSet pl_oldRing pl_path pl_pathLength pl_queue pl_origin pl_inside pl_ends pl_ring pl_choices) H → va_D A (wX4 cA a_pl pl_rest pl_sketch pl_placed pl_rings pl_ringNodes pl_ringLength pl_ringSet pl_oldRing pl_path pl_pathLength pl_queue pl_origin pl_inside pl_ends pl_ring pl_choices) → va_S A s.heap H locs → f_X4_weighParts_b7 N pl_rest pl_placed pl_rings pl_ringSet n7 x1 x2 pl_inside pl_ends pl_ring pl_choices = some ρ → W p l e ({ frames := 3, cells := 0, slots := 0, locals := 69 } : Room) s m ([.ref (a_pl 0)] : List Value).toArray below meth c H locs 0 0 (MQ below (va_Qi (fun r (_ : Unit) => r = ρ.1) (fun _ t => va_P D vwCl (wX4 cA a_pl pl_rest pl_sketch pl_placed pl_rings pl_ringNodes pl_ringLength pl_ringSet pl_oldRing pl_path pl_pathLength pl_queue pl_origin ρ.2.1 ρ.2.2.1 ρ.2.2.2.1 ρ.2.2.2.2) t.heap ∧ va_D A (wX4 cA a_pl pl_rest pl_sketch pl_placed pl_rings pl_ringNodes pl_ringLength pl_ringSet pl_oldRing pl_path pl_pathLength pl_queue pl_origin ρ.2.1 ρ.2.2.1 ρ.2.2.2.1 ρ.2.2.2.2)) A) ([.ref (a_pl 0)] : List Value).toArray s 0 0 A) (F0 m 7 ls []) := by
    intro n7
    induction n7 with
    | zero =>
      intro x1 x2 pl_inside pl_ends pl_ring pl_choices H locs ls hl hP hD hS hf
      cases (show (none : Option (Int32 × Int32 × Int32 × Int32 × Int32)) = some ρ from hf)
    | succ n7 ih7 =>
      have B76 : ∀ (x1 : Int32) (x2 : Int32) (pl_inside : Int32) (pl_ends : Int32) (pl_ring : Int32) (pl_choices : Int32) (H : Heap) (locs : List Loc) (ls : Array Slot), lv_has ls 5 [(0, .ref (a_pl 0)), (1, .int x1), (2, .int x2)] → va_P D vwCl (wX4 cA a_pl pl_rest pl_sketch pl_placed pl_rings pl_ringNodes pl_ringLength pl_ringSet pl_oldRing pl_path pl_pathLength pl_queue pl_origin pl_inside pl_ends pl_ring pl_choices) H → va_D A (wX4 cA a_pl pl_rest pl_sketch pl_placed pl_rings pl_ringNodes pl_ringLength pl_ringSet pl_oldRing pl_path pl_pathLength pl_queue pl_origin pl_inside pl_ends pl_ring pl_choices) → va_S A s.heap H locs → f_X4_weighParts_b76 N pl_rest pl_placed pl_rings pl_ringSet (f_X4_weighParts_b7 N pl_rest pl_placed pl_rings pl_ringSet n7) x1 x2 pl_inside pl_ends pl_ring pl_choices = some ρ → W p l e ({ frames := 3, cells := 0, slots := 0, locals := 69 } : Room) s m ([.ref (a_pl 0)] : List Value).toArray below meth c H locs 0 0 (MQ below (va_Qi (fun r (_ : Unit) => r = ρ.1) (fun _ t => va_P D vwCl (wX4 cA a_pl pl_rest pl_sketch pl_placed pl_rings pl_ringNodes pl_ringLength pl_ringSet pl_oldRing pl_path pl_pathLength pl_queue pl_origin ρ.2.1 ρ.2.2.1 ρ.2.2.2.1 ρ.2.2.2.2) t.heap ∧ va_D A (wX4 cA a_pl pl_rest pl_sketch pl_placed pl_rings pl_ringNodes pl_ringLength pl_ringSet pl_oldRing pl_path pl_pathLength pl_queue pl_origin ρ.2.1 ρ.2.2.1 ρ.2.2.2.1 ρ.2.2.2.2)) A) ([.ref (a_pl 0)] : List Value).toArray s 0 0 A) (F0 m 76 ls []) := by
        intro x1 x2 pl_inside pl_ends pl_ring pl_choices H locs ls hl hP hD hS hf
        refine lv_iinc (v := (x2 + 1)) (lv' := [(2, .int (x2 + 1)), (0, .ref (a_pl 0)), (1, .int x1)]) hx hb dX4_weighParts_76 hl (k := 2) rfl rfl (by decide) rfl (fun ls hl => ?_)
        refine lv_goto (tgt := 7) hx hb dX4_weighParts_79 (by decide) ?_
        exact ih7 x1 (x2 + 1) pl_inside pl_ends pl_ring pl_choices _ _ _ (lv_sub hl [1, 2, 0] rfl) hP hD hS hf
      intro x1 x2 pl_inside pl_ends pl_ring pl_choices H locs ls hl hP hD hS hf
      refine lv_iload_n hx hb dX4_weighParts_7 rfl (lv_at hl 2 rfl) ?_
      refine lv_bipush (v := 9) hx hb dX4_weighParts_8 (by decide) ?_
      refine lv_icmp_ge (tgt := 82) hx hb dX4_weighParts_10 (by decide) (fun c_1 => ?_) (fun c_1 => ?_)
      · have hf := ite_t c_1 hf
        refine lv_iconst (v := 1) hx hb dX4_weighParts_82 (by decide) ?_
        have eR := some_i hf
        exact W.zret hx hb hr (by decide) (fun t ht hW => ⟨⟨1, (), rfl, fst_e eR, by rw [← eR, ht]; exact hP, by rw [← eR]; exact hD⟩, hS.F ht⟩) hS.2.2 dX4_weighParts_83 (hlocks := hlk)
      · have hf := ite_f c_1 hf
        refine lv_iload_n hx hb dX4_weighParts_13 rfl (lv_at hl 1 rfl) ?_
        refine lv_iload_n hx hb dX4_weighParts_14 rfl (lv_at hl 2 rfl) ?_
        obtain ⟨r_2, hcr_2, hf⟩ := bd1_s hf
        refine backI (runN0 C (c_X7_contains l D cA x1 x2 N r_2 hcr_2) cf_X7_contains kn_X4_69 ⟨rfl, rfl, by decide, by decide⟩ ⟨Nat.zero_le _, Nat.zero_le _⟩ (hP.sub [] rfl) hK hl.1 rfl rfl (Nat.le_of_ble_eq_true rfl) dX4_weighParts_15) ?_
        refine lv_if_ne (tgt := 76) hx hb dX4_weighParts_18 (by decide) (fun c_3 => ?_) (fun c_3 => ?_)
        · have hf := ite_t c_3 hf
          exact B76 x1 x2 pl_inside pl_ends pl_ring pl_choices _ _ _ (lv_sub hl [0, 1, 2] rfl) hP hD hS hf
        · have hf := ite_fn c_3 hf
          refine lv_iload_n hx hb dX4_weighParts_21 rfl (lv_at hl 2 rfl) ?_
          refine lv_aload_n hx hb dX4_weighParts_22 rfl (lv_at hl 0 rfl) ?_
          refine va_get (D := D) (ci := 4) (C := RX4) (T := TX4) (N := 16) hx hb hT kwX4 hown hK.1 hP 0 rfl rfl 2 (by decide) (hT _ kf_X4_120) (fun _ h9 => h9) rfl dX4_weighParts_23 ?_
          refine lv_iconst (v := (-1)) hx hb dX4_weighParts_26 (by decide) ?_
          refine lv_ixor hx hb dX4_weighParts_27 ?_
          refine lv_aload_n hx hb dX4_weighParts_28 rfl (lv_at hl 0 rfl) ?_
          refine va_get (D := D) (ci := 4) (C := RX4) (T := TX4) (N := 16) hx hb hT kwX4 hown hK.1 hP 0 rfl rfl 0 (by decide) (hT _ kf_X4_9) (fun _ h9 => h9) rfl dX4_weighParts_29 ?_
          obtain ⟨r_4, hcr_4, hf⟩ := bd1_s hf
          refine backI (runN0 C (c_X7_spread l D cA (a_pl 1) pl_rest x2 (pl_placed ^^^ (-1)) N r_4 hcr_4) cf_X7_spread kn_X4_130 ⟨rfl, rfl, by decide, by decide⟩ ⟨Nat.zero_le _, Nat.zero_le _⟩ (hP.sub [1] rfl) hK hl.1 rfl rfl (Nat.le_of_ble_eq_true rfl) dX4_weighParts_32) ?_
          refine lv_istore_n (lv' := [(3, .int r_4), (0, .ref (a_pl 0)), (1, .int x1), (2, .int x2)]) hx hb dX4_weighParts_35 rfl hl (by decide) rfl (fun ls hl => ?_)
          refine lv_iload_n hx hb dX4_weighParts_36 rfl (lv_at hl 0 rfl) ?_
          refine lv_aload_n hx hb dX4_weighParts_37 rfl (lv_at hl 1 rfl) ?_
          refine va_get (D := D) (ci := 4) (C := RX4) (T := TX4) (N := 16) hx hb hT kwX4 hown hK.1 hP 0 rfl rfl 0 (by decide) (hT _ kf_X4_9) (fun _ h9 => h9) rfl dX4_weighParts_38 ?_
          obtain ⟨r_5, hcr_5, hf⟩ := bd1_s hf
          refine backI (runN0 C (c_X7_neighboursOf l D cA (a_pl 1) pl_rest r_4 N r_5 hcr_5) cf_X7_neighboursOf kn_X4_76 ⟨rfl, rfl, by decide, by decide⟩ ⟨Nat.zero_le _, Nat.zero_le _⟩ (hP.sub [1] rfl) hK hl.1 rfl rfl (Nat.le_of_ble_eq_true rfl) dX4_weighParts_41) ?_
          refine lv_aload_n hx hb dX4_weighParts_44 rfl (lv_at hl 1 rfl) ?_
          refine va_get (D := D) (ci := 4) (C := RX4) (T := TX4) (N := 16) hx hb hT kwX4 hown hK.1 hP 0 rfl rfl 2 (by decide) (hT _ kf_X4_120) (fun _ h9 => h9) rfl dX4_weighParts_45 ?_
          refine lv_iand hx hb dX4_weighParts_48 ?_
          refine lv_topi (fun x4_6 ex4_6 => ?_)
          have hf := nm_t ex4_6 hf
          refine lv_istore (lv' := [(4, .int x4_6), (3, .int r_4), (0, .ref (a_pl 0)), (1, .int x1), (2, .int x2)]) hx hb dX4_weighParts_49 hl (by decide) rfl (fun ls hl => ?_)
          refine lv_iload_n hx hb dX4_weighParts_51 rfl (lv_at hl 3 rfl) ?_
          refine lv_iload_n hx hb dX4_weighParts_52 rfl (lv_at hl 1 rfl) ?_
          refine lv_ior hx hb dX4_weighParts_53 ?_
          refine lv_topi (fun x1_7 ex1_7 => ?_)
          have hf := nm_t ex1_7 hf
          refine lv_istore_n (lv' := [(1, .int x1_7), (4, .int x4_6), (3, .int r_4), (0, .ref (a_pl 0)), (2, .int x2)]) hx hb dX4_weighParts_54 rfl hl (by decide) rfl (fun ls hl => ?_)
          refine lv_iload hx hb dX4_weighParts_55 (lv_at hl 1 rfl) ?_
          obtain ⟨r_8, hcr_8, hf⟩ := bd1_s hf
          refine backI (runS0 C (c_J6_bitCount_0f7a4 l D cA x4_6 N r_8 hcr_8) cf_J6_bitCount_0f7a4 km_X4_59 ⟨rfl, rfl, by decide, by decide⟩ ⟨Nat.zero_le _, Nat.zero_le _⟩ (hP.sub [] rfl) hK hl.1 rfl rfl (Nat.le_of_ble_eq_true rfl) dX4_weighParts_57) ?_
          refine lv_iconst (v := 2) hx hb dX4_weighParts_60 (by decide) ?_
          refine lv_icmp_lt (tgt := 76) hx hb dX4_weighParts_61 (by decide) (fun c_9 => ?_) (fun c_9 => ?_)
          · have hf := ite_t c_9 hf
            exact B76 x1_7 x2 pl_inside pl_ends pl_ring pl_choices _ _ _ (lv_sub hl [3, 0, 4] rfl) hP hD hS hf
          · have hf := ite_f c_9 hf
            refine lv_aload_n hx hb dX4_weighParts_64 rfl (lv_at hl 3 rfl) ?_
            refine lv_iload_n hx hb dX4_weighParts_65 rfl (lv_at hl 2 rfl) ?_
            refine lv_iload hx hb dX4_weighParts_66 (lv_at hl 1 rfl) ?_
            obtain ⟨r_10, hcr_10, hf⟩ := bd1_s hf
            refine backWi (w2 := (wX4 cA a_pl pl_rest pl_sketch pl_placed pl_rings pl_ringNodes pl_ringLength pl_ringSet pl_oldRing pl_path pl_pathLength pl_queue pl_origin r_10.2.1 r_10.2.2.1 r_10.2.2.2.1 r_10.2.2.2.2)) (runVw C (c_X4_weigh l D cA a_pl pl_rest pl_sketch pl_placed pl_rings pl_ringNodes pl_ringLength pl_ringSet pl_oldRing pl_path pl_pathLength pl_queue pl_origin pl_inside pl_ends pl_ring pl_choices r_4 x4_6 _ N r_10 hcr_10) cf_X4_weigh km_X4_127 ⟨rfl, rfl, by decide, by decide⟩ ⟨Nat.zero_le _, Nat.zero_le _⟩ (va_recv hK.1 hP (ci := 4) (q0 := 0) rfl rfl) (hP.sub [0, 1, 2, 3, 4, 5, 6, 7, 8, 9] rfl) (hD.sub [0, 1, 2, 3, 4, 5, 6, 7, 8, 9] rfl rfl) hK hl.1 rfl rfl (Nat.le_of_ble_eq_true rfl) dX4_weighParts_68) hP hD hS hA [0, 1, 2, 3, 4, 5, 6, 7, 8, 9] rfl [] rfl rfl (by decide) [0, 1, 2, 3, 4, 5, 6, 7, 8, 9] rfl rfl (fun H locs hP hD hS => ?_)
            refine lv_if_ne (tgt := 76) hx hb dX4_weighParts_71 (by decide) (fun c_11 => ?_) (fun c_11 => ?_)
            · have hf := ite_t c_11 hf
              exact B76 x1_7 x2 r_10.2.1 r_10.2.2.1 r_10.2.2.2.1 r_10.2.2.2.2 _ _ _ (lv_sub hl [3, 0, 4] rfl) hP hD hS hf
            · have hf := ite_fn c_11 hf
              refine lv_iconst (v := 0) hx hb dX4_weighParts_74 (by decide) ?_
              have eR := some_i hf
              exact W.zret hx hb hr (by decide) (fun t ht hW => ⟨⟨0, (), rfl, fst_e eR, by rw [← eR, ht]; exact hP, by rw [← eR]; exact hD⟩, hS.F ht⟩) hS.2.2 dX4_weighParts_75 (hlocks := hlk)
  refine lv_aload_n hx hb dX4_weighParts_0 rfl (lv_at hl 0 rfl) ?_
  refine va_get (D := D) (ci := 4) (C := RX4) (T := TX4) (N := 16) hx hb hT kwX4 hown hK.1 hP 0 rfl rfl 2 (by decide) (hT _ kf_X4_120) (fun _ h9 => h9) rfl dX4_weighParts_1 ?_
  refine lv_istore_n (lv' := [(1, .int pl_placed), (0, .ref (a_pl 0))]) hx hb dX4_weighParts_4 rfl hl (by decide) rfl (fun ls hl => ?_)
  refine lv_iconst (v := 0) hx hb dX4_weighParts_5 (by decide) ?_
  refine lv_istore_n (lv' := [(2, .int 0), (1, .int pl_placed), (0, .ref (a_pl 0))]) hx hb dX4_weighParts_6 rfl hl (by decide) rfl (fun ls hl => ?_)
  exact B7 N pl_placed 0 pl_inside pl_ends pl_ring pl_choices _ _ _ (lv_sub hl [2, 1, 0] rfl) hP hD hS hf
set_option maxRecDepth 100000 in
set_option maxHeartbeats 4000000 in
theorem c_X4_tracePath (l : Launch) (D : va_G) (cA : Nat → ClassId) (a_pl : Nat → Nat) (pl_rest : Nat → Int32) (pl_sketch : Nat → Int32) (pl_placed : Int32) (pl_rings : Int32) (pl_ringNodes : Nat → Int32) (pl_ringLength : Nat → Int32) (pl_ringSet : Nat → Int32) (pl_oldRing : Nat → Int32) (pl_path : Nat → Int32) (pl_pathLength : Int32) (pl_queue : Nat → Int32) (pl_origin : Nat → Int32) (pl_inside : Int32) (pl_ends : Int32) (pl_ring : Int32) (pl_choices : Int32) (p1 : Int32) (p2 : Int32) (p3 : Int32) (sz N : Nat) (ρ : (Nat → Int32) × Int32) (hf : f_X4_tracePath N pl_path pl_pathLength pl_origin p1 p2 p3 = some ρ) : Met l yX4_tracePath (Cond.code yX4_tracePath cX4_tracePath 6 (Option.none : Option Jvm.ClassFile.FieldType) :: lw_g) ({ frames := 0, cells := 0, slots := 0, locals := 0 } : Room) (PcW D (tyA cA) (wX4 cA a_pl pl_rest pl_sketch pl_placed pl_rings pl_ringNodes pl_ringLength pl_ringSet pl_oldRing pl_path pl_pathLength pl_queue pl_origin pl_inside pl_ends pl_ring pl_choices) sz [.ref (a_pl 0), .int p1, .int p2, .int p3]) (va_Qv (fun (_ : Unit) => True) (fun _ t => va_P D vwCl (wX4 cA a_pl pl_rest pl_sketch pl_placed pl_rings pl_ringNodes pl_ringLength pl_ringSet pl_oldRing ρ.1 ρ.2 pl_queue pl_origin pl_inside pl_ends pl_ring pl_choices) t.heap ∧ va_D (va_A (wX4 cA a_pl pl_rest pl_sketch pl_placed pl_rings pl_ringNodes pl_ringLength pl_ringSet pl_oldRing pl_path pl_pathLength pl_queue pl_origin pl_inside pl_ends pl_ring pl_choices) sz) (wX4 cA a_pl pl_rest pl_sketch pl_placed pl_rings pl_ringNodes pl_ringLength pl_ringSet pl_oldRing ρ.1 ρ.2 pl_queue pl_origin pl_inside pl_ends pl_ring pl_choices)) (va_A (wX4 cA a_pl pl_rest pl_sketch pl_placed pl_rings pl_ringNodes pl_ringLength pl_ringSet pl_oldRing pl_path pl_pathLength pl_queue pl_origin pl_inside pl_ends pl_ring pl_choices) sz)) 0 0 (va_A (wX4 cA a_pl pl_rest pl_sketch pl_placed pl_rings pl_ringNodes pl_ringLength pl_ringSet pl_oldRing pl_path pl_pathLength pl_queue pl_origin pl_inside pl_ends pl_ring pl_choices) sz) := by
  refine mkW (QQ := fun A => va_Qv (fun (_ : Unit) => True) (fun _ t => va_P D vwCl (wX4 cA a_pl pl_rest pl_sketch pl_placed pl_rings pl_ringNodes pl_ringLength pl_ringSet pl_oldRing ρ.1 ρ.2 pl_queue pl_origin pl_inside pl_ends pl_ring pl_choices) t.heap ∧ va_D A (wX4 cA a_pl pl_rest pl_sketch pl_placed pl_rings pl_ringNodes pl_ringLength pl_ringSet pl_oldRing ρ.1 ρ.2 pl_queue pl_origin pl_inside pl_ends pl_ring pl_choices)) A) (by decide) (Nat.le_of_ble_eq_true rfl) fun p e s m below meth c ls A C hl hP hK hD hA hS => ?_
  obtain ⟨hx, hb, hml, hown, hT, hr, hlk⟩ := id C
  have hl : lv_has ls 6 [(0, .ref (a_pl 0)), (1, .int p1), (2, .int p2), (3, .int p3)] := hl
  have B50 : ∀ (x3 : Int32) (x5 : Int32) (pl_path : Nat → Int32) (pl_pathLength : Int32) (H : Heap) (locs : List Loc) (ls : Array Slot), lv_has ls 6 [(0, .ref (a_pl 0)), (3, .int x3), (5, .int x5)] → va_P D vwCl (wX4 cA a_pl pl_rest pl_sketch pl_placed pl_rings pl_ringNodes pl_ringLength pl_ringSet pl_oldRing pl_path pl_pathLength pl_queue pl_origin pl_inside pl_ends pl_ring pl_choices) H → va_D A (wX4 cA a_pl pl_rest pl_sketch pl_placed pl_rings pl_ringNodes pl_ringLength pl_ringSet pl_oldRing pl_path pl_pathLength pl_queue pl_origin pl_inside pl_ends pl_ring pl_choices) → va_S A s.heap H locs → f_X4_tracePath_b50 N pl_origin x3 x5 pl_path pl_pathLength = some ρ → W p l e ({ frames := 0, cells := 0, slots := 0, locals := 0 } : Room) s m ([.ref (a_pl 0), .int p1, .int p2, .int p3] : List Value).toArray below meth c H locs 0 0 (MQ below (va_Qv (fun (_ : Unit) => True) (fun _ t => va_P D vwCl (wX4 cA a_pl pl_rest pl_sketch pl_placed pl_rings pl_ringNodes pl_ringLength pl_ringSet pl_oldRing ρ.1 ρ.2 pl_queue pl_origin pl_inside pl_ends pl_ring pl_choices) t.heap ∧ va_D A (wX4 cA a_pl pl_rest pl_sketch pl_placed pl_rings pl_ringNodes pl_ringLength pl_ringSet pl_oldRing ρ.1 ρ.2 pl_queue pl_origin pl_inside pl_ends pl_ring pl_choices)) A) ([.ref (a_pl 0), .int p1, .int p2, .int p3] : List Value).toArray s 0 0 A) (F0 m 50 ls []) := by
    intro x3 x5 pl_path pl_pathLength H locs ls hl hP hD hS hf
    refine lv_aload_n hx hb dX4_tracePath_50 rfl (lv_at hl 0 rfl) ?_
    refine va_get (D := D) (ci := 4) (C := RX4) (T := TX4) (N := 16) hx hb hT kwX4 hown hK.1 hP 0 rfl rfl 8 (by decide) (hT _ kf_X4_30) (fun _ h9 => h9) rfl dX4_tracePath_51 ?_
    refine lv_iload hx hb dX4_tracePath_54 (lv_at hl 2 rfl) ?_
    refine lv_iload_n hx hb dX4_tracePath_56 rfl (lv_at hl 1 rfl) ?_
    obtain ⟨h_7, hf⟩ := chk_s hf
    refine va_iast hx hb hK.1 hP hD hS 7 0 rfl rfl (inb_in h_7) dX4_tracePath_57 (fun H locs hP hD hS => ?_)
    have hP : va_P D vwCl (wX4 cA a_pl pl_rest pl_sketch pl_placed pl_rings pl_ringNodes pl_ringLength pl_ringSet pl_oldRing (upd pl_path x5.toNatClampNeg x3) pl_pathLength pl_queue pl_origin pl_inside pl_ends pl_ring pl_choices) H := hP
    have hD : va_D A (wX4 cA a_pl pl_rest pl_sketch pl_placed pl_rings pl_ringNodes pl_ringLength pl_ringSet pl_oldRing (upd pl_path x5.toNatClampNeg x3) pl_pathLength pl_queue pl_origin pl_inside pl_ends pl_ring pl_choices) := hD
    refine lv_aload_n hx hb dX4_tracePath_58 rfl (lv_at hl 0 rfl) ?_
    refine lv_iload hx hb dX4_tracePath_59 (lv_at hl 2 rfl) ?_
    refine lv_iconst (v := 1) hx hb dX4_tracePath_61 (by decide) ?_
    refine lv_iadd hx hb dX4_tracePath_62 ?_
    refine va_put (D := D) (ci := 4) (v := .int (x5 + 1)) (ty := .int) (C := RX4) (T := TX4) (N := 16) hx hb hT kwX4 tyX4 tyX4_ok nmX4 hown hK.1 hP hD hS 0 rfl rfl 9 (by decide) (hT _ kf_X4_83) (fun _ h9 => h9) rfl (by decide +kernel) rfl rfl (Nat.le_of_ble_eq_true rfl) dX4_tracePath_63 (fun H locs hP hD hS => ?_)
    have hP : va_P D vwCl (wX4 cA a_pl pl_rest pl_sketch pl_placed pl_rings pl_ringNodes pl_ringLength pl_ringSet pl_oldRing (upd pl_path x5.toNatClampNeg x3) (x5 + 1) pl_queue pl_origin pl_inside pl_ends pl_ring pl_choices) H := hP
    have hD : va_D A (wX4 cA a_pl pl_rest pl_sketch pl_placed pl_rings pl_ringNodes pl_ringLength pl_ringSet pl_oldRing (upd pl_path x5.toNatClampNeg x3) (x5 + 1) pl_queue pl_origin pl_inside pl_ends pl_ring pl_choices) := hD
    have eR := some_i hf
    exact W.vret hx hb hr (fun t ht hW => ⟨⟨(), rfl, trivial, by rw [← eR, ht]; exact hP, by rw [← eR]; exact hD⟩, hS.F ht⟩) hS.2.2 dX4_tracePath_66 (hlocks := hlk)
  have B13 : ∀ (n13 : Nat), ∀ (x3 : Int32) (x4 : Int32) (x5 : Int32) (pl_path : Nat → Int32) (pl_pathLength : Int32) (H : Heap) (locs : List Loc) (ls : Array Slot), lv_has ls 6 [(0, .ref (a_pl 0)), (3, .int x3), (4, .int x4), (5, .int x5)] → va_P D vwCl (wX4 cA a_pl pl_rest pl_sketch pl_placed pl_rings pl_ringNodes pl_ringLength pl_ringSet pl_oldRing pl_path pl_pathLength pl_queue pl_origin pl_inside pl_ends pl_ring pl_choices) H → va_D A (wX4 cA a_pl pl_rest pl_sketch pl_placed pl_rings pl_ringNodes pl_ringLength pl_ringSet pl_oldRing pl_path pl_pathLength pl_queue pl_origin pl_inside pl_ends pl_ring pl_choices) → va_S A s.heap H locs → f_X4_tracePath_b13 N pl_origin n13 x3 x4 x5 pl_path pl_pathLength = some ρ → W p l e ({ frames := 0, cells := 0, slots := 0, locals := 0 } : Room) s m ([.ref (a_pl 0), .int p1, .int p2, .int p3] : List Value).toArray below meth c H locs 0 0 (MQ below (va_Qv (fun (_ : Unit) => True) (fun _ t => va_P D vwCl (wX4 cA a_pl pl_rest pl_sketch pl_placed pl_rings pl_ringNodes pl_ringLength pl_ringSet pl_oldRing ρ.1 ρ.2 pl_queue pl_origin pl_inside pl_ends pl_ring pl_choices) t.heap ∧ va_D A (wX4 cA a_pl pl_rest pl_sketch pl_placed pl_rings pl_ringNodes pl_ringLength pl_ringSet pl_oldRing ρ.1 ρ.2 pl_queue pl_origin pl_inside pl_ends pl_ring pl_choices)) A) ([.ref (a_pl 0), .int p1, .int p2, .int p3] : List Value).toArray s 0 0 A) (F0 m 13 ls []) := by
    intro n13
    induction n13 with
    | zero =>
      intro x3 x4 x5 pl_path pl_pathLength H locs ls hl hP hD hS hf
      cases (show (none : Option ((Nat → Int32) × Int32)) = some ρ from hf)
    | succ n13 ih13 =>
      intro x3 x4 x5 pl_path pl_pathLength H locs ls hl hP hD hS hf
      refine lv_iload hx hb dX4_tracePath_13 (lv_at hl 3 rfl) ?_
      refine lv_bipush (v := 8) hx hb dX4_tracePath_15 (by decide) ?_
      refine lv_icmp_ge (tgt := 50) hx hb dX4_tracePath_17 (by decide) (fun c_2 => ?_) (fun c_2 => ?_)
      · have hf := ite_t c_2 hf
        exact B50 x3 x5 pl_path pl_pathLength _ _ _ (lv_sub hl [0, 1, 3] rfl) hP hD hS hf
      · have hf := ite_f c_2 hf
        refine lv_iload hx hb dX4_tracePath_20 (lv_at hl 2 rfl) ?_
        refine lv_iload_n hx hb dX4_tracePath_22 rfl (lv_at hl 1 rfl) ?_
        refine lv_icmp_eq (tgt := 50) hx hb dX4_tracePath_23 (by decide) (fun c_3 => ?_) (fun c_3 => ?_)
        · have hf := ite_t c_3 hf
          exact B50 x3 x5 pl_path pl_pathLength _ _ _ (lv_sub hl [0, 1, 3] rfl) hP hD hS hf
        · have hf := ite_f c_3 hf
          refine lv_aload_n hx hb dX4_tracePath_26 rfl (lv_at hl 0 rfl) ?_
          refine va_get (D := D) (ci := 4) (C := RX4) (T := TX4) (N := 16) hx hb hT kwX4 hown hK.1 hP 0 rfl rfl 8 (by decide) (hT _ kf_X4_30) (fun _ h9 => h9) rfl dX4_tracePath_27 ?_
          refine lv_iload hx hb dX4_tracePath_30 (lv_at hl 3 rfl) ?_
          refine lv_iload hx hb dX4_tracePath_32 (lv_at hl 2 rfl) ?_
          obtain ⟨h_4, hf⟩ := chk_s hf
          refine va_iast hx hb hK.1 hP hD hS 7 0 rfl rfl (inb_in h_4) dX4_tracePath_34 (fun H locs hP hD hS => ?_)
          have hP : va_P D vwCl (wX4 cA a_pl pl_rest pl_sketch pl_placed pl_rings pl_ringNodes pl_ringLength pl_ringSet pl_oldRing (upd pl_path x5.toNatClampNeg x4) pl_pathLength pl_queue pl_origin pl_inside pl_ends pl_ring pl_choices) H := hP
          have hD : va_D A (wX4 cA a_pl pl_rest pl_sketch pl_placed pl_rings pl_ringNodes pl_ringLength pl_ringSet pl_oldRing (upd pl_path x5.toNatClampNeg x4) pl_pathLength pl_queue pl_origin pl_inside pl_ends pl_ring pl_choices) := hD
          refine lv_aload_n hx hb dX4_tracePath_35 rfl (lv_at hl 0 rfl) ?_
          refine va_get (D := D) (ci := 4) (C := RX4) (T := TX4) (N := 16) hx hb hT kwX4 hown hK.1 hP 0 rfl rfl 11 (by decide) (hT _ kf_X4_36) (fun _ h9 => h9) rfl dX4_tracePath_36 ?_
          refine lv_iload hx hb dX4_tracePath_39 (lv_at hl 2 rfl) ?_
          obtain ⟨h_5, hf⟩ := chk_s hf
          refine va_iald hx hb hK.1 hP 9 0 rfl rfl (inb_in h_5) dX4_tracePath_41 ?_
          refine lv_topi (fun x4_6 ex4_6 => ?_)
          have hf := nm_t ex4_6 hf
          refine lv_istore (lv' := [(4, .int x4_6), (0, .ref (a_pl 0)), (3, .int x3), (5, .int x5)]) hx hb dX4_tracePath_42 hl (by decide) rfl (fun ls hl => ?_)
          refine lv_iinc (v := (x5 + 1)) (lv' := [(5, .int (x5 + 1)), (4, .int x4_6), (0, .ref (a_pl 0)), (3, .int x3)]) hx hb dX4_tracePath_44 hl (k := 3) rfl rfl (by decide) rfl (fun ls hl => ?_)
          refine lv_goto (tgt := 13) hx hb dX4_tracePath_47 (by decide) ?_
          exact ih13 x3 x4_6 (x5 + 1) (upd pl_path x5.toNatClampNeg x4) pl_pathLength _ _ _ (lv_sub hl [2, 3, 1, 0] rfl) hP hD hS hf
  refine lv_aload_n hx hb dX4_tracePath_0 rfl (lv_at hl 0 rfl) ?_
  refine va_get (D := D) (ci := 4) (C := RX4) (T := TX4) (N := 16) hx hb hT kwX4 hown hK.1 hP 0 rfl rfl 8 (by decide) (hT _ kf_X4_30) (fun _ h9 => h9) rfl dX4_tracePath_1 ?_
  refine lv_iconst (v := 0) hx hb dX4_tracePath_4 (by decide) ?_
  refine lv_iload_n hx hb dX4_tracePath_5 rfl (lv_at hl 1 rfl) ?_
  obtain ⟨h_1, hf⟩ := chk_s hf
  refine va_iast hx hb hK.1 hP hD hS 7 0 rfl rfl (inb_in h_1) dX4_tracePath_6 (fun H locs hP hD hS => ?_)
  have hP : va_P D vwCl (wX4 cA a_pl pl_rest pl_sketch pl_placed pl_rings pl_ringNodes pl_ringLength pl_ringSet pl_oldRing (upd pl_path (0 : Int32).toNatClampNeg p1) pl_pathLength pl_queue pl_origin pl_inside pl_ends pl_ring pl_choices) H := hP
  have hD : va_D A (wX4 cA a_pl pl_rest pl_sketch pl_placed pl_rings pl_ringNodes pl_ringLength pl_ringSet pl_oldRing (upd pl_path (0 : Int32).toNatClampNeg p1) pl_pathLength pl_queue pl_origin pl_inside pl_ends pl_ring pl_choices) := hD
  refine lv_iload_n hx hb dX4_tracePath_7 rfl (lv_at hl 2 rfl) ?_
  refine lv_istore (lv' := [(4, .int p2), (0, .ref (a_pl 0)), (1, .int p1), (2, .int p2), (3, .int p3)]) hx hb dX4_tracePath_8 hl (by decide) rfl (fun ls hl => ?_)
  refine lv_iconst (v := 1) hx hb dX4_tracePath_10 (by decide) ?_
  refine lv_istore (lv' := [(5, .int 1), (4, .int p2), (0, .ref (a_pl 0)), (1, .int p1), (2, .int p2), (3, .int p3)]) hx hb dX4_tracePath_11 hl (by decide) rfl (fun ls hl => ?_)
  exact B13 N p3 p2 1 (upd pl_path (0 : Int32).toNatClampNeg p1) pl_pathLength _ _ _ (lv_sub hl [2, 5, 1, 0] rfl) hP hD hS hf
set_option maxRecDepth 100000 in
set_option maxHeartbeats 4000000 in
theorem c_X4_findPath (l : Launch) (D : va_G) (cA : Nat → ClassId) (a_pl : Nat → Nat) (pl_rest : Nat → Int32) (pl_sketch : Nat → Int32) (pl_placed : Int32) (pl_rings : Int32) (pl_ringNodes : Nat → Int32) (pl_ringLength : Nat → Int32) (pl_ringSet : Nat → Int32) (pl_oldRing : Nat → Int32) (pl_path : Nat → Int32) (pl_pathLength : Int32) (pl_queue : Nat → Int32) (pl_origin : Nat → Int32) (pl_inside : Int32) (pl_ends : Int32) (pl_ring : Int32) (pl_choices : Int32) (sz N : Nat) (ρ : (Nat → Int32) × Int32 × (Nat → Int32) × (Nat → Int32)) (hf : f_X4_findPath N pl_rest pl_path pl_pathLength pl_queue pl_origin pl_inside pl_ends = some ρ) : Met l yX4_findPath (Cond.code yX4_findPath cX4_findPath 8 (Option.none : Option Jvm.ClassFile.FieldType) :: lw_g) ({ frames := 2, cells := 0, slots := 0, locals := 42 } : Room) (PcW D (tyA cA) (wX4 cA a_pl pl_rest pl_sketch pl_placed pl_rings pl_ringNodes pl_ringLength pl_ringSet pl_oldRing pl_path pl_pathLength pl_queue pl_origin pl_inside pl_ends pl_ring pl_choices) sz [.ref (a_pl 0)]) (va_Qv (fun (_ : Unit) => True) (fun _ t => va_P D vwCl (wX4 cA a_pl pl_rest pl_sketch pl_placed pl_rings pl_ringNodes pl_ringLength pl_ringSet pl_oldRing ρ.1 ρ.2.1 ρ.2.2.1 ρ.2.2.2 pl_inside pl_ends pl_ring pl_choices) t.heap ∧ va_D (va_A (wX4 cA a_pl pl_rest pl_sketch pl_placed pl_rings pl_ringNodes pl_ringLength pl_ringSet pl_oldRing pl_path pl_pathLength pl_queue pl_origin pl_inside pl_ends pl_ring pl_choices) sz) (wX4 cA a_pl pl_rest pl_sketch pl_placed pl_rings pl_ringNodes pl_ringLength pl_ringSet pl_oldRing ρ.1 ρ.2.1 ρ.2.2.1 ρ.2.2.2 pl_inside pl_ends pl_ring pl_choices)) (va_A (wX4 cA a_pl pl_rest pl_sketch pl_placed pl_rings pl_ringNodes pl_ringLength pl_ringSet pl_oldRing pl_path pl_pathLength pl_queue pl_origin pl_inside pl_ends pl_ring pl_choices) sz)) 0 0 (va_A (wX4 cA a_pl pl_rest pl_sketch pl_placed pl_rings pl_ringNodes pl_ringLength pl_ringSet pl_oldRing pl_path pl_pathLength pl_queue pl_origin pl_inside pl_ends pl_ring pl_choices) sz) := by
  refine mkW (QQ := fun A => va_Qv (fun (_ : Unit) => True) (fun _ t => va_P D vwCl (wX4 cA a_pl pl_rest pl_sketch pl_placed pl_rings pl_ringNodes pl_ringLength pl_ringSet pl_oldRing ρ.1 ρ.2.1 ρ.2.2.1 ρ.2.2.2 pl_inside pl_ends pl_ring pl_choices) t.heap ∧ va_D A (wX4 cA a_pl pl_rest pl_sketch pl_placed pl_rings pl_ringNodes pl_ringLength pl_ringSet pl_oldRing ρ.1 ρ.2.1 ρ.2.2.1 ρ.2.2.2 pl_inside pl_ends pl_ring pl_choices)) A) (by decide) (Nat.le_of_ble_eq_true rfl) fun p e s m below meth c ls A C hl hP hK hD hA hS => ?_
  obtain ⟨hx, hb, hml, hown, hT, hr, hlk⟩ := id C
  have hl : lv_has ls 8 [(0, .ref (a_pl 0))] := hl
  have B108 : ∀ (x1 : Int32) (x2 : Int32) (x6 : Int32) (pl_path : Nat → Int32) (pl_pathLength : Int32) (pl_queue : Nat → Int32) (pl_origin : Nat → Int32) (H : Heap) (locs : List Loc) (ls : Array Slot), lv_has ls 8 [(0, .ref (a_pl 0)), (1, .int x1), (2, .int x2), (6, .int x6)] → va_P D vwCl (wX4 cA a_pl pl_rest pl_sketch pl_placed pl_rings pl_ringNodes pl_ringLength pl_ringSet pl_oldRing pl_path pl_pathLength pl_queue pl_origin pl_inside pl_ends pl_ring pl_choices) H → va_D A (wX4 cA a_pl pl_rest pl_sketch pl_placed pl_rings pl_ringNodes pl_ringLength pl_ringSet pl_oldRing pl_path pl_pathLength pl_queue pl_origin pl_inside pl_ends pl_ring pl_choices) → va_S A s.heap H locs → f_X4_findPath_b108 N pl_rest pl_inside pl_ends x1 x2 x6 pl_path pl_pathLength pl_queue pl_origin = some ρ → W p l e ({ frames := 2, cells := 0, slots := 0, locals := 42 } : Room) s m ([.ref (a_pl 0)] : List Value).toArray below meth c H locs 0 0 (MQ below (va_Qv (fun (_ : Unit) => True) (fun _ t => va_P D vwCl (wX4 cA a_pl pl_rest pl_sketch pl_placed pl_rings pl_ringNodes pl_ringLength pl_ringSet pl_oldRing ρ.1 ρ.2.1 ρ.2.2.1 ρ.2.2.2 pl_inside pl_ends pl_ring pl_choices) t.heap ∧ va_D A (wX4 cA a_pl pl_rest pl_sketch pl_placed pl_rings pl_ringNodes pl_ringLength pl_ringSet pl_oldRing ρ.1 ρ.2.1 ρ.2.2.1 ρ.2.2.2 pl_inside pl_ends pl_ring pl_choices)) A) ([.ref (a_pl 0)] : List Value).toArray s 0 0 A) (F0 m 108 ls []) := by
    intro x1 x2 x6 pl_path pl_pathLength pl_queue pl_origin H locs ls hl hP hD hS hf
    refine lv_aload_n hx hb dX4_findPath_108 rfl (lv_at hl 0 rfl) ?_
    refine lv_aload_n hx hb dX4_findPath_109 rfl (lv_at hl 0 rfl) ?_
    refine va_get (D := D) (ci := 4) (C := RX4) (T := TX4) (N := 16) hx hb hT kwX4 hown hK.1 hP 0 rfl rfl 0 (by decide) (hT _ kf_X4_9) (fun _ h9 => h9) rfl dX4_findPath_110 ?_
    refine lv_iload hx hb dX4_findPath_113 (lv_at hl 3 rfl) ?_
    obtain ⟨h_17, hf⟩ := chk_s hf
    refine va_iald hx hb hK.1 hP 1 0 rfl rfl (inb_in h_17) dX4_findPath_115 ?_
    refine lv_iload_n hx hb dX4_findPath_116 rfl (lv_at hl 2 rfl) ?_
    refine lv_iand hx hb dX4_findPath_117 ?_
    obtain ⟨r_18, hcr_18, hf⟩ := bd1_s hf
    refine backI (runN0 C (c_X7_smallestOf l D cA ((pl_rest x6.toNatClampNeg) &&& x2) N r_18 hcr_18) cf_X7_smallestOf kn_X4_80 ⟨rfl, rfl, by decide, by decide⟩ ⟨Nat.zero_le _, Nat.zero_le _⟩ (hP.sub [] rfl) hK hl.1 rfl rfl (Nat.le_of_ble_eq_true rfl) dX4_findPath_118) ?_
    refine lv_iload hx hb dX4_findPath_121 (lv_at hl 3 rfl) ?_
    refine lv_iload_n hx hb dX4_findPath_123 rfl (lv_at hl 1 rfl) ?_
    obtain ⟨r_19, hcr_19, hf⟩ := bd1_s hf
    refine backWv (w2 := (wX4 cA a_pl pl_rest pl_sketch pl_placed pl_rings pl_ringNodes pl_ringLength pl_ringSet pl_oldRing r_19.1 r_19.2 pl_queue pl_origin pl_inside pl_ends pl_ring pl_choices)) (runVw C (c_X4_tracePath l D cA a_pl pl_rest pl_sketch pl_placed pl_rings pl_ringNodes pl_ringLength pl_ringSet pl_oldRing pl_path pl_pathLength pl_queue pl_origin pl_inside pl_ends pl_ring pl_choices r_18 x6 x1 _ N r_19 hcr_19) cf_X4_tracePath km_X4_143 ⟨rfl, rfl, by decide, by decide⟩ ⟨Nat.zero_le _, Nat.zero_le _⟩ (va_recv hK.1 hP (ci := 4) (q0 := 0) rfl rfl) (hP.sub [0, 1, 2, 3, 4, 5, 6, 7, 8, 9] rfl) (hD.sub [0, 1, 2, 3, 4, 5, 6, 7, 8, 9] rfl rfl) hK hl.1 rfl rfl (Nat.le_of_ble_eq_true rfl) dX4_findPath_124) hP hD hS hA [0, 1, 2, 3, 4, 5, 6, 7, 8, 9] rfl [] rfl rfl (by decide) [0, 1, 2, 3, 4, 5, 6, 7, 8, 9] rfl rfl (fun H locs hP hD hS => ?_)
    have eR := some_i hf
    exact W.vret hx hb hr (fun t ht hW => ⟨⟨(), rfl, trivial, by rw [← eR, ht]; exact hP, by rw [← eR]; exact hD⟩, hS.F ht⟩) hS.2.2 dX4_findPath_127 (hlocks := hlk)
  have B68 : ∀ (n68 : Nat), ∀ (x1 : Int32) (x2 : Int32) (x3 : Int32) (x4 : Int32) (x5 : Int32) (pl_path : Nat → Int32) (pl_pathLength : Int32) (pl_queue : Nat → Int32) (pl_origin : Nat → Int32) (H : Heap) (locs : List Loc) (ls : Array Slot), lv_has ls 8 [(0, .ref (a_pl 0)), (1, .int x1), (2, .int x2), (3, .int x3), (4, .int x4), (5, .int x5)] → va_P D vwCl (wX4 cA a_pl pl_rest pl_sketch pl_placed pl_rings pl_ringNodes pl_ringLength pl_ringSet pl_oldRing pl_path pl_pathLength pl_queue pl_origin pl_inside pl_ends pl_ring pl_choices) H → va_D A (wX4 cA a_pl pl_rest pl_sketch pl_placed pl_rings pl_ringNodes pl_ringLength pl_ringSet pl_oldRing pl_path pl_pathLength pl_queue pl_origin pl_inside pl_ends pl_ring pl_choices) → va_S A s.heap H locs → f_X4_findPath_b68 N pl_rest pl_inside pl_ends n68 x1 x2 x3 x4 x5 pl_path pl_pathLength pl_queue pl_origin = some ρ → W p l e ({ frames := 2, cells := 0, slots := 0, locals := 42 } : Room) s m ([.ref (a_pl 0)] : List Value).toArray below meth c H locs 0 0 (MQ below (va_Qv (fun (_ : Unit) => True) (fun _ t => va_P D vwCl (wX4 cA a_pl pl_rest pl_sketch pl_placed pl_rings pl_ringNodes pl_ringLength pl_ringSet pl_oldRing ρ.1 ρ.2.1 ρ.2.2.1 ρ.2.2.2 pl_inside pl_ends pl_ring pl_choices) t.heap ∧ va_D A (wX4 cA a_pl pl_rest pl_sketch pl_placed pl_rings pl_ringNodes pl_ringLength pl_ringSet pl_oldRing ρ.1 ρ.2.1 ρ.2.2.1 ρ.2.2.2 pl_inside pl_ends pl_ring pl_choices)) A) ([.ref (a_pl 0)] : List Value).toArray s 0 0 A) (F0 m 68 ls []) := by
    intro n68
    induction n68 with
    | zero =>
      intro x1 x2 x3 x4 x5 pl_path pl_pathLength pl_queue pl_origin H locs ls hl hP hD hS hf
      cases (show (none : Option ((Nat → Int32) × Int32 × (Nat → Int32) × (Nat → Int32))) = some ρ from hf)
    | succ n68 ih68 =>
      have B205 : ∀ (x1 : Int32) (x2 : Int32) (x3 : Int32) (x4 : Int32) (x5 : Int32) (pl_path : Nat → Int32) (pl_pathLength : Int32) (pl_queue : Nat → Int32) (pl_origin : Nat → Int32) (H : Heap) (locs : List Loc) (ls : Array Slot), lv_has ls 8 [(0, .ref (a_pl 0)), (1, .int x1), (2, .int x2), (3, .int x3), (4, .int x4), (5, .int x5)] → va_P D vwCl (wX4 cA a_pl pl_rest pl_sketch pl_placed pl_rings pl_ringNodes pl_ringLength pl_ringSet pl_oldRing pl_path pl_pathLength pl_queue pl_origin pl_inside pl_ends pl_ring pl_choices) H → va_D A (wX4 cA a_pl pl_rest pl_sketch pl_placed pl_rings pl_ringNodes pl_ringLength pl_ringSet pl_oldRing pl_path pl_pathLength pl_queue pl_origin pl_inside pl_ends pl_ring pl_choices) → va_S A s.heap H locs → f_X4_findPath_b205 N pl_rest pl_inside pl_ends (f_X4_findPath_b68 N pl_rest pl_inside pl_ends n68) x1 x2 x3 x4 x5 pl_path pl_pathLength pl_queue pl_origin = some ρ → W p l e ({ frames := 2, cells := 0, slots := 0, locals := 42 } : Room) s m ([.ref (a_pl 0)] : List Value).toArray below meth c H locs 0 0 (MQ below (va_Qv (fun (_ : Unit) => True) (fun _ t => va_P D vwCl (wX4 cA a_pl pl_rest pl_sketch pl_placed pl_rings pl_ringNodes pl_ringLength pl_ringSet pl_oldRing ρ.1 ρ.2.1 ρ.2.2.1 ρ.2.2.2 pl_inside pl_ends pl_ring pl_choices) t.heap ∧ va_D A (wX4 cA a_pl pl_rest pl_sketch pl_placed pl_rings pl_ringNodes pl_ringLength pl_ringSet pl_oldRing ρ.1 ρ.2.1 ρ.2.2.1 ρ.2.2.2 pl_inside pl_ends pl_ring pl_choices)) A) ([.ref (a_pl 0)] : List Value).toArray s 0 0 A) (F0 m 205 ls []) := by
        intro x1 x2 x3 x4 x5 pl_path pl_pathLength pl_queue pl_origin H locs ls hl hP hD hS hf
        refine lv_iinc (v := (x5 + 1)) (lv' := [(5, .int (x5 + 1)), (0, .ref (a_pl 0)), (1, .int x1), (2, .int x2), (3, .int x3), (4, .int x4)]) hx hb dX4_findPath_205 hl (k := 5) rfl rfl (by decide) rfl (fun ls hl => ?_)
        refine lv_goto (tgt := 68) hx hb dX4_findPath_208 (by decide) ?_
        exact ih68 x1 x2 x3 x4 (x5 + 1) pl_path pl_pathLength pl_queue pl_origin _ _ _ (lv_sub hl [1, 2, 3, 4, 5, 0] rfl) hP hD hS hf
      have B131 : ∀ (n131 : Nat), ∀ (x1 : Int32) (x2 : Int32) (x3 : Int32) (x4 : Int32) (x5 : Int32) (x6 : Int32) (x7 : Int32) (pl_path : Nat → Int32) (pl_pathLength : Int32) (pl_queue : Nat → Int32) (pl_origin : Nat → Int32) (H : Heap) (locs : List Loc) (ls : Array Slot), lv_has ls 8 [(0, .ref (a_pl 0)), (1, .int x1), (2, .int x2), (3, .int x3), (4, .int x4), (5, .int x5), (6, .int x6), (7, .int x7)] → va_P D vwCl (wX4 cA a_pl pl_rest pl_sketch pl_placed pl_rings pl_ringNodes pl_ringLength pl_ringSet pl_oldRing pl_path pl_pathLength pl_queue pl_origin pl_inside pl_ends pl_ring pl_choices) H → va_D A (wX4 cA a_pl pl_rest pl_sketch pl_placed pl_rings pl_ringNodes pl_ringLength pl_ringSet pl_oldRing pl_path pl_pathLength pl_queue pl_origin pl_inside pl_ends pl_ring pl_choices) → va_S A s.heap H locs → f_X4_findPath_b131 N pl_rest pl_inside pl_ends (f_X4_findPath_b68 N pl_rest pl_inside pl_ends n68) n131 x1 x2 x3 x4 x5 x6 x7 pl_path pl_pathLength pl_queue pl_origin = some ρ → W p l e ({ frames := 2, cells := 0, slots := 0, locals := 42 } : Room) s m ([.ref (a_pl 0)] : List Value).toArray below meth c H locs 0 0 (MQ below (va_Qv (fun (_ : Unit) => True) (fun _ t => va_P D vwCl (wX4 cA a_pl pl_rest pl_sketch pl_placed pl_rings pl_ringNodes pl_ringLength pl_ringSet pl_oldRing ρ.1 ρ.2.1 ρ.2.2.1 ρ.2.2.2 pl_inside pl_ends pl_ring pl_choices) t.heap ∧ va_D A (wX4 cA a_pl pl_rest pl_sketch pl_placed pl_rings pl_ringNodes pl_ringLength pl_ringSet pl_oldRing ρ.1 ρ.2.1 ρ.2.2.1 ρ.2.2.2 pl_inside pl_ends pl_ring pl_choices)) A) ([.ref (a_pl 0)] : List Value).toArray s 0 0 A) (F0 m 131 ls []) := by
        intro n131
        induction n131 with
        | zero =>
          intro x1 x2 x3 x4 x5 x6 x7 pl_path pl_pathLength pl_queue pl_origin H locs ls hl hP hD hS hf
          cases (show (none : Option ((Nat → Int32) × Int32 × (Nat → Int32) × (Nat → Int32))) = some ρ from hf)
        | succ n131 ih131 =>
          have B199 : ∀ (x1 : Int32) (x2 : Int32) (x3 : Int32) (x4 : Int32) (x5 : Int32) (x6 : Int32) (x7 : Int32) (pl_path : Nat → Int32) (pl_pathLength : Int32) (pl_queue : Nat → Int32) (pl_origin : Nat → Int32) (H : Heap) (locs : List Loc) (ls : Array Slot), lv_has ls 8 [(0, .ref (a_pl 0)), (1, .int x1), (2, .int x2), (3, .int x3), (4, .int x4), (5, .int x5), (6, .int x6), (7, .int x7)] → va_P D vwCl (wX4 cA a_pl pl_rest pl_sketch pl_placed pl_rings pl_ringNodes pl_ringLength pl_ringSet pl_oldRing pl_path pl_pathLength pl_queue pl_origin pl_inside pl_ends pl_ring pl_choices) H → va_D A (wX4 cA a_pl pl_rest pl_sketch pl_placed pl_rings pl_ringNodes pl_ringLength pl_ringSet pl_oldRing pl_path pl_pathLength pl_queue pl_origin pl_inside pl_ends pl_ring pl_choices) → va_S A s.heap H locs → f_X4_findPath_b199 N pl_rest pl_inside pl_ends (f_X4_findPath_b68 N pl_rest pl_inside pl_ends n68) (f_X4_findPath_b131 N pl_rest pl_inside pl_ends (f_X4_findPath_b68 N pl_rest pl_inside pl_ends n68) n131) x1 x2 x3 x4 x5 x6 x7 pl_path pl_pathLength pl_queue pl_origin = some ρ → W p l e ({ frames := 2, cells := 0, slots := 0, locals := 42 } : Room) s m ([.ref (a_pl 0)] : List Value).toArray below meth c H locs 0 0 (MQ below (va_Qv (fun (_ : Unit) => True) (fun _ t => va_P D vwCl (wX4 cA a_pl pl_rest pl_sketch pl_placed pl_rings pl_ringNodes pl_ringLength pl_ringSet pl_oldRing ρ.1 ρ.2.1 ρ.2.2.1 ρ.2.2.2 pl_inside pl_ends pl_ring pl_choices) t.heap ∧ va_D A (wX4 cA a_pl pl_rest pl_sketch pl_placed pl_rings pl_ringNodes pl_ringLength pl_ringSet pl_oldRing ρ.1 ρ.2.1 ρ.2.2.1 ρ.2.2.2 pl_inside pl_ends pl_ring pl_choices)) A) ([.ref (a_pl 0)] : List Value).toArray s 0 0 A) (F0 m 199 ls []) := by
            intro x1 x2 x3 x4 x5 x6 x7 pl_path pl_pathLength pl_queue pl_origin H locs ls hl hP hD hS hf
            refine lv_iinc (v := (x7 + 1)) (lv' := [(7, .int (x7 + 1)), (0, .ref (a_pl 0)), (1, .int x1), (2, .int x2), (3, .int x3), (4, .int x4), (5, .int x5), (6, .int x6)]) hx hb dX4_findPath_199 hl (k := 7) rfl rfl (by decide) rfl (fun ls hl => ?_)
            refine lv_goto (tgt := 131) hx hb dX4_findPath_202 (by decide) ?_
            exact ih131 x1 x2 x3 x4 x5 x6 (x7 + 1) pl_path pl_pathLength pl_queue pl_origin _ _ _ (lv_sub hl [1, 2, 3, 4, 5, 6, 7, 0] rfl) hP hD hS hf
          intro x1 x2 x3 x4 x5 x6 x7 pl_path pl_pathLength pl_queue pl_origin H locs ls hl hP hD hS hf
          refine lv_iload hx hb dX4_findPath_131 (lv_at hl 7 rfl) ?_
          refine lv_bipush (v := 9) hx hb dX4_findPath_133 (by decide) ?_
          refine lv_icmp_ge (tgt := 205) hx hb dX4_findPath_135 (by decide) (fun c_20 => ?_) (fun c_20 => ?_)
          · have hf := ite_t c_20 hf
            exact B205 x1 x2 x3 x4 x5 pl_path pl_pathLength pl_queue pl_origin _ _ _ (lv_sub hl [0, 1, 2, 3, 4, 5] rfl) hP hD hS hf
          · have hf := ite_f c_20 hf
            refine lv_aload_n hx hb dX4_findPath_138 rfl (lv_at hl 0 rfl) ?_
            refine va_get (D := D) (ci := 4) (C := RX4) (T := TX4) (N := 16) hx hb hT kwX4 hown hK.1 hP 0 rfl rfl 0 (by decide) (hT _ kf_X4_9) (fun _ h9 => h9) rfl dX4_findPath_139 ?_
            refine lv_iload hx hb dX4_findPath_142 (lv_at hl 6 rfl) ?_
            obtain ⟨h_21, hf⟩ := chk_s hf
            refine va_iald hx hb hK.1 hP 1 0 rfl rfl (inb_in h_21) dX4_findPath_144 ?_
            refine lv_aload_n hx hb dX4_findPath_145 rfl (lv_at hl 0 rfl) ?_
            refine va_get (D := D) (ci := 4) (C := RX4) (T := TX4) (N := 16) hx hb hT kwX4 hown hK.1 hP 0 rfl rfl 12 (by decide) (hT _ kf_X4_137) (fun _ h9 => h9) rfl dX4_findPath_146 ?_
            refine lv_iand hx hb dX4_findPath_149 ?_
            refine lv_iload hx hb dX4_findPath_150 (lv_at hl 4 rfl) ?_
            refine lv_iconst (v := (-1)) hx hb dX4_findPath_152 (by decide) ?_
            refine lv_ixor hx hb dX4_findPath_153 ?_
            refine lv_iand hx hb dX4_findPath_154 ?_
            refine lv_iload hx hb dX4_findPath_155 (lv_at hl 7 rfl) ?_
            obtain ⟨r_22, hcr_22, hf⟩ := bd1_s hf
            refine backI (runN0 C (c_X7_contains l D cA (((pl_rest x6.toNatClampNeg) &&& pl_inside) &&& (x4 ^^^ (-1))) x7 N r_22 hcr_22) cf_X7_contains kn_X4_69 ⟨rfl, rfl, by decide, by decide⟩ ⟨Nat.zero_le _, Nat.zero_le _⟩ (hP.sub [] rfl) hK hl.1 rfl rfl (Nat.le_of_ble_eq_true rfl) dX4_findPath_157) ?_
            refine lv_if_eq (tgt := 199) hx hb dX4_findPath_160 (by decide) (fun c_23 => ?_) (fun c_23 => ?_)
            · have hf := ite_t c_23 hf
              exact B199 x1 x2 x3 x4 x5 x6 x7 pl_path pl_pathLength pl_queue pl_origin _ _ _ (lv_sub hl [0, 1, 2, 3, 4, 5, 6, 7] rfl) hP hD hS hf
            · have hf := ite_f c_23 hf
              refine lv_iload_n hx hb dX4_findPath_163 rfl (lv_at hl 3 rfl) ?_
              refine lv_bipush (v := 9) hx hb dX4_findPath_164 (by decide) ?_
              refine lv_icmp_ge (tgt := 199) hx hb dX4_findPath_166 (by decide) (fun c_24 => ?_) (fun c_24 => ?_)
              · have hf := ite_t c_24 hf
                exact B199 x1 x2 x3 x4 x5 x6 x7 pl_path pl_pathLength pl_queue pl_origin _ _ _ (lv_sub hl [0, 1, 2, 3, 4, 5, 6, 7] rfl) hP hD hS hf
              · have hf := ite_f c_24 hf
                refine lv_aload_n hx hb dX4_findPath_169 rfl (lv_at hl 0 rfl) ?_
                refine va_get (D := D) (ci := 4) (C := RX4) (T := TX4) (N := 16) hx hb hT kwX4 hown hK.1 hP 0 rfl rfl 11 (by decide) (hT _ kf_X4_36) (fun _ h9 => h9) rfl dX4_findPath_170 ?_
                refine lv_iload hx hb dX4_findPath_173 (lv_at hl 7 rfl) ?_
                refine lv_iload hx hb dX4_findPath_175 (lv_at hl 6 rfl) ?_
                obtain ⟨h_25, hf⟩ := chk_s hf
                refine va_iast hx hb hK.1 hP hD hS 9 0 rfl rfl (inb_in h_25) dX4_findPath_177 (fun H locs hP hD hS => ?_)
                have hP : va_P D vwCl (wX4 cA a_pl pl_rest pl_sketch pl_placed pl_rings pl_ringNodes pl_ringLength pl_ringSet pl_oldRing pl_path pl_pathLength pl_queue (upd pl_origin x7.toNatClampNeg x6) pl_inside pl_ends pl_ring pl_choices) H := hP
                have hD : va_D A (wX4 cA a_pl pl_rest pl_sketch pl_placed pl_rings pl_ringNodes pl_ringLength pl_ringSet pl_oldRing pl_path pl_pathLength pl_queue (upd pl_origin x7.toNatClampNeg x6) pl_inside pl_ends pl_ring pl_choices) := hD
                refine lv_aload_n hx hb dX4_findPath_178 rfl (lv_at hl 0 rfl) ?_
                refine va_get (D := D) (ci := 4) (C := RX4) (T := TX4) (N := 16) hx hb hT kwX4 hown hK.1 hP 0 rfl rfl 10 (by decide) (hT _ kf_X4_33) (fun _ h9 => h9) rfl dX4_findPath_179 ?_
                refine lv_iload_n hx hb dX4_findPath_182 rfl (lv_at hl 3 rfl) ?_
                refine lv_iload hx hb dX4_findPath_183 (lv_at hl 7 rfl) ?_
                obtain ⟨h_26, hf⟩ := chk_s hf
                refine va_iast hx hb hK.1 hP hD hS 8 0 rfl rfl (inb_in h_26) dX4_findPath_185 (fun H locs hP hD hS => ?_)
                have hP : va_P D vwCl (wX4 cA a_pl pl_rest pl_sketch pl_placed pl_rings pl_ringNodes pl_ringLength pl_ringSet pl_oldRing pl_path pl_pathLength (upd pl_queue x3.toNatClampNeg x7) (upd pl_origin x7.toNatClampNeg x6) pl_inside pl_ends pl_ring pl_choices) H := hP
                have hD : va_D A (wX4 cA a_pl pl_rest pl_sketch pl_placed pl_rings pl_ringNodes pl_ringLength pl_ringSet pl_oldRing pl_path pl_pathLength (upd pl_queue x3.toNatClampNeg x7) (upd pl_origin x7.toNatClampNeg x6) pl_inside pl_ends pl_ring pl_choices) := hD
                refine lv_iinc (v := (x3 + 1)) (lv' := [(3, .int (x3 + 1)), (0, .ref (a_pl 0)), (1, .int x1), (2, .int x2), (4, .int x4), (5, .int x5), (6, .int x6), (7, .int x7)]) hx hb dX4_findPath_186 hl (k := 3) rfl rfl (by decide) rfl (fun ls hl => ?_)
                refine lv_iload hx hb dX4_findPath_189 (lv_at hl 4 rfl) ?_
                refine lv_iload hx hb dX4_findPath_191 (lv_at hl 7 rfl) ?_
                obtain ⟨r_27, hcr_27, hf⟩ := bd1_s hf
                refine backI (runN0 C (c_X7_bit l D cA x7 N r_27 hcr_27) cf_X7_bit kn_X4_73 ⟨rfl, rfl, by decide, by decide⟩ ⟨Nat.zero_le _, Nat.zero_le _⟩ (hP.sub [] rfl) hK hl.1 rfl rfl (Nat.le_of_ble_eq_true rfl) dX4_findPath_193) ?_
                refine lv_ior hx hb dX4_findPath_196 ?_
                refine lv_topi (fun x4_28 ex4_28 => ?_)
                have hf := nm_t ex4_28 hf
                refine lv_istore (lv' := [(4, .int x4_28), (3, .int (x3 + 1)), (0, .ref (a_pl 0)), (1, .int x1), (2, .int x2), (5, .int x5), (6, .int x6), (7, .int x7)]) hx hb dX4_findPath_197 hl (by decide) rfl (fun ls hl => ?_)
                exact B199 x1 x2 (x3 + 1) x4_28 x5 x6 x7 pl_path pl_pathLength (upd pl_queue x3.toNatClampNeg x7) (upd pl_origin x7.toNatClampNeg x6) _ _ _ (lv_sub hl [2, 3, 4, 1, 0, 5, 6, 7] rfl) hP hD hS hf
      have B128 : ∀ (x1 : Int32) (x2 : Int32) (x3 : Int32) (x4 : Int32) (x5 : Int32) (x6 : Int32) (pl_path : Nat → Int32) (pl_pathLength : Int32) (pl_queue : Nat → Int32) (pl_origin : Nat → Int32) (H : Heap) (locs : List Loc) (ls : Array Slot), lv_has ls 8 [(0, .ref (a_pl 0)), (1, .int x1), (2, .int x2), (3, .int x3), (4, .int x4), (5, .int x5), (6, .int x6)] → va_P D vwCl (wX4 cA a_pl pl_rest pl_sketch pl_placed pl_rings pl_ringNodes pl_ringLength pl_ringSet pl_oldRing pl_path pl_pathLength pl_queue pl_origin pl_inside pl_ends pl_ring pl_choices) H → va_D A (wX4 cA a_pl pl_rest pl_sketch pl_placed pl_rings pl_ringNodes pl_ringLength pl_ringSet pl_oldRing pl_path pl_pathLength pl_queue pl_origin pl_inside pl_ends pl_ring pl_choices) → va_S A s.heap H locs → f_X4_findPath_b128 N pl_rest pl_inside pl_ends (f_X4_findPath_b68 N pl_rest pl_inside pl_ends n68) x1 x2 x3 x4 x5 x6 pl_path pl_pathLength pl_queue pl_origin = some ρ → W p l e ({ frames := 2, cells := 0, slots := 0, locals := 42 } : Room) s m ([.ref (a_pl 0)] : List Value).toArray below meth c H locs 0 0 (MQ below (va_Qv (fun (_ : Unit) => True) (fun _ t => va_P D vwCl (wX4 cA a_pl pl_rest pl_sketch pl_placed pl_rings pl_ringNodes pl_ringLength pl_ringSet pl_oldRing ρ.1 ρ.2.1 ρ.2.2.1 ρ.2.2.2 pl_inside pl_ends pl_ring pl_choices) t.heap ∧ va_D A (wX4 cA a_pl pl_rest pl_sketch pl_placed pl_rings pl_ringNodes pl_ringLength pl_ringSet pl_oldRing ρ.1 ρ.2.1 ρ.2.2.1 ρ.2.2.2 pl_inside pl_ends pl_ring pl_choices)) A) ([.ref (a_pl 0)] : List Value).toArray s 0 0 A) (F0 m 128 ls []) := by
        intro x1 x2 x3 x4 x5 x6 pl_path pl_pathLength pl_queue pl_origin H locs ls hl hP hD hS hf
        refine lv_iconst (v := 0) hx hb dX4_findPath_128 (by decide) ?_
        refine lv_istore (lv' := [(7, .int 0), (0, .ref (a_pl 0)), (1, .int x1), (2, .int x2), (3, .int x3), (4, .int x4), (5, .int x5), (6, .int x6)]) hx hb dX4_findPath_129 hl (by decide) rfl (fun ls hl => ?_)
        exact B131 N x1 x2 x3 x4 x5 x6 0 pl_path pl_pathLength pl_queue pl_origin _ _ _ (lv_sub hl [1, 2, 3, 4, 5, 6, 7, 0] rfl) hP hD hS hf
      intro x1 x2 x3 x4 x5 pl_path pl_pathLength pl_queue pl_origin H locs ls hl hP hD hS hf
      refine lv_iload hx hb dX4_findPath_68 (lv_at hl 5 rfl) ?_
      refine lv_iload_n hx hb dX4_findPath_70 rfl (lv_at hl 3 rfl) ?_
      refine lv_icmp_ge (tgt := 211) hx hb dX4_findPath_71 (by decide) (fun c_10 => ?_) (fun c_10 => ?_)
      · have hf := ite_t c_10 hf
        have eR := some_i hf
        exact W.vret hx hb hr (fun t ht hW => ⟨⟨(), rfl, trivial, by rw [← eR, ht]; exact hP, by rw [← eR]; exact hD⟩, hS.F ht⟩) hS.2.2 dX4_findPath_211 (hlocks := hlk)
      · have hf := ite_f c_10 hf
        refine lv_iload hx hb dX4_findPath_74 (lv_at hl 5 rfl) ?_
        refine lv_bipush (v := 9) hx hb dX4_findPath_76 (by decide) ?_
        refine lv_icmp_ge (tgt := 211) hx hb dX4_findPath_78 (by decide) (fun c_11 => ?_) (fun c_11 => ?_)
        · have hf := ite_t c_11 hf
          have eR := some_i hf
          exact W.vret hx hb hr (fun t ht hW => ⟨⟨(), rfl, trivial, by rw [← eR, ht]; exact hP, by rw [← eR]; exact hD⟩, hS.F ht⟩) hS.2.2 dX4_findPath_211 (hlocks := hlk)
        · have hf := ite_f c_11 hf
          refine lv_aload_n hx hb dX4_findPath_81 rfl (lv_at hl 0 rfl) ?_
          refine va_get (D := D) (ci := 4) (C := RX4) (T := TX4) (N := 16) hx hb hT kwX4 hown hK.1 hP 0 rfl rfl 10 (by decide) (hT _ kf_X4_33) (fun _ h9 => h9) rfl dX4_findPath_82 ?_
          refine lv_iload hx hb dX4_findPath_85 (lv_at hl 5 rfl) ?_
          obtain ⟨h_12, hf⟩ := chk_s hf
          refine va_iald hx hb hK.1 hP 8 0 rfl rfl (inb_in h_12) dX4_findPath_87 ?_
          refine lv_topi (fun x6_13 ex6_13 => ?_)
          have hf := nm_t ex6_13 hf
          refine lv_istore (lv' := [(6, .int x6_13), (0, .ref (a_pl 0)), (1, .int x1), (2, .int x2), (3, .int x3), (4, .int x4), (5, .int x5)]) hx hb dX4_findPath_88 hl (by decide) rfl (fun ls hl => ?_)
          refine lv_iload hx hb dX4_findPath_90 (lv_at hl 0 rfl) ?_
          refine lv_iload_n hx hb dX4_findPath_92 rfl (lv_at hl 2 rfl) ?_
          refine lv_icmp_eq (tgt := 128) hx hb dX4_findPath_93 (by decide) (fun c_14 => ?_) (fun c_14 => ?_)
          · have hf := ite_t c_14 hf
            exact B128 x1 x2 x3 x4 x5 x6_13 pl_path pl_pathLength pl_queue pl_origin _ _ _ (lv_sub hl [1, 2, 3, 4, 5, 6, 0] rfl) hP hD hS hf
          · have hf := ite_f c_14 hf
            refine lv_aload_n hx hb dX4_findPath_96 rfl (lv_at hl 1 rfl) ?_
            refine va_get (D := D) (ci := 4) (C := RX4) (T := TX4) (N := 16) hx hb hT kwX4 hown hK.1 hP 0 rfl rfl 0 (by decide) (hT _ kf_X4_9) (fun _ h9 => h9) rfl dX4_findPath_97 ?_
            refine lv_iload hx hb dX4_findPath_100 (lv_at hl 0 rfl) ?_
            obtain ⟨h_15, hf⟩ := chk_s hf
            refine va_iald hx hb hK.1 hP 1 0 rfl rfl (inb_in h_15) dX4_findPath_102 ?_
            refine lv_iload_n hx hb dX4_findPath_103 rfl (lv_at hl 3 rfl) ?_
            refine lv_iand hx hb dX4_findPath_104 ?_
            refine lv_if_eq (tgt := 128) hx hb dX4_findPath_105 (by decide) (fun c_16 => ?_) (fun c_16 => ?_)
            · have hf := ite_t c_16 hf
              exact B128 x1 x2 x3 x4 x5 x6_13 pl_path pl_pathLength pl_queue pl_origin _ _ _ (lv_sub hl [1, 2, 3, 4, 5, 6, 0] rfl) hP hD hS hf
            · have hf := ite_f c_16 hf
              exact B108 x1 x2 x6_13 pl_path pl_pathLength pl_queue pl_origin _ _ _ (lv_sub hl [1, 2, 3, 0] rfl) hP hD hS hf
  refine lv_aload_n hx hb dX4_findPath_0 rfl (lv_at hl 0 rfl) ?_
  refine va_get (D := D) (ci := 4) (C := RX4) (T := TX4) (N := 16) hx hb hT kwX4 hown hK.1 hP 0 rfl rfl 13 (by decide) (hT _ kf_X4_96) (fun _ h9 => h9) rfl dX4_findPath_1 ?_
  obtain ⟨r_1, hcr_1, hf⟩ := bd1_s hf
  refine backI (runN0 C (c_X7_smallestOf l D cA pl_ends N r_1 hcr_1) cf_X7_smallestOf kn_X4_80 ⟨rfl, rfl, by decide, by decide⟩ ⟨Nat.zero_le _, Nat.zero_le _⟩ (hP.sub [] rfl) hK hl.1 rfl rfl (Nat.le_of_ble_eq_true rfl) dX4_findPath_4) ?_
  refine lv_istore_n (lv' := [(1, .int r_1), (0, .ref (a_pl 0))]) hx hb dX4_findPath_7 rfl hl (by decide) rfl (fun ls hl => ?_)
  refine lv_aload_n hx hb dX4_findPath_8 rfl (lv_at hl 1 rfl) ?_
  refine va_get (D := D) (ci := 4) (C := RX4) (T := TX4) (N := 16) hx hb hT kwX4 hown hK.1 hP 0 rfl rfl 13 (by decide) (hT _ kf_X4_96) (fun _ h9 => h9) rfl dX4_findPath_9 ?_
  refine lv_iload_n hx hb dX4_findPath_12 rfl (lv_at hl 0 rfl) ?_
  obtain ⟨r_2, hcr_2, hf⟩ := bd1_s hf
  refine backI (runN0 C (c_X7_bit l D cA r_1 N r_2 hcr_2) cf_X7_bit kn_X4_73 ⟨rfl, rfl, by decide, by decide⟩ ⟨Nat.zero_le _, Nat.zero_le _⟩ (hP.sub [] rfl) hK hl.1 rfl rfl (Nat.le_of_ble_eq_true rfl) dX4_findPath_13) ?_
  refine lv_iconst (v := (-1)) hx hb dX4_findPath_16 (by decide) ?_
  refine lv_ixor hx hb dX4_findPath_17 ?_
  refine lv_iand hx hb dX4_findPath_18 ?_
  refine lv_topi (fun x2_3 ex2_3 => ?_)
  have hf := nm_t ex2_3 hf
  refine lv_istore_n (lv' := [(2, .int x2_3), (1, .int r_1), (0, .ref (a_pl 0))]) hx hb dX4_findPath_19 rfl hl (by decide) rfl (fun ls hl => ?_)
  refine lv_aload_n hx hb dX4_findPath_20 rfl (lv_at hl 2 rfl) ?_
  refine va_get (D := D) (ci := 4) (C := RX4) (T := TX4) (N := 16) hx hb hT kwX4 hown hK.1 hP 0 rfl rfl 12 (by decide) (hT _ kf_X4_137) (fun _ h9 => h9) rfl dX4_findPath_21 ?_
  refine lv_if_ne (tgt := 50) hx hb dX4_findPath_24 (by decide) (fun c_4 => ?_) (fun c_4 => ?_)
  · have hf := ite_t c_4 hf
    refine lv_aload_n hx hb dX4_findPath_50 rfl (lv_at hl 2 rfl) ?_
    refine va_get (D := D) (ci := 4) (C := RX4) (T := TX4) (N := 16) hx hb hT kwX4 hown hK.1 hP 0 rfl rfl 10 (by decide) (hT _ kf_X4_33) (fun _ h9 => h9) rfl dX4_findPath_51 ?_
    refine lv_iconst (v := 0) hx hb dX4_findPath_54 (by decide) ?_
    refine lv_iload_n hx hb dX4_findPath_55 rfl (lv_at hl 1 rfl) ?_
    obtain ⟨h_5, hf⟩ := chk_s hf
    refine va_iast hx hb hK.1 hP hD hS 8 0 rfl rfl (inb_in h_5) dX4_findPath_56 (fun H locs hP hD hS => ?_)
    have hP : va_P D vwCl (wX4 cA a_pl pl_rest pl_sketch pl_placed pl_rings pl_ringNodes pl_ringLength pl_ringSet pl_oldRing pl_path pl_pathLength (upd pl_queue (0 : Int32).toNatClampNeg r_1) pl_origin pl_inside pl_ends pl_ring pl_choices) H := hP
    have hD : va_D A (wX4 cA a_pl pl_rest pl_sketch pl_placed pl_rings pl_ringNodes pl_ringLength pl_ringSet pl_oldRing pl_path pl_pathLength (upd pl_queue (0 : Int32).toNatClampNeg r_1) pl_origin pl_inside pl_ends pl_ring pl_choices) := hD
    refine lv_iconst (v := 1) hx hb dX4_findPath_57 (by decide) ?_
    refine lv_istore_n (lv' := [(3, .int 1), (2, .int x2_3), (1, .int r_1), (0, .ref (a_pl 0))]) hx hb dX4_findPath_58 rfl hl (by decide) rfl (fun ls hl => ?_)
    refine lv_iload_n hx hb dX4_findPath_59 rfl (lv_at hl 2 rfl) ?_
    obtain ⟨r_6, hcr_6, hf⟩ := bd1_s hf
    refine backI (runN0 C (c_X7_bit l D cA r_1 N r_6 hcr_6) cf_X7_bit kn_X4_73 ⟨rfl, rfl, by decide, by decide⟩ ⟨Nat.zero_le _, Nat.zero_le _⟩ (hP.sub [] rfl) hK hl.1 rfl rfl (Nat.le_of_ble_eq_true rfl) dX4_findPath_60) ?_
    refine lv_istore (lv' := [(4, .int r_6), (3, .int 1), (2, .int x2_3), (1, .int r_1), (0, .ref (a_pl 0))]) hx hb dX4_findPath_63 hl (by decide) rfl (fun ls hl => ?_)
    refine lv_iconst (v := 0) hx hb dX4_findPath_65 (by decide) ?_
    refine lv_istore (lv' := [(5, .int 0), (4, .int r_6), (3, .int 1), (2, .int x2_3), (1, .int r_1), (0, .ref (a_pl 0))]) hx hb dX4_findPath_66 hl (by decide) rfl (fun ls hl => ?_)
    exact B68 N r_1 x2_3 1 r_6 0 pl_path pl_pathLength (upd pl_queue (0 : Int32).toNatClampNeg r_1) pl_origin _ _ _ (lv_sub hl [5, 4, 3, 2, 1, 0] rfl) hP hD hS hf
  · have hf := ite_fn c_4 hf
    refine lv_aload_n hx hb dX4_findPath_27 rfl (lv_at hl 2 rfl) ?_
    refine va_get (D := D) (ci := 4) (C := RX4) (T := TX4) (N := 16) hx hb hT kwX4 hown hK.1 hP 0 rfl rfl 8 (by decide) (hT _ kf_X4_30) (fun _ h9 => h9) rfl dX4_findPath_28 ?_
    refine lv_iconst (v := 0) hx hb dX4_findPath_31 (by decide) ?_
    refine lv_iload_n hx hb dX4_findPath_32 rfl (lv_at hl 1 rfl) ?_
    obtain ⟨h_7, hf⟩ := chk_s hf
    refine va_iast hx hb hK.1 hP hD hS 7 0 rfl rfl (inb_in h_7) dX4_findPath_33 (fun H locs hP hD hS => ?_)
    have hP : va_P D vwCl (wX4 cA a_pl pl_rest pl_sketch pl_placed pl_rings pl_ringNodes pl_ringLength pl_ringSet pl_oldRing (upd pl_path (0 : Int32).toNatClampNeg r_1) pl_pathLength pl_queue pl_origin pl_inside pl_ends pl_ring pl_choices) H := hP
    have hD : va_D A (wX4 cA a_pl pl_rest pl_sketch pl_placed pl_rings pl_ringNodes pl_ringLength pl_ringSet pl_oldRing (upd pl_path (0 : Int32).toNatClampNeg r_1) pl_pathLength pl_queue pl_origin pl_inside pl_ends pl_ring pl_choices) := hD
    refine lv_aload_n hx hb dX4_findPath_34 rfl (lv_at hl 2 rfl) ?_
    refine va_get (D := D) (ci := 4) (C := RX4) (T := TX4) (N := 16) hx hb hT kwX4 hown hK.1 hP 0 rfl rfl 8 (by decide) (hT _ kf_X4_30) (fun _ h9 => h9) rfl dX4_findPath_35 ?_
    refine lv_iconst (v := 1) hx hb dX4_findPath_38 (by decide) ?_
    refine lv_iload_n hx hb dX4_findPath_39 rfl (lv_at hl 0 rfl) ?_
    obtain ⟨r_8, hcr_8, hf⟩ := bd1_s hf
    refine backI (runN0 C (c_X7_smallestOf l D cA x2_3 N r_8 hcr_8) cf_X7_smallestOf kn_X4_80 ⟨rfl, rfl, by decide, by decide⟩ ⟨Nat.zero_le _, Nat.zero_le _⟩ (hP.sub [] rfl) hK hl.1 rfl rfl (Nat.le_of_ble_eq_true rfl) dX4_findPath_40) ?_
    obtain ⟨h_9, hf⟩ := chk_s hf
    refine va_iast hx hb hK.1 hP hD hS 7 0 rfl rfl (inb_in h_9) dX4_findPath_43 (fun H locs hP hD hS => ?_)
    have hP : va_P D vwCl (wX4 cA a_pl pl_rest pl_sketch pl_placed pl_rings pl_ringNodes pl_ringLength pl_ringSet pl_oldRing (upd (upd pl_path (0 : Int32).toNatClampNeg r_1) (1 : Int32).toNatClampNeg r_8) pl_pathLength pl_queue pl_origin pl_inside pl_ends pl_ring pl_choices) H := hP
    have hD : va_D A (wX4 cA a_pl pl_rest pl_sketch pl_placed pl_rings pl_ringNodes pl_ringLength pl_ringSet pl_oldRing (upd (upd pl_path (0 : Int32).toNatClampNeg r_1) (1 : Int32).toNatClampNeg r_8) pl_pathLength pl_queue pl_origin pl_inside pl_ends pl_ring pl_choices) := hD
    refine lv_aload_n hx hb dX4_findPath_44 rfl (lv_at hl 2 rfl) ?_
    refine lv_iconst (v := 2) hx hb dX4_findPath_45 (by decide) ?_
    refine va_put (D := D) (ci := 4) (v := .int 2) (ty := .int) (C := RX4) (T := TX4) (N := 16) hx hb hT kwX4 tyX4 tyX4_ok nmX4 hown hK.1 hP hD hS 0 rfl rfl 9 (by decide) (hT _ kf_X4_83) (fun _ h9 => h9) rfl (by decide +kernel) rfl rfl (Nat.le_of_ble_eq_true rfl) dX4_findPath_46 (fun H locs hP hD hS => ?_)
    have hP : va_P D vwCl (wX4 cA a_pl pl_rest pl_sketch pl_placed pl_rings pl_ringNodes pl_ringLength pl_ringSet pl_oldRing (upd (upd pl_path (0 : Int32).toNatClampNeg r_1) (1 : Int32).toNatClampNeg r_8) 2 pl_queue pl_origin pl_inside pl_ends pl_ring pl_choices) H := hP
    have hD : va_D A (wX4 cA a_pl pl_rest pl_sketch pl_placed pl_rings pl_ringNodes pl_ringLength pl_ringSet pl_oldRing (upd (upd pl_path (0 : Int32).toNatClampNeg r_1) (1 : Int32).toNatClampNeg r_8) 2 pl_queue pl_origin pl_inside pl_ends pl_ring pl_choices) := hD
    have eR := some_i hf
    exact W.vret hx hb hr (fun t ht hW => ⟨⟨(), rfl, trivial, by rw [← eR, ht]; exact hP, by rw [← eR]; exact hD⟩, hS.F ht⟩) hS.2.2 dX4_findPath_49 (hlocks := hlk)
