set_option maxRecDepth 100000 in
set_option maxHeartbeats 4000000 in
theorem c_X8_size (l : Launch) (D : va_G) (cA : Nat → ClassId) (p0 : UInt32) (N : Nat) (ρ : UInt32) (hf : f_X8_size N p0 = some ρ) : Met l yX8_size (Cond.code yX8_size cX8_size 1 (Option.some Jvm.ClassFile.FieldType.float) :: lw_g) ({ frames := 0, cells := 0, slots := 0, locals := 0 } : Room) (PcS D (tyA cA) ([] : va_W) [.float p0]) (vp_Sf (fun r => r = ρ)) 0 0 (fun _ => False) := by
  refine mkS (by decide +kernel) (Nat.le_of_ble_eq_true rfl) fun p e s m below meth c ls C hl hP hK => ?_
  obtain ⟨hx, hb, hml, hown, hT, hr, hlk⟩ := id C
  have hl : lv_has ls 1 [(0, .float p0)] := hl
  refine lv_fload_n hx hb dX8_size_0 rfl (lv_at hl 0 rfl) ?_
  refine lv_fconst0 hx hb dX8_size_1 ?_
  refine lv_fcmp hx hb dX8_size_2 ?_
  refine lv_if_ge (tgt := 12) hx hb dX8_size_3 (by decide) (fun c_1 => ?_) (fun c_1 => ?_)
  · have hf := ite_t c_1 hf
    refine lv_fload_n hx hb dX8_size_12 rfl (lv_at hl 0 rfl) ?_
    exact W.fret hx hb hr (fun t ht hW => ⟨_, rfl, some_i hf, ht⟩) (fun _ h => by cases h) dX8_size_13 (hlocks := hlk)
  · have hf := ite_f c_1 hf
    refine lv_fconst0 hx hb dX8_size_6 ?_
    refine lv_fload_n hx hb dX8_size_7 rfl (lv_at hl 0 rfl) ?_
    obtain ⟨h_2, hf⟩ := chk_s hf
    refine lv_fsub hx hb dX8_size_8 (nn_n h_2) ?_
    refine lv_goto (tgt := 13) hx hb dX8_size_9 (by decide) ?_
    exact W.fret hx hb hr (fun t ht hW => ⟨_, rfl, some_i hf, ht⟩) (fun _ h => by cases h) dX8_size_13 (hlocks := hlk)
set_option maxRecDepth 100000 in
set_option maxHeartbeats 4000000 in
theorem c_X8_extent (l : Launch) (D : va_G) (cA : Nat → ClassId) (a_m : Nat → Nat) (m_s : Nat → Int32) (m_past : Nat → Int32) (m_pasts : Int32) (m_text : Nat → Int32) (m_typed : Int32) (m_faceOfSide : Nat → Int32) (m_firstSide : Nat → Int32) (m_faces : Int32) (m_before : Nat → Int32) (m_endA : Nat → Int32) (m_endB : Nat → Int32) (m_from : Nat → Int32) (m_queue : Nat → Int32) (m_ring : Nat → Int32) (m_ringSize : Nat → Int32) (m_ringNodes : Nat → Int32) (m_rings : Int32) (m_path : Nat → Int32) (m_pathSize : Int32) (m_old : Nat → Int32) (m_lastRing : Int32) (m_bestNodes : Int32) (m_bestInside : Int32) (m_bestFits : Int32) (m_far : Nat → Int32) (m_xs : Nat → UInt32) (m_ys : Nat → UInt32) (p1 : Int32) (sz N : Nat) (ρ : Int32 × (Nat → Int32) × (Nat → Int32) × Int32 × (Nat → UInt32) × (Nat → UInt32)) (hf : f_X8_extent N m_s m_faceOfSide m_firstSide m_faces m_xs m_ys p1 = some ρ) : Met l yX8_extent (Cond.code yX8_extent cX8_extent 6 (Option.some Jvm.ClassFile.FieldType.int) :: lw_g) ({ frames := 5, cells := 0, slots := 0, locals := 120 } : Room) (PcW D (tyA cA) (wX8 cA a_m m_s m_past m_pasts m_text m_typed m_faceOfSide m_firstSide m_faces m_before m_endA m_endB m_from m_queue m_ring m_ringSize m_ringNodes m_rings m_path m_pathSize m_old m_lastRing m_bestNodes m_bestInside m_bestFits m_far m_xs m_ys) sz [.ref (a_m 0), .int p1]) (va_Qi (fun r (_ : Unit) => r = ρ.1) (fun _ t => va_P D vwCl (wX8 cA a_m m_s m_past m_pasts m_text m_typed ρ.2.1 ρ.2.2.1 ρ.2.2.2.1 m_before m_endA m_endB m_from m_queue m_ring m_ringSize m_ringNodes m_rings m_path m_pathSize m_old m_lastRing m_bestNodes m_bestInside m_bestFits m_far ρ.2.2.2.2.1 ρ.2.2.2.2.2) t.heap ∧ va_D (va_A (wX8 cA a_m m_s m_past m_pasts m_text m_typed m_faceOfSide m_firstSide m_faces m_before m_endA m_endB m_from m_queue m_ring m_ringSize m_ringNodes m_rings m_path m_pathSize m_old m_lastRing m_bestNodes m_bestInside m_bestFits m_far m_xs m_ys) sz) (wX8 cA a_m m_s m_past m_pasts m_text m_typed ρ.2.1 ρ.2.2.1 ρ.2.2.2.1 m_before m_endA m_endB m_from m_queue m_ring m_ringSize m_ringNodes m_rings m_path m_pathSize m_old m_lastRing m_bestNodes m_bestInside m_bestFits m_far ρ.2.2.2.2.1 ρ.2.2.2.2.2)) (va_A (wX8 cA a_m m_s m_past m_pasts m_text m_typed m_faceOfSide m_firstSide m_faces m_before m_endA m_endB m_from m_queue m_ring m_ringSize m_ringNodes m_rings m_path m_pathSize m_old m_lastRing m_bestNodes m_bestInside m_bestFits m_far m_xs m_ys) sz)) 0 0 (va_A (wX8 cA a_m m_s m_past m_pasts m_text m_typed m_faceOfSide m_firstSide m_faces m_before m_endA m_endB m_from m_queue m_ring m_ringSize m_ringNodes m_rings m_path m_pathSize m_old m_lastRing m_bestNodes m_bestInside m_bestFits m_far m_xs m_ys) sz) := by
  refine mkW (QQ := fun A => va_Qi (fun r (_ : Unit) => r = ρ.1) (fun _ t => va_P D vwCl (wX8 cA a_m m_s m_past m_pasts m_text m_typed ρ.2.1 ρ.2.2.1 ρ.2.2.2.1 m_before m_endA m_endB m_from m_queue m_ring m_ringSize m_ringNodes m_rings m_path m_pathSize m_old m_lastRing m_bestNodes m_bestInside m_bestFits m_far ρ.2.2.2.2.1 ρ.2.2.2.2.2) t.heap ∧ va_D A (wX8 cA a_m m_s m_past m_pasts m_text m_typed ρ.2.1 ρ.2.2.1 ρ.2.2.2.1 m_before m_endA m_endB m_from m_queue m_ring m_ringSize m_ringNodes m_rings m_path m_pathSize m_old m_lastRing m_bestNodes m_bestInside m_bestFits m_far ρ.2.2.2.2.1 ρ.2.2.2.2.2)) A) (by decide) (Nat.le_of_ble_eq_true rfl) fun p e s m below meth c ls A C hl hP hK hD hA hS => ?_
  obtain ⟨hx, hb, hml, hown, hT, hr, hlk⟩ := id C
  have hl : lv_has ls 6 [(0, .ref (a_m 0)), (1, .int p1)] := hl
  have B133 : ∀ (x2 : UInt32) (m_faceOfSide : Nat → Int32) (m_firstSide : Nat → Int32) (m_faces : Int32) (m_xs : Nat → UInt32) (m_ys : Nat → UInt32) (H : Heap) (locs : List Loc) (ls : Array Slot), lv_has ls 6 [(2, .float x2)] → va_P D vwCl (wX8 cA a_m m_s m_past m_pasts m_text m_typed m_faceOfSide m_firstSide m_faces m_before m_endA m_endB m_from m_queue m_ring m_ringSize m_ringNodes m_rings m_path m_pathSize m_old m_lastRing m_bestNodes m_bestInside m_bestFits m_far m_xs m_ys) H → va_D A (wX8 cA a_m m_s m_past m_pasts m_text m_typed m_faceOfSide m_firstSide m_faces m_before m_endA m_endB m_from m_queue m_ring m_ringSize m_ringNodes m_rings m_path m_pathSize m_old m_lastRing m_bestNodes m_bestInside m_bestFits m_far m_xs m_ys) → va_S A s.heap H locs → f_X8_extent_b133 N m_s x2 m_faceOfSide m_firstSide m_faces m_xs m_ys = some ρ → W p l e ({ frames := 5, cells := 0, slots := 0, locals := 120 } : Room) s m ([.ref (a_m 0), .int p1] : List Value).toArray below meth c H locs 0 0 (MQ below (va_Qi (fun r (_ : Unit) => r = ρ.1) (fun _ t => va_P D vwCl (wX8 cA a_m m_s m_past m_pasts m_text m_typed ρ.2.1 ρ.2.2.1 ρ.2.2.2.1 m_before m_endA m_endB m_from m_queue m_ring m_ringSize m_ringNodes m_rings m_path m_pathSize m_old m_lastRing m_bestNodes m_bestInside m_bestFits m_far ρ.2.2.2.2.1 ρ.2.2.2.2.2) t.heap ∧ va_D A (wX8 cA a_m m_s m_past m_pasts m_text m_typed ρ.2.1 ρ.2.2.1 ρ.2.2.2.1 m_before m_endA m_endB m_from m_queue m_ring m_ringSize m_ringNodes m_rings m_path m_pathSize m_old m_lastRing m_bestNodes m_bestInside m_bestFits m_far ρ.2.2.2.2.1 ρ.2.2.2.2.2)) A) ([.ref (a_m 0), .int p1] : List Value).toArray s 0 0 A) (F0 m 133 ls []) := by
    intro x2 m_faceOfSide m_firstSide m_faces m_xs m_ys H locs ls hl hP hD hS hf
    refine lv_fload_n hx hb dX8_extent_133 rfl (lv_at hl 0 rfl) ?_
    obtain ⟨r_24, hcr_24, hf⟩ := bd1_s hf
    refine backI (runS0 C (c_Jxf58ca_floatToIntBits_5c35a l D cA x2 N r_24 hcr_24) cf_Jxf58ca_floatToIntBits_5c35a km_X8_264 ⟨rfl, rfl, by decide, by decide⟩ ⟨Nat.zero_le _, Nat.zero_le _⟩ (hP.sub [] rfl) hK hl.1 rfl rfl (Nat.le_of_ble_eq_true rfl) dX8_extent_134) ?_
    have eR := some_i hf
    exact W.iret hx hb hr (fun t ht hW => ⟨⟨r_24, (), rfl, fst_e eR, by rw [← eR, ht]; exact hP, by rw [← eR]; exact hD⟩, hS.F ht⟩) hS.2.2 dX8_extent_137 (hlocks := hlk)
  have B33 : ∀ (n33 : Nat), ∀ (x2 : UInt32) (x3 : Int32) (m_faceOfSide : Nat → Int32) (m_firstSide : Nat → Int32) (m_faces : Int32) (m_xs : Nat → UInt32) (m_ys : Nat → UInt32) (H : Heap) (locs : List Loc) (ls : Array Slot), lv_has ls 6 [(0, .ref (a_m 0)), (2, .float x2), (3, .int x3)] → va_P D vwCl (wX8 cA a_m m_s m_past m_pasts m_text m_typed m_faceOfSide m_firstSide m_faces m_before m_endA m_endB m_from m_queue m_ring m_ringSize m_ringNodes m_rings m_path m_pathSize m_old m_lastRing m_bestNodes m_bestInside m_bestFits m_far m_xs m_ys) H → va_D A (wX8 cA a_m m_s m_past m_pasts m_text m_typed m_faceOfSide m_firstSide m_faces m_before m_endA m_endB m_from m_queue m_ring m_ringSize m_ringNodes m_rings m_path m_pathSize m_old m_lastRing m_bestNodes m_bestInside m_bestFits m_far m_xs m_ys) → va_S A s.heap H locs → f_X8_extent_b33 N m_s n33 x2 x3 m_faceOfSide m_firstSide m_faces m_xs m_ys = some ρ → W p l e ({ frames := 5, cells := 0, slots := 0, locals := 120 } : Room) s m ([.ref (a_m 0), .int p1] : List Value).toArray below meth c H locs 0 0 (MQ below (va_Qi (fun r (_ : Unit) => r = ρ.1) (fun _ t => va_P D vwCl (wX8 cA a_m m_s m_past m_pasts m_text m_typed ρ.2.1 ρ.2.2.1 ρ.2.2.2.1 m_before m_endA m_endB m_from m_queue m_ring m_ringSize m_ringNodes m_rings m_path m_pathSize m_old m_lastRing m_bestNodes m_bestInside m_bestFits m_far ρ.2.2.2.2.1 ρ.2.2.2.2.2) t.heap ∧ va_D A (wX8 cA a_m m_s m_past m_pasts m_text m_typed ρ.2.1 ρ.2.2.1 ρ.2.2.2.1 m_before m_endA m_endB m_from m_queue m_ring m_ringSize m_ringNodes m_rings m_path m_pathSize m_old m_lastRing m_bestNodes m_bestInside m_bestFits m_far ρ.2.2.2.2.1 ρ.2.2.2.2.2)) A) ([.ref (a_m 0), .int p1] : List Value).toArray s 0 0 A) (F0 m 33 ls []) := by
    intro n33
    induction n33 with
    | zero =>
      intro x2 x3 m_faceOfSide m_firstSide m_faces m_xs m_ys H locs ls hl hP hD hS hf
      cases (show (none : Option (Int32 × (Nat → Int32) × (Nat → Int32) × Int32 × (Nat → UInt32) × (Nat → UInt32))) = some ρ from hf)
    | succ n33 ih33 =>
      have B125 : ∀ (x3 : Int32) (y0 : UInt32) (y1 : UInt32) (m_faceOfSide : Nat → Int32) (m_firstSide : Nat → Int32) (m_faces : Int32) (m_xs : Nat → UInt32) (m_ys : Nat → UInt32) (H : Heap) (locs : List Loc) (ls : Array Slot), lv_has ls 6 [(0, .ref (a_m 0)), (3, .int x3)] → va_P D vwCl (wX8 cA a_m m_s m_past m_pasts m_text m_typed m_faceOfSide m_firstSide m_faces m_before m_endA m_endB m_from m_queue m_ring m_ringSize m_ringNodes m_rings m_path m_pathSize m_old m_lastRing m_bestNodes m_bestInside m_bestFits m_far m_xs m_ys) H → va_D A (wX8 cA a_m m_s m_past m_pasts m_text m_typed m_faceOfSide m_firstSide m_faces m_before m_endA m_endB m_from m_queue m_ring m_ringSize m_ringNodes m_rings m_path m_pathSize m_old m_lastRing m_bestNodes m_bestInside m_bestFits m_far m_xs m_ys) → va_S A s.heap H locs → f_X8_extent_b125 N m_s (f_X8_extent_b33 N m_s n33) x3 y0 y1 m_faceOfSide m_firstSide m_faces m_xs m_ys = some ρ → W p l e ({ frames := 5, cells := 0, slots := 0, locals := 120 } : Room) s m ([.ref (a_m 0), .int p1] : List Value).toArray below meth c H locs 0 0 (MQ below (va_Qi (fun r (_ : Unit) => r = ρ.1) (fun _ t => va_P D vwCl (wX8 cA a_m m_s m_past m_pasts m_text m_typed ρ.2.1 ρ.2.2.1 ρ.2.2.2.1 m_before m_endA m_endB m_from m_queue m_ring m_ringSize m_ringNodes m_rings m_path m_pathSize m_old m_lastRing m_bestNodes m_bestInside m_bestFits m_far ρ.2.2.2.2.1 ρ.2.2.2.2.2) t.heap ∧ va_D A (wX8 cA a_m m_s m_past m_pasts m_text m_typed ρ.2.1 ρ.2.2.1 ρ.2.2.2.1 m_before m_endA m_endB m_from m_queue m_ring m_ringSize m_ringNodes m_rings m_path m_pathSize m_old m_lastRing m_bestNodes m_bestInside m_bestFits m_far ρ.2.2.2.2.1 ρ.2.2.2.2.2)) A) ([.ref (a_m 0), .int p1] : List Value).toArray s 0 0 A) (F0 m 125 ls [.float y1, .float y0]) := by
        intro x3 y0 y1 m_faceOfSide m_firstSide m_faces m_xs m_ys H locs ls hl hP hD hS hf
        obtain ⟨h_22, hf⟩ := chk_s hf
        refine lv_fadd hx hb dX8_extent_125 (nn_n h_22) ?_
        refine lv_topf (fun x2_23 ex2_23 => ?_)
        have hf := nm_t ex2_23 hf
        refine lv_fstore_n (lv' := [(2, .float x2_23), (0, .ref (a_m 0)), (3, .int x3)]) hx hb dX8_extent_126 rfl hl (by decide) rfl (fun ls hl => ?_)
        refine lv_iinc (v := (x3 + 1)) (lv' := [(3, .int (x3 + 1)), (2, .float x2_23), (0, .ref (a_m 0))]) hx hb dX8_extent_127 hl (k := 2) rfl rfl (by decide) rfl (fun ls hl => ?_)
        refine lv_goto (tgt := 33) hx hb dX8_extent_130 (by decide) ?_
        exact ih33 x2_23 (x3 + 1) m_faceOfSide m_firstSide m_faces m_xs m_ys _ _ _ (lv_sub hl [2, 1, 0] rfl) hP hD hS hf
      intro x2 x3 m_faceOfSide m_firstSide m_faces m_xs m_ys H locs ls hl hP hD hS hf
      refine lv_iload_n hx hb dX8_extent_33 rfl (lv_at hl 2 rfl) ?_
      refine lv_aload_n hx hb dX8_extent_34 rfl (lv_at hl 0 rfl) ?_
      refine va_get (D := D) (ci := 8) (C := RX8) (T := TX8) (N := 27) hx hb hT kwX8 hown hK.1 hP 0 rfl rfl 0 (by decide) (hT _ kf_X8_7) (fun _ h9 => h9) rfl dX8_extent_35 ?_
      refine lv_iconst (v := 1) hx hb dX8_extent_38 (by decide) ?_
      obtain ⟨h_7, hf⟩ := chk_s hf
      refine va_iald hx hb hK.1 hP 1 0 rfl rfl (inb_in h_7) dX8_extent_39 ?_
      refine lv_icmp_ge (tgt := 133) hx hb dX8_extent_40 (by decide) (fun c_8 => ?_) (fun c_8 => ?_)
      · have hf := ite_t c_8 hf
        exact B133 x2 m_faceOfSide m_firstSide m_faces m_xs m_ys _ _ _ (lv_sub hl [1] rfl) hP hD hS hf
      · have hf := ite_f c_8 hf
        refine lv_aload_n hx hb dX8_extent_43 rfl (lv_at hl 0 rfl) ?_
        refine va_get (D := D) (ci := 8) (C := RX8) (T := TX8) (N := 27) hx hb hT kwX8 hown hK.1 hP 0 rfl rfl 25 (by decide) (hT _ kf_X8_59) (fun _ h9 => h9) rfl dX8_extent_44 ?_
        refine lv_aload_n hx hb dX8_extent_47 rfl (lv_at hl 0 rfl) ?_
        refine va_get (D := D) (ci := 8) (C := RX8) (T := TX8) (N := 27) hx hb hT kwX8 hown hK.1 hP 0 rfl rfl 0 (by decide) (hT _ kf_X8_7) (fun _ h9 => h9) rfl dX8_extent_48 ?_
        refine lv_iconst (v := 3) hx hb dX8_extent_51 (by decide) ?_
        refine lv_iload_n hx hb dX8_extent_52 rfl (lv_at hl 2 rfl) ?_
        refine lv_iadd hx hb dX8_extent_53 ?_
        obtain ⟨h_9, hf⟩ := chk_s hf
        refine va_iald hx hb hK.1 hP 1 0 rfl rfl (inb_in h_9) dX8_extent_54 ?_
        obtain ⟨h_10, hf⟩ := chk_s hf
        refine va_fald hx hb hK.1 hP 17 1 rfl rfl (inb_in h_10) dX8_extent_55 ?_
        refine lv_aload_n hx hb dX8_extent_56 rfl (lv_at hl 0 rfl) ?_
        refine va_get (D := D) (ci := 8) (C := RX8) (T := TX8) (N := 27) hx hb hT kwX8 hown hK.1 hP 0 rfl rfl 25 (by decide) (hT _ kf_X8_59) (fun _ h9 => h9) rfl dX8_extent_57 ?_
        refine lv_aload_n hx hb dX8_extent_60 rfl (lv_at hl 0 rfl) ?_
        refine va_get (D := D) (ci := 8) (C := RX8) (T := TX8) (N := 27) hx hb hT kwX8 hown hK.1 hP 0 rfl rfl 0 (by decide) (hT _ kf_X8_7) (fun _ h9 => h9) rfl dX8_extent_61 ?_
        refine lv_bipush (v := 23) hx hb dX8_extent_64 (by decide) ?_
        refine lv_iload_n hx hb dX8_extent_66 rfl (lv_at hl 2 rfl) ?_
        refine lv_iadd hx hb dX8_extent_67 ?_
        obtain ⟨h_11, hf⟩ := chk_s hf
        refine va_iald hx hb hK.1 hP 1 0 rfl rfl (inb_in h_11) dX8_extent_68 ?_
        obtain ⟨h_12, hf⟩ := chk_s hf
        refine va_fald hx hb hK.1 hP 17 1 rfl rfl (inb_in h_12) dX8_extent_69 ?_
        obtain ⟨h_13, hf⟩ := chk_s hf
        refine lv_fsub hx hb dX8_extent_70 (nn_n h_13) ?_
        obtain ⟨r_14, hcr_14, hf⟩ := bd1_s hf
        refine backF (runS0 C (c_X8_size l D cA (FP.fsub (m_xs (m_s (3 + x3).toNatClampNeg).toNatClampNeg) (m_xs (m_s (23 + x3).toNatClampNeg).toNatClampNeg)) N r_14 hcr_14) cf_X8_size km_X8_277 ⟨rfl, rfl, by decide, by decide⟩ ⟨Nat.zero_le _, Nat.zero_le _⟩ (hP.sub [] rfl) hK hl.1 rfl rfl (Nat.le_of_ble_eq_true rfl) dX8_extent_71) ?_
        refine lv_fstore (lv' := [(4, .float r_14), (0, .ref (a_m 0)), (2, .float x2), (3, .int x3)]) hx hb dX8_extent_74 hl (by decide) rfl (fun ls hl => ?_)
        refine lv_aload_n hx hb dX8_extent_76 rfl (lv_at hl 1 rfl) ?_
        refine va_get (D := D) (ci := 8) (C := RX8) (T := TX8) (N := 27) hx hb hT kwX8 hown hK.1 hP 0 rfl rfl 26 (by decide) (hT _ kf_X8_63) (fun _ h9 => h9) rfl dX8_extent_77 ?_
        refine lv_aload_n hx hb dX8_extent_80 rfl (lv_at hl 1 rfl) ?_
        refine va_get (D := D) (ci := 8) (C := RX8) (T := TX8) (N := 27) hx hb hT kwX8 hown hK.1 hP 0 rfl rfl 0 (by decide) (hT _ kf_X8_7) (fun _ h9 => h9) rfl dX8_extent_81 ?_
        refine lv_iconst (v := 3) hx hb dX8_extent_84 (by decide) ?_
        refine lv_iload_n hx hb dX8_extent_85 rfl (lv_at hl 3 rfl) ?_
        refine lv_iadd hx hb dX8_extent_86 ?_
        obtain ⟨h_15, hf⟩ := chk_s hf
        refine va_iald hx hb hK.1 hP 1 0 rfl rfl (inb_in h_15) dX8_extent_87 ?_
        obtain ⟨h_16, hf⟩ := chk_s hf
        refine va_fald hx hb hK.1 hP 18 1 rfl rfl (inb_in h_16) dX8_extent_88 ?_
        refine lv_aload_n hx hb dX8_extent_89 rfl (lv_at hl 1 rfl) ?_
        refine va_get (D := D) (ci := 8) (C := RX8) (T := TX8) (N := 27) hx hb hT kwX8 hown hK.1 hP 0 rfl rfl 26 (by decide) (hT _ kf_X8_63) (fun _ h9 => h9) rfl dX8_extent_90 ?_
        refine lv_aload_n hx hb dX8_extent_93 rfl (lv_at hl 1 rfl) ?_
        refine va_get (D := D) (ci := 8) (C := RX8) (T := TX8) (N := 27) hx hb hT kwX8 hown hK.1 hP 0 rfl rfl 0 (by decide) (hT _ kf_X8_7) (fun _ h9 => h9) rfl dX8_extent_94 ?_
        refine lv_bipush (v := 23) hx hb dX8_extent_97 (by decide) ?_
        refine lv_iload_n hx hb dX8_extent_99 rfl (lv_at hl 3 rfl) ?_
        refine lv_iadd hx hb dX8_extent_100 ?_
        obtain ⟨h_17, hf⟩ := chk_s hf
        refine va_iald hx hb hK.1 hP 1 0 rfl rfl (inb_in h_17) dX8_extent_101 ?_
        obtain ⟨h_18, hf⟩ := chk_s hf
        refine va_fald hx hb hK.1 hP 18 1 rfl rfl (inb_in h_18) dX8_extent_102 ?_
        obtain ⟨h_19, hf⟩ := chk_s hf
        refine lv_fsub hx hb dX8_extent_103 (nn_n h_19) ?_
        obtain ⟨r_20, hcr_20, hf⟩ := bd1_s hf
        refine backF (runS0 C (c_X8_size l D cA (FP.fsub (m_ys (m_s (3 + x3).toNatClampNeg).toNatClampNeg) (m_ys (m_s (23 + x3).toNatClampNeg).toNatClampNeg)) N r_20 hcr_20) cf_X8_size km_X8_277 ⟨rfl, rfl, by decide, by decide⟩ ⟨Nat.zero_le _, Nat.zero_le _⟩ (hP.sub [] rfl) hK hl.1 rfl rfl (Nat.le_of_ble_eq_true rfl) dX8_extent_104) ?_
        refine lv_fstore (lv' := [(5, .float r_20), (4, .float r_14), (0, .ref (a_m 0)), (2, .float x2), (3, .int x3)]) hx hb dX8_extent_107 hl (by decide) rfl (fun ls hl => ?_)
        refine lv_fload_n hx hb dX8_extent_109 rfl (lv_at hl 3 rfl) ?_
        refine lv_fload hx hb dX8_extent_110 (lv_at hl 1 rfl) ?_
        refine lv_fload hx hb dX8_extent_112 (lv_at hl 0 rfl) ?_
        refine lv_fcmp hx hb dX8_extent_114 ?_
        refine lv_if_le (tgt := 123) hx hb dX8_extent_115 (by decide) (fun c_21 => ?_) (fun c_21 => ?_)
        · have hf := ite_t c_21 hf
          refine lv_fload hx hb dX8_extent_123 (lv_at hl 0 rfl) ?_
          exact B125 x3 x2 r_20 m_faceOfSide m_firstSide m_faces m_xs m_ys _ _ _ (lv_sub hl [2, 4] rfl) hP hD hS hf
        · have hf := ite_f c_21 hf
          refine lv_fload hx hb dX8_extent_118 (lv_at hl 1 rfl) ?_
          refine lv_goto (tgt := 125) hx hb dX8_extent_120 (by decide) ?_
          exact B125 x3 x2 r_14 m_faceOfSide m_firstSide m_faces m_xs m_ys _ _ _ (lv_sub hl [2, 4] rfl) hP hD hS hf
  refine lv_iload_n hx hb dX8_extent_0 rfl (lv_at hl 1 rfl) ?_
  refine lv_iconst (v := 0) hx hb dX8_extent_1 (by decide) ?_
  refine lv_bipush (v := 50) hx hb dX8_extent_2 (by decide) ?_
  obtain ⟨r_1, hcr_1, hf⟩ := bd1_s hf
  refine backI (runS0 C (c_X8_in l D cA p1 0 50 N r_1 hcr_1) cf_X8_in km_X8_70 ⟨rfl, rfl, by decide, by decide⟩ ⟨Nat.zero_le _, Nat.zero_le _⟩ (hP.sub [] rfl) hK hl.1 rfl rfl (Nat.le_of_ble_eq_true rfl) dX8_extent_4) ?_
  refine lv_if_ne (tgt := 12) hx hb dX8_extent_7 (by decide) (fun c_2 => ?_) (fun c_2 => ?_)
  · have hf := ite_t c_2 hf
    refine lv_aload_n hx hb dX8_extent_12 rfl (lv_at hl 0 rfl) ?_
    refine va_get (D := D) (ci := 8) (C := RX8) (T := TX8) (N := 27) hx hb hT kwX8 hown hK.1 hP 0 rfl rfl 0 (by decide) (hT _ kf_X8_7) (fun _ h9 => h9) rfl dX8_extent_13 ?_
    refine lv_iconst (v := 1) hx hb dX8_extent_16 (by decide) ?_
    obtain ⟨h_3, hf⟩ := chk_s hf
    refine va_iald hx hb hK.1 hP 1 0 rfl rfl (inb_in h_3) dX8_extent_17 ?_
    refine lv_if_ne (tgt := 24) hx hb dX8_extent_18 (by decide) (fun c_4 => ?_) (fun c_4 => ?_)
    · have hf := ite_t c_4 hf
      refine lv_aload_n hx hb dX8_extent_24 rfl (lv_at hl 0 rfl) ?_
      refine lv_iload_n hx hb dX8_extent_25 rfl (lv_at hl 1 rfl) ?_
      obtain ⟨r_5, hcr_5, hf⟩ := bd1_s hf
      refine backWv (w2 := (wX8 cA a_m m_s m_past m_pasts m_text m_typed r_5.1 r_5.2.1 r_5.2.2.1 m_before m_endA m_endB m_from m_queue m_ring m_ringSize m_ringNodes m_rings m_path m_pathSize m_old m_lastRing m_bestNodes m_bestInside m_bestFits m_far r_5.2.2.2.1 r_5.2.2.2.2)) (runVw C (c_X8_relaxes l D cA a_m m_s m_past m_pasts m_text m_typed m_faceOfSide m_firstSide m_faces m_before m_endA m_endB m_from m_queue m_ring m_ringSize m_ringNodes m_rings m_path m_pathSize m_old m_lastRing m_bestNodes m_bestInside m_bestFits m_far m_xs m_ys p1 _ N r_5 hcr_5) cf_X8_relaxes km_X8_261 ⟨rfl, rfl, by decide, by decide⟩ ⟨Nat.zero_le _, Nat.zero_le _⟩ (va_recv hK.1 hP (ci := 8) (q0 := 0) rfl rfl) (hP.sub [0, 1, 2, 3, 4, 5, 6, 7, 8, 9, 10, 11, 12, 13, 14, 15, 16, 17, 18] rfl) (hD.sub [0, 1, 2, 3, 4, 5, 6, 7, 8, 9, 10, 11, 12, 13, 14, 15, 16, 17, 18] rfl rfl) hK hl.1 rfl rfl (Nat.le_of_ble_eq_true rfl) dX8_extent_26) hP hD hS hA [0, 1, 2, 3, 4, 5, 6, 7, 8, 9, 10, 11, 12, 13, 14, 15, 16, 17, 18] rfl [] rfl rfl (by decide) [0, 1, 2, 3, 4, 5, 6, 7, 8, 9, 10, 11, 12, 13, 14, 15, 16, 17, 18] rfl rfl (fun H locs hP hD hS => ?_)
      refine lv_fconst0 hx hb dX8_extent_29 ?_
      refine lv_topf (fun x2_6 ex2_6 => ?_)
      have hf := nm_t ex2_6 hf
      refine lv_fstore_n (lv' := [(2, .float x2_6), (0, .ref (a_m 0)), (1, .int p1)]) hx hb dX8_extent_30 rfl hl (by decide) rfl (fun ls hl => ?_)
      refine lv_iconst (v := 0) hx hb dX8_extent_31 (by decide) ?_
      refine lv_istore_n (lv' := [(3, .int 0), (2, .float x2_6), (0, .ref (a_m 0)), (1, .int p1)]) hx hb dX8_extent_32 rfl hl (by decide) rfl (fun ls hl => ?_)
      exact B33 N x2_6 0 r_5.1 r_5.2.1 r_5.2.2.1 r_5.2.2.2.1 r_5.2.2.2.2 _ _ _ (lv_sub hl [2, 1, 0] rfl) hP hD hS hf
    · have hf := ite_fn c_4 hf
      refine lv_bipush (v := (-2)) hx hb dX8_extent_21 (by decide) ?_
      have eR := some_i hf
      exact W.iret hx hb hr (fun t ht hW => ⟨⟨(-2), (), rfl, fst_e eR, by rw [← eR, ht]; exact hP, by rw [← eR]; exact hD⟩, hS.F ht⟩) hS.2.2 dX8_extent_23 (hlocks := hlk)
  · have hf := ite_fn c_2 hf
    refine lv_iconst (v := (-1)) hx hb dX8_extent_10 (by decide) ?_
    have eR := some_i hf
    exact W.iret hx hb hr (fun t ht hW => ⟨⟨(-1), (), rfl, fst_e eR, by rw [← eR, ht]; exact hP, by rw [← eR]; exact hD⟩, hS.F ht⟩) hS.2.2 dX8_extent_11 (hlocks := hlk)
set_option maxRecDepth 100000 in
set_option maxHeartbeats 4000000 in
theorem c_X8_face (l : Launch) (D : va_G) (cA : Nat → ClassId) (a_m : Nat → Nat) (m_s : Nat → Int32) (m_past : Nat → Int32) (m_pasts : Int32) (m_text : Nat → Int32) (m_typed : Int32) (m_faceOfSide : Nat → Int32) (m_firstSide : Nat → Int32) (m_faces : Int32) (m_before : Nat → Int32) (m_endA : Nat → Int32) (m_endB : Nat → Int32) (m_from : Nat → Int32) (m_queue : Nat → Int32) (m_ring : Nat → Int32) (m_ringSize : Nat → Int32) (m_ringNodes : Nat → Int32) (m_rings : Int32) (m_path : Nat → Int32) (m_pathSize : Int32) (m_old : Nat → Int32) (m_lastRing : Int32) (m_bestNodes : Int32) (m_bestInside : Int32) (m_bestFits : Int32) (m_far : Nat → Int32) (m_xs : Nat → UInt32) (m_ys : Nat → UInt32) (p1 : Int32) (p2 : Int32) (sz N : Nat) (ρ : Int32 × (Nat → Int32) × (Nat → Int32) × Int32) (hf : f_X8_face N m_s m_faceOfSide m_firstSide m_faces p1 p2 = some ρ) : Met l yX8_face (Cond.code yX8_face cX8_face 3 (Option.some Jvm.ClassFile.FieldType.int) :: lw_g) ({ frames := 4, cells := 0, slots := 0, locals := 91 } : Room) (PcW D (tyA cA) (wX8 cA a_m m_s m_past m_pasts m_text m_typed m_faceOfSide m_firstSide m_faces m_before m_endA m_endB m_from m_queue m_ring m_ringSize m_ringNodes m_rings m_path m_pathSize m_old m_lastRing m_bestNodes m_bestInside m_bestFits m_far m_xs m_ys) sz [.ref (a_m 0), .int p1, .int p2]) (va_Qi (fun r (_ : Unit) => r = ρ.1) (fun _ t => va_P D vwCl (wX8 cA a_m m_s m_past m_pasts m_text m_typed ρ.2.1 ρ.2.2.1 ρ.2.2.2 m_before m_endA m_endB m_from m_queue m_ring m_ringSize m_ringNodes m_rings m_path m_pathSize m_old m_lastRing m_bestNodes m_bestInside m_bestFits m_far m_xs m_ys) t.heap ∧ va_D (va_A (wX8 cA a_m m_s m_past m_pasts m_text m_typed m_faceOfSide m_firstSide m_faces m_before m_endA m_endB m_from m_queue m_ring m_ringSize m_ringNodes m_rings m_path m_pathSize m_old m_lastRing m_bestNodes m_bestInside m_bestFits m_far m_xs m_ys) sz) (wX8 cA a_m m_s m_past m_pasts m_text m_typed ρ.2.1 ρ.2.2.1 ρ.2.2.2 m_before m_endA m_endB m_from m_queue m_ring m_ringSize m_ringNodes m_rings m_path m_pathSize m_old m_lastRing m_bestNodes m_bestInside m_bestFits m_far m_xs m_ys)) (va_A (wX8 cA a_m m_s m_past m_pasts m_text m_typed m_faceOfSide m_firstSide m_faces m_before m_endA m_endB m_from m_queue m_ring m_ringSize m_ringNodes m_rings m_path m_pathSize m_old m_lastRing m_bestNodes m_bestInside m_bestFits m_far m_xs m_ys) sz)) 0 0 (va_A (wX8 cA a_m m_s m_past m_pasts m_text m_typed m_faceOfSide m_firstSide m_faces m_before m_endA m_endB m_from m_queue m_ring m_ringSize m_ringNodes m_rings m_path m_pathSize m_old m_lastRing m_bestNodes m_bestInside m_bestFits m_far m_xs m_ys) sz) := by
  refine mkW (QQ := fun A => va_Qi (fun r (_ : Unit) => r = ρ.1) (fun _ t => va_P D vwCl (wX8 cA a_m m_s m_past m_pasts m_text m_typed ρ.2.1 ρ.2.2.1 ρ.2.2.2 m_before m_endA m_endB m_from m_queue m_ring m_ringSize m_ringNodes m_rings m_path m_pathSize m_old m_lastRing m_bestNodes m_bestInside m_bestFits m_far m_xs m_ys) t.heap ∧ va_D A (wX8 cA a_m m_s m_past m_pasts m_text m_typed ρ.2.1 ρ.2.2.1 ρ.2.2.2 m_before m_endA m_endB m_from m_queue m_ring m_ringSize m_ringNodes m_rings m_path m_pathSize m_old m_lastRing m_bestNodes m_bestInside m_bestFits m_far m_xs m_ys)) A) (by decide) (Nat.le_of_ble_eq_true rfl) fun p e s m below meth c ls A C hl hP hK hD hA hS => ?_
  obtain ⟨hx, hb, hml, hown, hT, hr, hlk⟩ := id C
  have hl : lv_has ls 3 [(0, .ref (a_m 0)), (1, .int p1), (2, .int p2)] := hl
  refine lv_aload_n hx hb dX8_face_0 rfl (lv_at hl 0 rfl) ?_
  obtain ⟨r_1, hcr_1, hf⟩ := bd1_s hf
  refine backWv (w2 := (wX8 cA a_m m_s m_past m_pasts m_text m_typed r_1.1 r_1.2.1 r_1.2.2 m_before m_endA m_endB m_from m_queue m_ring m_ringSize m_ringNodes m_rings m_path m_pathSize m_old m_lastRing m_bestNodes m_bestInside m_bestFits m_far m_xs m_ys)) (runVw C (c_X8_walks l D cA a_m m_s m_past m_pasts m_text m_typed m_faceOfSide m_firstSide m_faces m_before m_endA m_endB m_from m_queue m_ring m_ringSize m_ringNodes m_rings m_path m_pathSize m_old m_lastRing m_bestNodes m_bestInside m_bestFits m_far m_xs m_ys _ N r_1 hcr_1) cf_X8_walks km_X8_117 ⟨rfl, rfl, by decide, by decide⟩ ⟨Nat.zero_le _, Nat.zero_le _⟩ (va_recv hK.1 hP (ci := 8) (q0 := 0) rfl rfl) (hP.sub [0, 1, 2, 3, 4, 5, 6, 7, 8, 9, 10, 11, 12, 13, 14, 15, 16, 17, 18] rfl) (hD.sub [0, 1, 2, 3, 4, 5, 6, 7, 8, 9, 10, 11, 12, 13, 14, 15, 16, 17, 18] rfl rfl) hK hl.1 rfl rfl (Nat.le_of_ble_eq_true rfl) dX8_face_1) hP hD hS hA [0, 1, 2, 3, 4, 5, 6, 7, 8, 9, 10, 11, 12, 13, 14, 15, 16, 17, 18] rfl [] rfl rfl (by decide) [0, 1, 2, 3, 4, 5, 6, 7, 8, 9, 10, 11, 12, 13, 14, 15, 16, 17, 18] rfl rfl (fun H locs hP hD hS => ?_)
  refine lv_iload_n hx hb dX8_face_4 rfl (lv_at hl 1 rfl) ?_
  refine lv_iconst (v := 0) hx hb dX8_face_5 (by decide) ?_
  refine lv_aload_n hx hb dX8_face_6 rfl (lv_at hl 0 rfl) ?_
  refine va_get (D := D) (ci := 8) (C := RX8) (T := TX8) (N := 27) hx hb hT kwX8 hown hK.1 hP 0 rfl rfl 7 (by decide) (hT _ kf_X8_120) (fun _ h9 => h9) rfl dX8_face_7 ?_
  refine lv_iconst (v := 1) hx hb dX8_face_10 (by decide) ?_
  refine lv_isub hx hb dX8_face_11 ?_
  obtain ⟨r_2, hcr_2, hf⟩ := bd1_s hf
  refine backI (runS0 C (c_X8_in l D cA p1 0 (r_1.2.2 - 1) N r_2 hcr_2) cf_X8_in km_X8_70 ⟨rfl, rfl, by decide, by decide⟩ ⟨Nat.zero_le _, Nat.zero_le _⟩ (hP.sub [] rfl) hK hl.1 rfl rfl (Nat.le_of_ble_eq_true rfl) dX8_face_12) ?_
  refine lv_if_eq (tgt := 27) hx hb dX8_face_15 (by decide) (fun c_3 => ?_) (fun c_3 => ?_)
  · have hf := ite_t c_3 hf
    refine lv_iconst (v := (-1)) hx hb dX8_face_27 (by decide) ?_
    have eR := some_i hf
    exact W.iret hx hb hr (fun t ht hW => ⟨⟨(-1), (), rfl, fst_e eR, by rw [← eR, ht]; exact hP, by rw [← eR]; exact hD⟩, hS.F ht⟩) hS.2.2 dX8_face_28 (hlocks := hlk)
  · have hf := ite_f c_3 hf
    refine lv_iload_n hx hb dX8_face_18 rfl (lv_at hl 2 rfl) ?_
    refine lv_iconst (v := 0) hx hb dX8_face_19 (by decide) ?_
    refine lv_iconst (v := 3) hx hb dX8_face_20 (by decide) ?_
    obtain ⟨r_4, hcr_4, hf⟩ := bd1_s hf
    refine backI (runS0 C (c_X8_in l D cA p2 0 3 N r_4 hcr_4) cf_X8_in km_X8_70 ⟨rfl, rfl, by decide, by decide⟩ ⟨Nat.zero_le _, Nat.zero_le _⟩ (hP.sub [] rfl) hK hl.1 rfl rfl (Nat.le_of_ble_eq_true rfl) dX8_face_21) ?_
    refine lv_if_ne (tgt := 29) hx hb dX8_face_24 (by decide) (fun c_5 => ?_) (fun c_5 => ?_)
    · have hf := ite_t c_5 hf
      refine lv_iload_n hx hb dX8_face_29 rfl (lv_at hl 2 rfl) ?_
      refine lv_if_ne (tgt := 41) hx hb dX8_face_30 (by decide) (fun c_6 => ?_) (fun c_6 => ?_)
      · have hf := ite_t c_6 hf
        refine lv_iload_n hx hb dX8_face_41 rfl (lv_at hl 2 rfl) ?_
        refine lv_iconst (v := 1) hx hb dX8_face_42 (by decide) ?_
        refine lv_icmp_ne (tgt := 58) hx hb dX8_face_43 (by decide) (fun c_7 => ?_) (fun c_7 => ?_)
        · have hf := ite_t c_7 hf
          refine lv_iload_n hx hb dX8_face_58 rfl (lv_at hl 2 rfl) ?_
          refine lv_iconst (v := 2) hx hb dX8_face_59 (by decide) ?_
          refine lv_icmp_ne (tgt := 72) hx hb dX8_face_60 (by decide) (fun c_8 => ?_) (fun c_8 => ?_)
          · have hf := ite_t c_8 hf
            refine lv_aload_n hx hb dX8_face_72 rfl (lv_at hl 0 rfl) ?_
            refine lv_iload_n hx hb dX8_face_73 rfl (lv_at hl 1 rfl) ?_
            obtain ⟨r_9, hcr_9, hf⟩ := bd1_s hf
            refine backI (runV0 C (c_X8_besides l D cA a_m m_s m_past m_pasts m_text m_typed r_1.1 r_1.2.1 r_1.2.2 m_before m_endA m_endB m_from m_queue m_ring m_ringSize m_ringNodes m_rings m_path m_pathSize m_old m_lastRing m_bestNodes m_bestInside m_bestFits m_far m_xs m_ys p1 N r_9 hcr_9) cf_X8_besides km_X8_157 ⟨rfl, rfl, by decide, by decide⟩ ⟨Nat.zero_le _, Nat.zero_le _⟩ (va_recv hK.1 hP (ci := 8) (q0 := 0) rfl rfl) (hP.sub [0, 1, 2, 3, 4, 5, 6, 7, 8, 9, 10, 11, 12, 13, 14, 15, 16, 17, 18] rfl) hK hl.1 rfl rfl (Nat.le_of_ble_eq_true rfl) dX8_face_74) ?_
            have eR := some_i hf
            exact W.iret hx hb hr (fun t ht hW => ⟨⟨r_9, (), rfl, fst_e eR, by rw [← eR, ht]; exact hP, by rw [← eR]; exact hD⟩, hS.F ht⟩) hS.2.2 dX8_face_77 (hlocks := hlk)
          · have hf := ite_fn c_8 hf
            refine lv_aload_n hx hb dX8_face_63 rfl (lv_at hl 0 rfl) ?_
            refine va_get (D := D) (ci := 8) (C := RX8) (T := TX8) (N := 27) hx hb hT kwX8 hown hK.1 hP 0 rfl rfl 6 (by decide) (hT _ kf_X8_23) (fun _ h9 => h9) rfl dX8_face_64 ?_
            refine lv_iload_n hx hb dX8_face_67 rfl (lv_at hl 1 rfl) ?_
            obtain ⟨h_10, hf⟩ := chk_s hf
            refine va_iald hx hb hK.1 hP 5 0 rfl rfl (inb_in h_10) dX8_face_68 ?_
            refine lv_goto (tgt := 77) hx hb dX8_face_69 (by decide) ?_
            have eR := some_i hf
            exact W.iret hx hb hr (fun t ht hW => ⟨⟨(r_1.2.1 p1.toNatClampNeg), (), rfl, fst_e eR, by rw [← eR, ht]; exact hP, by rw [← eR]; exact hD⟩, hS.F ht⟩) hS.2.2 dX8_face_77 (hlocks := hlk)
        · have hf := ite_fn c_7 hf
          refine lv_aload_n hx hb dX8_face_46 rfl (lv_at hl 0 rfl) ?_
          refine lv_iload_n hx hb dX8_face_47 rfl (lv_at hl 1 rfl) ?_
          obtain ⟨r_11, hcr_11, hf⟩ := bd1_s hf
          refine backI (runV0 C (c_X8_nodesOn l D cA a_m m_s m_past m_pasts m_text m_typed r_1.1 r_1.2.1 r_1.2.2 m_before m_endA m_endB m_from m_queue m_ring m_ringSize m_ringNodes m_rings m_path m_pathSize m_old m_lastRing m_bestNodes m_bestInside m_bestFits m_far m_xs m_ys p1 N r_11 hcr_11) cf_X8_nodesOn km_X8_140 ⟨rfl, rfl, by decide, by decide⟩ ⟨Nat.zero_le _, Nat.zero_le _⟩ (va_recv hK.1 hP (ci := 8) (q0 := 0) rfl rfl) (hP.sub [0, 1, 2, 3, 4, 5, 6, 7, 8, 9, 10, 11, 12, 13, 14, 15, 16, 17, 18] rfl) hK hl.1 rfl rfl (Nat.le_of_ble_eq_true rfl) dX8_face_48) ?_
          refine lv_i2l (v := (r_11 : Int32).toInt64) hx hb dX8_face_51 rfl ?_
          obtain ⟨r_12, hcr_12, hf⟩ := bd1_s hf
          refine backI (runS0 C (c_X8_bits l D cA ((r_11 : Int32).toInt64) N r_12 hcr_12) cf_X8_bits km_X8_136 ⟨rfl, rfl, by decide, by decide⟩ ⟨Nat.zero_le _, Nat.zero_le _⟩ (hP.sub [] rfl) hK hl.1 rfl rfl (Nat.le_of_ble_eq_true rfl) dX8_face_52) ?_
          refine lv_goto (tgt := 77) hx hb dX8_face_55 (by decide) ?_
          have eR := some_i hf
          exact W.iret hx hb hr (fun t ht hW => ⟨⟨r_12, (), rfl, fst_e eR, by rw [← eR, ht]; exact hP, by rw [← eR]; exact hD⟩, hS.F ht⟩) hS.2.2 dX8_face_77 (hlocks := hlk)
      · have hf := ite_fn c_6 hf
        refine lv_aload_n hx hb dX8_face_33 rfl (lv_at hl 0 rfl) ?_
        refine lv_iload_n hx hb dX8_face_34 rfl (lv_at hl 1 rfl) ?_
        obtain ⟨r_13, hcr_13, hf⟩ := bd1_s hf
        refine backI (runV0 C (c_X8_lengthOf l D cA a_m m_s m_past m_pasts m_text m_typed r_1.1 r_1.2.1 r_1.2.2 m_before m_endA m_endB m_from m_queue m_ring m_ringSize m_ringNodes m_rings m_path m_pathSize m_old m_lastRing m_bestNodes m_bestInside m_bestFits m_far m_xs m_ys p1 N r_13 hcr_13) cf_X8_lengthOf km_X8_154 ⟨rfl, rfl, by decide, by decide⟩ ⟨Nat.zero_le _, Nat.zero_le _⟩ (va_recv hK.1 hP (ci := 8) (q0 := 0) rfl rfl) (hP.sub [0, 1, 2, 3, 4, 5, 6, 7, 8, 9, 10, 11, 12, 13, 14, 15, 16, 17, 18] rfl) hK hl.1 rfl rfl (Nat.le_of_ble_eq_true rfl) dX8_face_35) ?_
        refine lv_goto (tgt := 77) hx hb dX8_face_38 (by decide) ?_
        have eR := some_i hf
        exact W.iret hx hb hr (fun t ht hW => ⟨⟨r_13, (), rfl, fst_e eR, by rw [← eR, ht]; exact hP, by rw [← eR]; exact hD⟩, hS.F ht⟩) hS.2.2 dX8_face_77 (hlocks := hlk)
    · have hf := ite_fn c_5 hf
      refine lv_iconst (v := (-1)) hx hb dX8_face_27 (by decide) ?_
      have eR := some_i hf
      exact W.iret hx hb hr (fun t ht hW => ⟨⟨(-1), (), rfl, fst_e eR, by rw [← eR, ht]; exact hP, by rw [← eR]; exact hD⟩, hS.F ht⟩) hS.2.2 dX8_face_28 (hlocks := hlk)
set_option maxRecDepth 100000 in
set_option maxHeartbeats 4000000 in
theorem c_X8_faceOf (l : Launch) (D : va_G) (cA : Nat → ClassId) (a_m : Nat → Nat) (m_s : Nat → Int32) (m_past : Nat → Int32) (m_pasts : Int32) (m_text : Nat → Int32) (m_typed : Int32) (m_faceOfSide : Nat → Int32) (m_firstSide : Nat → Int32) (m_faces : Int32) (m_before : Nat → Int32) (m_endA : Nat → Int32) (m_endB : Nat → Int32) (m_from : Nat → Int32) (m_queue : Nat → Int32) (m_ring : Nat → Int32) (m_ringSize : Nat → Int32) (m_ringNodes : Nat → Int32) (m_rings : Int32) (m_path : Nat → Int32) (m_pathSize : Int32) (m_old : Nat → Int32) (m_lastRing : Int32) (m_bestNodes : Int32) (m_bestInside : Int32) (m_bestFits : Int32) (m_far : Nat → Int32) (m_xs : Nat → UInt32) (m_ys : Nat → UInt32) (p1 : Int32) (sz N : Nat) (ρ : Int32 × (Nat → Int32) × (Nat → Int32) × Int32) (hf : f_X8_faceOf N m_s m_faceOfSide m_firstSide m_faces p1 = some ρ) : Met l yX8_faceOf (Cond.code yX8_faceOf cX8_faceOf 2 (Option.some Jvm.ClassFile.FieldType.int) :: lw_g) ({ frames := 4, cells := 0, slots := 0, locals := 91 } : Room) (PcW D (tyA cA) (wX8 cA a_m m_s m_past m_pasts m_text m_typed m_faceOfSide m_firstSide m_faces m_before m_endA m_endB m_from m_queue m_ring m_ringSize m_ringNodes m_rings m_path m_pathSize m_old m_lastRing m_bestNodes m_bestInside m_bestFits m_far m_xs m_ys) sz [.ref (a_m 0), .int p1]) (va_Qi (fun r (_ : Unit) => r = ρ.1) (fun _ t => va_P D vwCl (wX8 cA a_m m_s m_past m_pasts m_text m_typed ρ.2.1 ρ.2.2.1 ρ.2.2.2 m_before m_endA m_endB m_from m_queue m_ring m_ringSize m_ringNodes m_rings m_path m_pathSize m_old m_lastRing m_bestNodes m_bestInside m_bestFits m_far m_xs m_ys) t.heap ∧ va_D (va_A (wX8 cA a_m m_s m_past m_pasts m_text m_typed m_faceOfSide m_firstSide m_faces m_before m_endA m_endB m_from m_queue m_ring m_ringSize m_ringNodes m_rings m_path m_pathSize m_old m_lastRing m_bestNodes m_bestInside m_bestFits m_far m_xs m_ys) sz) (wX8 cA a_m m_s m_past m_pasts m_text m_typed ρ.2.1 ρ.2.2.1 ρ.2.2.2 m_before m_endA m_endB m_from m_queue m_ring m_ringSize m_ringNodes m_rings m_path m_pathSize m_old m_lastRing m_bestNodes m_bestInside m_bestFits m_far m_xs m_ys)) (va_A (wX8 cA a_m m_s m_past m_pasts m_text m_typed m_faceOfSide m_firstSide m_faces m_before m_endA m_endB m_from m_queue m_ring m_ringSize m_ringNodes m_rings m_path m_pathSize m_old m_lastRing m_bestNodes m_bestInside m_bestFits m_far m_xs m_ys) sz)) 0 0 (va_A (wX8 cA a_m m_s m_past m_pasts m_text m_typed m_faceOfSide m_firstSide m_faces m_before m_endA m_endB m_from m_queue m_ring m_ringSize m_ringNodes m_rings m_path m_pathSize m_old m_lastRing m_bestNodes m_bestInside m_bestFits m_far m_xs m_ys) sz) := by
  refine mkW (QQ := fun A => va_Qi (fun r (_ : Unit) => r = ρ.1) (fun _ t => va_P D vwCl (wX8 cA a_m m_s m_past m_pasts m_text m_typed ρ.2.1 ρ.2.2.1 ρ.2.2.2 m_before m_endA m_endB m_from m_queue m_ring m_ringSize m_ringNodes m_rings m_path m_pathSize m_old m_lastRing m_bestNodes m_bestInside m_bestFits m_far m_xs m_ys) t.heap ∧ va_D A (wX8 cA a_m m_s m_past m_pasts m_text m_typed ρ.2.1 ρ.2.2.1 ρ.2.2.2 m_before m_endA m_endB m_from m_queue m_ring m_ringSize m_ringNodes m_rings m_path m_pathSize m_old m_lastRing m_bestNodes m_bestInside m_bestFits m_far m_xs m_ys)) A) (by decide) (Nat.le_of_ble_eq_true rfl) fun p e s m below meth c ls A C hl hP hK hD hA hS => ?_
  obtain ⟨hx, hb, hml, hown, hT, hr, hlk⟩ := id C
  have hl : lv_has ls 2 [(0, .ref (a_m 0)), (1, .int p1)] := hl
  refine lv_iload_n hx hb dX8_faceOf_0 rfl (lv_at hl 1 rfl) ?_
  refine lv_iconst (v := 0) hx hb dX8_faceOf_1 (by decide) ?_
  refine lv_iconst (v := 2) hx hb dX8_faceOf_2 (by decide) ?_
  refine lv_aload_n hx hb dX8_faceOf_3 rfl (lv_at hl 0 rfl) ?_
  refine va_get (D := D) (ci := 8) (C := RX8) (T := TX8) (N := 27) hx hb hT kwX8 hown hK.1 hP 0 rfl rfl 0 (by decide) (hT _ kf_X8_7) (fun _ h9 => h9) rfl dX8_faceOf_4 ?_
  refine lv_iconst (v := 1) hx hb dX8_faceOf_7 (by decide) ?_
  obtain ⟨h_1, hf⟩ := chk_s hf
  refine va_iald hx hb hK.1 hP 1 0 rfl rfl (inb_in h_1) dX8_faceOf_8 ?_
  refine lv_imul hx hb dX8_faceOf_9 ?_
  refine lv_iconst (v := 1) hx hb dX8_faceOf_10 (by decide) ?_
  refine lv_isub hx hb dX8_faceOf_11 ?_
  obtain ⟨r_2, hcr_2, hf⟩ := bd1_s hf
  refine backI (runS0 C (c_X8_in l D cA p1 0 ((2 * (m_s (1 : Int32).toNatClampNeg)) - 1) N r_2 hcr_2) cf_X8_in km_X8_70 ⟨rfl, rfl, by decide, by decide⟩ ⟨Nat.zero_le _, Nat.zero_le _⟩ (hP.sub [] rfl) hK hl.1 rfl rfl (Nat.le_of_ble_eq_true rfl) dX8_faceOf_12) ?_
  refine lv_if_ne (tgt := 20) hx hb dX8_faceOf_15 (by decide) (fun c_3 => ?_) (fun c_3 => ?_)
  · have hf := ite_t c_3 hf
    refine lv_aload_n hx hb dX8_faceOf_20 rfl (lv_at hl 0 rfl) ?_
    obtain ⟨r_4, hcr_4, hf⟩ := bd1_s hf
    refine backWv (w2 := (wX8 cA a_m m_s m_past m_pasts m_text m_typed r_4.1 r_4.2.1 r_4.2.2 m_before m_endA m_endB m_from m_queue m_ring m_ringSize m_ringNodes m_rings m_path m_pathSize m_old m_lastRing m_bestNodes m_bestInside m_bestFits m_far m_xs m_ys)) (runVw C (c_X8_walks l D cA a_m m_s m_past m_pasts m_text m_typed m_faceOfSide m_firstSide m_faces m_before m_endA m_endB m_from m_queue m_ring m_ringSize m_ringNodes m_rings m_path m_pathSize m_old m_lastRing m_bestNodes m_bestInside m_bestFits m_far m_xs m_ys _ N r_4 hcr_4) cf_X8_walks km_X8_117 ⟨rfl, rfl, by decide, by decide⟩ ⟨Nat.zero_le _, Nat.zero_le _⟩ (va_recv hK.1 hP (ci := 8) (q0 := 0) rfl rfl) (hP.sub [0, 1, 2, 3, 4, 5, 6, 7, 8, 9, 10, 11, 12, 13, 14, 15, 16, 17, 18] rfl) (hD.sub [0, 1, 2, 3, 4, 5, 6, 7, 8, 9, 10, 11, 12, 13, 14, 15, 16, 17, 18] rfl rfl) hK hl.1 rfl rfl (Nat.le_of_ble_eq_true rfl) dX8_faceOf_21) hP hD hS hA [0, 1, 2, 3, 4, 5, 6, 7, 8, 9, 10, 11, 12, 13, 14, 15, 16, 17, 18] rfl [] rfl rfl (by decide) [0, 1, 2, 3, 4, 5, 6, 7, 8, 9, 10, 11, 12, 13, 14, 15, 16, 17, 18] rfl rfl (fun H locs hP hD hS => ?_)
    refine lv_aload_n hx hb dX8_faceOf_24 rfl (lv_at hl 0 rfl) ?_
    refine va_get (D := D) (ci := 8) (C := RX8) (T := TX8) (N := 27) hx hb hT kwX8 hown hK.1 hP 0 rfl rfl 5 (by decide) (hT _ kf_X8_20) (fun _ h9 => h9) rfl dX8_faceOf_25 ?_
    refine lv_iload_n hx hb dX8_faceOf_28 rfl (lv_at hl 1 rfl) ?_
    obtain ⟨h_5, hf⟩ := chk_s hf
    refine va_iald hx hb hK.1 hP 4 0 rfl rfl (inb_in h_5) dX8_faceOf_29 ?_
    have eR := some_i hf
    exact W.iret hx hb hr (fun t ht hW => ⟨⟨(r_4.1 p1.toNatClampNeg), (), rfl, fst_e eR, by rw [← eR, ht]; exact hP, by rw [← eR]; exact hD⟩, hS.F ht⟩) hS.2.2 dX8_faceOf_30 (hlocks := hlk)
  · have hf := ite_fn c_3 hf
    refine lv_iconst (v := (-1)) hx hb dX8_faceOf_18 (by decide) ?_
    have eR := some_i hf
    exact W.iret hx hb hr (fun t ht hW => ⟨⟨(-1), (), rfl, fst_e eR, by rw [← eR, ht]; exact hP, by rw [← eR]; exact hD⟩, hS.F ht⟩) hS.2.2 dX8_faceOf_19 (hlocks := hlk)
set_option maxRecDepth 100000 in
set_option maxHeartbeats 4000000 in
theorem c_X8_guiltyEdges (l : Launch) (D : va_G) (cA : Nat → ClassId) (a_m : Nat → Nat) (m_s : Nat → Int32) (m_past : Nat → Int32) (m_pasts : Int32) (m_text : Nat → Int32) (m_typed : Int32) (m_faceOfSide : Nat → Int32) (m_firstSide : Nat → Int32) (m_faces : Int32) (m_before : Nat → Int32) (m_endA : Nat → Int32) (m_endB : Nat → Int32) (m_from : Nat → Int32) (m_queue : Nat → Int32) (m_ring : Nat → Int32) (m_ringSize : Nat → Int32) (m_ringNodes : Nat → Int32) (m_rings : Int32) (m_path : Nat → Int32) (m_pathSize : Int32) (m_old : Nat → Int32) (m_lastRing : Int32) (m_bestNodes : Int32) (m_bestInside : Int32) (m_bestFits : Int32) (m_far : Nat → Int32) (m_xs : Nat → UInt32) (m_ys : Nat → UInt32) (sz N : Nat) (ρ : Int32 × (Nat → Int32) × (Nat → Int32) × (Nat → Int32) × (Nat → Int32) × (Nat → Int32) × (Nat → Int32) × (Nat → Int32) × Int32 × (Nat → Int32) × Int32 × (Nat → Int32) × Int32 × Int32 × Int32 × Int32) (hf : f_X8_guiltyEdges N m_s m_endA m_endB m_from m_queue m_ring m_ringSize m_ringNodes m_rings m_path m_pathSize m_old m_lastRing m_bestNodes m_bestInside m_bestFits = some ρ) : Met l yX8_guiltyEdges (Cond.code yX8_guiltyEdges cX8_guiltyEdges 4 (Option.some Jvm.ClassFile.FieldType.int) :: lw_g) ({ frames := 5, cells := 0, slots := 0, locals := 132 } : Room) (PcW D (tyA cA) (wX8 cA a_m m_s m_past m_pasts m_text m_typed m_faceOfSide m_firstSide m_faces m_before m_endA m_endB m_from m_queue m_ring m_ringSize m_ringNodes m_rings m_path m_pathSize m_old m_lastRing m_bestNodes m_bestInside m_bestFits m_far m_xs m_ys) sz [.ref (a_m 0)]) (va_Qi (fun r (_ : Unit) => r = ρ.1) (fun _ t => va_P D vwCl (wX8 cA a_m m_s m_past m_pasts m_text m_typed m_faceOfSide m_firstSide m_faces m_before ρ.2.1 ρ.2.2.1 ρ.2.2.2.1 ρ.2.2.2.2.1 ρ.2.2.2.2.2.1 ρ.2.2.2.2.2.2.1 ρ.2.2.2.2.2.2.2.1 ρ.2.2.2.2.2.2.2.2.1 ρ.2.2.2.2.2.2.2.2.2.1 ρ.2.2.2.2.2.2.2.2.2.2.1 ρ.2.2.2.2.2.2.2.2.2.2.2.1 ρ.2.2.2.2.2.2.2.2.2.2.2.2.1 ρ.2.2.2.2.2.2.2.2.2.2.2.2.2.1 ρ.2.2.2.2.2.2.2.2.2.2.2.2.2.2.1 ρ.2.2.2.2.2.2.2.2.2.2.2.2.2.2.2 m_far m_xs m_ys) t.heap ∧ va_D (va_A (wX8 cA a_m m_s m_past m_pasts m_text m_typed m_faceOfSide m_firstSide m_faces m_before m_endA m_endB m_from m_queue m_ring m_ringSize m_ringNodes m_rings m_path m_pathSize m_old m_lastRing m_bestNodes m_bestInside m_bestFits m_far m_xs m_ys) sz) (wX8 cA a_m m_s m_past m_pasts m_text m_typed m_faceOfSide m_firstSide m_faces m_before ρ.2.1 ρ.2.2.1 ρ.2.2.2.1 ρ.2.2.2.2.1 ρ.2.2.2.2.2.1 ρ.2.2.2.2.2.2.1 ρ.2.2.2.2.2.2.2.1 ρ.2.2.2.2.2.2.2.2.1 ρ.2.2.2.2.2.2.2.2.2.1 ρ.2.2.2.2.2.2.2.2.2.2.1 ρ.2.2.2.2.2.2.2.2.2.2.2.1 ρ.2.2.2.2.2.2.2.2.2.2.2.2.1 ρ.2.2.2.2.2.2.2.2.2.2.2.2.2.1 ρ.2.2.2.2.2.2.2.2.2.2.2.2.2.2.1 ρ.2.2.2.2.2.2.2.2.2.2.2.2.2.2.2 m_far m_xs m_ys)) (va_A (wX8 cA a_m m_s m_past m_pasts m_text m_typed m_faceOfSide m_firstSide m_faces m_before m_endA m_endB m_from m_queue m_ring m_ringSize m_ringNodes m_rings m_path m_pathSize m_old m_lastRing m_bestNodes m_bestInside m_bestFits m_far m_xs m_ys) sz)) 0 0 (va_A (wX8 cA a_m m_s m_past m_pasts m_text m_typed m_faceOfSide m_firstSide m_faces m_before m_endA m_endB m_from m_queue m_ring m_ringSize m_ringNodes m_rings m_path m_pathSize m_old m_lastRing m_bestNodes m_bestInside m_bestFits m_far m_xs m_ys) sz) := by
  refine mkW (QQ := fun A => va_Qi (fun r (_ : Unit) => r = ρ.1) (fun _ t => va_P D vwCl (wX8 cA a_m m_s m_past m_pasts m_text m_typed m_faceOfSide m_firstSide m_faces m_before ρ.2.1 ρ.2.2.1 ρ.2.2.2.1 ρ.2.2.2.2.1 ρ.2.2.2.2.2.1 ρ.2.2.2.2.2.2.1 ρ.2.2.2.2.2.2.2.1 ρ.2.2.2.2.2.2.2.2.1 ρ.2.2.2.2.2.2.2.2.2.1 ρ.2.2.2.2.2.2.2.2.2.2.1 ρ.2.2.2.2.2.2.2.2.2.2.2.1 ρ.2.2.2.2.2.2.2.2.2.2.2.2.1 ρ.2.2.2.2.2.2.2.2.2.2.2.2.2.1 ρ.2.2.2.2.2.2.2.2.2.2.2.2.2.2.1 ρ.2.2.2.2.2.2.2.2.2.2.2.2.2.2.2 m_far m_xs m_ys) t.heap ∧ va_D A (wX8 cA a_m m_s m_past m_pasts m_text m_typed m_faceOfSide m_firstSide m_faces m_before ρ.2.1 ρ.2.2.1 ρ.2.2.2.1 ρ.2.2.2.2.1 ρ.2.2.2.2.2.1 ρ.2.2.2.2.2.2.1 ρ.2.2.2.2.2.2.2.1 ρ.2.2.2.2.2.2.2.2.1 ρ.2.2.2.2.2.2.2.2.2.1 ρ.2.2.2.2.2.2.2.2.2.2.1 ρ.2.2.2.2.2.2.2.2.2.2.2.1 ρ.2.2.2.2.2.2.2.2.2.2.2.2.1 ρ.2.2.2.2.2.2.2.2.2.2.2.2.2.1 ρ.2.2.2.2.2.2.2.2.2.2.2.2.2.2.1 ρ.2.2.2.2.2.2.2.2.2.2.2.2.2.2.2 m_far m_xs m_ys)) A) (by decide) (Nat.le_of_ble_eq_true rfl) fun p e s m below meth c ls A C hl hP hK hD hA hS => ?_
  obtain ⟨hx, hb, hml, hown, hT, hr, hlk⟩ := id C
  have hl : lv_has ls 4 [(0, .ref (a_m 0))] := hl
  have B20 : ∀ (n20 : Nat), ∀ (x1 : Int32) (x2 : Int32) (x3 : Int32) (m_endA : Nat → Int32) (m_endB : Nat → Int32) (m_from : Nat → Int32) (m_queue : Nat → Int32) (m_ring : Nat → Int32) (m_ringSize : Nat → Int32) (m_ringNodes : Nat → Int32) (m_rings : Int32) (m_path : Nat → Int32) (m_pathSize : Int32) (m_old : Nat → Int32) (m_lastRing : Int32) (m_bestNodes : Int32) (m_bestInside : Int32) (m_bestFits : Int32) (H : Heap) (locs : List Loc) (ls : Array Slot), lv_has ls 4 [(0, .ref (a_m 0)), (1, .int x1), (2, .int x2), (3, .int x3)] → va_P D vwCl (wX8 cA a_m m_s m_past m_pasts m_text m_typed m_faceOfSide m_firstSide m_faces m_before m_endA m_endB m_from m_queue m_ring m_ringSize m_ringNodes m_rings m_path m_pathSize m_old m_lastRing m_bestNodes m_bestInside m_bestFits m_far m_xs m_ys) H → va_D A (wX8 cA a_m m_s m_past m_pasts m_text m_typed m_faceOfSide m_firstSide m_faces m_before m_endA m_endB m_from m_queue m_ring m_ringSize m_ringNodes m_rings m_path m_pathSize m_old m_lastRing m_bestNodes m_bestInside m_bestFits m_far m_xs m_ys) → va_S A s.heap H locs → f_X8_guiltyEdges_b20 N m_s n20 x1 x2 x3 m_endA m_endB m_from m_queue m_ring m_ringSize m_ringNodes m_rings m_path m_pathSize m_old m_lastRing m_bestNodes m_bestInside m_bestFits = some ρ → W p l e ({ frames := 5, cells := 0, slots := 0, locals := 132 } : Room) s m ([.ref (a_m 0)] : List Value).toArray below meth c H locs 0 0 (MQ below (va_Qi (fun r (_ : Unit) => r = ρ.1) (fun _ t => va_P D vwCl (wX8 cA a_m m_s m_past m_pasts m_text m_typed m_faceOfSide m_firstSide m_faces m_before ρ.2.1 ρ.2.2.1 ρ.2.2.2.1 ρ.2.2.2.2.1 ρ.2.2.2.2.2.1 ρ.2.2.2.2.2.2.1 ρ.2.2.2.2.2.2.2.1 ρ.2.2.2.2.2.2.2.2.1 ρ.2.2.2.2.2.2.2.2.2.1 ρ.2.2.2.2.2.2.2.2.2.2.1 ρ.2.2.2.2.2.2.2.2.2.2.2.1 ρ.2.2.2.2.2.2.2.2.2.2.2.2.1 ρ.2.2.2.2.2.2.2.2.2.2.2.2.2.1 ρ.2.2.2.2.2.2.2.2.2.2.2.2.2.2.1 ρ.2.2.2.2.2.2.2.2.2.2.2.2.2.2.2 m_far m_xs m_ys) t.heap ∧ va_D A (wX8 cA a_m m_s m_past m_pasts m_text m_typed m_faceOfSide m_firstSide m_faces m_before ρ.2.1 ρ.2.2.1 ρ.2.2.2.1 ρ.2.2.2.2.1 ρ.2.2.2.2.2.1 ρ.2.2.2.2.2.2.1 ρ.2.2.2.2.2.2.2.1 ρ.2.2.2.2.2.2.2.2.1 ρ.2.2.2.2.2.2.2.2.2.1 ρ.2.2.2.2.2.2.2.2.2.2.1 ρ.2.2.2.2.2.2.2.2.2.2.2.1 ρ.2.2.2.2.2.2.2.2.2.2.2.2.1 ρ.2.2.2.2.2.2.2.2.2.2.2.2.2.1 ρ.2.2.2.2.2.2.2.2.2.2.2.2.2.2.1 ρ.2.2.2.2.2.2.2.2.2.2.2.2.2.2.2 m_far m_xs m_ys)) A) ([.ref (a_m 0)] : List Value).toArray s 0 0 A) (F0 m 20 ls []) := by
    intro n20
    induction n20 with
    | zero =>
      intro x1 x2 x3 m_endA m_endB m_from m_queue m_ring m_ringSize m_ringNodes m_rings m_path m_pathSize m_old m_lastRing m_bestNodes m_bestInside m_bestFits H locs ls hl hP hD hS hf
      cases (show (none : Option (Int32 × (Nat → Int32) × (Nat → Int32) × (Nat → Int32) × (Nat → Int32) × (Nat → Int32) × (Nat → Int32) × (Nat → Int32) × Int32 × (Nat → Int32) × Int32 × (Nat → Int32) × Int32 × Int32 × Int32 × Int32)) = some ρ from hf)
    | succ n20 ih20 =>
      have B50 : ∀ (x1 : Int32) (x3 : Int32) (y0 : Int32) (y1 : Int32) (m_endA : Nat → Int32) (m_endB : Nat → Int32) (m_from : Nat → Int32) (m_queue : Nat → Int32) (m_ring : Nat → Int32) (m_ringSize : Nat → Int32) (m_ringNodes : Nat → Int32) (m_rings : Int32) (m_path : Nat → Int32) (m_pathSize : Int32) (m_old : Nat → Int32) (m_lastRing : Int32) (m_bestNodes : Int32) (m_bestInside : Int32) (m_bestFits : Int32) (H : Heap) (locs : List Loc) (ls : Array Slot), lv_has ls 4 [(0, .ref (a_m 0)), (1, .int x1), (3, .int x3)] → va_P D vwCl (wX8 cA a_m m_s m_past m_pasts m_text m_typed m_faceOfSide m_firstSide m_faces m_before m_endA m_endB m_from m_queue m_ring m_ringSize m_ringNodes m_rings m_path m_pathSize m_old m_lastRing m_bestNodes m_bestInside m_bestFits m_far m_xs m_ys) H → va_D A (wX8 cA a_m m_s m_past m_pasts m_text m_typed m_faceOfSide m_firstSide m_faces m_before m_endA m_endB m_from m_queue m_ring m_ringSize m_ringNodes m_rings m_path m_pathSize m_old m_lastRing m_bestNodes m_bestInside m_bestFits m_far m_xs m_ys) → va_S A s.heap H locs → f_X8_guiltyEdges_b50 N m_s (f_X8_guiltyEdges_b20 N m_s n20) x1 x3 y0 y1 m_endA m_endB m_from m_queue m_ring m_ringSize m_ringNodes m_rings m_path m_pathSize m_old m_lastRing m_bestNodes m_bestInside m_bestFits = some ρ → W p l e ({ frames := 5, cells := 0, slots := 0, locals := 132 } : Room) s m ([.ref (a_m 0)] : List Value).toArray below meth c H locs 0 0 (MQ below (va_Qi (fun r (_ : Unit) => r = ρ.1) (fun _ t => va_P D vwCl (wX8 cA a_m m_s m_past m_pasts m_text m_typed m_faceOfSide m_firstSide m_faces m_before ρ.2.1 ρ.2.2.1 ρ.2.2.2.1 ρ.2.2.2.2.1 ρ.2.2.2.2.2.1 ρ.2.2.2.2.2.2.1 ρ.2.2.2.2.2.2.2.1 ρ.2.2.2.2.2.2.2.2.1 ρ.2.2.2.2.2.2.2.2.2.1 ρ.2.2.2.2.2.2.2.2.2.2.1 ρ.2.2.2.2.2.2.2.2.2.2.2.1 ρ.2.2.2.2.2.2.2.2.2.2.2.2.1 ρ.2.2.2.2.2.2.2.2.2.2.2.2.2.1 ρ.2.2.2.2.2.2.2.2.2.2.2.2.2.2.1 ρ.2.2.2.2.2.2.2.2.2.2.2.2.2.2.2 m_far m_xs m_ys) t.heap ∧ va_D A (wX8 cA a_m m_s m_past m_pasts m_text m_typed m_faceOfSide m_firstSide m_faces m_before ρ.2.1 ρ.2.2.1 ρ.2.2.2.1 ρ.2.2.2.2.1 ρ.2.2.2.2.2.1 ρ.2.2.2.2.2.2.1 ρ.2.2.2.2.2.2.2.1 ρ.2.2.2.2.2.2.2.2.1 ρ.2.2.2.2.2.2.2.2.2.1 ρ.2.2.2.2.2.2.2.2.2.2.1 ρ.2.2.2.2.2.2.2.2.2.2.2.1 ρ.2.2.2.2.2.2.2.2.2.2.2.2.1 ρ.2.2.2.2.2.2.2.2.2.2.2.2.2.1 ρ.2.2.2.2.2.2.2.2.2.2.2.2.2.2.1 ρ.2.2.2.2.2.2.2.2.2.2.2.2.2.2.2 m_far m_xs m_ys)) A) ([.ref (a_m 0)] : List Value).toArray s 0 0 A) (F0 m 50 ls [.int y1, .int y0]) := by
        intro x1 x3 y0 y1 m_endA m_endB m_from m_queue m_ring m_ringSize m_ringNodes m_rings m_path m_pathSize m_old m_lastRing m_bestNodes m_bestInside m_bestFits H locs ls hl hP hD hS hf
        refine lv_iadd hx hb dX8_guiltyEdges_50 ?_
        refine lv_topi (fun x2_9 ex2_9 => ?_)
        have hf := nm_t ex2_9 hf
        refine lv_istore_n (lv' := [(2, .int x2_9), (0, .ref (a_m 0)), (1, .int x1), (3, .int x3)]) hx hb dX8_guiltyEdges_51 rfl hl (by decide) rfl (fun ls hl => ?_)
        refine lv_iinc (v := (x3 + 1)) (lv' := [(3, .int (x3 + 1)), (2, .int x2_9), (0, .ref (a_m 0)), (1, .int x1)]) hx hb dX8_guiltyEdges_52 hl (k := 3) rfl rfl (by decide) rfl (fun ls hl => ?_)
        refine lv_goto (tgt := 20) hx hb dX8_guiltyEdges_55 (by decide) ?_
        exact ih20 x1 x2_9 (x3 + 1) m_endA m_endB m_from m_queue m_ring m_ringSize m_ringNodes m_rings m_path m_pathSize m_old m_lastRing m_bestNodes m_bestInside m_bestFits _ _ _ (lv_sub hl [2, 3, 1, 0] rfl) hP hD hS hf
      intro x1 x2 x3 m_endA m_endB m_from m_queue m_ring m_ringSize m_ringNodes m_rings m_path m_pathSize m_old m_lastRing m_bestNodes m_bestInside m_bestFits H locs ls hl hP hD hS hf
      refine lv_iload_n hx hb dX8_guiltyEdges_20 rfl (lv_at hl 3 rfl) ?_
      refine lv_aload_n hx hb dX8_guiltyEdges_21 rfl (lv_at hl 0 rfl) ?_
      refine va_get (D := D) (ci := 8) (C := RX8) (T := TX8) (N := 27) hx hb hT kwX8 hown hK.1 hP 0 rfl rfl 0 (by decide) (hT _ kf_X8_7) (fun _ h9 => h9) rfl dX8_guiltyEdges_22 ?_
      refine lv_iconst (v := 1) hx hb dX8_guiltyEdges_25 (by decide) ?_
      obtain ⟨h_5, hf⟩ := chk_s hf
      refine va_iald hx hb hK.1 hP 1 0 rfl rfl (inb_in h_5) dX8_guiltyEdges_26 ?_
      refine lv_icmp_ge (tgt := 58) hx hb dX8_guiltyEdges_27 (by decide) (fun c_6 => ?_) (fun c_6 => ?_)
      · have hf := ite_t c_6 hf
        refine lv_iload_n hx hb dX8_guiltyEdges_58 rfl (lv_at hl 2 rfl) ?_
        have eR := some_i hf
        exact W.iret hx hb hr (fun t ht hW => ⟨⟨x2, (), rfl, fst_e eR, by rw [← eR, ht]; exact hP, by rw [← eR]; exact hD⟩, hS.F ht⟩) hS.2.2 dX8_guiltyEdges_59 (hlocks := hlk)
      · have hf := ite_f c_6 hf
        refine lv_iload_n hx hb dX8_guiltyEdges_30 rfl (lv_at hl 2 rfl) ?_
        refine lv_aload_n hx hb dX8_guiltyEdges_31 rfl (lv_at hl 0 rfl) ?_
        refine lv_iload_n hx hb dX8_guiltyEdges_32 rfl (lv_at hl 1 rfl) ?_
        refine lv_iconst (v := 1) hx hb dX8_guiltyEdges_33 (by decide) ?_
        refine lv_iload_n hx hb dX8_guiltyEdges_34 rfl (lv_at hl 3 rfl) ?_
        refine lv_ishl hx hb dX8_guiltyEdges_35 ?_
        refine lv_iconst (v := (-1)) hx hb dX8_guiltyEdges_36 (by decide) ?_
        refine lv_ixor hx hb dX8_guiltyEdges_37 ?_
        refine lv_iand hx hb dX8_guiltyEdges_38 ?_
        obtain ⟨r_7, hcr_7, hf⟩ := bd1_s hf
        refine backWi (w2 := (wX8 cA a_m m_s m_past m_pasts m_text m_typed m_faceOfSide m_firstSide m_faces m_before m_endA m_endB r_7.2.1 r_7.2.2.1 r_7.2.2.2.1 r_7.2.2.2.2.1 r_7.2.2.2.2.2.1 r_7.2.2.2.2.2.2.1 r_7.2.2.2.2.2.2.2.1 r_7.2.2.2.2.2.2.2.2.1 r_7.2.2.2.2.2.2.2.2.2.1 r_7.2.2.2.2.2.2.2.2.2.2.1 r_7.2.2.2.2.2.2.2.2.2.2.2.1 r_7.2.2.2.2.2.2.2.2.2.2.2.2.1 r_7.2.2.2.2.2.2.2.2.2.2.2.2.2 m_far m_xs m_ys)) (runVw C (c_X8_planar l D cA a_m m_s m_past m_pasts m_text m_typed m_faceOfSide m_firstSide m_faces m_before m_endA m_endB m_from m_queue m_ring m_ringSize m_ringNodes m_rings m_path m_pathSize m_old m_lastRing m_bestNodes m_bestInside m_bestFits m_far m_xs m_ys (x1 &&& (((1 : Int32) <<< (x3 &&& 31)) ^^^ (-1))) _ N r_7 hcr_7) cf_X8_planar km_X8_246 ⟨rfl, rfl, by decide, by decide⟩ ⟨Nat.zero_le _, Nat.zero_le _⟩ (va_recv hK.1 hP (ci := 8) (q0 := 0) rfl rfl) (hP.sub [0, 1, 2, 3, 4, 5, 6, 7, 8, 9, 10, 11, 12, 13, 14, 15, 16, 17, 18] rfl) (hD.sub [0, 1, 2, 3, 4, 5, 6, 7, 8, 9, 10, 11, 12, 13, 14, 15, 16, 17, 18] rfl rfl) hK hl.1 rfl rfl (Nat.le_of_ble_eq_true rfl) dX8_guiltyEdges_39) hP hD hS hA [0, 1, 2, 3, 4, 5, 6, 7, 8, 9, 10, 11, 12, 13, 14, 15, 16, 17, 18] rfl [] rfl rfl (by decide) [0, 1, 2, 3, 4, 5, 6, 7, 8, 9, 10, 11, 12, 13, 14, 15, 16, 17, 18] rfl rfl (fun H locs hP hD hS => ?_)
        refine lv_if_eq (tgt := 49) hx hb dX8_guiltyEdges_42 (by decide) (fun c_8 => ?_) (fun c_8 => ?_)
        · have hf := ite_t c_8 hf
          refine lv_iconst (v := 0) hx hb dX8_guiltyEdges_49 (by decide) ?_
          exact B50 x1 x3 x2 0 m_endA m_endB r_7.2.1 r_7.2.2.1 r_7.2.2.2.1 r_7.2.2.2.2.1 r_7.2.2.2.2.2.1 r_7.2.2.2.2.2.2.1 r_7.2.2.2.2.2.2.2.1 r_7.2.2.2.2.2.2.2.2.1 r_7.2.2.2.2.2.2.2.2.2.1 r_7.2.2.2.2.2.2.2.2.2.2.1 r_7.2.2.2.2.2.2.2.2.2.2.2.1 r_7.2.2.2.2.2.2.2.2.2.2.2.2.1 r_7.2.2.2.2.2.2.2.2.2.2.2.2.2 _ _ _ (lv_sub hl [0, 1, 3] rfl) hP hD hS hf
        · have hf := ite_f c_8 hf
          refine lv_iconst (v := 1) hx hb dX8_guiltyEdges_45 (by decide) ?_
          refine lv_goto (tgt := 50) hx hb dX8_guiltyEdges_46 (by decide) ?_
          exact B50 x1 x3 x2 1 m_endA m_endB r_7.2.1 r_7.2.2.1 r_7.2.2.2.1 r_7.2.2.2.2.1 r_7.2.2.2.2.2.1 r_7.2.2.2.2.2.2.1 r_7.2.2.2.2.2.2.2.1 r_7.2.2.2.2.2.2.2.2.1 r_7.2.2.2.2.2.2.2.2.2.1 r_7.2.2.2.2.2.2.2.2.2.2.1 r_7.2.2.2.2.2.2.2.2.2.2.2.1 r_7.2.2.2.2.2.2.2.2.2.2.2.2.1 r_7.2.2.2.2.2.2.2.2.2.2.2.2.2 _ _ _ (lv_sub hl [0, 1, 3] rfl) hP hD hS hf
  refine lv_aload_n hx hb dX8_guiltyEdges_0 rfl (lv_at hl 0 rfl) ?_
  obtain ⟨r_1, hcr_1, hf⟩ := bd1_s hf
  refine backWi (w2 := (wX8 cA a_m m_s m_past m_pasts m_text m_typed m_faceOfSide m_firstSide m_faces m_before r_1.2.1 r_1.2.2 m_from m_queue m_ring m_ringSize m_ringNodes m_rings m_path m_pathSize m_old m_lastRing m_bestNodes m_bestInside m_bestFits m_far m_xs m_ys)) (runVw C (c_X8_allEdges l D cA a_m m_s m_past m_pasts m_text m_typed m_faceOfSide m_firstSide m_faces m_before m_endA m_endB m_from m_queue m_ring m_ringSize m_ringNodes m_rings m_path m_pathSize m_old m_lastRing m_bestNodes m_bestInside m_bestFits m_far m_xs m_ys _ N r_1 hcr_1) cf_X8_allEdges km_X8_243 ⟨rfl, rfl, by decide, by decide⟩ ⟨Nat.zero_le _, Nat.zero_le _⟩ (va_recv hK.1 hP (ci := 8) (q0 := 0) rfl rfl) (hP.sub [0, 1, 2, 3, 4, 5, 6, 7, 8, 9, 10, 11, 12, 13, 14, 15, 16, 17, 18] rfl) (hD.sub [0, 1, 2, 3, 4, 5, 6, 7, 8, 9, 10, 11, 12, 13, 14, 15, 16, 17, 18] rfl rfl) hK hl.1 rfl rfl (Nat.le_of_ble_eq_true rfl) dX8_guiltyEdges_1) hP hD hS hA [0, 1, 2, 3, 4, 5, 6, 7, 8, 9, 10, 11, 12, 13, 14, 15, 16, 17, 18] rfl [] rfl rfl (by decide) [0, 1, 2, 3, 4, 5, 6, 7, 8, 9, 10, 11, 12, 13, 14, 15, 16, 17, 18] rfl rfl (fun H locs hP hD hS => ?_)
  refine lv_topi (fun x1_2 ex1_2 => ?_)
  have hf := nm_t ex1_2 hf
  refine lv_istore_n (lv' := [(1, .int x1_2), (0, .ref (a_m 0))]) hx hb dX8_guiltyEdges_4 rfl hl (by decide) rfl (fun ls hl => ?_)
  refine lv_aload_n hx hb dX8_guiltyEdges_5 rfl (lv_at hl 1 rfl) ?_
  refine lv_iload_n hx hb dX8_guiltyEdges_6 rfl (lv_at hl 0 rfl) ?_
  obtain ⟨r_3, hcr_3, hf⟩ := bd1_s hf
  refine backWi (w2 := (wX8 cA a_m m_s m_past m_pasts m_text m_typed m_faceOfSide m_firstSide m_faces m_before r_1.2.1 r_1.2.2 r_3.2.1 r_3.2.2.1 r_3.2.2.2.1 r_3.2.2.2.2.1 r_3.2.2.2.2.2.1 r_3.2.2.2.2.2.2.1 r_3.2.2.2.2.2.2.2.1 r_3.2.2.2.2.2.2.2.2.1 r_3.2.2.2.2.2.2.2.2.2.1 r_3.2.2.2.2.2.2.2.2.2.2.1 r_3.2.2.2.2.2.2.2.2.2.2.2.1 r_3.2.2.2.2.2.2.2.2.2.2.2.2.1 r_3.2.2.2.2.2.2.2.2.2.2.2.2.2 m_far m_xs m_ys)) (runVw C (c_X8_planar l D cA a_m m_s m_past m_pasts m_text m_typed m_faceOfSide m_firstSide m_faces m_before r_1.2.1 r_1.2.2 m_from m_queue m_ring m_ringSize m_ringNodes m_rings m_path m_pathSize m_old m_lastRing m_bestNodes m_bestInside m_bestFits m_far m_xs m_ys x1_2 _ N r_3 hcr_3) cf_X8_planar km_X8_246 ⟨rfl, rfl, by decide, by decide⟩ ⟨Nat.zero_le _, Nat.zero_le _⟩ (va_recv hK.1 hP (ci := 8) (q0 := 0) rfl rfl) (hP.sub [0, 1, 2, 3, 4, 5, 6, 7, 8, 9, 10, 11, 12, 13, 14, 15, 16, 17, 18] rfl) (hD.sub [0, 1, 2, 3, 4, 5, 6, 7, 8, 9, 10, 11, 12, 13, 14, 15, 16, 17, 18] rfl rfl) hK hl.1 rfl rfl (Nat.le_of_ble_eq_true rfl) dX8_guiltyEdges_7) hP hD hS hA [0, 1, 2, 3, 4, 5, 6, 7, 8, 9, 10, 11, 12, 13, 14, 15, 16, 17, 18] rfl [] rfl rfl (by decide) [0, 1, 2, 3, 4, 5, 6, 7, 8, 9, 10, 11, 12, 13, 14, 15, 16, 17, 18] rfl rfl (fun H locs hP hD hS => ?_)
  refine lv_if_eq (tgt := 16) hx hb dX8_guiltyEdges_10 (by decide) (fun c_4 => ?_) (fun c_4 => ?_)
  · have hf := ite_t c_4 hf
    refine lv_iconst (v := 0) hx hb dX8_guiltyEdges_16 (by decide) ?_
    refine lv_istore_n (lv' := [(2, .int 0), (1, .int x1_2), (0, .ref (a_m 0))]) hx hb dX8_guiltyEdges_17 rfl hl (by decide) rfl (fun ls hl => ?_)
    refine lv_iconst (v := 0) hx hb dX8_guiltyEdges_18 (by decide) ?_
    refine lv_istore_n (lv' := [(3, .int 0), (2, .int 0), (1, .int x1_2), (0, .ref (a_m 0))]) hx hb dX8_guiltyEdges_19 rfl hl (by decide) rfl (fun ls hl => ?_)
    exact B20 N x1_2 0 0 r_1.2.1 r_1.2.2 r_3.2.1 r_3.2.2.1 r_3.2.2.2.1 r_3.2.2.2.2.1 r_3.2.2.2.2.2.1 r_3.2.2.2.2.2.2.1 r_3.2.2.2.2.2.2.2.1 r_3.2.2.2.2.2.2.2.2.1 r_3.2.2.2.2.2.2.2.2.2.1 r_3.2.2.2.2.2.2.2.2.2.2.1 r_3.2.2.2.2.2.2.2.2.2.2.2.1 r_3.2.2.2.2.2.2.2.2.2.2.2.2.1 r_3.2.2.2.2.2.2.2.2.2.2.2.2.2 _ _ _ (lv_sub hl [3, 2, 1, 0] rfl) hP hD hS hf
  · have hf := ite_f c_4 hf
    refine lv_bipush (v := (-9)) hx hb dX8_guiltyEdges_13 (by decide) ?_
    have eR := some_i hf
    exact W.iret hx hb hr (fun t ht hW => ⟨⟨(-9), (), rfl, fst_e eR, by rw [← eR, ht]; exact hP, by rw [← eR]; exact hD⟩, hS.F ht⟩) hS.2.2 dX8_guiltyEdges_15 (hlocks := hlk)
set_option maxRecDepth 100000 in
set_option maxHeartbeats 4000000 in
theorem c_X8_insertionCost (l : Launch) (D : va_G) (cA : Nat → ClassId) (a_m : Nat → Nat) (m_s : Nat → Int32) (m_past : Nat → Int32) (m_pasts : Int32) (m_text : Nat → Int32) (m_typed : Int32) (m_faceOfSide : Nat → Int32) (m_firstSide : Nat → Int32) (m_faces : Int32) (m_before : Nat → Int32) (m_endA : Nat → Int32) (m_endB : Nat → Int32) (m_from : Nat → Int32) (m_queue : Nat → Int32) (m_ring : Nat → Int32) (m_ringSize : Nat → Int32) (m_ringNodes : Nat → Int32) (m_rings : Int32) (m_path : Nat → Int32) (m_pathSize : Int32) (m_old : Nat → Int32) (m_lastRing : Int32) (m_bestNodes : Int32) (m_bestInside : Int32) (m_bestFits : Int32) (m_far : Nat → Int32) (m_xs : Nat → UInt32) (m_ys : Nat → UInt32) (p1 : Int32) (p2 : Int32) (sz N : Nat) (ρ : Int32 × (Nat → Int32) × (Nat → Int32) × Int32 × (Nat → Int32)) (hf : f_X8_insertionCost N m_s m_faceOfSide m_firstSide m_faces m_far p1 p2 = some ρ) : Met l yX8_insertionCost (Cond.code yX8_insertionCost cX8_insertionCost 3 (Option.some Jvm.ClassFile.FieldType.int) :: lw_g) ({ frames := 6, cells := 0, slots := 0, locals := 136 } : Room) (PcW D (tyA cA) (wX8 cA a_m m_s m_past m_pasts m_text m_typed m_faceOfSide m_firstSide m_faces m_before m_endA m_endB m_from m_queue m_ring m_ringSize m_ringNodes m_rings m_path m_pathSize m_old m_lastRing m_bestNodes m_bestInside m_bestFits m_far m_xs m_ys) sz [.ref (a_m 0), .int p1, .int p2]) (va_Qi (fun r (_ : Unit) => r = ρ.1) (fun _ t => va_P D vwCl (wX8 cA a_m m_s m_past m_pasts m_text m_typed ρ.2.1 ρ.2.2.1 ρ.2.2.2.1 m_before m_endA m_endB m_from m_queue m_ring m_ringSize m_ringNodes m_rings m_path m_pathSize m_old m_lastRing m_bestNodes m_bestInside m_bestFits ρ.2.2.2.2 m_xs m_ys) t.heap ∧ va_D (va_A (wX8 cA a_m m_s m_past m_pasts m_text m_typed m_faceOfSide m_firstSide m_faces m_before m_endA m_endB m_from m_queue m_ring m_ringSize m_ringNodes m_rings m_path m_pathSize m_old m_lastRing m_bestNodes m_bestInside m_bestFits m_far m_xs m_ys) sz) (wX8 cA a_m m_s m_past m_pasts m_text m_typed ρ.2.1 ρ.2.2.1 ρ.2.2.2.1 m_before m_endA m_endB m_from m_queue m_ring m_ringSize m_ringNodes m_rings m_path m_pathSize m_old m_lastRing m_bestNodes m_bestInside m_bestFits ρ.2.2.2.2 m_xs m_ys)) (va_A (wX8 cA a_m m_s m_past m_pasts m_text m_typed m_faceOfSide m_firstSide m_faces m_before m_endA m_endB m_from m_queue m_ring m_ringSize m_ringNodes m_rings m_path m_pathSize m_old m_lastRing m_bestNodes m_bestInside m_bestFits m_far m_xs m_ys) sz)) 0 0 (va_A (wX8 cA a_m m_s m_past m_pasts m_text m_typed m_faceOfSide m_firstSide m_faces m_before m_endA m_endB m_from m_queue m_ring m_ringSize m_ringNodes m_rings m_path m_pathSize m_old m_lastRing m_bestNodes m_bestInside m_bestFits m_far m_xs m_ys) sz) := by
  refine mkW (QQ := fun A => va_Qi (fun r (_ : Unit) => r = ρ.1) (fun _ t => va_P D vwCl (wX8 cA a_m m_s m_past m_pasts m_text m_typed ρ.2.1 ρ.2.2.1 ρ.2.2.2.1 m_before m_endA m_endB m_from m_queue m_ring m_ringSize m_ringNodes m_rings m_path m_pathSize m_old m_lastRing m_bestNodes m_bestInside m_bestFits ρ.2.2.2.2 m_xs m_ys) t.heap ∧ va_D A (wX8 cA a_m m_s m_past m_pasts m_text m_typed ρ.2.1 ρ.2.2.1 ρ.2.2.2.1 m_before m_endA m_endB m_from m_queue m_ring m_ringSize m_ringNodes m_rings m_path m_pathSize m_old m_lastRing m_bestNodes m_bestInside m_bestFits ρ.2.2.2.2 m_xs m_ys)) A) (by decide) (Nat.le_of_ble_eq_true rfl) fun p e s m below meth c ls A C hl hP hK hD hA hS => ?_
  obtain ⟨hx, hb, hml, hown, hT, hr, hlk⟩ := id C
  have hl : lv_has ls 3 [(0, .ref (a_m 0)), (1, .int p1), (2, .int p2)] := hl
  refine lv_aload_n hx hb dX8_insertionCost_0 rfl (lv_at hl 0 rfl) ?_
  refine lv_iload_n hx hb dX8_insertionCost_1 rfl (lv_at hl 1 rfl) ?_
  refine lv_iload_n hx hb dX8_insertionCost_2 rfl (lv_at hl 2 rfl) ?_
  obtain ⟨r_1, hcr_1, hf⟩ := bd1_s hf
  refine backI (runV0 C (c_X8_areNodes l D cA a_m m_s m_past m_pasts m_text m_typed m_faceOfSide m_firstSide m_faces m_before m_endA m_endB m_from m_queue m_ring m_ringSize m_ringNodes m_rings m_path m_pathSize m_old m_lastRing m_bestNodes m_bestInside m_bestFits m_far m_xs m_ys p1 p2 N r_1 hcr_1) cf_X8_areNodes km_X8_100 ⟨rfl, rfl, by decide, by decide⟩ ⟨Nat.zero_le _, Nat.zero_le _⟩ (va_recv hK.1 hP (ci := 8) (q0 := 0) rfl rfl) (hP.sub [0, 1, 2, 3, 4, 5, 6, 7, 8, 9, 10, 11, 12, 13, 14, 15, 16, 17, 18] rfl) hK hl.1 rfl rfl (Nat.le_of_ble_eq_true rfl) dX8_insertionCost_3) ?_
  refine lv_if_ne (tgt := 11) hx hb dX8_insertionCost_6 (by decide) (fun c_2 => ?_) (fun c_2 => ?_)
  · have hf := ite_t c_2 hf
    refine lv_aload_n hx hb dX8_insertionCost_11 rfl (lv_at hl 0 rfl) ?_
    refine lv_iload_n hx hb dX8_insertionCost_12 rfl (lv_at hl 1 rfl) ?_
    refine lv_iload_n hx hb dX8_insertionCost_13 rfl (lv_at hl 2 rfl) ?_
    obtain ⟨r_3, hcr_3, hf⟩ := bd1_s hf
    refine backWi (w2 := (wX8 cA a_m m_s m_past m_pasts m_text m_typed r_3.2.1 r_3.2.2.1 r_3.2.2.2 m_before m_endA m_endB m_from m_queue m_ring m_ringSize m_ringNodes m_rings m_path m_pathSize m_old m_lastRing m_bestNodes m_bestInside m_bestFits m_far m_xs m_ys)) (runVw C (c_X8_isRefused l D cA a_m m_s m_past m_pasts m_text m_typed m_faceOfSide m_firstSide m_faces m_before m_endA m_endB m_from m_queue m_ring m_ringSize m_ringNodes m_rings m_path m_pathSize m_old m_lastRing m_bestNodes m_bestInside m_bestFits m_far m_xs m_ys p1 p2 _ N r_3 hcr_3) cf_X8_isRefused km_X8_255 ⟨rfl, rfl, by decide, by decide⟩ ⟨Nat.zero_le _, Nat.zero_le _⟩ (va_recv hK.1 hP (ci := 8) (q0 := 0) rfl rfl) (hP.sub [0, 1, 2, 3, 4, 5, 6, 7, 8, 9, 10, 11, 12, 13, 14, 15, 16, 17, 18] rfl) (hD.sub [0, 1, 2, 3, 4, 5, 6, 7, 8, 9, 10, 11, 12, 13, 14, 15, 16, 17, 18] rfl rfl) hK hl.1 rfl rfl (Nat.le_of_ble_eq_true rfl) dX8_insertionCost_14) hP hD hS hA [0, 1, 2, 3, 4, 5, 6, 7, 8, 9, 10, 11, 12, 13, 14, 15, 16, 17, 18] rfl [] rfl rfl (by decide) [0, 1, 2, 3, 4, 5, 6, 7, 8, 9, 10, 11, 12, 13, 14, 15, 16, 17, 18] rfl rfl (fun H locs hP hD hS => ?_)
    refine lv_if_eq (tgt := 25) hx hb dX8_insertionCost_17 (by decide) (fun c_4 => ?_) (fun c_4 => ?_)
    · have hf := ite_t c_4 hf
      refine lv_aload_n hx hb dX8_insertionCost_25 rfl (lv_at hl 0 rfl) ?_
      refine lv_iload_n hx hb dX8_insertionCost_26 rfl (lv_at hl 1 rfl) ?_
      refine lv_iload_n hx hb dX8_insertionCost_27 rfl (lv_at hl 2 rfl) ?_
      obtain ⟨r_5, hcr_5, hf⟩ := bd1_s hf
      refine backWi (w2 := (wX8 cA a_m m_s m_past m_pasts m_text m_typed r_3.2.1 r_3.2.2.1 r_3.2.2.2 m_before m_endA m_endB m_from m_queue m_ring m_ringSize m_ringNodes m_rings m_path m_pathSize m_old m_lastRing m_bestNodes m_bestInside m_bestFits r_5.2 m_xs m_ys)) (runVw C (c_X8_costOf l D cA a_m m_s m_past m_pasts m_text m_typed r_3.2.1 r_3.2.2.1 r_3.2.2.2 m_before m_endA m_endB m_from m_queue m_ring m_ringSize m_ringNodes m_rings m_path m_pathSize m_old m_lastRing m_bestNodes m_bestInside m_bestFits m_far m_xs m_ys p1 p2 _ N r_5 hcr_5) cf_X8_costOf km_X8_258 ⟨rfl, rfl, by decide, by decide⟩ ⟨Nat.zero_le _, Nat.zero_le _⟩ (va_recv hK.1 hP (ci := 8) (q0 := 0) rfl rfl) (hP.sub [0, 1, 2, 3, 4, 5, 6, 7, 8, 9, 10, 11, 12, 13, 14, 15, 16, 17, 18] rfl) (hD.sub [0, 1, 2, 3, 4, 5, 6, 7, 8, 9, 10, 11, 12, 13, 14, 15, 16, 17, 18] rfl rfl) hK hl.1 rfl rfl (Nat.le_of_ble_eq_true rfl) dX8_insertionCost_28) hP hD hS hA [0, 1, 2, 3, 4, 5, 6, 7, 8, 9, 10, 11, 12, 13, 14, 15, 16, 17, 18] rfl [] rfl rfl (by decide) [0, 1, 2, 3, 4, 5, 6, 7, 8, 9, 10, 11, 12, 13, 14, 15, 16, 17, 18] rfl rfl (fun H locs hP hD hS => ?_)
      have eR := some_i hf
      exact W.iret hx hb hr (fun t ht hW => ⟨⟨r_5.1, (), rfl, fst_e eR, by rw [← eR, ht]; exact hP, by rw [← eR]; exact hD⟩, hS.F ht⟩) hS.2.2 dX8_insertionCost_31 (hlocks := hlk)
    · have hf := ite_f c_4 hf
      refine lv_bipush (v := (-2)) hx hb dX8_insertionCost_20 (by decide) ?_
      refine lv_goto (tgt := 31) hx hb dX8_insertionCost_22 (by decide) ?_
      have eR := some_i hf
      exact W.iret hx hb hr (fun t ht hW => ⟨⟨(-2), (), rfl, fst_e eR, by rw [← eR, ht]; exact hP, by rw [← eR]; exact hD⟩, hS.F ht⟩) hS.2.2 dX8_insertionCost_31 (hlocks := hlk)
  · have hf := ite_fn c_2 hf
    refine lv_iconst (v := (-1)) hx hb dX8_insertionCost_9 (by decide) ?_
    have eR := some_i hf
    exact W.iret hx hb hr (fun t ht hW => ⟨⟨(-1), (), rfl, fst_e eR, by rw [← eR, ht]; exact hP, by rw [← eR]; exact hD⟩, hS.F ht⟩) hS.2.2 dX8_insertionCost_10 (hlocks := hlk)
set_option maxRecDepth 100000 in
set_option maxHeartbeats 4000000 in
theorem c_X8_isPlanar (l : Launch) (D : va_G) (cA : Nat → ClassId) (a_m : Nat → Nat) (m_s : Nat → Int32) (m_past : Nat → Int32) (m_pasts : Int32) (m_text : Nat → Int32) (m_typed : Int32) (m_faceOfSide : Nat → Int32) (m_firstSide : Nat → Int32) (m_faces : Int32) (m_before : Nat → Int32) (m_endA : Nat → Int32) (m_endB : Nat → Int32) (m_from : Nat → Int32) (m_queue : Nat → Int32) (m_ring : Nat → Int32) (m_ringSize : Nat → Int32) (m_ringNodes : Nat → Int32) (m_rings : Int32) (m_path : Nat → Int32) (m_pathSize : Int32) (m_old : Nat → Int32) (m_lastRing : Int32) (m_bestNodes : Int32) (m_bestInside : Int32) (m_bestFits : Int32) (m_far : Nat → Int32) (m_xs : Nat → UInt32) (m_ys : Nat → UInt32) (sz N : Nat) (ρ : Int32 × (Nat → Int32) × (Nat → Int32) × (Nat → Int32) × (Nat → Int32) × (Nat → Int32) × (Nat → Int32) × (Nat → Int32) × Int32 × (Nat → Int32) × Int32 × (Nat → Int32) × Int32 × Int32 × Int32 × Int32) (hf : f_X8_isPlanar N m_s m_endA m_endB m_from m_queue m_ring m_ringSize m_ringNodes m_rings m_path m_pathSize m_old m_lastRing m_bestNodes m_bestInside m_bestFits = some ρ) : Met l yX8_isPlanar (Cond.code yX8_isPlanar cX8_isPlanar 1 (Option.some Jvm.ClassFile.FieldType.int) :: lw_g) ({ frames := 5, cells := 0, slots := 0, locals := 132 } : Room) (PcW D (tyA cA) (wX8 cA a_m m_s m_past m_pasts m_text m_typed m_faceOfSide m_firstSide m_faces m_before m_endA m_endB m_from m_queue m_ring m_ringSize m_ringNodes m_rings m_path m_pathSize m_old m_lastRing m_bestNodes m_bestInside m_bestFits m_far m_xs m_ys) sz [.ref (a_m 0)]) (va_Qi (fun r (_ : Unit) => r = ρ.1) (fun _ t => va_P D vwCl (wX8 cA a_m m_s m_past m_pasts m_text m_typed m_faceOfSide m_firstSide m_faces m_before ρ.2.1 ρ.2.2.1 ρ.2.2.2.1 ρ.2.2.2.2.1 ρ.2.2.2.2.2.1 ρ.2.2.2.2.2.2.1 ρ.2.2.2.2.2.2.2.1 ρ.2.2.2.2.2.2.2.2.1 ρ.2.2.2.2.2.2.2.2.2.1 ρ.2.2.2.2.2.2.2.2.2.2.1 ρ.2.2.2.2.2.2.2.2.2.2.2.1 ρ.2.2.2.2.2.2.2.2.2.2.2.2.1 ρ.2.2.2.2.2.2.2.2.2.2.2.2.2.1 ρ.2.2.2.2.2.2.2.2.2.2.2.2.2.2.1 ρ.2.2.2.2.2.2.2.2.2.2.2.2.2.2.2 m_far m_xs m_ys) t.heap ∧ va_D (va_A (wX8 cA a_m m_s m_past m_pasts m_text m_typed m_faceOfSide m_firstSide m_faces m_before m_endA m_endB m_from m_queue m_ring m_ringSize m_ringNodes m_rings m_path m_pathSize m_old m_lastRing m_bestNodes m_bestInside m_bestFits m_far m_xs m_ys) sz) (wX8 cA a_m m_s m_past m_pasts m_text m_typed m_faceOfSide m_firstSide m_faces m_before ρ.2.1 ρ.2.2.1 ρ.2.2.2.1 ρ.2.2.2.2.1 ρ.2.2.2.2.2.1 ρ.2.2.2.2.2.2.1 ρ.2.2.2.2.2.2.2.1 ρ.2.2.2.2.2.2.2.2.1 ρ.2.2.2.2.2.2.2.2.2.1 ρ.2.2.2.2.2.2.2.2.2.2.1 ρ.2.2.2.2.2.2.2.2.2.2.2.1 ρ.2.2.2.2.2.2.2.2.2.2.2.2.1 ρ.2.2.2.2.2.2.2.2.2.2.2.2.2.1 ρ.2.2.2.2.2.2.2.2.2.2.2.2.2.2.1 ρ.2.2.2.2.2.2.2.2.2.2.2.2.2.2.2 m_far m_xs m_ys)) (va_A (wX8 cA a_m m_s m_past m_pasts m_text m_typed m_faceOfSide m_firstSide m_faces m_before m_endA m_endB m_from m_queue m_ring m_ringSize m_ringNodes m_rings m_path m_pathSize m_old m_lastRing m_bestNodes m_bestInside m_bestFits m_far m_xs m_ys) sz)) 0 0 (va_A (wX8 cA a_m m_s m_past m_pasts m_text m_typed m_faceOfSide m_firstSide m_faces m_before m_endA m_endB m_from m_queue m_ring m_ringSize m_ringNodes m_rings m_path m_pathSize m_old m_lastRing m_bestNodes m_bestInside m_bestFits m_far m_xs m_ys) sz) := by
  refine mkW (QQ := fun A => va_Qi (fun r (_ : Unit) => r = ρ.1) (fun _ t => va_P D vwCl (wX8 cA a_m m_s m_past m_pasts m_text m_typed m_faceOfSide m_firstSide m_faces m_before ρ.2.1 ρ.2.2.1 ρ.2.2.2.1 ρ.2.2.2.2.1 ρ.2.2.2.2.2.1 ρ.2.2.2.2.2.2.1 ρ.2.2.2.2.2.2.2.1 ρ.2.2.2.2.2.2.2.2.1 ρ.2.2.2.2.2.2.2.2.2.1 ρ.2.2.2.2.2.2.2.2.2.2.1 ρ.2.2.2.2.2.2.2.2.2.2.2.1 ρ.2.2.2.2.2.2.2.2.2.2.2.2.1 ρ.2.2.2.2.2.2.2.2.2.2.2.2.2.1 ρ.2.2.2.2.2.2.2.2.2.2.2.2.2.2.1 ρ.2.2.2.2.2.2.2.2.2.2.2.2.2.2.2 m_far m_xs m_ys) t.heap ∧ va_D A (wX8 cA a_m m_s m_past m_pasts m_text m_typed m_faceOfSide m_firstSide m_faces m_before ρ.2.1 ρ.2.2.1 ρ.2.2.2.1 ρ.2.2.2.2.1 ρ.2.2.2.2.2.1 ρ.2.2.2.2.2.2.1 ρ.2.2.2.2.2.2.2.1 ρ.2.2.2.2.2.2.2.2.1 ρ.2.2.2.2.2.2.2.2.2.1 ρ.2.2.2.2.2.2.2.2.2.2.1 ρ.2.2.2.2.2.2.2.2.2.2.2.1 ρ.2.2.2.2.2.2.2.2.2.2.2.2.1 ρ.2.2.2.2.2.2.2.2.2.2.2.2.2.1 ρ.2.2.2.2.2.2.2.2.2.2.2.2.2.2.1 ρ.2.2.2.2.2.2.2.2.2.2.2.2.2.2.2 m_far m_xs m_ys)) A) (by decide) (Nat.le_of_ble_eq_true rfl) fun p e s m below meth c ls A C hl hP hK hD hA hS => ?_
  obtain ⟨hx, hb, hml, hown, hT, hr, hlk⟩ := id C
  have hl : lv_has ls 1 [(0, .ref (a_m 0))] := hl
  refine lv_aload_n hx hb dX8_isPlanar_0 rfl (lv_at hl 0 rfl) ?_
  refine lv_aload_n hx hb dX8_isPlanar_1 rfl (lv_at hl 0 rfl) ?_
  obtain ⟨r_1, hcr_1, hf⟩ := bd1_s hf
  refine backWi (w2 := (wX8 cA a_m m_s m_past m_pasts m_text m_typed m_faceOfSide m_firstSide m_faces m_before r_1.2.1 r_1.2.2 m_from m_queue m_ring m_ringSize m_ringNodes m_rings m_path m_pathSize m_old m_lastRing m_bestNodes m_bestInside m_bestFits m_far m_xs m_ys)) (runVw C (c_X8_allEdges l D cA a_m m_s m_past m_pasts m_text m_typed m_faceOfSide m_firstSide m_faces m_before m_endA m_endB m_from m_queue m_ring m_ringSize m_ringNodes m_rings m_path m_pathSize m_old m_lastRing m_bestNodes m_bestInside m_bestFits m_far m_xs m_ys _ N r_1 hcr_1) cf_X8_allEdges km_X8_243 ⟨rfl, rfl, by decide, by decide⟩ ⟨Nat.zero_le _, Nat.zero_le _⟩ (va_recv hK.1 hP (ci := 8) (q0 := 0) rfl rfl) (hP.sub [0, 1, 2, 3, 4, 5, 6, 7, 8, 9, 10, 11, 12, 13, 14, 15, 16, 17, 18] rfl) (hD.sub [0, 1, 2, 3, 4, 5, 6, 7, 8, 9, 10, 11, 12, 13, 14, 15, 16, 17, 18] rfl rfl) hK hl.1 rfl rfl (Nat.le_of_ble_eq_true rfl) dX8_isPlanar_2) hP hD hS hA [0, 1, 2, 3, 4, 5, 6, 7, 8, 9, 10, 11, 12, 13, 14, 15, 16, 17, 18] rfl [] rfl rfl (by decide) [0, 1, 2, 3, 4, 5, 6, 7, 8, 9, 10, 11, 12, 13, 14, 15, 16, 17, 18] rfl rfl (fun H locs hP hD hS => ?_)
  obtain ⟨r_2, hcr_2, hf⟩ := bd1_s hf
  refine backWi (w2 := (wX8 cA a_m m_s m_past m_pasts m_text m_typed m_faceOfSide m_firstSide m_faces m_before r_1.2.1 r_1.2.2 r_2.2.1 r_2.2.2.1 r_2.2.2.2.1 r_2.2.2.2.2.1 r_2.2.2.2.2.2.1 r_2.2.2.2.2.2.2.1 r_2.2.2.2.2.2.2.2.1 r_2.2.2.2.2.2.2.2.2.1 r_2.2.2.2.2.2.2.2.2.2.1 r_2.2.2.2.2.2.2.2.2.2.2.1 r_2.2.2.2.2.2.2.2.2.2.2.2.1 r_2.2.2.2.2.2.2.2.2.2.2.2.2.1 r_2.2.2.2.2.2.2.2.2.2.2.2.2.2 m_far m_xs m_ys)) (runVw C (c_X8_planar l D cA a_m m_s m_past m_pasts m_text m_typed m_faceOfSide m_firstSide m_faces m_before r_1.2.1 r_1.2.2 m_from m_queue m_ring m_ringSize m_ringNodes m_rings m_path m_pathSize m_old m_lastRing m_bestNodes m_bestInside m_bestFits m_far m_xs m_ys r_1.1 _ N r_2 hcr_2) cf_X8_planar km_X8_246 ⟨rfl, rfl, by decide, by decide⟩ ⟨Nat.zero_le _, Nat.zero_le _⟩ (va_recv hK.1 hP (ci := 8) (q0 := 0) rfl rfl) (hP.sub [0, 1, 2, 3, 4, 5, 6, 7, 8, 9, 10, 11, 12, 13, 14, 15, 16, 17, 18] rfl) (hD.sub [0, 1, 2, 3, 4, 5, 6, 7, 8, 9, 10, 11, 12, 13, 14, 15, 16, 17, 18] rfl rfl) hK hl.1 rfl rfl (Nat.le_of_ble_eq_true rfl) dX8_isPlanar_5) hP hD hS hA [0, 1, 2, 3, 4, 5, 6, 7, 8, 9, 10, 11, 12, 13, 14, 15, 16, 17, 18] rfl [] rfl rfl (by decide) [0, 1, 2, 3, 4, 5, 6, 7, 8, 9, 10, 11, 12, 13, 14, 15, 16, 17, 18] rfl rfl (fun H locs hP hD hS => ?_)
  refine lv_if_eq (tgt := 15) hx hb dX8_isPlanar_8 (by decide) (fun c_3 => ?_) (fun c_3 => ?_)
  · have hf := ite_t c_3 hf
    refine lv_iconst (v := 0) hx hb dX8_isPlanar_15 (by decide) ?_
    have eR := some_i hf
    exact W.iret hx hb hr (fun t ht hW => ⟨⟨0, (), rfl, fst_e eR, by rw [← eR, ht]; exact hP, by rw [← eR]; exact hD⟩, hS.F ht⟩) hS.2.2 dX8_isPlanar_16 (hlocks := hlk)
  · have hf := ite_f c_3 hf
    refine lv_iconst (v := 1) hx hb dX8_isPlanar_11 (by decide) ?_
    refine lv_goto (tgt := 16) hx hb dX8_isPlanar_12 (by decide) ?_
    have eR := some_i hf
    exact W.iret hx hb hr (fun t ht hW => ⟨⟨1, (), rfl, fst_e eR, by rw [← eR, ht]; exact hP, by rw [← eR]; exact hD⟩, hS.F ht⟩) hS.2.2 dX8_isPlanar_16 (hlocks := hlk)
set_option maxRecDepth 100000 in
set_option maxHeartbeats 4000000 in
theorem c_X8_may (l : Launch) (D : va_G) (cA : Nat → ClassId) (a_m : Nat → Nat) (m_s : Nat → Int32) (m_past : Nat → Int32) (m_pasts : Int32) (m_text : Nat → Int32) (m_typed : Int32) (m_faceOfSide : Nat → Int32) (m_firstSide : Nat → Int32) (m_faces : Int32) (m_before : Nat → Int32) (m_endA : Nat → Int32) (m_endB : Nat → Int32) (m_from : Nat → Int32) (m_queue : Nat → Int32) (m_ring : Nat → Int32) (m_ringSize : Nat → Int32) (m_ringNodes : Nat → Int32) (m_rings : Int32) (m_path : Nat → Int32) (m_pathSize : Int32) (m_old : Nat → Int32) (m_lastRing : Int32) (m_bestNodes : Int32) (m_bestInside : Int32) (m_bestFits : Int32) (m_far : Nat → Int32) (m_xs : Nat → UInt32) (m_ys : Nat → UInt32) (p1 : Int32) (p2 : Int32) (p3 : Int32) (N : Nat) (ρ : Int32) (hf : f_X8_may N m_s p1 p2 p3 = some ρ) : Met l yX8_may (Cond.code yX8_may cX8_may 5 (Option.some Jvm.ClassFile.FieldType.boolean) :: lw_g) ({ frames := 4, cells := 0, slots := 0, locals := 89 } : Room) (PcS D (tyA cA) (wX8 cA a_m m_s m_past m_pasts m_text m_typed m_faceOfSide m_firstSide m_faces m_before m_endA m_endB m_from m_queue m_ring m_ringSize m_ringNodes m_rings m_path m_pathSize m_old m_lastRing m_bestNodes m_bestInside m_bestFits m_far m_xs m_ys) [.ref (a_m 0), .int p1, .int p2, .int p3]) (vp_Si (fun r => r = ρ)) 0 0 (fun _ => False) := by
  refine mkS (by decide +kernel) (Nat.le_of_ble_eq_true rfl) fun p e s m below meth c ls C hl hP hK => ?_
  obtain ⟨hx, hb, hml, hown, hT, hr, hlk⟩ := id C
  have hl : lv_has ls 5 [(0, .ref (a_m 0)), (1, .int p1), (2, .int p2), (3, .int p3)] := hl
  refine lv_iload_n hx hb dX8_may_0 rfl (lv_at hl 2 rfl) ?_
  refine lv_bipush (v := 48) hx hb dX8_may_1 (by decide) ?_
  refine lv_isub hx hb dX8_may_3 ?_
  refine lv_topi (fun x4_1 ex4_1 => ?_)
  have hf := nm_t ex4_1 hf
  refine lv_istore (lv' := [(4, .int x4_1), (0, .ref (a_m 0)), (1, .int p1), (2, .int p2), (3, .int p3)]) hx hb dX8_may_4 hl (by decide) rfl (fun ls hl => ?_)
  refine lv_iload_n hx hb dX8_may_6 rfl (lv_at hl 2 rfl) ?_
  by_cases c_2 : p1 = 0
  · have hf := ite_t c_2 hf
    refine lv_tableIn (off := 29) (tgt := 36) hx hb dX8_may_7 (by rw [c_2]; decide) (by rw [c_2]; decide) (by rw [c_2]; rfl) (by decide) ?_
    refine lv_iload hx hb dX8_may_36 (lv_at hl 0 rfl) ?_
    refine lv_iconst (v := 2) hx hb dX8_may_38 (by decide) ?_
    refine lv_bipush (v := 9) hx hb dX8_may_39 (by decide) ?_
    obtain ⟨r_3, hcr_3, hf⟩ := bd1_s hf
    refine backI (runS0 C (c_X8_in l D cA x4_1 2 9 N r_3 hcr_3) cf_X8_in km_X8_70 ⟨rfl, rfl, by decide, by decide⟩ ⟨Nat.zero_le _, Nat.zero_le _⟩ (hP.sub [] rfl) hK hl.1 rfl rfl (Nat.le_of_ble_eq_true rfl) dX8_may_41) ?_
    obtain ⟨h_4, hf⟩ := chk_s hf
    exact W.zret hx hb hr (isB_n h_4) (fun t ht hW => ⟨_, rfl, some_i hf, ht⟩) (fun _ h => by cases h) dX8_may_44 (hlocks := hlk)
  · have hf := ite_f c_2 hf
    by_cases c_5 : p1 = 1
    · have hf := ite_t c_5 hf
      refine lv_tableIn (off := 38) (tgt := 45) hx hb dX8_may_7 (by rw [c_5]; decide) (by rw [c_5]; decide) (by rw [c_5]; rfl) (by decide) ?_
      refine lv_iload_n hx hb dX8_may_45 rfl (lv_at hl 3 rfl) ?_
      refine lv_bipush (v := 58) hx hb dX8_may_46 (by decide) ?_
      refine lv_icmp_ne (tgt := 55) hx hb dX8_may_48 (by decide) (fun c_6 => ?_) (fun c_6 => ?_)
      · have hf := ite_t c_6 hf
        refine lv_iconst (v := 0) hx hb dX8_may_55 (by decide) ?_
        exact W.zret hx hb hr (by decide) (fun t ht hW => ⟨_, rfl, some_i hf, ht⟩) (fun _ h => by cases h) dX8_may_56 (hlocks := hlk)
      · have hf := ite_fn c_6 hf
        refine lv_iconst (v := 1) hx hb dX8_may_51 (by decide) ?_
        refine lv_goto (tgt := 56) hx hb dX8_may_52 (by decide) ?_
        exact W.zret hx hb hr (by decide) (fun t ht hW => ⟨_, rfl, some_i hf, ht⟩) (fun _ h => by cases h) dX8_may_56 (hlocks := hlk)
    · have hf := ite_f c_5 hf
      by_cases c_7 : p1 = 2
      · have hf := ite_t c_7 hf
        refine lv_tableIn (off := 50) (tgt := 57) hx hb dX8_may_7 (by rw [c_7]; decide) (by rw [c_7]; decide) (by rw [c_7]; rfl) (by decide) ?_
        refine lv_aload_n hx hb dX8_may_57 rfl (lv_at hl 1 rfl) ?_
        refine lv_iload hx hb dX8_may_58 (lv_at hl 0 rfl) ?_
        obtain ⟨r_8, hcr_8, hf⟩ := bd1_s hf
        refine backI (runV0 C (c_X8_isNode l D cA a_m m_s m_past m_pasts m_text m_typed m_faceOfSide m_firstSide m_faces m_before m_endA m_endB m_from m_queue m_ring m_ringSize m_ringNodes m_rings m_path m_pathSize m_old m_lastRing m_bestNodes m_bestInside m_bestFits m_far m_xs m_ys x4_1 N r_8 hcr_8) cf_X8_isNode km_X8_97 ⟨rfl, rfl, by decide, by decide⟩ ⟨Nat.zero_le _, Nat.zero_le _⟩ (va_recv hK.1 hP (ci := 8) (q0 := 0) rfl rfl) (hP.sub [0, 1, 2, 3, 4, 5, 6, 7, 8, 9, 10, 11, 12, 13, 14, 15, 16, 17, 18] rfl) hK hl.1 rfl rfl (Nat.le_of_ble_eq_true rfl) dX8_may_60) ?_
        refine lv_if_eq (tgt := 81) hx hb dX8_may_63 (by decide) (fun c_9 => ?_) (fun c_9 => ?_)
        · have hf := ite_t c_9 hf
          refine lv_iconst (v := 0) hx hb dX8_may_81 (by decide) ?_
          exact W.zret hx hb hr (by decide) (fun t ht hW => ⟨_, rfl, some_i hf, ht⟩) (fun _ h => by cases h) dX8_may_82 (hlocks := hlk)
        · have hf := ite_f c_9 hf
          refine lv_aload_n hx hb dX8_may_66 rfl (lv_at hl 1 rfl) ?_
          refine va_get (D := D) (ci := 8) (C := RX8) (T := TX8) (N := 27) hx hb hT kwX8 hown hK.1 hP 0 rfl rfl 0 (by decide) (hT _ kf_X8_7) (fun _ h9 => h9) rfl dX8_may_67 ?_
          refine lv_iconst (v := 1) hx hb dX8_may_70 (by decide) ?_
          obtain ⟨h_10, hf⟩ := chk_s hf
          refine va_iald hx hb hK.1 hP 1 0 rfl rfl (inb_in h_10) dX8_may_71 ?_
          refine lv_bipush (v := 20) hx hb dX8_may_72 (by decide) ?_
          refine lv_icmp_ge (tgt := 81) hx hb dX8_may_74 (by decide) (fun c_11 => ?_) (fun c_11 => ?_)
          · have hf := ite_t c_11 hf
            refine lv_iconst (v := 0) hx hb dX8_may_81 (by decide) ?_
            exact W.zret hx hb hr (by decide) (fun t ht hW => ⟨_, rfl, some_i hf, ht⟩) (fun _ h => by cases h) dX8_may_82 (hlocks := hlk)
          · have hf := ite_f c_11 hf
            refine lv_iconst (v := 1) hx hb dX8_may_77 (by decide) ?_
            refine lv_goto (tgt := 82) hx hb dX8_may_78 (by decide) ?_
            exact W.zret hx hb hr (by decide) (fun t ht hW => ⟨_, rfl, some_i hf, ht⟩) (fun _ h => by cases h) dX8_may_82 (hlocks := hlk)
      · have hf := ite_f c_7 hf
        by_cases c_12 : p1 = 3
        · have hf := ite_t c_12 hf
          refine lv_tableIn (off := 76) (tgt := 83) hx hb dX8_may_7 (by rw [c_12]; decide) (by rw [c_12]; decide) (by rw [c_12]; rfl) (by decide) ?_
          refine lv_aload_n hx hb dX8_may_83 rfl (lv_at hl 1 rfl) ?_
          refine lv_iload hx hb dX8_may_84 (lv_at hl 0 rfl) ?_
          obtain ⟨r_13, hcr_13, hf⟩ := bd1_s hf
          refine backI (runV0 C (c_X8_isNode l D cA a_m m_s m_past m_pasts m_text m_typed m_faceOfSide m_firstSide m_faces m_before m_endA m_endB m_from m_queue m_ring m_ringSize m_ringNodes m_rings m_path m_pathSize m_old m_lastRing m_bestNodes m_bestInside m_bestFits m_far m_xs m_ys x4_1 N r_13 hcr_13) cf_X8_isNode km_X8_97 ⟨rfl, rfl, by decide, by decide⟩ ⟨Nat.zero_le _, Nat.zero_le _⟩ (va_recv hK.1 hP (ci := 8) (q0 := 0) rfl rfl) (hP.sub [0, 1, 2, 3, 4, 5, 6, 7, 8, 9, 10, 11, 12, 13, 14, 15, 16, 17, 18] rfl) hK hl.1 rfl rfl (Nat.le_of_ble_eq_true rfl) dX8_may_86) ?_
          refine lv_if_eq (tgt := 114) hx hb dX8_may_89 (by decide) (fun c_14 => ?_) (fun c_14 => ?_)
          · have hf := ite_t c_14 hf
            refine lv_iconst (v := 0) hx hb dX8_may_114 (by decide) ?_
            exact W.zret hx hb hr (by decide) (fun t ht hW => ⟨_, rfl, some_i hf, ht⟩) (fun _ h => by cases h) dX8_may_115 (hlocks := hlk)
          · have hf := ite_f c_14 hf
            refine lv_iload hx hb dX8_may_92 (lv_at hl 0 rfl) ?_
            refine lv_iload_n hx hb dX8_may_94 rfl (lv_at hl 4 rfl) ?_
            refine lv_icmp_eq (tgt := 114) hx hb dX8_may_95 (by decide) (fun c_15 => ?_) (fun c_15 => ?_)
            · have hf := ite_t c_15 hf
              refine lv_iconst (v := 0) hx hb dX8_may_114 (by decide) ?_
              exact W.zret hx hb hr (by decide) (fun t ht hW => ⟨_, rfl, some_i hf, ht⟩) (fun _ h => by cases h) dX8_may_115 (hlocks := hlk)
            · have hf := ite_f c_15 hf
              refine lv_aload_n hx hb dX8_may_98 rfl (lv_at hl 1 rfl) ?_
              refine lv_iload_n hx hb dX8_may_99 rfl (lv_at hl 4 rfl) ?_
              refine lv_iload hx hb dX8_may_100 (lv_at hl 0 rfl) ?_
              obtain ⟨r_16, hcr_16, hf⟩ := bd1_s hf
              refine backI (runV0 C (c_X8_between l D cA a_m m_s m_past m_pasts m_text m_typed m_faceOfSide m_firstSide m_faces m_before m_endA m_endB m_from m_queue m_ring m_ringSize m_ringNodes m_rings m_path m_pathSize m_old m_lastRing m_bestNodes m_bestInside m_bestFits m_far m_xs m_ys p3 x4_1 N r_16 hcr_16) cf_X8_between km_X8_103 ⟨rfl, rfl, by decide, by decide⟩ ⟨Nat.zero_le _, Nat.zero_le _⟩ (va_recv hK.1 hP (ci := 8) (q0 := 0) rfl rfl) (hP.sub [0, 1, 2, 3, 4, 5, 6, 7, 8, 9, 10, 11, 12, 13, 14, 15, 16, 17, 18] rfl) hK hl.1 rfl rfl (Nat.le_of_ble_eq_true rfl) dX8_may_102) ?_
              refine lv_bipush (v := (-9)) hx hb dX8_may_105 (by decide) ?_
              refine lv_icmp_ne (tgt := 114) hx hb dX8_may_107 (by decide) (fun c_17 => ?_) (fun c_17 => ?_)
              · have hf := ite_t c_17 hf
                refine lv_iconst (v := 0) hx hb dX8_may_114 (by decide) ?_
                exact W.zret hx hb hr (by decide) (fun t ht hW => ⟨_, rfl, some_i hf, ht⟩) (fun _ h => by cases h) dX8_may_115 (hlocks := hlk)
              · have hf := ite_fn c_17 hf
                refine lv_iconst (v := 1) hx hb dX8_may_110 (by decide) ?_
                refine lv_goto (tgt := 115) hx hb dX8_may_111 (by decide) ?_
                exact W.zret hx hb hr (by decide) (fun t ht hW => ⟨_, rfl, some_i hf, ht⟩) (fun _ h => by cases h) dX8_may_115 (hlocks := hlk)
        · have hf := ite_f c_12 hf
          refine lv_tableOut (tgt := 116) hx hb dX8_may_7 (tbl_out4 c_2 c_5 c_7 c_12) (by decide) ?_
          refine lv_iload_n hx hb dX8_may_116 rfl (lv_at hl 3 rfl) ?_
          refine lv_bipush (v := 59) hx hb dX8_may_117 (by decide) ?_
          refine lv_icmp_ne (tgt := 126) hx hb dX8_may_119 (by decide) (fun c_18 => ?_) (fun c_18 => ?_)
          · have hf := ite_t c_18 hf
            refine lv_iconst (v := 0) hx hb dX8_may_126 (by decide) ?_
            exact W.zret hx hb hr (by decide) (fun t ht hW => ⟨_, rfl, some_i hf, ht⟩) (fun _ h => by cases h) dX8_may_127 (hlocks := hlk)
          · have hf := ite_fn c_18 hf
            refine lv_iconst (v := 1) hx hb dX8_may_122 (by decide) ?_
            refine lv_goto (tgt := 127) hx hb dX8_may_123 (by decide) ?_
            exact W.zret hx hb hr (by decide) (fun t ht hW => ⟨_, rfl, some_i hf, ht⟩) (fun _ h => by cases h) dX8_may_127 (hlocks := hlk)
set_option maxRecDepth 100000 in
set_option maxHeartbeats 4000000 in
theorem c_X8_load (l : Launch) (D : va_G) (cA : Nat → ClassId) (a_m : Nat → Nat) (m_s : Nat → Int32) (m_past : Nat → Int32) (m_pasts : Int32) (m_text : Nat → Int32) (m_typed : Int32) (m_faceOfSide : Nat → Int32) (m_firstSide : Nat → Int32) (m_faces : Int32) (m_before : Nat → Int32) (m_endA : Nat → Int32) (m_endB : Nat → Int32) (m_from : Nat → Int32) (m_queue : Nat → Int32) (m_ring : Nat → Int32) (m_ringSize : Nat → Int32) (m_ringNodes : Nat → Int32) (m_rings : Int32) (m_path : Nat → Int32) (m_pathSize : Int32) (m_old : Nat → Int32) (m_lastRing : Int32) (m_bestNodes : Int32) (m_bestInside : Int32) (m_bestFits : Int32) (m_far : Nat → Int32) (m_xs : Nat → UInt32) (m_ys : Nat → UInt32) (sz N : Nat) (ρ : Int32 × (Nat → Int32) × (Nat → Int32) × Int32 × Int32 × (Nat → Int32)) (hf : f_X8_load N m_s m_past m_pasts m_text m_typed m_before = some ρ) : Met l yX8_load (Cond.code yX8_load cX8_load 8 (Option.some Jvm.ClassFile.FieldType.int) :: lw_g) ({ frames := 5, cells := 0, slots := 0, locals := 113 } : Room) (PcW D (tyA cA) (wX8 cA a_m m_s m_past m_pasts m_text m_typed m_faceOfSide m_firstSide m_faces m_before m_endA m_endB m_from m_queue m_ring m_ringSize m_ringNodes m_rings m_path m_pathSize m_old m_lastRing m_bestNodes m_bestInside m_bestFits m_far m_xs m_ys) sz [.ref (a_m 0)]) (va_Qi (fun r (_ : Unit) => r = ρ.1) (fun _ t => va_P D vwCl (wX8 cA a_m ρ.2.1 ρ.2.2.1 ρ.2.2.2.1 m_text ρ.2.2.2.2.1 m_faceOfSide m_firstSide m_faces ρ.2.2.2.2.2 m_endA m_endB m_from m_queue m_ring m_ringSize m_ringNodes m_rings m_path m_pathSize m_old m_lastRing m_bestNodes m_bestInside m_bestFits m_far m_xs m_ys) t.heap ∧ va_D (va_A (wX8 cA a_m m_s m_past m_pasts m_text m_typed m_faceOfSide m_firstSide m_faces m_before m_endA m_endB m_from m_queue m_ring m_ringSize m_ringNodes m_rings m_path m_pathSize m_old m_lastRing m_bestNodes m_bestInside m_bestFits m_far m_xs m_ys) sz) (wX8 cA a_m ρ.2.1 ρ.2.2.1 ρ.2.2.2.1 m_text ρ.2.2.2.2.1 m_faceOfSide m_firstSide m_faces ρ.2.2.2.2.2 m_endA m_endB m_from m_queue m_ring m_ringSize m_ringNodes m_rings m_path m_pathSize m_old m_lastRing m_bestNodes m_bestInside m_bestFits m_far m_xs m_ys)) (va_A (wX8 cA a_m m_s m_past m_pasts m_text m_typed m_faceOfSide m_firstSide m_faces m_before m_endA m_endB m_from m_queue m_ring m_ringSize m_ringNodes m_rings m_path m_pathSize m_old m_lastRing m_bestNodes m_bestInside m_bestFits m_far m_xs m_ys) sz)) 0 0 (va_A (wX8 cA a_m m_s m_past m_pasts m_text m_typed m_faceOfSide m_firstSide m_faces m_before m_endA m_endB m_from m_queue m_ring m_ringSize m_ringNodes m_rings m_path m_pathSize m_old m_lastRing m_bestNodes m_bestInside m_bestFits m_far m_xs m_ys) sz) := by
  refine mkW (QQ := fun A => va_Qi (fun r (_ : Unit) => r = ρ.1) (fun _ t => va_P D vwCl (wX8 cA a_m ρ.2.1 ρ.2.2.1 ρ.2.2.2.1 m_text ρ.2.2.2.2.1 m_faceOfSide m_firstSide m_faces ρ.2.2.2.2.2 m_endA m_endB m_from m_queue m_ring m_ringSize m_ringNodes m_rings m_path m_pathSize m_old m_lastRing m_bestNodes m_bestInside m_bestFits m_far m_xs m_ys) t.heap ∧ va_D A (wX8 cA a_m ρ.2.1 ρ.2.2.1 ρ.2.2.2.1 m_text ρ.2.2.2.2.1 m_faceOfSide m_firstSide m_faces ρ.2.2.2.2.2 m_endA m_endB m_from m_queue m_ring m_ringSize m_ringNodes m_rings m_path m_pathSize m_old m_lastRing m_bestNodes m_bestInside m_bestFits m_far m_xs m_ys)) A) (by decide) (Nat.le_of_ble_eq_true rfl) fun p e s m below meth c ls A C hl hP hK hD hA hS => ?_
  obtain ⟨hx, hb, hml, hown, hT, hr, hlk⟩ := id C
  have hl : lv_has ls 8 [(0, .ref (a_m 0))] := hl
  have B227 : ∀ (y0 : Int32) (m_s : Nat → Int32) (m_past : Nat → Int32) (m_pasts : Int32) (m_typed : Int32) (m_before : Nat → Int32) (H : Heap) (locs : List Loc) (ls : Array Slot), lv_has ls 8 [(0, .ref (a_m 0))] → va_P D vwCl (wX8 cA a_m m_s m_past m_pasts m_text m_typed m_faceOfSide m_firstSide m_faces m_before m_endA m_endB m_from m_queue m_ring m_ringSize m_ringNodes m_rings m_path m_pathSize m_old m_lastRing m_bestNodes m_bestInside m_bestFits m_far m_xs m_ys) H → va_D A (wX8 cA a_m m_s m_past m_pasts m_text m_typed m_faceOfSide m_firstSide m_faces m_before m_endA m_endB m_from m_queue m_ring m_ringSize m_ringNodes m_rings m_path m_pathSize m_old m_lastRing m_bestNodes m_bestInside m_bestFits m_far m_xs m_ys) → va_S A s.heap H locs → f_X8_load_b227 N m_text y0 m_s m_past m_pasts m_typed m_before = some ρ → W p l e ({ frames := 5, cells := 0, slots := 0, locals := 113 } : Room) s m ([.ref (a_m 0)] : List Value).toArray below meth c H locs 0 0 (MQ below (va_Qi (fun r (_ : Unit) => r = ρ.1) (fun _ t => va_P D vwCl (wX8 cA a_m ρ.2.1 ρ.2.2.1 ρ.2.2.2.1 m_text ρ.2.2.2.2.1 m_faceOfSide m_firstSide m_faces ρ.2.2.2.2.2 m_endA m_endB m_from m_queue m_ring m_ringSize m_ringNodes m_rings m_path m_pathSize m_old m_lastRing m_bestNodes m_bestInside m_bestFits m_far m_xs m_ys) t.heap ∧ va_D A (wX8 cA a_m ρ.2.1 ρ.2.2.1 ρ.2.2.2.1 m_text ρ.2.2.2.2.1 m_faceOfSide m_firstSide m_faces ρ.2.2.2.2.2 m_endA m_endB m_from m_queue m_ring m_ringSize m_ringNodes m_rings m_path m_pathSize m_old m_lastRing m_bestNodes m_bestInside m_bestFits m_far m_xs m_ys)) A) ([.ref (a_m 0)] : List Value).toArray s 0 0 A) (F0 m 227 ls [.int y0]) := by
    intro y0 m_s m_past m_pasts m_typed m_before H locs ls hl hP hD hS hf
    refine lv_istore_n (lv' := [(3, .int y0), (0, .ref (a_m 0))]) hx hb dX8_load_227 rfl hl (by decide) rfl (fun ls hl => ?_)
    refine lv_aload_n hx hb dX8_load_228 rfl (lv_at hl 1 rfl) ?_
    obtain ⟨r_27, hcr_27, hf⟩ := bd1_s hf
    refine backWv (w2 := (wX8 cA a_m r_27.1 m_past m_pasts m_text m_typed m_faceOfSide m_firstSide m_faces r_27.2 m_endA m_endB m_from m_queue m_ring m_ringSize m_ringNodes m_rings m_path m_pathSize m_old m_lastRing m_bestNodes m_bestInside m_bestFits m_far m_xs m_ys)) (runVw C (c_X8_exchanges l D cA a_m m_s m_past m_pasts m_text m_typed m_faceOfSide m_firstSide m_faces m_before m_endA m_endB m_from m_queue m_ring m_ringSize m_ringNodes m_rings m_path m_pathSize m_old m_lastRing m_bestNodes m_bestInside m_bestFits m_far m_xs m_ys _ N r_27 hcr_27) cf_X8_exchanges km_X8_163 ⟨rfl, rfl, by decide, by decide⟩ ⟨Nat.zero_le _, Nat.zero_le _⟩ (va_recv hK.1 hP (ci := 8) (q0 := 0) rfl rfl) (hP.sub [0, 1, 2, 3, 4, 5, 6, 7, 8, 9, 10, 11, 12, 13, 14, 15, 16, 17, 18] rfl) (hD.sub [0, 1, 2, 3, 4, 5, 6, 7, 8, 9, 10, 11, 12, 13, 14, 15, 16, 17, 18] rfl rfl) hK hl.1 rfl rfl (Nat.le_of_ble_eq_true rfl) dX8_load_229) hP hD hS hA [0, 1, 2, 3, 4, 5, 6, 7, 8, 9, 10, 11, 12, 13, 14, 15, 16, 17, 18] rfl [] rfl rfl (by decide) [0, 1, 2, 3, 4, 5, 6, 7, 8, 9, 10, 11, 12, 13, 14, 15, 16, 17, 18] rfl rfl (fun H locs hP hD hS => ?_)
    refine lv_iload_n hx hb dX8_load_232 rfl (lv_at hl 0 rfl) ?_
    refine lv_bipush (v := (-9)) hx hb dX8_load_233 (by decide) ?_
    refine lv_icmp_eq (tgt := 243) hx hb dX8_load_235 (by decide) (fun c_28 => ?_) (fun c_28 => ?_)
    · have hf := ite_t c_28 hf
      refine lv_aload_n hx hb dX8_load_243 rfl (lv_at hl 1 rfl) ?_
      obtain ⟨r_29, hcr_29, hf⟩ := bd1_s hf
      refine backWv (w2 := (wX8 cA a_m r_27.1 r_29.1 r_29.2 m_text m_typed m_faceOfSide m_firstSide m_faces r_27.2 m_endA m_endB m_from m_queue m_ring m_ringSize m_ringNodes m_rings m_path m_pathSize m_old m_lastRing m_bestNodes m_bestInside m_bestFits m_far m_xs m_ys)) (runVw C (c_X8_notes l D cA a_m r_27.1 m_past m_pasts m_text m_typed m_faceOfSide m_firstSide m_faces r_27.2 m_endA m_endB m_from m_queue m_ring m_ringSize m_ringNodes m_rings m_path m_pathSize m_old m_lastRing m_bestNodes m_bestInside m_bestFits m_far m_xs m_ys _ N r_29 hcr_29) cf_X8_notes km_X8_90 ⟨rfl, rfl, by decide, by decide⟩ ⟨Nat.zero_le _, Nat.zero_le _⟩ (va_recv hK.1 hP (ci := 8) (q0 := 0) rfl rfl) (hP.sub [0, 1, 2, 3, 4, 5, 6, 7, 8, 9, 10, 11, 12, 13, 14, 15, 16, 17, 18] rfl) (hD.sub [0, 1, 2, 3, 4, 5, 6, 7, 8, 9, 10, 11, 12, 13, 14, 15, 16, 17, 18] rfl rfl) hK hl.1 rfl rfl (Nat.le_of_ble_eq_true rfl) dX8_load_244) hP hD hS hA [0, 1, 2, 3, 4, 5, 6, 7, 8, 9, 10, 11, 12, 13, 14, 15, 16, 17, 18] rfl [] rfl rfl (by decide) [0, 1, 2, 3, 4, 5, 6, 7, 8, 9, 10, 11, 12, 13, 14, 15, 16, 17, 18] rfl rfl (fun H locs hP hD hS => ?_)
      refine lv_aload_n hx hb dX8_load_247 rfl (lv_at hl 1 rfl) ?_
      obtain ⟨r_30, hcr_30, hf⟩ := bd1_s hf
      refine backWv (w2 := (wX8 cA a_m r_30.1 r_29.1 r_29.2 m_text m_typed m_faceOfSide m_firstSide m_faces r_30.2 m_endA m_endB m_from m_queue m_ring m_ringSize m_ringNodes m_rings m_path m_pathSize m_old m_lastRing m_bestNodes m_bestInside m_bestFits m_far m_xs m_ys)) (runVw C (c_X8_exchanges l D cA a_m r_27.1 r_29.1 r_29.2 m_text m_typed m_faceOfSide m_firstSide m_faces r_27.2 m_endA m_endB m_from m_queue m_ring m_ringSize m_ringNodes m_rings m_path m_pathSize m_old m_lastRing m_bestNodes m_bestInside m_bestFits m_far m_xs m_ys _ N r_30 hcr_30) cf_X8_exchanges km_X8_163 ⟨rfl, rfl, by decide, by decide⟩ ⟨Nat.zero_le _, Nat.zero_le _⟩ (va_recv hK.1 hP (ci := 8) (q0 := 0) rfl rfl) (hP.sub [0, 1, 2, 3, 4, 5, 6, 7, 8, 9, 10, 11, 12, 13, 14, 15, 16, 17, 18] rfl) (hD.sub [0, 1, 2, 3, 4, 5, 6, 7, 8, 9, 10, 11, 12, 13, 14, 15, 16, 17, 18] rfl rfl) hK hl.1 rfl rfl (Nat.le_of_ble_eq_true rfl) dX8_load_248) hP hD hS hA [0, 1, 2, 3, 4, 5, 6, 7, 8, 9, 10, 11, 12, 13, 14, 15, 16, 17, 18] rfl [] rfl rfl (by decide) [0, 1, 2, 3, 4, 5, 6, 7, 8, 9, 10, 11, 12, 13, 14, 15, 16, 17, 18] rfl rfl (fun H locs hP hD hS => ?_)
      refine lv_aload_n hx hb dX8_load_251 rfl (lv_at hl 1 rfl) ?_
      refine lv_iconst (v := 0) hx hb dX8_load_252 (by decide) ?_
      refine va_put (D := D) (ci := 8) (v := .int 0) (ty := .int) (C := RX8) (T := TX8) (N := 27) hx hb hT kwX8 tyX8 tyX8_ok nmX8 hown hK.1 hP hD hS 0 rfl rfl 4 (by decide) (hT _ kf_X8_149) (fun _ h9 => h9) rfl (by decide +kernel) rfl rfl (Nat.le_of_ble_eq_true rfl) dX8_load_253 (fun H locs hP hD hS => ?_)
      have hP : va_P D vwCl (wX8 cA a_m r_30.1 r_29.1 r_29.2 m_text 0 m_faceOfSide m_firstSide m_faces r_30.2 m_endA m_endB m_from m_queue m_ring m_ringSize m_ringNodes m_rings m_path m_pathSize m_old m_lastRing m_bestNodes m_bestInside m_bestFits m_far m_xs m_ys) H := hP
      have hD : va_D A (wX8 cA a_m r_30.1 r_29.1 r_29.2 m_text 0 m_faceOfSide m_firstSide m_faces r_30.2 m_endA m_endB m_from m_queue m_ring m_ringSize m_ringNodes m_rings m_path m_pathSize m_old m_lastRing m_bestNodes m_bestInside m_bestFits m_far m_xs m_ys) := hD
      refine lv_aload_n hx hb dX8_load_256 rfl (lv_at hl 1 rfl) ?_
      refine va_get (D := D) (ci := 8) (C := RX8) (T := TX8) (N := 27) hx hb hT kwX8 hown hK.1 hP 0 rfl rfl 0 (by decide) (hT _ kf_X8_7) (fun _ h9 => h9) rfl dX8_load_257 ?_
      refine lv_iconst (v := 1) hx hb dX8_load_260 (by decide) ?_
      obtain ⟨h_31, hf⟩ := chk_s hf
      refine va_iald hx hb hK.1 hP 1 0 rfl rfl (inb_in h_31) dX8_load_261 ?_
      have eR := some_i hf
      exact W.iret hx hb hr (fun t ht hW => ⟨⟨(r_30.1 (1 : Int32).toNatClampNeg), (), rfl, fst_e eR, by rw [← eR, ht]; exact hP, by rw [← eR]; exact hD⟩, hS.F ht⟩) hS.2.2 dX8_load_262 (hlocks := hlk)
    · have hf := ite_f c_28 hf
      refine lv_bipush (v := (-10)) hx hb dX8_load_238 (by decide) ?_
      refine lv_iload_n hx hb dX8_load_240 rfl (lv_at hl 0 rfl) ?_
      refine lv_isub hx hb dX8_load_241 ?_
      have eR := some_i hf
      exact W.iret hx hb hr (fun t ht hW => ⟨⟨((-10) - y0), (), rfl, fst_e eR, by rw [← eR, ht]; exact hP, by rw [← eR]; exact hD⟩, hS.F ht⟩) hS.2.2 dX8_load_242 (hlocks := hlk)
  have B226 : ∀ (x3 : Int32) (m_s : Nat → Int32) (m_past : Nat → Int32) (m_pasts : Int32) (m_typed : Int32) (m_before : Nat → Int32) (H : Heap) (locs : List Loc) (ls : Array Slot), lv_has ls 8 [(0, .ref (a_m 0)), (3, .int x3)] → va_P D vwCl (wX8 cA a_m m_s m_past m_pasts m_text m_typed m_faceOfSide m_firstSide m_faces m_before m_endA m_endB m_from m_queue m_ring m_ringSize m_ringNodes m_rings m_path m_pathSize m_old m_lastRing m_bestNodes m_bestInside m_bestFits m_far m_xs m_ys) H → va_D A (wX8 cA a_m m_s m_past m_pasts m_text m_typed m_faceOfSide m_firstSide m_faces m_before m_endA m_endB m_from m_queue m_ring m_ringSize m_ringNodes m_rings m_path m_pathSize m_old m_lastRing m_bestNodes m_bestInside m_bestFits m_far m_xs m_ys) → va_S A s.heap H locs → f_X8_load_b226 N m_text x3 m_s m_past m_pasts m_typed m_before = some ρ → W p l e ({ frames := 5, cells := 0, slots := 0, locals := 113 } : Room) s m ([.ref (a_m 0)] : List Value).toArray below meth c H locs 0 0 (MQ below (va_Qi (fun r (_ : Unit) => r = ρ.1) (fun _ t => va_P D vwCl (wX8 cA a_m ρ.2.1 ρ.2.2.1 ρ.2.2.2.1 m_text ρ.2.2.2.2.1 m_faceOfSide m_firstSide m_faces ρ.2.2.2.2.2 m_endA m_endB m_from m_queue m_ring m_ringSize m_ringNodes m_rings m_path m_pathSize m_old m_lastRing m_bestNodes m_bestInside m_bestFits m_far m_xs m_ys) t.heap ∧ va_D A (wX8 cA a_m ρ.2.1 ρ.2.2.1 ρ.2.2.2.1 m_text ρ.2.2.2.2.1 m_faceOfSide m_firstSide m_faces ρ.2.2.2.2.2 m_endA m_endB m_from m_queue m_ring m_ringSize m_ringNodes m_rings m_path m_pathSize m_old m_lastRing m_bestNodes m_bestInside m_bestFits m_far m_xs m_ys)) A) ([.ref (a_m 0)] : List Value).toArray s 0 0 A) (F0 m 226 ls []) := by
    intro x3 m_s m_past m_pasts m_typed m_before H locs ls hl hP hD hS hf
    refine lv_iload_n hx hb dX8_load_226 rfl (lv_at hl 1 rfl) ?_
    exact B227 x3 m_s m_past m_pasts m_typed m_before _ _ _ (lv_sub hl [0] rfl) hP hD hS hf
  have B208 : ∀ (x1 : Int32) (x3 : Int32) (m_s : Nat → Int32) (m_past : Nat → Int32) (m_pasts : Int32) (m_typed : Int32) (m_before : Nat → Int32) (H : Heap) (locs : List Loc) (ls : Array Slot), lv_has ls 8 [(0, .ref (a_m 0)), (1, .int x1), (3, .int x3)] → va_P D vwCl (wX8 cA a_m m_s m_past m_pasts m_text m_typed m_faceOfSide m_firstSide m_faces m_before m_endA m_endB m_from m_queue m_ring m_ringSize m_ringNodes m_rings m_path m_pathSize m_old m_lastRing m_bestNodes m_bestInside m_bestFits m_far m_xs m_ys) H → va_D A (wX8 cA a_m m_s m_past m_pasts m_text m_typed m_faceOfSide m_firstSide m_faces m_before m_endA m_endB m_from m_queue m_ring m_ringSize m_ringNodes m_rings m_path m_pathSize m_old m_lastRing m_bestNodes m_bestInside m_bestFits m_far m_xs m_ys) → va_S A s.heap H locs → f_X8_load_b208 N m_text x1 x3 m_s m_past m_pasts m_typed m_before = some ρ → W p l e ({ frames := 5, cells := 0, slots := 0, locals := 113 } : Room) s m ([.ref (a_m 0)] : List Value).toArray below meth c H locs 0 0 (MQ below (va_Qi (fun r (_ : Unit) => r = ρ.1) (fun _ t => va_P D vwCl (wX8 cA a_m ρ.2.1 ρ.2.2.1 ρ.2.2.2.1 m_text ρ.2.2.2.2.1 m_faceOfSide m_firstSide m_faces ρ.2.2.2.2.2 m_endA m_endB m_from m_queue m_ring m_ringSize m_ringNodes m_rings m_path m_pathSize m_old m_lastRing m_bestNodes m_bestInside m_bestFits m_far m_xs m_ys) t.heap ∧ va_D A (wX8 cA a_m ρ.2.1 ρ.2.2.1 ρ.2.2.2.1 m_text ρ.2.2.2.2.1 m_faceOfSide m_firstSide m_faces ρ.2.2.2.2.2 m_endA m_endB m_from m_queue m_ring m_ringSize m_ringNodes m_rings m_path m_pathSize m_old m_lastRing m_bestNodes m_bestInside m_bestFits m_far m_xs m_ys)) A) ([.ref (a_m 0)] : List Value).toArray s 0 0 A) (F0 m 208 ls []) := by
    intro x1 x3 m_s m_past m_pasts m_typed m_before H locs ls hl hP hD hS hf
    refine lv_iload_n hx hb dX8_load_208 rfl (lv_at hl 2 rfl) ?_
    refine lv_bipush (v := (-9)) hx hb dX8_load_209 (by decide) ?_
    refine lv_icmp_ne (tgt := 226) hx hb dX8_load_211 (by decide) (fun c_25 => ?_) (fun c_25 => ?_)
    · have hf := ite_t c_25 hf
      exact B226 x3 m_s m_past m_pasts m_typed m_before _ _ _ (lv_sub hl [0, 2] rfl) hP hD hS hf
    · have hf := ite_fn c_25 hf
      refine lv_iload_n hx hb dX8_load_214 rfl (lv_at hl 1 rfl) ?_
      refine lv_iconst (v := 2) hx hb dX8_load_215 (by decide) ?_
      refine lv_icmp_eq (tgt := 226) hx hb dX8_load_216 (by decide) (fun c_26 => ?_) (fun c_26 => ?_)
      · have hf := ite_t c_26 hf
        exact B226 x3 m_s m_past m_pasts m_typed m_before _ _ _ (lv_sub hl [0, 2] rfl) hP hD hS hf
      · have hf := ite_f c_26 hf
        refine lv_aload_n hx hb dX8_load_219 rfl (lv_at hl 0 rfl) ?_
        refine va_get (D := D) (ci := 8) (C := RX8) (T := TX8) (N := 27) hx hb hT kwX8 hown hK.1 hP 0 rfl rfl 4 (by decide) (hT _ kf_X8_149) (fun _ h9 => h9) rfl dX8_load_220 ?_
        refine lv_goto (tgt := 227) hx hb dX8_load_223 (by decide) ?_
        exact B227 m_typed m_s m_past m_pasts m_typed m_before _ _ _ (lv_sub hl [0] rfl) hP hD hS hf
  have B41 : ∀ (n41 : Nat), ∀ (x1 : Int32) (x2 : Int32) (x3 : Int32) (x4 : Int32) (m_s : Nat → Int32) (m_past : Nat → Int32) (m_pasts : Int32) (m_typed : Int32) (m_before : Nat → Int32) (H : Heap) (locs : List Loc) (ls : Array Slot), lv_has ls 8 [(0, .ref (a_m 0)), (1, .int x1), (2, .int x2), (3, .int x3), (4, .int x4)] → va_P D vwCl (wX8 cA a_m m_s m_past m_pasts m_text m_typed m_faceOfSide m_firstSide m_faces m_before m_endA m_endB m_from m_queue m_ring m_ringSize m_ringNodes m_rings m_path m_pathSize m_old m_lastRing m_bestNodes m_bestInside m_bestFits m_far m_xs m_ys) H → va_D A (wX8 cA a_m m_s m_past m_pasts m_text m_typed m_faceOfSide m_firstSide m_faces m_before m_endA m_endB m_from m_queue m_ring m_ringSize m_ringNodes m_rings m_path m_pathSize m_old m_lastRing m_bestNodes m_bestInside m_bestFits m_far m_xs m_ys) → va_S A s.heap H locs → f_X8_load_b41 N m_text n41 x1 x2 x3 x4 m_s m_past m_pasts m_typed m_before = some ρ → W p l e ({ frames := 5, cells := 0, slots := 0, locals := 113 } : Room) s m ([.ref (a_m 0)] : List Value).toArray below meth c H locs 0 0 (MQ below (va_Qi (fun r (_ : Unit) => r = ρ.1) (fun _ t => va_P D vwCl (wX8 cA a_m ρ.2.1 ρ.2.2.1 ρ.2.2.2.1 m_text ρ.2.2.2.2.1 m_faceOfSide m_firstSide m_faces ρ.2.2.2.2.2 m_endA m_endB m_from m_queue m_ring m_ringSize m_ringNodes m_rings m_path m_pathSize m_old m_lastRing m_bestNodes m_bestInside m_bestFits m_far m_xs m_ys) t.heap ∧ va_D A (wX8 cA a_m ρ.2.1 ρ.2.2.1 ρ.2.2.2.1 m_text ρ.2.2.2.2.1 m_faceOfSide m_firstSide m_faces ρ.2.2.2.2.2 m_endA m_endB m_from m_queue m_ring m_ringSize m_ringNodes m_rings m_path m_pathSize m_old m_lastRing m_bestNodes m_bestInside m_bestFits m_far m_xs m_ys)) A) ([.ref (a_m 0)] : List Value).toArray s 0 0 A) (F0 m 41 ls []) := by
    intro n41
    induction n41 with
    | zero =>
      intro x1 x2 x3 x4 m_s m_past m_pasts m_typed m_before H locs ls hl hP hD hS hf
      cases (show (none : Option (Int32 × (Nat → Int32) × (Nat → Int32) × Int32 × Int32 × (Nat → Int32))) = some ρ from hf)
    | succ n41 ih41 =>
      have B202 : ∀ (x1 : Int32) (x2 : Int32) (x3 : Int32) (x4 : Int32) (m_s : Nat → Int32) (m_past : Nat → Int32) (m_pasts : Int32) (m_typed : Int32) (m_before : Nat → Int32) (H : Heap) (locs : List Loc) (ls : Array Slot), lv_has ls 8 [(0, .ref (a_m 0)), (1, .int x1), (2, .int x2), (3, .int x3), (4, .int x4)] → va_P D vwCl (wX8 cA a_m m_s m_past m_pasts m_text m_typed m_faceOfSide m_firstSide m_faces m_before m_endA m_endB m_from m_queue m_ring m_ringSize m_ringNodes m_rings m_path m_pathSize m_old m_lastRing m_bestNodes m_bestInside m_bestFits m_far m_xs m_ys) H → va_D A (wX8 cA a_m m_s m_past m_pasts m_text m_typed m_faceOfSide m_firstSide m_faces m_before m_endA m_endB m_from m_queue m_ring m_ringSize m_ringNodes m_rings m_path m_pathSize m_old m_lastRing m_bestNodes m_bestInside m_bestFits m_far m_xs m_ys) → va_S A s.heap H locs → f_X8_load_b202 N m_text (f_X8_load_b41 N m_text n41) x1 x2 x3 x4 m_s m_past m_pasts m_typed m_before = some ρ → W p l e ({ frames := 5, cells := 0, slots := 0, locals := 113 } : Room) s m ([.ref (a_m 0)] : List Value).toArray below meth c H locs 0 0 (MQ below (va_Qi (fun r (_ : Unit) => r = ρ.1) (fun _ t => va_P D vwCl (wX8 cA a_m ρ.2.1 ρ.2.2.1 ρ.2.2.2.1 m_text ρ.2.2.2.2.1 m_faceOfSide m_firstSide m_faces ρ.2.2.2.2.2 m_endA m_endB m_from m_queue m_ring m_ringSize m_ringNodes m_rings m_path m_pathSize m_old m_lastRing m_bestNodes m_bestInside m_bestFits m_far m_xs m_ys) t.heap ∧ va_D A (wX8 cA a_m ρ.2.1 ρ.2.2.1 ρ.2.2.2.1 m_text ρ.2.2.2.2.1 m_faceOfSide m_firstSide m_faces ρ.2.2.2.2.2 m_endA m_endB m_from m_queue m_ring m_ringSize m_ringNodes m_rings m_path m_pathSize m_old m_lastRing m_bestNodes m_bestInside m_bestFits m_far m_xs m_ys)) A) ([.ref (a_m 0)] : List Value).toArray s 0 0 A) (F0 m 202 ls []) := by
        intro x1 x2 x3 x4 m_s m_past m_pasts m_typed m_before H locs ls hl hP hD hS hf
        refine lv_iinc (v := (x4 + 1)) (lv' := [(4, .int (x4 + 1)), (0, .ref (a_m 0)), (1, .int x1), (2, .int x2), (3, .int x3)]) hx hb dX8_load_202 hl (k := 4) rfl rfl (by decide) rfl (fun ls hl => ?_)
        refine lv_goto (tgt := 41) hx hb dX8_load_205 (by decide) ?_
        exact ih41 x1 x2 x3 (x4 + 1) m_s m_past m_pasts m_typed m_before _ _ _ (lv_sub hl [1, 2, 3, 4, 0] rfl) hP hD hS hf
      have B201 : ∀ (x2 : Int32) (x3 : Int32) (x4 : Int32) (y0 : Int32) (m_s : Nat → Int32) (m_past : Nat → Int32) (m_pasts : Int32) (m_typed : Int32) (m_before : Nat → Int32) (H : Heap) (locs : List Loc) (ls : Array Slot), lv_has ls 8 [(0, .ref (a_m 0)), (2, .int x2), (3, .int x3), (4, .int x4)] → va_P D vwCl (wX8 cA a_m m_s m_past m_pasts m_text m_typed m_faceOfSide m_firstSide m_faces m_before m_endA m_endB m_from m_queue m_ring m_ringSize m_ringNodes m_rings m_path m_pathSize m_old m_lastRing m_bestNodes m_bestInside m_bestFits m_far m_xs m_ys) H → va_D A (wX8 cA a_m m_s m_past m_pasts m_text m_typed m_faceOfSide m_firstSide m_faces m_before m_endA m_endB m_from m_queue m_ring m_ringSize m_ringNodes m_rings m_path m_pathSize m_old m_lastRing m_bestNodes m_bestInside m_bestFits m_far m_xs m_ys) → va_S A s.heap H locs → f_X8_load_b201 N m_text (f_X8_load_b41 N m_text n41) x2 x3 x4 y0 m_s m_past m_pasts m_typed m_before = some ρ → W p l e ({ frames := 5, cells := 0, slots := 0, locals := 113 } : Room) s m ([.ref (a_m 0)] : List Value).toArray below meth c H locs 0 0 (MQ below (va_Qi (fun r (_ : Unit) => r = ρ.1) (fun _ t => va_P D vwCl (wX8 cA a_m ρ.2.1 ρ.2.2.1 ρ.2.2.2.1 m_text ρ.2.2.2.2.1 m_faceOfSide m_firstSide m_faces ρ.2.2.2.2.2 m_endA m_endB m_from m_queue m_ring m_ringSize m_ringNodes m_rings m_path m_pathSize m_old m_lastRing m_bestNodes m_bestInside m_bestFits m_far m_xs m_ys) t.heap ∧ va_D A (wX8 cA a_m ρ.2.1 ρ.2.2.1 ρ.2.2.2.1 m_text ρ.2.2.2.2.1 m_faceOfSide m_firstSide m_faces ρ.2.2.2.2.2 m_endA m_endB m_from m_queue m_ring m_ringSize m_ringNodes m_rings m_path m_pathSize m_old m_lastRing m_bestNodes m_bestInside m_bestFits m_far m_xs m_ys)) A) ([.ref (a_m 0)] : List Value).toArray s 0 0 A) (F0 m 201 ls [.int y0]) := by
        intro x2 x3 x4 y0 m_s m_past m_pasts m_typed m_before H locs ls hl hP hD hS hf
        refine lv_istore_n (lv' := [(1, .int y0), (0, .ref (a_m 0)), (2, .int x2), (3, .int x3), (4, .int x4)]) hx hb dX8_load_201 rfl hl (by decide) rfl (fun ls hl => ?_)
        exact B202 y0 x2 x3 x4 m_s m_past m_pasts m_typed m_before _ _ _ (lv_sub hl [1, 0, 2, 3, 4] rfl) hP hD hS hf
      have B188 : ∀ (x1 : Int32) (x3 : Int32) (x4 : Int32) (y0 : Int32) (m_s : Nat → Int32) (m_past : Nat → Int32) (m_pasts : Int32) (m_typed : Int32) (m_before : Nat → Int32) (H : Heap) (locs : List Loc) (ls : Array Slot), lv_has ls 8 [(0, .ref (a_m 0)), (1, .int x1), (3, .int x3), (4, .int x4)] → va_P D vwCl (wX8 cA a_m m_s m_past m_pasts m_text m_typed m_faceOfSide m_firstSide m_faces m_before m_endA m_endB m_from m_queue m_ring m_ringSize m_ringNodes m_rings m_path m_pathSize m_old m_lastRing m_bestNodes m_bestInside m_bestFits m_far m_xs m_ys) H → va_D A (wX8 cA a_m m_s m_past m_pasts m_text m_typed m_faceOfSide m_firstSide m_faces m_before m_endA m_endB m_from m_queue m_ring m_ringSize m_ringNodes m_rings m_path m_pathSize m_old m_lastRing m_bestNodes m_bestInside m_bestFits m_far m_xs m_ys) → va_S A s.heap H locs → f_X8_load_b188 N m_text (f_X8_load_b41 N m_text n41) x1 x3 x4 y0 m_s m_past m_pasts m_typed m_before = some ρ → W p l e ({ frames := 5, cells := 0, slots := 0, locals := 113 } : Room) s m ([.ref (a_m 0)] : List Value).toArray below meth c H locs 0 0 (MQ below (va_Qi (fun r (_ : Unit) => r = ρ.1) (fun _ t => va_P D vwCl (wX8 cA a_m ρ.2.1 ρ.2.2.1 ρ.2.2.2.1 m_text ρ.2.2.2.2.1 m_faceOfSide m_firstSide m_faces ρ.2.2.2.2.2 m_endA m_endB m_from m_queue m_ring m_ringSize m_ringNodes m_rings m_path m_pathSize m_old m_lastRing m_bestNodes m_bestInside m_bestFits m_far m_xs m_ys) t.heap ∧ va_D A (wX8 cA a_m ρ.2.1 ρ.2.2.1 ρ.2.2.2.1 m_text ρ.2.2.2.2.1 m_faceOfSide m_firstSide m_faces ρ.2.2.2.2.2 m_endA m_endB m_from m_queue m_ring m_ringSize m_ringNodes m_rings m_path m_pathSize m_old m_lastRing m_bestNodes m_bestInside m_bestFits m_far m_xs m_ys)) A) ([.ref (a_m 0)] : List Value).toArray s 0 0 A) (F0 m 188 ls [.int y0]) := by
        intro x1 x3 x4 y0 m_s m_past m_pasts m_typed m_before H locs ls hl hP hD hS hf
        refine lv_istore_n (lv' := [(2, .int y0), (0, .ref (a_m 0)), (1, .int x1), (3, .int x3), (4, .int x4)]) hx hb dX8_load_188 rfl hl (by decide) rfl (fun ls hl => ?_)
        refine lv_iload_n hx hb dX8_load_189 rfl (lv_at hl 2 rfl) ?_
        refine lv_iconst (v := 4) hx hb dX8_load_190 (by decide) ?_
        refine lv_icmp_ne (tgt := 198) hx hb dX8_load_191 (by decide) (fun c_24 => ?_) (fun c_24 => ?_)
        · have hf := ite_t c_24 hf
          refine lv_iload_n hx hb dX8_load_198 rfl (lv_at hl 2 rfl) ?_
          refine lv_iconst (v := 1) hx hb dX8_load_199 (by decide) ?_
          refine lv_iadd hx hb dX8_load_200 ?_
          exact B201 y0 x3 x4 (x1 + 1) m_s m_past m_pasts m_typed m_before _ _ _ (lv_sub hl [1, 0, 3, 4] rfl) hP hD hS hf
        · have hf := ite_fn c_24 hf
          refine lv_iconst (v := 2) hx hb dX8_load_194 (by decide) ?_
          refine lv_goto (tgt := 201) hx hb dX8_load_195 (by decide) ?_
          exact B201 y0 x3 x4 2 m_s m_past m_pasts m_typed m_before _ _ _ (lv_sub hl [1, 0, 3, 4] rfl) hP hD hS hf
      have B174 : ∀ (x1 : Int32) (x2 : Int32) (x3 : Int32) (x4 : Int32) (x5 : Int32) (m_s : Nat → Int32) (m_past : Nat → Int32) (m_pasts : Int32) (m_typed : Int32) (m_before : Nat → Int32) (H : Heap) (locs : List Loc) (ls : Array Slot), lv_has ls 8 [(0, .ref (a_m 0)), (1, .int x1), (2, .int x2), (3, .int x3), (4, .int x4), (5, .int x5)] → va_P D vwCl (wX8 cA a_m m_s m_past m_pasts m_text m_typed m_faceOfSide m_firstSide m_faces m_before m_endA m_endB m_from m_queue m_ring m_ringSize m_ringNodes m_rings m_path m_pathSize m_old m_lastRing m_bestNodes m_bestInside m_bestFits m_far m_xs m_ys) H → va_D A (wX8 cA a_m m_s m_past m_pasts m_text m_typed m_faceOfSide m_firstSide m_faces m_before m_endA m_endB m_from m_queue m_ring m_ringSize m_ringNodes m_rings m_path m_pathSize m_old m_lastRing m_bestNodes m_bestInside m_bestFits m_far m_xs m_ys) → va_S A s.heap H locs → f_X8_load_b174 N m_text (f_X8_load_b41 N m_text n41) x1 x2 x3 x4 x5 m_s m_past m_pasts m_typed m_before = some ρ → W p l e ({ frames := 5, cells := 0, slots := 0, locals := 113 } : Room) s m ([.ref (a_m 0)] : List Value).toArray below meth c H locs 0 0 (MQ below (va_Qi (fun r (_ : Unit) => r = ρ.1) (fun _ t => va_P D vwCl (wX8 cA a_m ρ.2.1 ρ.2.2.1 ρ.2.2.2.1 m_text ρ.2.2.2.2.1 m_faceOfSide m_firstSide m_faces ρ.2.2.2.2.2 m_endA m_endB m_from m_queue m_ring m_ringSize m_ringNodes m_rings m_path m_pathSize m_old m_lastRing m_bestNodes m_bestInside m_bestFits m_far m_xs m_ys) t.heap ∧ va_D A (wX8 cA a_m ρ.2.1 ρ.2.2.1 ρ.2.2.2.1 m_text ρ.2.2.2.2.1 m_faceOfSide m_firstSide m_faces ρ.2.2.2.2.2 m_endA m_endB m_from m_queue m_ring m_ringSize m_ringNodes m_rings m_path m_pathSize m_old m_lastRing m_bestNodes m_bestInside m_bestFits m_far m_xs m_ys)) A) ([.ref (a_m 0)] : List Value).toArray s 0 0 A) (F0 m 174 ls []) := by
        intro x1 x2 x3 x4 x5 m_s m_past m_pasts m_typed m_before H locs ls hl hP hD hS hf
        refine lv_iload_n hx hb dX8_load_174 rfl (lv_at hl 1 rfl) ?_
        refine lv_iconst (v := 2) hx hb dX8_load_175 (by decide) ?_
        refine lv_icmp_ne (tgt := 187) hx hb dX8_load_176 (by decide) (fun c_23 => ?_) (fun c_23 => ?_)
        · have hf := ite_t c_23 hf
          refine lv_iload_n hx hb dX8_load_187 rfl (lv_at hl 2 rfl) ?_
          exact B188 x1 x3 x4 x2 m_s m_past m_pasts m_typed m_before _ _ _ (lv_sub hl [0, 1, 3, 4] rfl) hP hD hS hf
        · have hf := ite_fn c_23 hf
          refine lv_iload hx hb dX8_load_179 (lv_at hl 5 rfl) ?_
          refine lv_bipush (v := 48) hx hb dX8_load_181 (by decide) ?_
          refine lv_isub hx hb dX8_load_183 ?_
          refine lv_goto (tgt := 188) hx hb dX8_load_184 (by decide) ?_
          exact B188 x1 x3 x4 (x5 - 48) m_s m_past m_pasts m_typed m_before _ _ _ (lv_sub hl [0, 1, 3, 4] rfl) hP hD hS hf
      have B173 : ∀ (x1 : Int32) (x3 : Int32) (x4 : Int32) (x5 : Int32) (y0 : Int32) (m_s : Nat → Int32) (m_past : Nat → Int32) (m_pasts : Int32) (m_typed : Int32) (m_before : Nat → Int32) (H : Heap) (locs : List Loc) (ls : Array Slot), lv_has ls 8 [(0, .ref (a_m 0)), (1, .int x1), (3, .int x3), (4, .int x4), (5, .int x5)] → va_P D vwCl (wX8 cA a_m m_s m_past m_pasts m_text m_typed m_faceOfSide m_firstSide m_faces m_before m_endA m_endB m_from m_queue m_ring m_ringSize m_ringNodes m_rings m_path m_pathSize m_old m_lastRing m_bestNodes m_bestInside m_bestFits m_far m_xs m_ys) H → va_D A (wX8 cA a_m m_s m_past m_pasts m_text m_typed m_faceOfSide m_firstSide m_faces m_before m_endA m_endB m_from m_queue m_ring m_ringSize m_ringNodes m_rings m_path m_pathSize m_old m_lastRing m_bestNodes m_bestInside m_bestFits m_far m_xs m_ys) → va_S A s.heap H locs → f_X8_load_b173 N m_text (f_X8_load_b41 N m_text n41) x1 x3 x4 x5 y0 m_s m_past m_pasts m_typed m_before = some ρ → W p l e ({ frames := 5, cells := 0, slots := 0, locals := 113 } : Room) s m ([.ref (a_m 0)] : List Value).toArray below meth c H locs 0 0 (MQ below (va_Qi (fun r (_ : Unit) => r = ρ.1) (fun _ t => va_P D vwCl (wX8 cA a_m ρ.2.1 ρ.2.2.1 ρ.2.2.2.1 m_text ρ.2.2.2.2.1 m_faceOfSide m_firstSide m_faces ρ.2.2.2.2.2 m_endA m_endB m_from m_queue m_ring m_ringSize m_ringNodes m_rings m_path m_pathSize m_old m_lastRing m_bestNodes m_bestInside m_bestFits m_far m_xs m_ys) t.heap ∧ va_D A (wX8 cA a_m ρ.2.1 ρ.2.2.1 ρ.2.2.2.1 m_text ρ.2.2.2.2.1 m_faceOfSide m_firstSide m_faces ρ.2.2.2.2.2 m_endA m_endB m_from m_queue m_ring m_ringSize m_ringNodes m_rings m_path m_pathSize m_old m_lastRing m_bestNodes m_bestInside m_bestFits m_far m_xs m_ys)) A) ([.ref (a_m 0)] : List Value).toArray s 0 0 A) (F0 m 173 ls [.int y0]) := by
        intro x1 x3 x4 x5 y0 m_s m_past m_pasts m_typed m_before H locs ls hl hP hD hS hf
        refine lv_istore_n (lv' := [(2, .int y0), (0, .ref (a_m 0)), (1, .int x1), (3, .int x3), (4, .int x4), (5, .int x5)]) hx hb dX8_load_173 rfl hl (by decide) rfl (fun ls hl => ?_)
        exact B174 x1 y0 x3 x4 x5 m_s m_past m_pasts m_typed m_before _ _ _ (lv_sub hl [1, 2, 0, 3, 4, 5] rfl) hP hD hS hf
      have B116 : ∀ (x1 : Int32) (x2 : Int32) (x3 : Int32) (x4 : Int32) (x5 : Int32) (m_s : Nat → Int32) (m_past : Nat → Int32) (m_pasts : Int32) (m_typed : Int32) (m_before : Nat → Int32) (H : Heap) (locs : List Loc) (ls : Array Slot), lv_has ls 8 [(0, .ref (a_m 0)), (1, .int x1), (2, .int x2), (3, .int x3), (4, .int x4), (5, .int x5)] → va_P D vwCl (wX8 cA a_m m_s m_past m_pasts m_text m_typed m_faceOfSide m_firstSide m_faces m_before m_endA m_endB m_from m_queue m_ring m_ringSize m_ringNodes m_rings m_path m_pathSize m_old m_lastRing m_bestNodes m_bestInside m_bestFits m_far m_xs m_ys) H → va_D A (wX8 cA a_m m_s m_past m_pasts m_text m_typed m_faceOfSide m_firstSide m_faces m_before m_endA m_endB m_from m_queue m_ring m_ringSize m_ringNodes m_rings m_path m_pathSize m_old m_lastRing m_bestNodes m_bestInside m_bestFits m_far m_xs m_ys) → va_S A s.heap H locs → f_X8_load_b116 N m_text (f_X8_load_b41 N m_text n41) x1 x2 x3 x4 x5 m_s m_past m_pasts m_typed m_before = some ρ → W p l e ({ frames := 5, cells := 0, slots := 0, locals := 113 } : Room) s m ([.ref (a_m 0)] : List Value).toArray below meth c H locs 0 0 (MQ below (va_Qi (fun r (_ : Unit) => r = ρ.1) (fun _ t => va_P D vwCl (wX8 cA a_m ρ.2.1 ρ.2.2.1 ρ.2.2.2.1 m_text ρ.2.2.2.2.1 m_faceOfSide m_firstSide m_faces ρ.2.2.2.2.2 m_endA m_endB m_from m_queue m_ring m_ringSize m_ringNodes m_rings m_path m_pathSize m_old m_lastRing m_bestNodes m_bestInside m_bestFits m_far m_xs m_ys) t.heap ∧ va_D A (wX8 cA a_m ρ.2.1 ρ.2.2.1 ρ.2.2.2.1 m_text ρ.2.2.2.2.1 m_faceOfSide m_firstSide m_faces ρ.2.2.2.2.2 m_endA m_endB m_from m_queue m_ring m_ringSize m_ringNodes m_rings m_path m_pathSize m_old m_lastRing m_bestNodes m_bestInside m_bestFits m_far m_xs m_ys)) A) ([.ref (a_m 0)] : List Value).toArray s 0 0 A) (F0 m 116 ls []) := by
        intro x1 x2 x3 x4 x5 m_s m_past m_pasts m_typed m_before H locs ls hl hP hD hS hf
        refine lv_iload_n hx hb dX8_load_116 rfl (lv_at hl 3 rfl) ?_
        refine lv_bipush (v := (-9)) hx hb dX8_load_117 (by decide) ?_
        refine lv_icmp_ne (tgt := 174) hx hb dX8_load_119 (by decide) (fun c_15 => ?_) (fun c_15 => ?_)
        · have hf := ite_t c_15 hf
          exact B174 x1 x2 x3 x4 x5 m_s m_past m_pasts m_typed m_before _ _ _ (lv_sub hl [0, 1, 2, 3, 4, 5] rfl) hP hD hS hf
        · have hf := ite_fn c_15 hf
          refine lv_iload_n hx hb dX8_load_122 rfl (lv_at hl 1 rfl) ?_
          refine lv_iconst (v := 3) hx hb dX8_load_123 (by decide) ?_
          refine lv_icmp_ne (tgt := 174) hx hb dX8_load_124 (by decide) (fun c_16 => ?_) (fun c_16 => ?_)
          · have hf := ite_t c_16 hf
            exact B174 x1 x2 x3 x4 x5 m_s m_past m_pasts m_typed m_before _ _ _ (lv_sub hl [0, 1, 2, 3, 4, 5] rfl) hP hD hS hf
          · have hf := ite_fn c_16 hf
            refine lv_iload hx hb dX8_load_127 (lv_at hl 5 rfl) ?_
            refine lv_bipush (v := 48) hx hb dX8_load_129 (by decide) ?_
            refine lv_isub hx hb dX8_load_131 ?_
            refine lv_topi (fun x6_17 ex6_17 => ?_)
            have hf := nm_t ex6_17 hf
            refine lv_istore (lv' := [(6, .int x6_17), (0, .ref (a_m 0)), (1, .int x1), (2, .int x2), (3, .int x3), (4, .int x4), (5, .int x5)]) hx hb dX8_load_132 hl (by decide) rfl (fun ls hl => ?_)
            refine lv_aload_n hx hb dX8_load_134 rfl (lv_at hl 1 rfl) ?_
            refine lv_iload_n hx hb dX8_load_135 rfl (lv_at hl 3 rfl) ?_
            refine lv_iload hx hb dX8_load_136 (lv_at hl 0 rfl) ?_
            refine lv_aload_n hx hb dX8_load_138 rfl (lv_at hl 1 rfl) ?_
            refine va_get (D := D) (ci := 8) (C := RX8) (T := TX8) (N := 27) hx hb hT kwX8 hown hK.1 hP 0 rfl rfl 0 (by decide) (hT _ kf_X8_7) (fun _ h9 => h9) rfl dX8_load_139 ?_
            refine lv_bipush (v := 43) hx hb dX8_load_142 (by decide) ?_
            refine lv_iload_n hx hb dX8_load_144 rfl (lv_at hl 3 rfl) ?_
            refine lv_iadd hx hb dX8_load_145 ?_
            obtain ⟨h_18, hf⟩ := chk_s hf
            refine va_iald hx hb hK.1 hP 1 0 rfl rfl (inb_in h_18) dX8_load_146 ?_
            refine lv_aload_n hx hb dX8_load_147 rfl (lv_at hl 1 rfl) ?_
            refine va_get (D := D) (ci := 8) (C := RX8) (T := TX8) (N := 27) hx hb hT kwX8 hown hK.1 hP 0 rfl rfl 0 (by decide) (hT _ kf_X8_7) (fun _ h9 => h9) rfl dX8_load_148 ?_
            refine lv_bipush (v := 43) hx hb dX8_load_151 (by decide) ?_
            refine lv_iload hx hb dX8_load_153 (lv_at hl 0 rfl) ?_
            refine lv_iadd hx hb dX8_load_155 ?_
            obtain ⟨h_19, hf⟩ := chk_s hf
            refine va_iald hx hb hK.1 hP 1 0 rfl rfl (inb_in h_19) dX8_load_156 ?_
            obtain ⟨r_20, hcr_20, hf⟩ := bd1_s hf
            refine backWi (w2 := (wX8 cA a_m r_20.2 m_past m_pasts m_text m_typed m_faceOfSide m_firstSide m_faces m_before m_endA m_endB m_from m_queue m_ring m_ringSize m_ringNodes m_rings m_path m_pathSize m_old m_lastRing m_bestNodes m_bestInside m_bestFits m_far m_xs m_ys)) (runVw C (c_X8_joins l D cA a_m m_s m_past m_pasts m_text m_typed m_faceOfSide m_firstSide m_faces m_before m_endA m_endB m_from m_queue m_ring m_ringSize m_ringNodes m_rings m_path m_pathSize m_old m_lastRing m_bestNodes m_bestInside m_bestFits m_far m_xs m_ys x2 x6_17 (m_s (43 + x2).toNatClampNeg) (m_s (43 + x6_17).toNatClampNeg) _ N r_20 hcr_20) cf_X8_joins km_X8_109 ⟨rfl, rfl, by decide, by decide⟩ ⟨Nat.zero_le _, Nat.zero_le _⟩ (va_recv hK.1 hP (ci := 8) (q0 := 0) rfl rfl) (hP.sub [0, 1, 2, 3, 4, 5, 6, 7, 8, 9, 10, 11, 12, 13, 14, 15, 16, 17, 18] rfl) (hD.sub [0, 1, 2, 3, 4, 5, 6, 7, 8, 9, 10, 11, 12, 13, 14, 15, 16, 17, 18] rfl rfl) hK hl.1 rfl rfl (Nat.le_of_ble_eq_true rfl) dX8_load_157) hP hD hS hA [0, 1, 2, 3, 4, 5, 6, 7, 8, 9, 10, 11, 12, 13, 14, 15, 16, 17, 18] rfl [] rfl rfl (by decide) [0, 1, 2, 3, 4, 5, 6, 7, 8, 9, 10, 11, 12, 13, 14, 15, 16, 17, 18] rfl rfl (fun H locs hP hD hS => ?_)
            refine lv_topi (fun x7_21 ex7_21 => ?_)
            have hf := nm_t ex7_21 hf
            refine lv_istore (lv' := [(7, .int x7_21), (6, .int x6_17), (0, .ref (a_m 0)), (1, .int x1), (2, .int x2), (3, .int x3), (4, .int x4), (5, .int x5)]) hx hb dX8_load_160 hl (by decide) rfl (fun ls hl => ?_)
            refine lv_iload hx hb dX8_load_162 (lv_at hl 0 rfl) ?_
            refine lv_if_ge (tgt := 171) hx hb dX8_load_164 (by decide) (fun c_22 => ?_) (fun c_22 => ?_)
            · have hf := ite_t c_22 hf
              refine lv_iload hx hb dX8_load_171 (lv_at hl 1 rfl) ?_
              exact B173 x1 x3 x4 x5 x6_17 r_20.2 m_past m_pasts m_typed m_before _ _ _ (lv_sub hl [2, 3, 5, 6, 7] rfl) hP hD hS hf
            · have hf := ite_f c_22 hf
              refine lv_iload_n hx hb dX8_load_167 rfl (lv_at hl 4 rfl) ?_
              refine lv_goto (tgt := 173) hx hb dX8_load_168 (by decide) ?_
              exact B173 x1 x3 x4 x5 x2 r_20.2 m_past m_pasts m_typed m_before _ _ _ (lv_sub hl [2, 3, 5, 6, 7] rfl) hP hD hS hf
      have B94 : ∀ (x1 : Int32) (x2 : Int32) (x4 : Int32) (x5 : Int32) (y0 : Int32) (m_s : Nat → Int32) (m_past : Nat → Int32) (m_pasts : Int32) (m_typed : Int32) (m_before : Nat → Int32) (H : Heap) (locs : List Loc) (ls : Array Slot), lv_has ls 8 [(0, .ref (a_m 0)), (1, .int x1), (2, .int x2), (4, .int x4), (5, .int x5)] → va_P D vwCl (wX8 cA a_m m_s m_past m_pasts m_text m_typed m_faceOfSide m_firstSide m_faces m_before m_endA m_endB m_from m_queue m_ring m_ringSize m_ringNodes m_rings m_path m_pathSize m_old m_lastRing m_bestNodes m_bestInside m_bestFits m_far m_xs m_ys) H → va_D A (wX8 cA a_m m_s m_past m_pasts m_text m_typed m_faceOfSide m_firstSide m_faces m_before m_endA m_endB m_from m_queue m_ring m_ringSize m_ringNodes m_rings m_path m_pathSize m_old m_lastRing m_bestNodes m_bestInside m_bestFits m_far m_xs m_ys) → va_S A s.heap H locs → f_X8_load_b94 N m_text (f_X8_load_b41 N m_text n41) x1 x2 x4 x5 y0 m_s m_past m_pasts m_typed m_before = some ρ → W p l e ({ frames := 5, cells := 0, slots := 0, locals := 113 } : Room) s m ([.ref (a_m 0)] : List Value).toArray below meth c H locs 0 0 (MQ below (va_Qi (fun r (_ : Unit) => r = ρ.1) (fun _ t => va_P D vwCl (wX8 cA a_m ρ.2.1 ρ.2.2.1 ρ.2.2.2.1 m_text ρ.2.2.2.2.1 m_faceOfSide m_firstSide m_faces ρ.2.2.2.2.2 m_endA m_endB m_from m_queue m_ring m_ringSize m_ringNodes m_rings m_path m_pathSize m_old m_lastRing m_bestNodes m_bestInside m_bestFits m_far m_xs m_ys) t.heap ∧ va_D A (wX8 cA a_m ρ.2.1 ρ.2.2.1 ρ.2.2.2.1 m_text ρ.2.2.2.2.1 m_faceOfSide m_firstSide m_faces ρ.2.2.2.2.2 m_endA m_endB m_from m_queue m_ring m_ringSize m_ringNodes m_rings m_path m_pathSize m_old m_lastRing m_bestNodes m_bestInside m_bestFits m_far m_xs m_ys)) A) ([.ref (a_m 0)] : List Value).toArray s 0 0 A) (F0 m 94 ls [.int y0]) := by
        intro x1 x2 x4 x5 y0 m_s m_past m_pasts m_typed m_before H locs ls hl hP hD hS hf
        refine lv_istore_n (lv' := [(3, .int y0), (0, .ref (a_m 0)), (1, .int x1), (2, .int x2), (4, .int x4), (5, .int x5)]) hx hb dX8_load_94 rfl hl (by decide) rfl (fun ls hl => ?_)
        refine lv_iload_n hx hb dX8_load_95 rfl (lv_at hl 0 rfl) ?_
        refine lv_bipush (v := (-9)) hx hb dX8_load_96 (by decide) ?_
        refine lv_icmp_ne (tgt := 116) hx hb dX8_load_98 (by decide) (fun c_12 => ?_) (fun c_12 => ?_)
        · have hf := ite_t c_12 hf
          exact B116 x1 x2 y0 x4 x5 m_s m_past m_pasts m_typed m_before _ _ _ (lv_sub hl [1, 2, 3, 0, 4, 5] rfl) hP hD hS hf
        · have hf := ite_fn c_12 hf
          refine lv_iload_n hx hb dX8_load_101 rfl (lv_at hl 2 rfl) ?_
          refine lv_if_ne (tgt := 116) hx hb dX8_load_102 (by decide) (fun c_13 => ?_) (fun c_13 => ?_)
          · have hf := ite_t c_13 hf
            exact B116 x1 x2 y0 x4 x5 m_s m_past m_pasts m_typed m_before _ _ _ (lv_sub hl [1, 2, 3, 0, 4, 5] rfl) hP hD hS hf
          · have hf := ite_fn c_13 hf
            refine lv_aload_n hx hb dX8_load_105 rfl (lv_at hl 1 rfl) ?_
            refine va_get (D := D) (ci := 8) (C := RX8) (T := TX8) (N := 27) hx hb hT kwX8 hown hK.1 hP 0 rfl rfl 0 (by decide) (hT _ kf_X8_7) (fun _ h9 => h9) rfl dX8_load_106 ?_
            refine lv_iconst (v := 0) hx hb dX8_load_109 (by decide) ?_
            refine lv_iload hx hb dX8_load_110 (lv_at hl 5 rfl) ?_
            refine lv_bipush (v := 48) hx hb dX8_load_112 (by decide) ?_
            refine lv_isub hx hb dX8_load_114 ?_
            obtain ⟨h_14, hf⟩ := chk_s hf
            refine va_iast hx hb hK.1 hP hD hS 1 0 rfl rfl (inb_in h_14) dX8_load_115 (fun H locs hP hD hS => ?_)
            have hP : va_P D vwCl (wX8 cA a_m (upd m_s (0 : Int32).toNatClampNeg (x5 - 48)) m_past m_pasts m_text m_typed m_faceOfSide m_firstSide m_faces m_before m_endA m_endB m_from m_queue m_ring m_ringSize m_ringNodes m_rings m_path m_pathSize m_old m_lastRing m_bestNodes m_bestInside m_bestFits m_far m_xs m_ys) H := hP
            have hD : va_D A (wX8 cA a_m (upd m_s (0 : Int32).toNatClampNeg (x5 - 48)) m_past m_pasts m_text m_typed m_faceOfSide m_firstSide m_faces m_before m_endA m_endB m_from m_queue m_ring m_ringSize m_ringNodes m_rings m_path m_pathSize m_old m_lastRing m_bestNodes m_bestInside m_bestFits m_far m_xs m_ys) := hD
            exact B116 x1 x2 y0 x4 x5 (upd m_s (0 : Int32).toNatClampNeg (x5 - 48)) m_past m_pasts m_typed m_before _ _ _ (lv_sub hl [1, 2, 3, 0, 4, 5] rfl) hP hD hS hf
      intro x1 x2 x3 x4 m_s m_past m_pasts m_typed m_before H locs ls hl hP hD hS hf
      refine lv_iload hx hb dX8_load_41 (lv_at hl 4 rfl) ?_
      refine lv_aload_n hx hb dX8_load_43 rfl (lv_at hl 0 rfl) ?_
      refine va_get (D := D) (ci := 8) (C := RX8) (T := TX8) (N := 27) hx hb hT kwX8 hown hK.1 hP 0 rfl rfl 4 (by decide) (hT _ kf_X8_149) (fun _ h9 => h9) rfl dX8_load_44 ?_
      refine lv_icmp_ge (tgt := 208) hx hb dX8_load_47 (by decide) (fun c_5 => ?_) (fun c_5 => ?_)
      · have hf := ite_t c_5 hf
        exact B208 x1 x3 m_s m_past m_pasts m_typed m_before _ _ _ (lv_sub hl [0, 1, 3] rfl) hP hD hS hf
      · have hf := ite_f c_5 hf
        refine lv_iload_n hx hb dX8_load_50 rfl (lv_at hl 3 rfl) ?_
        refine lv_bipush (v := (-9)) hx hb dX8_load_51 (by decide) ?_
        refine lv_icmp_ne (tgt := 208) hx hb dX8_load_53 (by decide) (fun c_6 => ?_) (fun c_6 => ?_)
        · have hf := ite_t c_6 hf
          exact B208 x1 x3 m_s m_past m_pasts m_typed m_before _ _ _ (lv_sub hl [0, 1, 3] rfl) hP hD hS hf
        · have hf := ite_fn c_6 hf
          refine lv_aload_n hx hb dX8_load_56 rfl (lv_at hl 0 rfl) ?_
          refine va_get (D := D) (ci := 8) (C := RX8) (T := TX8) (N := 27) hx hb hT kwX8 hown hK.1 hP 0 rfl rfl 3 (by decide) (hT _ kf_X8_16) (fun _ h9 => h9) rfl dX8_load_57 ?_
          refine lv_iload hx hb dX8_load_60 (lv_at hl 4 rfl) ?_
          obtain ⟨h_7, hf⟩ := chk_s hf
          refine va_bald hx hb hK.1 hP 3 2 rfl rfl (inb_in h_7) dX8_load_62 ?_
          refine lv_sipush (v := 255) hx hb dX8_load_63 (by decide) ?_
          refine lv_iand hx hb dX8_load_66 ?_
          refine lv_topi (fun x5_8 ex5_8 => ?_)
          have hf := nm_t ex5_8 hf
          refine lv_istore (lv' := [(5, .int x5_8), (0, .ref (a_m 0)), (1, .int x1), (2, .int x2), (3, .int x3), (4, .int x4)]) hx hb dX8_load_67 hl (by decide) rfl (fun ls hl => ?_)
          refine lv_iload hx hb dX8_load_69 (lv_at hl 0 rfl) ?_
          refine lv_bipush (v := 32) hx hb dX8_load_71 (by decide) ?_
          refine lv_icmp_eq (tgt := 202) hx hb dX8_load_73 (by decide) (fun c_9 => ?_) (fun c_9 => ?_)
          · have hf := ite_t c_9 hf
            exact B202 x1 x2 x3 x4 m_s m_past m_pasts m_typed m_before _ _ _ (lv_sub hl [1, 2, 3, 4, 5] rfl) hP hD hS hf
          · have hf := ite_f c_9 hf
            refine lv_aload_n hx hb dX8_load_76 rfl (lv_at hl 1 rfl) ?_
            refine lv_iload_n hx hb dX8_load_77 rfl (lv_at hl 2 rfl) ?_
            refine lv_iload hx hb dX8_load_78 (lv_at hl 0 rfl) ?_
            refine lv_iload_n hx hb dX8_load_80 rfl (lv_at hl 3 rfl) ?_
            obtain ⟨r_10, hcr_10, hf⟩ := bd1_s hf
            refine backI (runV0 C (c_X8_may l D cA a_m m_s m_past m_pasts m_text m_typed m_faceOfSide m_firstSide m_faces m_before m_endA m_endB m_from m_queue m_ring m_ringSize m_ringNodes m_rings m_path m_pathSize m_old m_lastRing m_bestNodes m_bestInside m_bestFits m_far m_xs m_ys x1 x5_8 x2 N r_10 hcr_10) cf_X8_may km_X8_160 ⟨rfl, rfl, by decide, by decide⟩ ⟨Nat.zero_le _, Nat.zero_le _⟩ (va_recv hK.1 hP (ci := 8) (q0 := 0) rfl rfl) (hP.sub [0, 1, 2, 3, 4, 5, 6, 7, 8, 9, 10, 11, 12, 13, 14, 15, 16, 17, 18] rfl) hK hl.1 rfl rfl (Nat.le_of_ble_eq_true rfl) dX8_load_81) ?_
            refine lv_if_eq (tgt := 92) hx hb dX8_load_84 (by decide) (fun c_11 => ?_) (fun c_11 => ?_)
            · have hf := ite_t c_11 hf
              refine lv_iload hx hb dX8_load_92 (lv_at hl 5 rfl) ?_
              exact B94 x1 x2 x4 x5_8 x4 m_s m_past m_pasts m_typed m_before _ _ _ (lv_sub hl [1, 2, 3, 5, 0] rfl) hP hD hS hf
            · have hf := ite_f c_11 hf
              refine lv_bipush (v := (-9)) hx hb dX8_load_87 (by decide) ?_
              refine lv_goto (tgt := 94) hx hb dX8_load_89 (by decide) ?_
              exact B94 x1 x2 x4 x5_8 (-9) m_s m_past m_pasts m_typed m_before _ _ _ (lv_sub hl [1, 2, 3, 5, 0] rfl) hP hD hS hf
  have B26 : ∀ (m_s : Nat → Int32) (m_past : Nat → Int32) (m_pasts : Int32) (m_typed : Int32) (m_before : Nat → Int32) (H : Heap) (locs : List Loc) (ls : Array Slot), lv_has ls 8 [(0, .ref (a_m 0))] → va_P D vwCl (wX8 cA a_m m_s m_past m_pasts m_text m_typed m_faceOfSide m_firstSide m_faces m_before m_endA m_endB m_from m_queue m_ring m_ringSize m_ringNodes m_rings m_path m_pathSize m_old m_lastRing m_bestNodes m_bestInside m_bestFits m_far m_xs m_ys) H → va_D A (wX8 cA a_m m_s m_past m_pasts m_text m_typed m_faceOfSide m_firstSide m_faces m_before m_endA m_endB m_from m_queue m_ring m_ringSize m_ringNodes m_rings m_path m_pathSize m_old m_lastRing m_bestNodes m_bestInside m_bestFits m_far m_xs m_ys) → va_S A s.heap H locs → f_X8_load_b26 N m_text m_s m_past m_pasts m_typed m_before = some ρ → W p l e ({ frames := 5, cells := 0, slots := 0, locals := 113 } : Room) s m ([.ref (a_m 0)] : List Value).toArray below meth c H locs 0 0 (MQ below (va_Qi (fun r (_ : Unit) => r = ρ.1) (fun _ t => va_P D vwCl (wX8 cA a_m ρ.2.1 ρ.2.2.1 ρ.2.2.2.1 m_text ρ.2.2.2.2.1 m_faceOfSide m_firstSide m_faces ρ.2.2.2.2.2 m_endA m_endB m_from m_queue m_ring m_ringSize m_ringNodes m_rings m_path m_pathSize m_old m_lastRing m_bestNodes m_bestInside m_bestFits m_far m_xs m_ys) t.heap ∧ va_D A (wX8 cA a_m ρ.2.1 ρ.2.2.1 ρ.2.2.2.1 m_text ρ.2.2.2.2.1 m_faceOfSide m_firstSide m_faces ρ.2.2.2.2.2 m_endA m_endB m_from m_queue m_ring m_ringSize m_ringNodes m_rings m_path m_pathSize m_old m_lastRing m_bestNodes m_bestInside m_bestFits m_far m_xs m_ys)) A) ([.ref (a_m 0)] : List Value).toArray s 0 0 A) (F0 m 26 ls []) := by
    intro m_s m_past m_pasts m_typed m_before H locs ls hl hP hD hS hf
    refine lv_aload_n hx hb dX8_load_26 rfl (lv_at hl 0 rfl) ?_
    refine lv_iconst (v := 0) hx hb dX8_load_27 (by decide) ?_
    obtain ⟨r_4, hcr_4, hf⟩ := bd1_s hf
    refine backWv (w2 := (wX8 cA a_m r_4 m_past m_pasts m_text m_typed m_faceOfSide m_firstSide m_faces m_before m_endA m_endB m_from m_queue m_ring m_ringSize m_ringNodes m_rings m_path m_pathSize m_old m_lastRing m_bestNodes m_bestInside m_bestFits m_far m_xs m_ys)) (runVw C (c_X8_empties l D cA a_m m_s m_past m_pasts m_text m_typed m_faceOfSide m_firstSide m_faces m_before m_endA m_endB m_from m_queue m_ring m_ringSize m_ringNodes m_rings m_path m_pathSize m_old m_lastRing m_bestNodes m_bestInside m_bestFits m_far m_xs m_ys 0 _ N r_4 hcr_4) cf_X8_empties km_X8_93 ⟨rfl, rfl, by decide, by decide⟩ ⟨Nat.zero_le _, Nat.zero_le _⟩ (va_recv hK.1 hP (ci := 8) (q0 := 0) rfl rfl) (hP.sub [0, 1, 2, 3, 4, 5, 6, 7, 8, 9, 10, 11, 12, 13, 14, 15, 16, 17, 18] rfl) (hD.sub [0, 1, 2, 3, 4, 5, 6, 7, 8, 9, 10, 11, 12, 13, 14, 15, 16, 17, 18] rfl rfl) hK hl.1 rfl rfl (Nat.le_of_ble_eq_true rfl) dX8_load_28) hP hD hS hA [0, 1, 2, 3, 4, 5, 6, 7, 8, 9, 10, 11, 12, 13, 14, 15, 16, 17, 18] rfl [] rfl rfl (by decide) [0, 1, 2, 3, 4, 5, 6, 7, 8, 9, 10, 11, 12, 13, 14, 15, 16, 17, 18] rfl rfl (fun H locs hP hD hS => ?_)
    refine lv_iconst (v := 0) hx hb dX8_load_31 (by decide) ?_
    refine lv_istore_n (lv' := [(1, .int 0), (0, .ref (a_m 0))]) hx hb dX8_load_32 rfl hl (by decide) rfl (fun ls hl => ?_)
    refine lv_iconst (v := 0) hx hb dX8_load_33 (by decide) ?_
    refine lv_istore_n (lv' := [(2, .int 0), (1, .int 0), (0, .ref (a_m 0))]) hx hb dX8_load_34 rfl hl (by decide) rfl (fun ls hl => ?_)
    refine lv_bipush (v := (-9)) hx hb dX8_load_35 (by decide) ?_
    refine lv_istore_n (lv' := [(3, .int (-9)), (2, .int 0), (1, .int 0), (0, .ref (a_m 0))]) hx hb dX8_load_37 rfl hl (by decide) rfl (fun ls hl => ?_)
    refine lv_iconst (v := 0) hx hb dX8_load_38 (by decide) ?_
    refine lv_istore (lv' := [(4, .int 0), (3, .int (-9)), (2, .int 0), (1, .int 0), (0, .ref (a_m 0))]) hx hb dX8_load_39 hl (by decide) rfl (fun ls hl => ?_)
    exact B41 N 0 0 (-9) 0 r_4 m_past m_pasts m_typed m_before _ _ _ (lv_sub hl [4, 3, 2, 1, 0] rfl) hP hD hS hf
  have B2 : ∀ (n2 : Nat), ∀ (x1 : Int32) (m_s : Nat → Int32) (m_past : Nat → Int32) (m_pasts : Int32) (m_typed : Int32) (m_before : Nat → Int32) (H : Heap) (locs : List Loc) (ls : Array Slot), lv_has ls 8 [(0, .ref (a_m 0)), (1, .int x1)] → va_P D vwCl (wX8 cA a_m m_s m_past m_pasts m_text m_typed m_faceOfSide m_firstSide m_faces m_before m_endA m_endB m_from m_queue m_ring m_ringSize m_ringNodes m_rings m_path m_pathSize m_old m_lastRing m_bestNodes m_bestInside m_bestFits m_far m_xs m_ys) H → va_D A (wX8 cA a_m m_s m_past m_pasts m_text m_typed m_faceOfSide m_firstSide m_faces m_before m_endA m_endB m_from m_queue m_ring m_ringSize m_ringNodes m_rings m_path m_pathSize m_old m_lastRing m_bestNodes m_bestInside m_bestFits m_far m_xs m_ys) → va_S A s.heap H locs → f_X8_load_b2 N m_text n2 x1 m_s m_past m_pasts m_typed m_before = some ρ → W p l e ({ frames := 5, cells := 0, slots := 0, locals := 113 } : Room) s m ([.ref (a_m 0)] : List Value).toArray below meth c H locs 0 0 (MQ below (va_Qi (fun r (_ : Unit) => r = ρ.1) (fun _ t => va_P D vwCl (wX8 cA a_m ρ.2.1 ρ.2.2.1 ρ.2.2.2.1 m_text ρ.2.2.2.2.1 m_faceOfSide m_firstSide m_faces ρ.2.2.2.2.2 m_endA m_endB m_from m_queue m_ring m_ringSize m_ringNodes m_rings m_path m_pathSize m_old m_lastRing m_bestNodes m_bestInside m_bestFits m_far m_xs m_ys) t.heap ∧ va_D A (wX8 cA a_m ρ.2.1 ρ.2.2.1 ρ.2.2.2.1 m_text ρ.2.2.2.2.1 m_faceOfSide m_firstSide m_faces ρ.2.2.2.2.2 m_endA m_endB m_from m_queue m_ring m_ringSize m_ringNodes m_rings m_path m_pathSize m_old m_lastRing m_bestNodes m_bestInside m_bestFits m_far m_xs m_ys)) A) ([.ref (a_m 0)] : List Value).toArray s 0 0 A) (F0 m 2 ls []) := by
    intro n2
    induction n2 with
    | zero =>
      intro x1 m_s m_past m_pasts m_typed m_before H locs ls hl hP hD hS hf
      cases (show (none : Option (Int32 × (Nat → Int32) × (Nat → Int32) × Int32 × Int32 × (Nat → Int32))) = some ρ from hf)
    | succ n2 ih2 =>
      intro x1 m_s m_past m_pasts m_typed m_before H locs ls hl hP hD hS hf
      refine lv_iload_n hx hb dX8_load_2 rfl (lv_at hl 1 rfl) ?_
      refine lv_bipush (v := 124) hx hb dX8_load_3 (by decide) ?_
      refine lv_icmp_ge (tgt := 26) hx hb dX8_load_5 (by decide) (fun c_1 => ?_) (fun c_1 => ?_)
      · have hf := ite_t c_1 hf
        exact B26 m_s m_past m_pasts m_typed m_before _ _ _ (lv_sub hl [0] rfl) hP hD hS hf
      · have hf := ite_f c_1 hf
        refine lv_aload_n hx hb dX8_load_8 rfl (lv_at hl 0 rfl) ?_
        refine va_get (D := D) (ci := 8) (C := RX8) (T := TX8) (N := 27) hx hb hT kwX8 hown hK.1 hP 0 rfl rfl 8 (by decide) (hT _ kf_X8_26) (fun _ h9 => h9) rfl dX8_load_9 ?_
        refine lv_iload_n hx hb dX8_load_12 rfl (lv_at hl 1 rfl) ?_
        refine lv_aload_n hx hb dX8_load_13 rfl (lv_at hl 0 rfl) ?_
        refine va_get (D := D) (ci := 8) (C := RX8) (T := TX8) (N := 27) hx hb hT kwX8 hown hK.1 hP 0 rfl rfl 0 (by decide) (hT _ kf_X8_7) (fun _ h9 => h9) rfl dX8_load_14 ?_
        refine lv_iload_n hx hb dX8_load_17 rfl (lv_at hl 1 rfl) ?_
        obtain ⟨h_2, hf⟩ := chk_s hf
        refine va_iald hx hb hK.1 hP 1 0 rfl rfl (inb_in h_2) dX8_load_18 ?_
        obtain ⟨h_3, hf⟩ := chk_s hf
        refine va_iast hx hb hK.1 hP hD hS 6 0 rfl rfl (inb_in h_3) dX8_load_19 (fun H locs hP hD hS => ?_)
        have hP : va_P D vwCl (wX8 cA a_m m_s m_past m_pasts m_text m_typed m_faceOfSide m_firstSide m_faces (upd m_before x1.toNatClampNeg (m_s x1.toNatClampNeg)) m_endA m_endB m_from m_queue m_ring m_ringSize m_ringNodes m_rings m_path m_pathSize m_old m_lastRing m_bestNodes m_bestInside m_bestFits m_far m_xs m_ys) H := hP
        have hD : va_D A (wX8 cA a_m m_s m_past m_pasts m_text m_typed m_faceOfSide m_firstSide m_faces (upd m_before x1.toNatClampNeg (m_s x1.toNatClampNeg)) m_endA m_endB m_from m_queue m_ring m_ringSize m_ringNodes m_rings m_path m_pathSize m_old m_lastRing m_bestNodes m_bestInside m_bestFits m_far m_xs m_ys) := hD
        refine lv_iinc (v := (x1 + 1)) (lv' := [(1, .int (x1 + 1)), (0, .ref (a_m 0))]) hx hb dX8_load_20 hl (k := 1) rfl rfl (by decide) rfl (fun ls hl => ?_)
        refine lv_goto (tgt := 2) hx hb dX8_load_23 (by decide) ?_
        exact ih2 (x1 + 1) m_s m_past m_pasts m_typed (upd m_before x1.toNatClampNeg (m_s x1.toNatClampNeg)) _ _ _ (lv_sub hl [1, 0] rfl) hP hD hS hf
  refine lv_iconst (v := 0) hx hb dX8_load_0 (by decide) ?_
  refine lv_istore_n (lv' := [(1, .int 0), (0, .ref (a_m 0))]) hx hb dX8_load_1 rfl hl (by decide) rfl (fun ls hl => ?_)
  exact B2 N 0 m_s m_past m_pasts m_typed m_before _ _ _ (lv_sub hl [1, 0] rfl) hP hD hS hf
set_option maxRecDepth 100000 in
set_option maxHeartbeats 4000000 in
theorem c_X8_mirror (l : Launch) (D : va_G) (cA : Nat → ClassId) (a_m : Nat → Nat) (m_s : Nat → Int32) (m_past : Nat → Int32) (m_pasts : Int32) (m_text : Nat → Int32) (m_typed : Int32) (m_faceOfSide : Nat → Int32) (m_firstSide : Nat → Int32) (m_faces : Int32) (m_before : Nat → Int32) (m_endA : Nat → Int32) (m_endB : Nat → Int32) (m_from : Nat → Int32) (m_queue : Nat → Int32) (m_ring : Nat → Int32) (m_ringSize : Nat → Int32) (m_ringNodes : Nat → Int32) (m_rings : Int32) (m_path : Nat → Int32) (m_pathSize : Int32) (m_old : Nat → Int32) (m_lastRing : Int32) (m_bestNodes : Int32) (m_bestInside : Int32) (m_bestFits : Int32) (m_far : Nat → Int32) (m_xs : Nat → UInt32) (m_ys : Nat → UInt32) (sz N : Nat) (ρ : Int32 × (Nat → Int32) × (Nat → Int32) × Int32 × (Nat → Int32) × (Nat → Int32) × Int32) (hf : f_X8_mirror N m_s m_past m_pasts m_faceOfSide m_firstSide m_faces = some ρ) : Met l yX8_mirror (Cond.code yX8_mirror cX8_mirror 5 (Option.some Jvm.ClassFile.FieldType.int) :: lw_g) ({ frames := 4, cells := 0, slots := 0, locals := 91 } : Room) (PcW D (tyA cA) (wX8 cA a_m m_s m_past m_pasts m_text m_typed m_faceOfSide m_firstSide m_faces m_before m_endA m_endB m_from m_queue m_ring m_ringSize m_ringNodes m_rings m_path m_pathSize m_old m_lastRing m_bestNodes m_bestInside m_bestFits m_far m_xs m_ys) sz [.ref (a_m 0)]) (va_Qi (fun r (_ : Unit) => r = ρ.1) (fun _ t => va_P D vwCl (wX8 cA a_m ρ.2.1 ρ.2.2.1 ρ.2.2.2.1 m_text m_typed ρ.2.2.2.2.1 ρ.2.2.2.2.2.1 ρ.2.2.2.2.2.2 m_before m_endA m_endB m_from m_queue m_ring m_ringSize m_ringNodes m_rings m_path m_pathSize m_old m_lastRing m_bestNodes m_bestInside m_bestFits m_far m_xs m_ys) t.heap ∧ va_D (va_A (wX8 cA a_m m_s m_past m_pasts m_text m_typed m_faceOfSide m_firstSide m_faces m_before m_endA m_endB m_from m_queue m_ring m_ringSize m_ringNodes m_rings m_path m_pathSize m_old m_lastRing m_bestNodes m_bestInside m_bestFits m_far m_xs m_ys) sz) (wX8 cA a_m ρ.2.1 ρ.2.2.1 ρ.2.2.2.1 m_text m_typed ρ.2.2.2.2.1 ρ.2.2.2.2.2.1 ρ.2.2.2.2.2.2 m_before m_endA m_endB m_from m_queue m_ring m_ringSize m_ringNodes m_rings m_path m_pathSize m_old m_lastRing m_bestNodes m_bestInside m_bestFits m_far m_xs m_ys)) (va_A (wX8 cA a_m m_s m_past m_pasts m_text m_typed m_faceOfSide m_firstSide m_faces m_before m_endA m_endB m_from m_queue m_ring m_ringSize m_ringNodes m_rings m_path m_pathSize m_old m_lastRing m_bestNodes m_bestInside m_bestFits m_far m_xs m_ys) sz)) 0 0 (va_A (wX8 cA a_m m_s m_past m_pasts m_text m_typed m_faceOfSide m_firstSide m_faces m_before m_endA m_endB m_from m_queue m_ring m_ringSize m_ringNodes m_rings m_path m_pathSize m_old m_lastRing m_bestNodes m_bestInside m_bestFits m_far m_xs m_ys) sz) := by
  refine mkW (QQ := fun A => va_Qi (fun r (_ : Unit) => r = ρ.1) (fun _ t => va_P D vwCl (wX8 cA a_m ρ.2.1 ρ.2.2.1 ρ.2.2.2.1 m_text m_typed ρ.2.2.2.2.1 ρ.2.2.2.2.2.1 ρ.2.2.2.2.2.2 m_before m_endA m_endB m_from m_queue m_ring m_ringSize m_ringNodes m_rings m_path m_pathSize m_old m_lastRing m_bestNodes m_bestInside m_bestFits m_far m_xs m_ys) t.heap ∧ va_D A (wX8 cA a_m ρ.2.1 ρ.2.2.1 ρ.2.2.2.1 m_text m_typed ρ.2.2.2.2.1 ρ.2.2.2.2.2.1 ρ.2.2.2.2.2.2 m_before m_endA m_endB m_from m_queue m_ring m_ringSize m_ringNodes m_rings m_path m_pathSize m_old m_lastRing m_bestNodes m_bestInside m_bestFits m_far m_xs m_ys)) A) (by decide) (Nat.le_of_ble_eq_true rfl) fun p e s m below meth c ls A C hl hP hK hD hA hS => ?_
  obtain ⟨hx, hb, hml, hown, hT, hr, hlk⟩ := id C
  have hl : lv_has ls 5 [(0, .ref (a_m 0))] := hl
  have B99 : ∀ (m_s : Nat → Int32) (m_past : Nat → Int32) (m_pasts : Int32) (m_faceOfSide : Nat → Int32) (m_firstSide : Nat → Int32) (m_faces : Int32) (H : Heap) (locs : List Loc) (ls : Array Slot), lv_has ls 5 [(0, .ref (a_m 0))] → va_P D vwCl (wX8 cA a_m m_s m_past m_pasts m_text m_typed m_faceOfSide m_firstSide m_faces m_before m_endA m_endB m_from m_queue m_ring m_ringSize m_ringNodes m_rings m_path m_pathSize m_old m_lastRing m_bestNodes m_bestInside m_bestFits m_far m_xs m_ys) H → va_D A (wX8 cA a_m m_s m_past m_pasts m_text m_typed m_faceOfSide m_firstSide m_faces m_before m_endA m_endB m_from m_queue m_ring m_ringSize m_ringNodes m_rings m_path m_pathSize m_old m_lastRing m_bestNodes m_bestInside m_bestFits m_far m_xs m_ys) → va_S A s.heap H locs → f_X8_mirror_b99 N m_s m_past m_pasts m_faceOfSide m_firstSide m_faces = some ρ → W p l e ({ frames := 4, cells := 0, slots := 0, locals := 91 } : Room) s m ([.ref (a_m 0)] : List Value).toArray below meth c H locs 0 0 (MQ below (va_Qi (fun r (_ : Unit) => r = ρ.1) (fun _ t => va_P D vwCl (wX8 cA a_m ρ.2.1 ρ.2.2.1 ρ.2.2.2.1 m_text m_typed ρ.2.2.2.2.1 ρ.2.2.2.2.2.1 ρ.2.2.2.2.2.2 m_before m_endA m_endB m_from m_queue m_ring m_ringSize m_ringNodes m_rings m_path m_pathSize m_old m_lastRing m_bestNodes m_bestInside m_bestFits m_far m_xs m_ys) t.heap ∧ va_D A (wX8 cA a_m ρ.2.1 ρ.2.2.1 ρ.2.2.2.1 m_text m_typed ρ.2.2.2.2.1 ρ.2.2.2.2.2.1 ρ.2.2.2.2.2.2 m_before m_endA m_endB m_from m_queue m_ring m_ringSize m_ringNodes m_rings m_path m_pathSize m_old m_lastRing m_bestNodes m_bestInside m_bestFits m_far m_xs m_ys)) A) ([.ref (a_m 0)] : List Value).toArray s 0 0 A) (F0 m 99 ls []) := by
    intro m_s m_past m_pasts m_faceOfSide m_firstSide m_faces H locs ls hl hP hD hS hf
    refine lv_aload_n hx hb dX8_mirror_99 rfl (lv_at hl 0 rfl) ?_
    refine va_get (D := D) (ci := 8) (C := RX8) (T := TX8) (N := 27) hx hb hT kwX8 hown hK.1 hP 0 rfl rfl 0 (by decide) (hT _ kf_X8_7) (fun _ h9 => h9) rfl dX8_mirror_100 ?_
    refine lv_iconst (v := 2) hx hb dX8_mirror_103 (by decide) ?_
    refine lv_iconst (v := 0) hx hb dX8_mirror_104 (by decide) ?_
    obtain ⟨h_11, hf⟩ := chk_s hf
    refine va_iast hx hb hK.1 hP hD hS 1 0 rfl rfl (inb_in h_11) dX8_mirror_105 (fun H locs hP hD hS => ?_)
    have hP : va_P D vwCl (wX8 cA a_m (upd m_s (2 : Int32).toNatClampNeg 0) m_past m_pasts m_text m_typed m_faceOfSide m_firstSide m_faces m_before m_endA m_endB m_from m_queue m_ring m_ringSize m_ringNodes m_rings m_path m_pathSize m_old m_lastRing m_bestNodes m_bestInside m_bestFits m_far m_xs m_ys) H := hP
    have hD : va_D A (wX8 cA a_m (upd m_s (2 : Int32).toNatClampNeg 0) m_past m_pasts m_text m_typed m_faceOfSide m_firstSide m_faces m_before m_endA m_endB m_from m_queue m_ring m_ringSize m_ringNodes m_rings m_path m_pathSize m_old m_lastRing m_bestNodes m_bestInside m_bestFits m_far m_xs m_ys) := hD
    refine lv_aload_n hx hb dX8_mirror_106 rfl (lv_at hl 0 rfl) ?_
    obtain ⟨r_12, hcr_12, hf⟩ := bd1_s hf
    refine backWv (w2 := (wX8 cA a_m (upd m_s (2 : Int32).toNatClampNeg 0) m_past m_pasts m_text m_typed r_12.1 r_12.2.1 r_12.2.2 m_before m_endA m_endB m_from m_queue m_ring m_ringSize m_ringNodes m_rings m_path m_pathSize m_old m_lastRing m_bestNodes m_bestInside m_bestFits m_far m_xs m_ys)) (runVw C (c_X8_walks l D cA a_m (upd m_s (2 : Int32).toNatClampNeg 0) m_past m_pasts m_text m_typed m_faceOfSide m_firstSide m_faces m_before m_endA m_endB m_from m_queue m_ring m_ringSize m_ringNodes m_rings m_path m_pathSize m_old m_lastRing m_bestNodes m_bestInside m_bestFits m_far m_xs m_ys _ N r_12 hcr_12) cf_X8_walks km_X8_117 ⟨rfl, rfl, by decide, by decide⟩ ⟨Nat.zero_le _, Nat.zero_le _⟩ (va_recv hK.1 hP (ci := 8) (q0 := 0) rfl rfl) (hP.sub [0, 1, 2, 3, 4, 5, 6, 7, 8, 9, 10, 11, 12, 13, 14, 15, 16, 17, 18] rfl) (hD.sub [0, 1, 2, 3, 4, 5, 6, 7, 8, 9, 10, 11, 12, 13, 14, 15, 16, 17, 18] rfl rfl) hK hl.1 rfl rfl (Nat.le_of_ble_eq_true rfl) dX8_mirror_107) hP hD hS hA [0, 1, 2, 3, 4, 5, 6, 7, 8, 9, 10, 11, 12, 13, 14, 15, 16, 17, 18] rfl [] rfl rfl (by decide) [0, 1, 2, 3, 4, 5, 6, 7, 8, 9, 10, 11, 12, 13, 14, 15, 16, 17, 18] rfl rfl (fun H locs hP hD hS => ?_)
    refine lv_aload_n hx hb dX8_mirror_110 rfl (lv_at hl 0 rfl) ?_
    refine va_get (D := D) (ci := 8) (C := RX8) (T := TX8) (N := 27) hx hb hT kwX8 hown hK.1 hP 0 rfl rfl 7 (by decide) (hT _ kf_X8_120) (fun _ h9 => h9) rfl dX8_mirror_111 ?_
    have eR := some_i hf
    exact W.iret hx hb hr (fun t ht hW => ⟨⟨r_12.2.2, (), rfl, fst_e eR, by rw [← eR, ht]; exact hP, by rw [← eR]; exact hD⟩, hS.F ht⟩) hS.2.2 dX8_mirror_114 (hlocks := hlk)
  have B6 : ∀ (n6 : Nat), ∀ (x1 : Int32) (m_s : Nat → Int32) (m_past : Nat → Int32) (m_pasts : Int32) (m_faceOfSide : Nat → Int32) (m_firstSide : Nat → Int32) (m_faces : Int32) (H : Heap) (locs : List Loc) (ls : Array Slot), lv_has ls 5 [(0, .ref (a_m 0)), (1, .int x1)] → va_P D vwCl (wX8 cA a_m m_s m_past m_pasts m_text m_typed m_faceOfSide m_firstSide m_faces m_before m_endA m_endB m_from m_queue m_ring m_ringSize m_ringNodes m_rings m_path m_pathSize m_old m_lastRing m_bestNodes m_bestInside m_bestFits m_far m_xs m_ys) H → va_D A (wX8 cA a_m m_s m_past m_pasts m_text m_typed m_faceOfSide m_firstSide m_faces m_before m_endA m_endB m_from m_queue m_ring m_ringSize m_ringNodes m_rings m_path m_pathSize m_old m_lastRing m_bestNodes m_bestInside m_bestFits m_far m_xs m_ys) → va_S A s.heap H locs → f_X8_mirror_b6 N n6 x1 m_s m_past m_pasts m_faceOfSide m_firstSide m_faces = some ρ → W p l e ({ frames := 4, cells := 0, slots := 0, locals := 91 } : Room) s m ([.ref (a_m 0)] : List Value).toArray below meth c H locs 0 0 (MQ below (va_Qi (fun r (_ : Unit) => r = ρ.1) (fun _ t => va_P D vwCl (wX8 cA a_m ρ.2.1 ρ.2.2.1 ρ.2.2.2.1 m_text m_typed ρ.2.2.2.2.1 ρ.2.2.2.2.2.1 ρ.2.2.2.2.2.2 m_before m_endA m_endB m_from m_queue m_ring m_ringSize m_ringNodes m_rings m_path m_pathSize m_old m_lastRing m_bestNodes m_bestInside m_bestFits m_far m_xs m_ys) t.heap ∧ va_D A (wX8 cA a_m ρ.2.1 ρ.2.2.1 ρ.2.2.2.1 m_text m_typed ρ.2.2.2.2.1 ρ.2.2.2.2.2.1 ρ.2.2.2.2.2.2 m_before m_endA m_endB m_from m_queue m_ring m_ringSize m_ringNodes m_rings m_path m_pathSize m_old m_lastRing m_bestNodes m_bestInside m_bestFits m_far m_xs m_ys)) A) ([.ref (a_m 0)] : List Value).toArray s 0 0 A) (F0 m 6 ls []) := by
    intro n6
    induction n6 with
    | zero =>
      intro x1 m_s m_past m_pasts m_faceOfSide m_firstSide m_faces H locs ls hl hP hD hS hf
      cases (show (none : Option (Int32 × (Nat → Int32) × (Nat → Int32) × Int32 × (Nat → Int32) × (Nat → Int32) × Int32)) = some ρ from hf)
    | succ n6 ih6 =>
      have B93 : ∀ (x1 : Int32) (m_s : Nat → Int32) (m_past : Nat → Int32) (m_pasts : Int32) (m_faceOfSide : Nat → Int32) (m_firstSide : Nat → Int32) (m_faces : Int32) (H : Heap) (locs : List Loc) (ls : Array Slot), lv_has ls 5 [(0, .ref (a_m 0)), (1, .int x1)] → va_P D vwCl (wX8 cA a_m m_s m_past m_pasts m_text m_typed m_faceOfSide m_firstSide m_faces m_before m_endA m_endB m_from m_queue m_ring m_ringSize m_ringNodes m_rings m_path m_pathSize m_old m_lastRing m_bestNodes m_bestInside m_bestFits m_far m_xs m_ys) H → va_D A (wX8 cA a_m m_s m_past m_pasts m_text m_typed m_faceOfSide m_firstSide m_faces m_before m_endA m_endB m_from m_queue m_ring m_ringSize m_ringNodes m_rings m_path m_pathSize m_old m_lastRing m_bestNodes m_bestInside m_bestFits m_far m_xs m_ys) → va_S A s.heap H locs → f_X8_mirror_b93 N (f_X8_mirror_b6 N n6) x1 m_s m_past m_pasts m_faceOfSide m_firstSide m_faces = some ρ → W p l e ({ frames := 4, cells := 0, slots := 0, locals := 91 } : Room) s m ([.ref (a_m 0)] : List Value).toArray below meth c H locs 0 0 (MQ below (va_Qi (fun r (_ : Unit) => r = ρ.1) (fun _ t => va_P D vwCl (wX8 cA a_m ρ.2.1 ρ.2.2.1 ρ.2.2.2.1 m_text m_typed ρ.2.2.2.2.1 ρ.2.2.2.2.2.1 ρ.2.2.2.2.2.2 m_before m_endA m_endB m_from m_queue m_ring m_ringSize m_ringNodes m_rings m_path m_pathSize m_old m_lastRing m_bestNodes m_bestInside m_bestFits m_far m_xs m_ys) t.heap ∧ va_D A (wX8 cA a_m ρ.2.1 ρ.2.2.1 ρ.2.2.2.1 m_text m_typed ρ.2.2.2.2.1 ρ.2.2.2.2.2.1 ρ.2.2.2.2.2.2 m_before m_endA m_endB m_from m_queue m_ring m_ringSize m_ringNodes m_rings m_path m_pathSize m_old m_lastRing m_bestNodes m_bestInside m_bestFits m_far m_xs m_ys)) A) ([.ref (a_m 0)] : List Value).toArray s 0 0 A) (F0 m 93 ls []) := by
        intro x1 m_s m_past m_pasts m_faceOfSide m_firstSide m_faces H locs ls hl hP hD hS hf
        refine lv_iinc (v := (x1 + 1)) (lv' := [(1, .int (x1 + 1)), (0, .ref (a_m 0))]) hx hb dX8_mirror_93 hl (k := 1) rfl rfl (by decide) rfl (fun ls hl => ?_)
        refine lv_goto (tgt := 6) hx hb dX8_mirror_96 (by decide) ?_
        exact ih6 (x1 + 1) m_s m_past m_pasts m_faceOfSide m_firstSide m_faces _ _ _ (lv_sub hl [1, 0] rfl) hP hD hS hf
      have B28 : ∀ (n28 : Nat), ∀ (x1 : Int32) (x2 : Int32) (x3 : Int32) (m_s : Nat → Int32) (m_past : Nat → Int32) (m_pasts : Int32) (m_faceOfSide : Nat → Int32) (m_firstSide : Nat → Int32) (m_faces : Int32) (H : Heap) (locs : List Loc) (ls : Array Slot), lv_has ls 5 [(0, .ref (a_m 0)), (1, .int x1), (2, .int x2), (3, .int x3)] → va_P D vwCl (wX8 cA a_m m_s m_past m_pasts m_text m_typed m_faceOfSide m_firstSide m_faces m_before m_endA m_endB m_from m_queue m_ring m_ringSize m_ringNodes m_rings m_path m_pathSize m_old m_lastRing m_bestNodes m_bestInside m_bestFits m_far m_xs m_ys) H → va_D A (wX8 cA a_m m_s m_past m_pasts m_text m_typed m_faceOfSide m_firstSide m_faces m_before m_endA m_endB m_from m_queue m_ring m_ringSize m_ringNodes m_rings m_path m_pathSize m_old m_lastRing m_bestNodes m_bestInside m_bestFits m_far m_xs m_ys) → va_S A s.heap H locs → f_X8_mirror_b28 N (f_X8_mirror_b6 N n6) n28 x1 x2 x3 m_s m_past m_pasts m_faceOfSide m_firstSide m_faces = some ρ → W p l e ({ frames := 4, cells := 0, slots := 0, locals := 91 } : Room) s m ([.ref (a_m 0)] : List Value).toArray below meth c H locs 0 0 (MQ below (va_Qi (fun r (_ : Unit) => r = ρ.1) (fun _ t => va_P D vwCl (wX8 cA a_m ρ.2.1 ρ.2.2.1 ρ.2.2.2.1 m_text m_typed ρ.2.2.2.2.1 ρ.2.2.2.2.2.1 ρ.2.2.2.2.2.2 m_before m_endA m_endB m_from m_queue m_ring m_ringSize m_ringNodes m_rings m_path m_pathSize m_old m_lastRing m_bestNodes m_bestInside m_bestFits m_far m_xs m_ys) t.heap ∧ va_D A (wX8 cA a_m ρ.2.1 ρ.2.2.1 ρ.2.2.2.1 m_text m_typed ρ.2.2.2.2.1 ρ.2.2.2.2.2.1 ρ.2.2.2.2.2.2 m_before m_endA m_endB m_from m_queue m_ring m_ringSize m_ringNodes m_rings m_path m_pathSize m_old m_lastRing m_bestNodes m_bestInside m_bestFits m_far m_xs m_ys)) A) ([.ref (a_m 0)] : List Value).toArray s 0 0 A) (F0 m 28 ls []) := by
        intro n28
        induction n28 with
        | zero =>
          intro x1 x2 x3 m_s m_past m_pasts m_faceOfSide m_firstSide m_faces H locs ls hl hP hD hS hf
          cases (show (none : Option (Int32 × (Nat → Int32) × (Nat → Int32) × Int32 × (Nat → Int32) × (Nat → Int32) × Int32)) = some ρ from hf)
        | succ n28 ih28 =>
          intro x1 x2 x3 m_s m_past m_pasts m_faceOfSide m_firstSide m_faces H locs ls hl hP hD hS hf
          refine lv_iload_n hx hb dX8_mirror_28 rfl (lv_at hl 3 rfl) ?_
          refine lv_iload_n hx hb dX8_mirror_29 rfl (lv_at hl 2 rfl) ?_
          refine lv_iconst (v := 2) hx hb dX8_mirror_30 (by decide) ?_
          refine lv_idiv hx hb dX8_mirror_31 (by decide) ?_
          refine lv_icmp_ge (tgt := 93) hx hb dX8_mirror_32 (by decide) (fun c_6 => ?_) (fun c_6 => ?_)
          · have hf := ite_t c_6 hf
            exact B93 x1 m_s m_past m_pasts m_faceOfSide m_firstSide m_faces _ _ _ (lv_sub hl [0, 1] rfl) hP hD hS hf
          · have hf := ite_f c_6 hf
            refine lv_aload_n hx hb dX8_mirror_35 rfl (lv_at hl 0 rfl) ?_
            refine lv_iload_n hx hb dX8_mirror_36 rfl (lv_at hl 1 rfl) ?_
            refine lv_iload_n hx hb dX8_mirror_37 rfl (lv_at hl 3 rfl) ?_
            obtain ⟨r_7, hcr_7, hf⟩ := bd1_s hf
            refine backI (runV0 C (c_X8_turn l D cA a_m m_s m_past m_pasts m_text m_typed m_faceOfSide m_firstSide m_faces m_before m_endA m_endB m_from m_queue m_ring m_ringSize m_ringNodes m_rings m_path m_pathSize m_old m_lastRing m_bestNodes m_bestInside m_bestFits m_far m_xs m_ys x1 x3 N r_7 hcr_7) cf_X8_turn km_X8_78 ⟨rfl, rfl, by decide, by decide⟩ ⟨Nat.zero_le _, Nat.zero_le _⟩ (va_recv hK.1 hP (ci := 8) (q0 := 0) rfl rfl) (hP.sub [0, 1, 2, 3, 4, 5, 6, 7, 8, 9, 10, 11, 12, 13, 14, 15, 16, 17, 18] rfl) hK hl.1 rfl rfl (Nat.le_of_ble_eq_true rfl) dX8_mirror_38) ?_
            refine lv_istore (lv' := [(4, .int r_7), (0, .ref (a_m 0)), (1, .int x1), (2, .int x2), (3, .int x3)]) hx hb dX8_mirror_41 hl (by decide) rfl (fun ls hl => ?_)
            refine lv_aload_n hx hb dX8_mirror_43 rfl (lv_at hl 1 rfl) ?_
            refine va_get (D := D) (ci := 8) (C := RX8) (T := TX8) (N := 27) hx hb hT kwX8 hown hK.1 hP 0 rfl rfl 0 (by decide) (hT _ kf_X8_7) (fun _ h9 => h9) rfl dX8_mirror_44 ?_
            refine lv_bipush (v := 52) hx hb dX8_mirror_47 (by decide) ?_
            refine lv_bipush (v := 8) hx hb dX8_mirror_49 (by decide) ?_
            refine lv_iload_n hx hb dX8_mirror_51 rfl (lv_at hl 2 rfl) ?_
            refine lv_imul hx hb dX8_mirror_52 ?_
            refine lv_iadd hx hb dX8_mirror_53 ?_
            refine lv_iload_n hx hb dX8_mirror_54 rfl (lv_at hl 4 rfl) ?_
            refine lv_iadd hx hb dX8_mirror_55 ?_
            refine lv_aload_n hx hb dX8_mirror_56 rfl (lv_at hl 1 rfl) ?_
            refine lv_iload_n hx hb dX8_mirror_57 rfl (lv_at hl 2 rfl) ?_
            refine lv_iload_n hx hb dX8_mirror_58 rfl (lv_at hl 3 rfl) ?_
            refine lv_iconst (v := 1) hx hb dX8_mirror_59 (by decide) ?_
            refine lv_isub hx hb dX8_mirror_60 ?_
            refine lv_iload_n hx hb dX8_mirror_61 rfl (lv_at hl 4 rfl) ?_
            refine lv_isub hx hb dX8_mirror_62 ?_
            obtain ⟨r_8, hcr_8, hf⟩ := bd1_s hf
            refine backI (runV0 C (c_X8_turn l D cA a_m m_s m_past m_pasts m_text m_typed m_faceOfSide m_firstSide m_faces m_before m_endA m_endB m_from m_queue m_ring m_ringSize m_ringNodes m_rings m_path m_pathSize m_old m_lastRing m_bestNodes m_bestInside m_bestFits m_far m_xs m_ys x1 ((x2 - 1) - x3) N r_8 hcr_8) cf_X8_turn km_X8_78 ⟨rfl, rfl, by decide, by decide⟩ ⟨Nat.zero_le _, Nat.zero_le _⟩ (va_recv hK.1 hP (ci := 8) (q0 := 0) rfl rfl) (hP.sub [0, 1, 2, 3, 4, 5, 6, 7, 8, 9, 10, 11, 12, 13, 14, 15, 16, 17, 18] rfl) hK hl.1 rfl rfl (Nat.le_of_ble_eq_true rfl) dX8_mirror_63) ?_
            obtain ⟨h_9, hf⟩ := chk_s hf
            refine va_iast hx hb hK.1 hP hD hS 1 0 rfl rfl (inb_in h_9) dX8_mirror_66 (fun H locs hP hD hS => ?_)
            have hP : va_P D vwCl (wX8 cA a_m (upd m_s ((52 + (8 * x1)) + x3).toNatClampNeg r_8) m_past m_pasts m_text m_typed m_faceOfSide m_firstSide m_faces m_before m_endA m_endB m_from m_queue m_ring m_ringSize m_ringNodes m_rings m_path m_pathSize m_old m_lastRing m_bestNodes m_bestInside m_bestFits m_far m_xs m_ys) H := hP
            have hD : va_D A (wX8 cA a_m (upd m_s ((52 + (8 * x1)) + x3).toNatClampNeg r_8) m_past m_pasts m_text m_typed m_faceOfSide m_firstSide m_faces m_before m_endA m_endB m_from m_queue m_ring m_ringSize m_ringNodes m_rings m_path m_pathSize m_old m_lastRing m_bestNodes m_bestInside m_bestFits m_far m_xs m_ys) := hD
            refine lv_aload_n hx hb dX8_mirror_67 rfl (lv_at hl 1 rfl) ?_
            refine va_get (D := D) (ci := 8) (C := RX8) (T := TX8) (N := 27) hx hb hT kwX8 hown hK.1 hP 0 rfl rfl 0 (by decide) (hT _ kf_X8_7) (fun _ h9 => h9) rfl dX8_mirror_68 ?_
            refine lv_bipush (v := 52) hx hb dX8_mirror_71 (by decide) ?_
            refine lv_bipush (v := 8) hx hb dX8_mirror_73 (by decide) ?_
            refine lv_iload_n hx hb dX8_mirror_75 rfl (lv_at hl 2 rfl) ?_
            refine lv_imul hx hb dX8_mirror_76 ?_
            refine lv_iadd hx hb dX8_mirror_77 ?_
            refine lv_iload_n hx hb dX8_mirror_78 rfl (lv_at hl 3 rfl) ?_
            refine lv_iadd hx hb dX8_mirror_79 ?_
            refine lv_iconst (v := 1) hx hb dX8_mirror_80 (by decide) ?_
            refine lv_isub hx hb dX8_mirror_81 ?_
            refine lv_iload_n hx hb dX8_mirror_82 rfl (lv_at hl 4 rfl) ?_
            refine lv_isub hx hb dX8_mirror_83 ?_
            refine lv_iload hx hb dX8_mirror_84 (lv_at hl 0 rfl) ?_
            obtain ⟨h_10, hf⟩ := chk_s hf
            refine va_iast hx hb hK.1 hP hD hS 1 0 rfl rfl (inb_in h_10) dX8_mirror_86 (fun H locs hP hD hS => ?_)
            have hP : va_P D vwCl (wX8 cA a_m (upd (upd m_s ((52 + (8 * x1)) + x3).toNatClampNeg r_8) ((((52 + (8 * x1)) + x2) - 1) - x3).toNatClampNeg r_7) m_past m_pasts m_text m_typed m_faceOfSide m_firstSide m_faces m_before m_endA m_endB m_from m_queue m_ring m_ringSize m_ringNodes m_rings m_path m_pathSize m_old m_lastRing m_bestNodes m_bestInside m_bestFits m_far m_xs m_ys) H := hP
            have hD : va_D A (wX8 cA a_m (upd (upd m_s ((52 + (8 * x1)) + x3).toNatClampNeg r_8) ((((52 + (8 * x1)) + x2) - 1) - x3).toNatClampNeg r_7) m_past m_pasts m_text m_typed m_faceOfSide m_firstSide m_faces m_before m_endA m_endB m_from m_queue m_ring m_ringSize m_ringNodes m_rings m_path m_pathSize m_old m_lastRing m_bestNodes m_bestInside m_bestFits m_far m_xs m_ys) := hD
            refine lv_iinc (v := (x3 + 1)) (lv' := [(3, .int (x3 + 1)), (4, .int r_7), (0, .ref (a_m 0)), (1, .int x1), (2, .int x2)]) hx hb dX8_mirror_87 hl (k := 4) rfl rfl (by decide) rfl (fun ls hl => ?_)
            refine lv_goto (tgt := 28) hx hb dX8_mirror_90 (by decide) ?_
            exact ih28 x1 x2 (x3 + 1) (upd (upd m_s ((52 + (8 * x1)) + x3).toNatClampNeg r_8) ((((52 + (8 * x1)) + x2) - 1) - x3).toNatClampNeg r_7) m_past m_pasts m_faceOfSide m_firstSide m_faces _ _ _ (lv_sub hl [2, 3, 4, 0] rfl) hP hD hS hf
      intro x1 m_s m_past m_pasts m_faceOfSide m_firstSide m_faces H locs ls hl hP hD hS hf
      refine lv_iload_n hx hb dX8_mirror_6 rfl (lv_at hl 1 rfl) ?_
      refine lv_aload_n hx hb dX8_mirror_7 rfl (lv_at hl 0 rfl) ?_
      refine va_get (D := D) (ci := 8) (C := RX8) (T := TX8) (N := 27) hx hb hT kwX8 hown hK.1 hP 0 rfl rfl 0 (by decide) (hT _ kf_X8_7) (fun _ h9 => h9) rfl dX8_mirror_8 ?_
      refine lv_iconst (v := 0) hx hb dX8_mirror_11 (by decide) ?_
      obtain ⟨h_2, hf⟩ := chk_s hf
      refine va_iald hx hb hK.1 hP 1 0 rfl rfl (inb_in h_2) dX8_mirror_12 ?_
      refine lv_icmp_ge (tgt := 99) hx hb dX8_mirror_13 (by decide) (fun c_3 => ?_) (fun c_3 => ?_)
      · have hf := ite_t c_3 hf
        exact B99 m_s m_past m_pasts m_faceOfSide m_firstSide m_faces _ _ _ (lv_sub hl [0] rfl) hP hD hS hf
      · have hf := ite_f c_3 hf
        refine lv_aload_n hx hb dX8_mirror_16 rfl (lv_at hl 0 rfl) ?_
        refine va_get (D := D) (ci := 8) (C := RX8) (T := TX8) (N := 27) hx hb hT kwX8 hown hK.1 hP 0 rfl rfl 0 (by decide) (hT _ kf_X8_7) (fun _ h9 => h9) rfl dX8_mirror_17 ?_
        refine lv_bipush (v := 43) hx hb dX8_mirror_20 (by decide) ?_
        refine lv_iload_n hx hb dX8_mirror_22 rfl (lv_at hl 1 rfl) ?_
        refine lv_iadd hx hb dX8_mirror_23 ?_
        obtain ⟨h_4, hf⟩ := chk_s hf
        refine va_iald hx hb hK.1 hP 1 0 rfl rfl (inb_in h_4) dX8_mirror_24 ?_
        refine lv_topi (fun x2_5 ex2_5 => ?_)
        have hf := nm_t ex2_5 hf
        refine lv_istore_n (lv' := [(2, .int x2_5), (0, .ref (a_m 0)), (1, .int x1)]) hx hb dX8_mirror_25 rfl hl (by decide) rfl (fun ls hl => ?_)
        refine lv_iconst (v := 0) hx hb dX8_mirror_26 (by decide) ?_
        refine lv_istore_n (lv' := [(3, .int 0), (2, .int x2_5), (0, .ref (a_m 0)), (1, .int x1)]) hx hb dX8_mirror_27 rfl hl (by decide) rfl (fun ls hl => ?_)
        exact B28 N x1 x2_5 0 m_s m_past m_pasts m_faceOfSide m_firstSide m_faces _ _ _ (lv_sub hl [2, 3, 1, 0] rfl) hP hD hS hf
  refine lv_aload_n hx hb dX8_mirror_0 rfl (lv_at hl 0 rfl) ?_
  obtain ⟨r_1, hcr_1, hf⟩ := bd1_s hf
  refine backWv (w2 := (wX8 cA a_m m_s r_1.1 r_1.2 m_text m_typed m_faceOfSide m_firstSide m_faces m_before m_endA m_endB m_from m_queue m_ring m_ringSize m_ringNodes m_rings m_path m_pathSize m_old m_lastRing m_bestNodes m_bestInside m_bestFits m_far m_xs m_ys)) (runVw C (c_X8_notes l D cA a_m m_s m_past m_pasts m_text m_typed m_faceOfSide m_firstSide m_faces m_before m_endA m_endB m_from m_queue m_ring m_ringSize m_ringNodes m_rings m_path m_pathSize m_old m_lastRing m_bestNodes m_bestInside m_bestFits m_far m_xs m_ys _ N r_1 hcr_1) cf_X8_notes km_X8_90 ⟨rfl, rfl, by decide, by decide⟩ ⟨Nat.zero_le _, Nat.zero_le _⟩ (va_recv hK.1 hP (ci := 8) (q0 := 0) rfl rfl) (hP.sub [0, 1, 2, 3, 4, 5, 6, 7, 8, 9, 10, 11, 12, 13, 14, 15, 16, 17, 18] rfl) (hD.sub [0, 1, 2, 3, 4, 5, 6, 7, 8, 9, 10, 11, 12, 13, 14, 15, 16, 17, 18] rfl rfl) hK hl.1 rfl rfl (Nat.le_of_ble_eq_true rfl) dX8_mirror_1) hP hD hS hA [0, 1, 2, 3, 4, 5, 6, 7, 8, 9, 10, 11, 12, 13, 14, 15, 16, 17, 18] rfl [] rfl rfl (by decide) [0, 1, 2, 3, 4, 5, 6, 7, 8, 9, 10, 11, 12, 13, 14, 15, 16, 17, 18] rfl rfl (fun H locs hP hD hS => ?_)
  refine lv_iconst (v := 0) hx hb dX8_mirror_4 (by decide) ?_
  refine lv_istore_n (lv' := [(1, .int 0), (0, .ref (a_m 0))]) hx hb dX8_mirror_5 rfl hl (by decide) rfl (fun ls hl => ?_)
  exact B6 N 0 m_s r_1.1 r_1.2 m_faceOfSide m_firstSide m_faces _ _ _ (lv_sub hl [1, 0] rfl) hP hD hS hf
set_option maxRecDepth 100000 in
set_option maxHeartbeats 4000000 in
theorem c_X8_obstruction (l : Launch) (D : va_G) (cA : Nat → ClassId) (a_m : Nat → Nat) (m_s : Nat → Int32) (m_past : Nat → Int32) (m_pasts : Int32) (m_text : Nat → Int32) (m_typed : Int32) (m_faceOfSide : Nat → Int32) (m_firstSide : Nat → Int32) (m_faces : Int32) (m_before : Nat → Int32) (m_endA : Nat → Int32) (m_endB : Nat → Int32) (m_from : Nat → Int32) (m_queue : Nat → Int32) (m_ring : Nat → Int32) (m_ringSize : Nat → Int32) (m_ringNodes : Nat → Int32) (m_rings : Int32) (m_path : Nat → Int32) (m_pathSize : Int32) (m_old : Nat → Int32) (m_lastRing : Int32) (m_bestNodes : Int32) (m_bestInside : Int32) (m_bestFits : Int32) (m_far : Nat → Int32) (m_xs : Nat → UInt32) (m_ys : Nat → UInt32) (sz N : Nat) (ρ : Int32 × (Nat → Int32) × (Nat → Int32) × (Nat → Int32) × (Nat → Int32) × (Nat → Int32) × (Nat → Int32) × (Nat → Int32) × Int32 × (Nat → Int32) × Int32 × (Nat → Int32) × Int32 × Int32 × Int32 × Int32) (hf : f_X8_obstruction N m_s m_endA m_endB m_from m_queue m_ring m_ringSize m_ringNodes m_rings m_path m_pathSize m_old m_lastRing m_bestNodes m_bestInside m_bestFits = some ρ) : Met l yX8_obstruction (Cond.code yX8_obstruction cX8_obstruction 1 (Option.some Jvm.ClassFile.FieldType.int) :: lw_g) ({ frames := 6, cells := 0, slots := 0, locals := 154 } : Room) (PcW D (tyA cA) (wX8 cA a_m m_s m_past m_pasts m_text m_typed m_faceOfSide m_firstSide m_faces m_before m_endA m_endB m_from m_queue m_ring m_ringSize m_ringNodes m_rings m_path m_pathSize m_old m_lastRing m_bestNodes m_bestInside m_bestFits m_far m_xs m_ys) sz [.ref (a_m 0)]) (va_Qi (fun r (_ : Unit) => r = ρ.1) (fun _ t => va_P D vwCl (wX8 cA a_m m_s m_past m_pasts m_text m_typed m_faceOfSide m_firstSide m_faces m_before ρ.2.1 ρ.2.2.1 ρ.2.2.2.1 ρ.2.2.2.2.1 ρ.2.2.2.2.2.1 ρ.2.2.2.2.2.2.1 ρ.2.2.2.2.2.2.2.1 ρ.2.2.2.2.2.2.2.2.1 ρ.2.2.2.2.2.2.2.2.2.1 ρ.2.2.2.2.2.2.2.2.2.2.1 ρ.2.2.2.2.2.2.2.2.2.2.2.1 ρ.2.2.2.2.2.2.2.2.2.2.2.2.1 ρ.2.2.2.2.2.2.2.2.2.2.2.2.2.1 ρ.2.2.2.2.2.2.2.2.2.2.2.2.2.2.1 ρ.2.2.2.2.2.2.2.2.2.2.2.2.2.2.2 m_far m_xs m_ys) t.heap ∧ va_D (va_A (wX8 cA a_m m_s m_past m_pasts m_text m_typed m_faceOfSide m_firstSide m_faces m_before m_endA m_endB m_from m_queue m_ring m_ringSize m_ringNodes m_rings m_path m_pathSize m_old m_lastRing m_bestNodes m_bestInside m_bestFits m_far m_xs m_ys) sz) (wX8 cA a_m m_s m_past m_pasts m_text m_typed m_faceOfSide m_firstSide m_faces m_before ρ.2.1 ρ.2.2.1 ρ.2.2.2.1 ρ.2.2.2.2.1 ρ.2.2.2.2.2.1 ρ.2.2.2.2.2.2.1 ρ.2.2.2.2.2.2.2.1 ρ.2.2.2.2.2.2.2.2.1 ρ.2.2.2.2.2.2.2.2.2.1 ρ.2.2.2.2.2.2.2.2.2.2.1 ρ.2.2.2.2.2.2.2.2.2.2.2.1 ρ.2.2.2.2.2.2.2.2.2.2.2.2.1 ρ.2.2.2.2.2.2.2.2.2.2.2.2.2.1 ρ.2.2.2.2.2.2.2.2.2.2.2.2.2.2.1 ρ.2.2.2.2.2.2.2.2.2.2.2.2.2.2.2 m_far m_xs m_ys)) (va_A (wX8 cA a_m m_s m_past m_pasts m_text m_typed m_faceOfSide m_firstSide m_faces m_before m_endA m_endB m_from m_queue m_ring m_ringSize m_ringNodes m_rings m_path m_pathSize m_old m_lastRing m_bestNodes m_bestInside m_bestFits m_far m_xs m_ys) sz)) 0 0 (va_A (wX8 cA a_m m_s m_past m_pasts m_text m_typed m_faceOfSide m_firstSide m_faces m_before m_endA m_endB m_from m_queue m_ring m_ringSize m_ringNodes m_rings m_path m_pathSize m_old m_lastRing m_bestNodes m_bestInside m_bestFits m_far m_xs m_ys) sz) := by
  refine mkW (QQ := fun A => va_Qi (fun r (_ : Unit) => r = ρ.1) (fun _ t => va_P D vwCl (wX8 cA a_m m_s m_past m_pasts m_text m_typed m_faceOfSide m_firstSide m_faces m_before ρ.2.1 ρ.2.2.1 ρ.2.2.2.1 ρ.2.2.2.2.1 ρ.2.2.2.2.2.1 ρ.2.2.2.2.2.2.1 ρ.2.2.2.2.2.2.2.1 ρ.2.2.2.2.2.2.2.2.1 ρ.2.2.2.2.2.2.2.2.2.1 ρ.2.2.2.2.2.2.2.2.2.2.1 ρ.2.2.2.2.2.2.2.2.2.2.2.1 ρ.2.2.2.2.2.2.2.2.2.2.2.2.1 ρ.2.2.2.2.2.2.2.2.2.2.2.2.2.1 ρ.2.2.2.2.2.2.2.2.2.2.2.2.2.2.1 ρ.2.2.2.2.2.2.2.2.2.2.2.2.2.2.2 m_far m_xs m_ys) t.heap ∧ va_D A (wX8 cA a_m m_s m_past m_pasts m_text m_typed m_faceOfSide m_firstSide m_faces m_before ρ.2.1 ρ.2.2.1 ρ.2.2.2.1 ρ.2.2.2.2.1 ρ.2.2.2.2.2.1 ρ.2.2.2.2.2.2.1 ρ.2.2.2.2.2.2.2.1 ρ.2.2.2.2.2.2.2.2.1 ρ.2.2.2.2.2.2.2.2.2.1 ρ.2.2.2.2.2.2.2.2.2.2.1 ρ.2.2.2.2.2.2.2.2.2.2.2.1 ρ.2.2.2.2.2.2.2.2.2.2.2.2.1 ρ.2.2.2.2.2.2.2.2.2.2.2.2.2.1 ρ.2.2.2.2.2.2.2.2.2.2.2.2.2.2.1 ρ.2.2.2.2.2.2.2.2.2.2.2.2.2.2.2 m_far m_xs m_ys)) A) (by decide) (Nat.le_of_ble_eq_true rfl) fun p e s m below meth c ls A C hl hP hK hD hA hS => ?_
  obtain ⟨hx, hb, hml, hown, hT, hr, hlk⟩ := id C
  have hl : lv_has ls 1 [(0, .ref (a_m 0))] := hl
  refine lv_aload_n hx hb dX8_obstruction_0 rfl (lv_at hl 0 rfl) ?_
  obtain ⟨r_1, hcr_1, hf⟩ := bd1_s hf
  refine backWi (w2 := (wX8 cA a_m m_s m_past m_pasts m_text m_typed m_faceOfSide m_firstSide m_faces m_before r_1.2.1 r_1.2.2.1 r_1.2.2.2.1 r_1.2.2.2.2.1 r_1.2.2.2.2.2.1 r_1.2.2.2.2.2.2.1 r_1.2.2.2.2.2.2.2.1 r_1.2.2.2.2.2.2.2.2.1 r_1.2.2.2.2.2.2.2.2.2.1 r_1.2.2.2.2.2.2.2.2.2.2.1 r_1.2.2.2.2.2.2.2.2.2.2.2.1 r_1.2.2.2.2.2.2.2.2.2.2.2.2.1 r_1.2.2.2.2.2.2.2.2.2.2.2.2.2.1 r_1.2.2.2.2.2.2.2.2.2.2.2.2.2.2.1 r_1.2.2.2.2.2.2.2.2.2.2.2.2.2.2.2 m_far m_xs m_ys)) (runVw C (c_X8_obstructed l D cA a_m m_s m_past m_pasts m_text m_typed m_faceOfSide m_firstSide m_faces m_before m_endA m_endB m_from m_queue m_ring m_ringSize m_ringNodes m_rings m_path m_pathSize m_old m_lastRing m_bestNodes m_bestInside m_bestFits m_far m_xs m_ys _ N r_1 hcr_1) cf_X8_obstructed km_X8_249 ⟨rfl, rfl, by decide, by decide⟩ ⟨Nat.zero_le _, Nat.zero_le _⟩ (va_recv hK.1 hP (ci := 8) (q0 := 0) rfl rfl) (hP.sub [0, 1, 2, 3, 4, 5, 6, 7, 8, 9, 10, 11, 12, 13, 14, 15, 16, 17, 18] rfl) (hD.sub [0, 1, 2, 3, 4, 5, 6, 7, 8, 9, 10, 11, 12, 13, 14, 15, 16, 17, 18] rfl rfl) hK hl.1 rfl rfl (Nat.le_of_ble_eq_true rfl) dX8_obstruction_1) hP hD hS hA [0, 1, 2, 3, 4, 5, 6, 7, 8, 9, 10, 11, 12, 13, 14, 15, 16, 17, 18] rfl [] rfl rfl (by decide) [0, 1, 2, 3, 4, 5, 6, 7, 8, 9, 10, 11, 12, 13, 14, 15, 16, 17, 18] rfl rfl (fun H locs hP hD hS => ?_)
  have eR := some_i hf
  exact W.iret hx hb hr (fun t ht hW => ⟨⟨r_1.1, (), rfl, fst_e eR, by rw [← eR, ht]; exact hP, by rw [← eR]; exact hD⟩, hS.F ht⟩) hS.2.2 dX8_obstruction_4 (hlocks := hlk)
set_option maxRecDepth 100000 in
set_option maxHeartbeats 4000000 in
theorem c_X8_position (l : Launch) (D : va_G) (cA : Nat → ClassId) (a_m : Nat → Nat) (m_s : Nat → Int32) (m_past : Nat → Int32) (m_pasts : Int32) (m_text : Nat → Int32) (m_typed : Int32) (m_faceOfSide : Nat → Int32) (m_firstSide : Nat → Int32) (m_faces : Int32) (m_before : Nat → Int32) (m_endA : Nat → Int32) (m_endB : Nat → Int32) (m_from : Nat → Int32) (m_queue : Nat → Int32) (m_ring : Nat → Int32) (m_ringSize : Nat → Int32) (m_ringNodes : Nat → Int32) (m_rings : Int32) (m_path : Nat → Int32) (m_pathSize : Int32) (m_old : Nat → Int32) (m_lastRing : Int32) (m_bestNodes : Int32) (m_bestInside : Int32) (m_bestFits : Int32) (m_far : Nat → Int32) (m_xs : Nat → UInt32) (m_ys : Nat → UInt32) (p1 : Int32) (p2 : Int32) (p3 : Int32) (sz N : Nat) (ρ : Int32 × (Nat → Int32) × (Nat → Int32) × Int32 × (Nat → UInt32) × (Nat → UInt32)) (hf : f_X8_position N m_s m_faceOfSide m_firstSide m_faces m_xs m_ys p1 p2 p3 = some ρ) : Met l yX8_position (Cond.code yX8_position cX8_position 4 (Option.some Jvm.ClassFile.FieldType.int) :: lw_g) ({ frames := 5, cells := 0, slots := 0, locals := 120 } : Room) (PcW D (tyA cA) (wX8 cA a_m m_s m_past m_pasts m_text m_typed m_faceOfSide m_firstSide m_faces m_before m_endA m_endB m_from m_queue m_ring m_ringSize m_ringNodes m_rings m_path m_pathSize m_old m_lastRing m_bestNodes m_bestInside m_bestFits m_far m_xs m_ys) sz [.ref (a_m 0), .int p1, .int p2, .int p3]) (va_Qi (fun r (_ : Unit) => r = ρ.1) (fun _ t => va_P D vwCl (wX8 cA a_m m_s m_past m_pasts m_text m_typed ρ.2.1 ρ.2.2.1 ρ.2.2.2.1 m_before m_endA m_endB m_from m_queue m_ring m_ringSize m_ringNodes m_rings m_path m_pathSize m_old m_lastRing m_bestNodes m_bestInside m_bestFits m_far ρ.2.2.2.2.1 ρ.2.2.2.2.2) t.heap ∧ va_D (va_A (wX8 cA a_m m_s m_past m_pasts m_text m_typed m_faceOfSide m_firstSide m_faces m_before m_endA m_endB m_from m_queue m_ring m_ringSize m_ringNodes m_rings m_path m_pathSize m_old m_lastRing m_bestNodes m_bestInside m_bestFits m_far m_xs m_ys) sz) (wX8 cA a_m m_s m_past m_pasts m_text m_typed ρ.2.1 ρ.2.2.1 ρ.2.2.2.1 m_before m_endA m_endB m_from m_queue m_ring m_ringSize m_ringNodes m_rings m_path m_pathSize m_old m_lastRing m_bestNodes m_bestInside m_bestFits m_far ρ.2.2.2.2.1 ρ.2.2.2.2.2)) (va_A (wX8 cA a_m m_s m_past m_pasts m_text m_typed m_faceOfSide m_firstSide m_faces m_before m_endA m_endB m_from m_queue m_ring m_ringSize m_ringNodes m_rings m_path m_pathSize m_old m_lastRing m_bestNodes m_bestInside m_bestFits m_far m_xs m_ys) sz)) 0 0 (va_A (wX8 cA a_m m_s m_past m_pasts m_text m_typed m_faceOfSide m_firstSide m_faces m_before m_endA m_endB m_from m_queue m_ring m_ringSize m_ringNodes m_rings m_path m_pathSize m_old m_lastRing m_bestNodes m_bestInside m_bestFits m_far m_xs m_ys) sz) := by
  refine mkW (QQ := fun A => va_Qi (fun r (_ : Unit) => r = ρ.1) (fun _ t => va_P D vwCl (wX8 cA a_m m_s m_past m_pasts m_text m_typed ρ.2.1 ρ.2.2.1 ρ.2.2.2.1 m_before m_endA m_endB m_from m_queue m_ring m_ringSize m_ringNodes m_rings m_path m_pathSize m_old m_lastRing m_bestNodes m_bestInside m_bestFits m_far ρ.2.2.2.2.1 ρ.2.2.2.2.2) t.heap ∧ va_D A (wX8 cA a_m m_s m_past m_pasts m_text m_typed ρ.2.1 ρ.2.2.1 ρ.2.2.2.1 m_before m_endA m_endB m_from m_queue m_ring m_ringSize m_ringNodes m_rings m_path m_pathSize m_old m_lastRing m_bestNodes m_bestInside m_bestFits m_far ρ.2.2.2.2.1 ρ.2.2.2.2.2)) A) (by decide) (Nat.le_of_ble_eq_true rfl) fun p e s m below meth c ls A C hl hP hK hD hA hS => ?_
  obtain ⟨hx, hb, hml, hown, hT, hr, hlk⟩ := id C
  have hl : lv_has ls 4 [(0, .ref (a_m 0)), (1, .int p1), (2, .int p2), (3, .int p3)] := hl
  have B65 : ∀ (y0 : UInt32) (m_faceOfSide : Nat → Int32) (m_firstSide : Nat → Int32) (m_faces : Int32) (m_xs : Nat → UInt32) (m_ys : Nat → UInt32) (H : Heap) (locs : List Loc) (ls : Array Slot), lv_has ls 4 [] → va_P D vwCl (wX8 cA a_m m_s m_past m_pasts m_text m_typed m_faceOfSide m_firstSide m_faces m_before m_endA m_endB m_from m_queue m_ring m_ringSize m_ringNodes m_rings m_path m_pathSize m_old m_lastRing m_bestNodes m_bestInside m_bestFits m_far m_xs m_ys) H → va_D A (wX8 cA a_m m_s m_past m_pasts m_text m_typed m_faceOfSide m_firstSide m_faces m_before m_endA m_endB m_from m_queue m_ring m_ringSize m_ringNodes m_rings m_path m_pathSize m_old m_lastRing m_bestNodes m_bestInside m_bestFits m_far m_xs m_ys) → va_S A s.heap H locs → f_X8_position_b65 N m_s y0 m_faceOfSide m_firstSide m_faces m_xs m_ys = some ρ → W p l e ({ frames := 5, cells := 0, slots := 0, locals := 120 } : Room) s m ([.ref (a_m 0), .int p1, .int p2, .int p3] : List Value).toArray below meth c H locs 0 0 (MQ below (va_Qi (fun r (_ : Unit) => r = ρ.1) (fun _ t => va_P D vwCl (wX8 cA a_m m_s m_past m_pasts m_text m_typed ρ.2.1 ρ.2.2.1 ρ.2.2.2.1 m_before m_endA m_endB m_from m_queue m_ring m_ringSize m_ringNodes m_rings m_path m_pathSize m_old m_lastRing m_bestNodes m_bestInside m_bestFits m_far ρ.2.2.2.2.1 ρ.2.2.2.2.2) t.heap ∧ va_D A (wX8 cA a_m m_s m_past m_pasts m_text m_typed ρ.2.1 ρ.2.2.1 ρ.2.2.2.1 m_before m_endA m_endB m_from m_queue m_ring m_ringSize m_ringNodes m_rings m_path m_pathSize m_old m_lastRing m_bestNodes m_bestInside m_bestFits m_far ρ.2.2.2.2.1 ρ.2.2.2.2.2)) A) ([.ref (a_m 0), .int p1, .int p2, .int p3] : List Value).toArray s 0 0 A) (F0 m 65 ls [.float y0]) := by
    intro y0 m_faceOfSide m_firstSide m_faces m_xs m_ys H locs ls hl hP hD hS hf
    obtain ⟨r_13, hcr_13, hf⟩ := bd1_s hf
    refine backI (runS0 C (c_Jxf58ca_floatToIntBits_5c35a l D cA y0 N r_13 hcr_13) cf_Jxf58ca_floatToIntBits_5c35a km_X8_264 ⟨rfl, rfl, by decide, by decide⟩ ⟨Nat.zero_le _, Nat.zero_le _⟩ (hP.sub [] rfl) hK hl.1 rfl rfl (Nat.le_of_ble_eq_true rfl) dX8_position_65) ?_
    have eR := some_i hf
    exact W.iret hx hb hr (fun t ht hW => ⟨⟨r_13, (), rfl, fst_e eR, by rw [← eR, ht]; exact hP, by rw [← eR]; exact hD⟩, hS.F ht⟩) hS.2.2 dX8_position_68 (hlocks := hlk)
  refine lv_aload_n hx hb dX8_position_0 rfl (lv_at hl 0 rfl) ?_
  refine lv_iload_n hx hb dX8_position_1 rfl (lv_at hl 1 rfl) ?_
  obtain ⟨r_1, hcr_1, hf⟩ := bd1_s hf
  refine backI (runV0 C (c_X8_isNode l D cA a_m m_s m_past m_pasts m_text m_typed m_faceOfSide m_firstSide m_faces m_before m_endA m_endB m_from m_queue m_ring m_ringSize m_ringNodes m_rings m_path m_pathSize m_old m_lastRing m_bestNodes m_bestInside m_bestFits m_far m_xs m_ys p1 N r_1 hcr_1) cf_X8_isNode km_X8_97 ⟨rfl, rfl, by decide, by decide⟩ ⟨Nat.zero_le _, Nat.zero_le _⟩ (va_recv hK.1 hP (ci := 8) (q0 := 0) rfl rfl) (hP.sub [0, 1, 2, 3, 4, 5, 6, 7, 8, 9, 10, 11, 12, 13, 14, 15, 16, 17, 18] rfl) hK hl.1 rfl rfl (Nat.le_of_ble_eq_true rfl) dX8_position_2) ?_
  refine lv_if_eq (tgt := 27) hx hb dX8_position_5 (by decide) (fun c_2 => ?_) (fun c_2 => ?_)
  · have hf := ite_t c_2 hf
    refine lv_iconst (v := (-1)) hx hb dX8_position_27 (by decide) ?_
    have eR := some_i hf
    exact W.iret hx hb hr (fun t ht hW => ⟨⟨(-1), (), rfl, fst_e eR, by rw [← eR, ht]; exact hP, by rw [← eR]; exact hD⟩, hS.F ht⟩) hS.2.2 dX8_position_28 (hlocks := hlk)
  · have hf := ite_f c_2 hf
    refine lv_iload_n hx hb dX8_position_8 rfl (lv_at hl 2 rfl) ?_
    refine lv_iconst (v := 0) hx hb dX8_position_9 (by decide) ?_
    refine lv_iconst (v := 1) hx hb dX8_position_10 (by decide) ?_
    obtain ⟨r_3, hcr_3, hf⟩ := bd1_s hf
    refine backI (runS0 C (c_X8_in l D cA p2 0 1 N r_3 hcr_3) cf_X8_in km_X8_70 ⟨rfl, rfl, by decide, by decide⟩ ⟨Nat.zero_le _, Nat.zero_le _⟩ (hP.sub [] rfl) hK hl.1 rfl rfl (Nat.le_of_ble_eq_true rfl) dX8_position_11) ?_
    refine lv_if_eq (tgt := 27) hx hb dX8_position_14 (by decide) (fun c_4 => ?_) (fun c_4 => ?_)
    · have hf := ite_t c_4 hf
      refine lv_iconst (v := (-1)) hx hb dX8_position_27 (by decide) ?_
      have eR := some_i hf
      exact W.iret hx hb hr (fun t ht hW => ⟨⟨(-1), (), rfl, fst_e eR, by rw [← eR, ht]; exact hP, by rw [← eR]; exact hD⟩, hS.F ht⟩) hS.2.2 dX8_position_28 (hlocks := hlk)
    · have hf := ite_f c_4 hf
      refine lv_iload_n hx hb dX8_position_17 rfl (lv_at hl 3 rfl) ?_
      refine lv_iconst (v := 0) hx hb dX8_position_18 (by decide) ?_
      refine lv_bipush (v := 50) hx hb dX8_position_19 (by decide) ?_
      obtain ⟨r_5, hcr_5, hf⟩ := bd1_s hf
      refine backI (runS0 C (c_X8_in l D cA p3 0 50 N r_5 hcr_5) cf_X8_in km_X8_70 ⟨rfl, rfl, by decide, by decide⟩ ⟨Nat.zero_le _, Nat.zero_le _⟩ (hP.sub [] rfl) hK hl.1 rfl rfl (Nat.le_of_ble_eq_true rfl) dX8_position_21) ?_
      refine lv_if_ne (tgt := 29) hx hb dX8_position_24 (by decide) (fun c_6 => ?_) (fun c_6 => ?_)
      · have hf := ite_t c_6 hf
        refine lv_aload_n hx hb dX8_position_29 rfl (lv_at hl 0 rfl) ?_
        refine va_get (D := D) (ci := 8) (C := RX8) (T := TX8) (N := 27) hx hb hT kwX8 hown hK.1 hP 0 rfl rfl 0 (by decide) (hT _ kf_X8_7) (fun _ h9 => h9) rfl dX8_position_30 ?_
        refine lv_iconst (v := 1) hx hb dX8_position_33 (by decide) ?_
        obtain ⟨h_7, hf⟩ := chk_s hf
        refine va_iald hx hb hK.1 hP 1 0 rfl rfl (inb_in h_7) dX8_position_34 ?_
        refine lv_if_ne (tgt := 41) hx hb dX8_position_35 (by decide) (fun c_8 => ?_) (fun c_8 => ?_)
        · have hf := ite_t c_8 hf
          refine lv_aload_n hx hb dX8_position_41 rfl (lv_at hl 0 rfl) ?_
          refine lv_iload_n hx hb dX8_position_42 rfl (lv_at hl 3 rfl) ?_
          obtain ⟨r_9, hcr_9, hf⟩ := bd1_s hf
          refine backWv (w2 := (wX8 cA a_m m_s m_past m_pasts m_text m_typed r_9.1 r_9.2.1 r_9.2.2.1 m_before m_endA m_endB m_from m_queue m_ring m_ringSize m_ringNodes m_rings m_path m_pathSize m_old m_lastRing m_bestNodes m_bestInside m_bestFits m_far r_9.2.2.2.1 r_9.2.2.2.2)) (runVw C (c_X8_relaxes l D cA a_m m_s m_past m_pasts m_text m_typed m_faceOfSide m_firstSide m_faces m_before m_endA m_endB m_from m_queue m_ring m_ringSize m_ringNodes m_rings m_path m_pathSize m_old m_lastRing m_bestNodes m_bestInside m_bestFits m_far m_xs m_ys p3 _ N r_9 hcr_9) cf_X8_relaxes km_X8_261 ⟨rfl, rfl, by decide, by decide⟩ ⟨Nat.zero_le _, Nat.zero_le _⟩ (va_recv hK.1 hP (ci := 8) (q0 := 0) rfl rfl) (hP.sub [0, 1, 2, 3, 4, 5, 6, 7, 8, 9, 10, 11, 12, 13, 14, 15, 16, 17, 18] rfl) (hD.sub [0, 1, 2, 3, 4, 5, 6, 7, 8, 9, 10, 11, 12, 13, 14, 15, 16, 17, 18] rfl rfl) hK hl.1 rfl rfl (Nat.le_of_ble_eq_true rfl) dX8_position_43) hP hD hS hA [0, 1, 2, 3, 4, 5, 6, 7, 8, 9, 10, 11, 12, 13, 14, 15, 16, 17, 18] rfl [] rfl rfl (by decide) [0, 1, 2, 3, 4, 5, 6, 7, 8, 9, 10, 11, 12, 13, 14, 15, 16, 17, 18] rfl rfl (fun H locs hP hD hS => ?_)
          refine lv_iload_n hx hb dX8_position_46 rfl (lv_at hl 2 rfl) ?_
          refine lv_if_ne (tgt := 59) hx hb dX8_position_47 (by decide) (fun c_10 => ?_) (fun c_10 => ?_)
          · have hf := ite_t c_10 hf
            refine lv_aload_n hx hb dX8_position_59 rfl (lv_at hl 0 rfl) ?_
            refine va_get (D := D) (ci := 8) (C := RX8) (T := TX8) (N := 27) hx hb hT kwX8 hown hK.1 hP 0 rfl rfl 26 (by decide) (hT _ kf_X8_63) (fun _ h9 => h9) rfl dX8_position_60 ?_
            refine lv_iload_n hx hb dX8_position_63 rfl (lv_at hl 1 rfl) ?_
            obtain ⟨h_11, hf⟩ := chk_s hf
            refine va_fald hx hb hK.1 hP 18 1 rfl rfl (inb_in h_11) dX8_position_64 ?_
            exact B65 (r_9.2.2.2.2 p1.toNatClampNeg) r_9.1 r_9.2.1 r_9.2.2.1 r_9.2.2.2.1 r_9.2.2.2.2 _ _ _ (lv_sub hl [] rfl) hP hD hS hf
          · have hf := ite_fn c_10 hf
            refine lv_aload_n hx hb dX8_position_50 rfl (lv_at hl 0 rfl) ?_
            refine va_get (D := D) (ci := 8) (C := RX8) (T := TX8) (N := 27) hx hb hT kwX8 hown hK.1 hP 0 rfl rfl 25 (by decide) (hT _ kf_X8_59) (fun _ h9 => h9) rfl dX8_position_51 ?_
            refine lv_iload_n hx hb dX8_position_54 rfl (lv_at hl 1 rfl) ?_
            obtain ⟨h_12, hf⟩ := chk_s hf
            refine va_fald hx hb hK.1 hP 17 1 rfl rfl (inb_in h_12) dX8_position_55 ?_
            refine lv_goto (tgt := 65) hx hb dX8_position_56 (by decide) ?_
            exact B65 (r_9.2.2.2.1 p1.toNatClampNeg) r_9.1 r_9.2.1 r_9.2.2.1 r_9.2.2.2.1 r_9.2.2.2.2 _ _ _ (lv_sub hl [] rfl) hP hD hS hf
        · have hf := ite_fn c_8 hf
          refine lv_bipush (v := (-2)) hx hb dX8_position_38 (by decide) ?_
          have eR := some_i hf
          exact W.iret hx hb hr (fun t ht hW => ⟨⟨(-2), (), rfl, fst_e eR, by rw [← eR, ht]; exact hP, by rw [← eR]; exact hD⟩, hS.F ht⟩) hS.2.2 dX8_position_40 (hlocks := hlk)
      · have hf := ite_fn c_6 hf
        refine lv_iconst (v := (-1)) hx hb dX8_position_27 (by decide) ?_
        have eR := some_i hf
        exact W.iret hx hb hr (fun t ht hW => ⟨⟨(-1), (), rfl, fst_e eR, by rw [← eR, ht]; exact hP, by rw [← eR]; exact hD⟩, hS.F ht⟩) hS.2.2 dX8_position_28 (hlocks := hlk)
