set_option maxRecDepth 100000 in
set_option maxHeartbeats 4000000 in
theorem c_X8_fitting (l : Launch) (D : va_G) (cA : Nat → ClassId) (a_m : Nat → Nat) (m_s : Nat → Int32) (m_past : Nat → Int32) (m_pasts : Int32) (m_text : Nat → Int32) (m_typed : Int32) (m_faceOfSide : Nat → Int32) (m_firstSide : Nat → Int32) (m_faces : Int32) (m_before : Nat → Int32) (m_endA : Nat → Int32) (m_endB : Nat → Int32) (m_from : Nat → Int32) (m_queue : Nat → Int32) (m_ring : Nat → Int32) (m_ringSize : Nat → Int32) (m_ringNodes : Nat → Int32) (m_rings : Int32) (m_path : Nat → Int32) (m_pathSize : Int32) (m_old : Nat → Int32) (m_lastRing : Int32) (m_bestNodes : Int32) (m_bestInside : Int32) (m_bestFits : Int32) (m_far : Nat → Int32) (m_xs : Nat → UInt32) (m_ys : Nat → UInt32) (p1 : Int32) (sz N : Nat) (ρ : Int32 × Int32) (hf : f_X8_fitting N m_ringNodes m_rings m_lastRing p1 = some ρ) : Met l yX8_fitting (Cond.code yX8_fitting cX8_fitting 5 (Option.some Jvm.ClassFile.FieldType.int) :: lw_g) ({ frames := 0, cells := 0, slots := 0, locals := 0 } : Room) (PcW D (tyA cA) (wX8 cA a_m m_s m_past m_pasts m_text m_typed m_faceOfSide m_firstSide m_faces m_before m_endA m_endB m_from m_queue m_ring m_ringSize m_ringNodes m_rings m_path m_pathSize m_old m_lastRing m_bestNodes m_bestInside m_bestFits m_far m_xs m_ys) sz [.ref (a_m 0), .int p1]) (va_Qi (fun r (_ : Unit) => r = ρ.1) (fun _ t => va_P D vwCl (wX8 cA a_m m_s m_past m_pasts m_text m_typed m_faceOfSide m_firstSide m_faces m_before m_endA m_endB m_from m_queue m_ring m_ringSize m_ringNodes m_rings m_path m_pathSize m_old ρ.2 m_bestNodes m_bestInside m_bestFits m_far m_xs m_ys) t.heap ∧ va_D (va_A (wX8 cA a_m m_s m_past m_pasts m_text m_typed m_faceOfSide m_firstSide m_faces m_before m_endA m_endB m_from m_queue m_ring m_ringSize m_ringNodes m_rings m_path m_pathSize m_old m_lastRing m_bestNodes m_bestInside m_bestFits m_far m_xs m_ys) sz) (wX8 cA a_m m_s m_past m_pasts m_text m_typed m_faceOfSide m_firstSide m_faces m_before m_endA m_endB m_from m_queue m_ring m_ringSize m_ringNodes m_rings m_path m_pathSize m_old ρ.2 m_bestNodes m_bestInside m_bestFits m_far m_xs m_ys)) (va_A (wX8 cA a_m m_s m_past m_pasts m_text m_typed m_faceOfSide m_firstSide m_faces m_before m_endA m_endB m_from m_queue m_ring m_ringSize m_ringNodes m_rings m_path m_pathSize m_old m_lastRing m_bestNodes m_bestInside m_bestFits m_far m_xs m_ys) sz)) 0 0 (va_A (wX8 cA a_m m_s m_past m_pasts m_text m_typed m_faceOfSide m_firstSide m_faces m_before m_endA m_endB m_from m_queue m_ring m_ringSize m_ringNodes m_rings m_path m_pathSize m_old m_lastRing m_bestNodes m_bestInside m_bestFits m_far m_xs m_ys) sz) := by
  refine mkW (QQ := fun A => va_Qi (fun r (_ : Unit) => r = ρ.1) (fun _ t => va_P D vwCl (wX8 cA a_m m_s m_past m_pasts m_text m_typed m_faceOfSide m_firstSide m_faces m_before m_endA m_endB m_from m_queue m_ring m_ringSize m_ringNodes m_rings m_path m_pathSize m_old ρ.2 m_bestNodes m_bestInside m_bestFits m_far m_xs m_ys) t.heap ∧ va_D A (wX8 cA a_m m_s m_past m_pasts m_text m_typed m_faceOfSide m_firstSide m_faces m_before m_endA m_endB m_from m_queue m_ring m_ringSize m_ringNodes m_rings m_path m_pathSize m_old ρ.2 m_bestNodes m_bestInside m_bestFits m_far m_xs m_ys)) A) (by decide) (Nat.le_of_ble_eq_true rfl) fun p e s m below meth c ls A C hl hP hK hD hA hS => ?_
  obtain ⟨hx, hb, hml, hown, hT, hr, hlk⟩ := id C
  have hl : lv_has ls 5 [(0, .ref (a_m 0)), (1, .int p1)] := hl
  have B4 : ∀ (n4 : Nat), ∀ (x1 : Int32) (x2 : Int32) (x3 : Int32) (m_lastRing : Int32) (H : Heap) (locs : List Loc) (ls : Array Slot), lv_has ls 5 [(0, .ref (a_m 0)), (1, .int x1), (2, .int x2), (3, .int x3)] → va_P D vwCl (wX8 cA a_m m_s m_past m_pasts m_text m_typed m_faceOfSide m_firstSide m_faces m_before m_endA m_endB m_from m_queue m_ring m_ringSize m_ringNodes m_rings m_path m_pathSize m_old m_lastRing m_bestNodes m_bestInside m_bestFits m_far m_xs m_ys) H → va_D A (wX8 cA a_m m_s m_past m_pasts m_text m_typed m_faceOfSide m_firstSide m_faces m_before m_endA m_endB m_from m_queue m_ring m_ringSize m_ringNodes m_rings m_path m_pathSize m_old m_lastRing m_bestNodes m_bestInside m_bestFits m_far m_xs m_ys) → va_S A s.heap H locs → f_X8_fitting_b4 N m_ringNodes m_rings n4 x1 x2 x3 m_lastRing = some ρ → W p l e ({ frames := 0, cells := 0, slots := 0, locals := 0 } : Room) s m ([.ref (a_m 0), .int p1] : List Value).toArray below meth c H locs 0 0 (MQ below (va_Qi (fun r (_ : Unit) => r = ρ.1) (fun _ t => va_P D vwCl (wX8 cA a_m m_s m_past m_pasts m_text m_typed m_faceOfSide m_firstSide m_faces m_before m_endA m_endB m_from m_queue m_ring m_ringSize m_ringNodes m_rings m_path m_pathSize m_old ρ.2 m_bestNodes m_bestInside m_bestFits m_far m_xs m_ys) t.heap ∧ va_D A (wX8 cA a_m m_s m_past m_pasts m_text m_typed m_faceOfSide m_firstSide m_faces m_before m_endA m_endB m_from m_queue m_ring m_ringSize m_ringNodes m_rings m_path m_pathSize m_old ρ.2 m_bestNodes m_bestInside m_bestFits m_far m_xs m_ys)) A) ([.ref (a_m 0), .int p1] : List Value).toArray s 0 0 A) (F0 m 4 ls []) := by
    intro n4
    induction n4 with
    | zero =>
      intro x1 x2 x3 m_lastRing H locs ls hl hP hD hS hf
      cases (show (none : Option (Int32 × Int32)) = some ρ from hf)
    | succ n4 ih4 =>
      have B59 : ∀ (x1 : Int32) (x2 : Int32) (x3 : Int32) (y1 : Int32) (m_lastRing : Int32) (H : Heap) (locs : List Loc) (ls : Array Slot), lv_has ls 5 [(0, .ref (a_m 0)), (1, .int x1), (2, .int x2), (3, .int x3)] → va_P D vwCl (wX8 cA a_m m_s m_past m_pasts m_text m_typed m_faceOfSide m_firstSide m_faces m_before m_endA m_endB m_from m_queue m_ring m_ringSize m_ringNodes m_rings m_path m_pathSize m_old m_lastRing m_bestNodes m_bestInside m_bestFits m_far m_xs m_ys) H → va_D A (wX8 cA a_m m_s m_past m_pasts m_text m_typed m_faceOfSide m_firstSide m_faces m_before m_endA m_endB m_from m_queue m_ring m_ringSize m_ringNodes m_rings m_path m_pathSize m_old m_lastRing m_bestNodes m_bestInside m_bestFits m_far m_xs m_ys) → va_S A s.heap H locs → f_X8_fitting_b59 N m_ringNodes m_rings (f_X8_fitting_b4 N m_ringNodes m_rings n4) x1 x2 x3 y1 m_lastRing = some ρ → W p l e ({ frames := 0, cells := 0, slots := 0, locals := 0 } : Room) s m ([.ref (a_m 0), .int p1] : List Value).toArray below meth c H locs 0 0 (MQ below (va_Qi (fun r (_ : Unit) => r = ρ.1) (fun _ t => va_P D vwCl (wX8 cA a_m m_s m_past m_pasts m_text m_typed m_faceOfSide m_firstSide m_faces m_before m_endA m_endB m_from m_queue m_ring m_ringSize m_ringNodes m_rings m_path m_pathSize m_old ρ.2 m_bestNodes m_bestInside m_bestFits m_far m_xs m_ys) t.heap ∧ va_D A (wX8 cA a_m m_s m_past m_pasts m_text m_typed m_faceOfSide m_firstSide m_faces m_before m_endA m_endB m_from m_queue m_ring m_ringSize m_ringNodes m_rings m_path m_pathSize m_old ρ.2 m_bestNodes m_bestInside m_bestFits m_far m_xs m_ys)) A) ([.ref (a_m 0), .int p1] : List Value).toArray s 0 0 A) (F0 m 59 ls [.int y1, .ref (a_m 0)]) := by
        intro x1 x2 x3 y1 m_lastRing H locs ls hl hP hD hS hf
        refine va_put (D := D) (ci := 8) (v := .int y1) (ty := .int) (C := RX8) (T := TX8) (N := 27) hx hb hT kwX8 tyX8 tyX8_ok nmX8 hown hK.1 hP hD hS 0 rfl rfl 20 (by decide) (hT _ kf_X8_189) (fun _ h9 => h9) rfl (by decide +kernel) rfl rfl (Nat.le_of_ble_eq_true rfl) dX8_fitting_59 (fun H locs hP hD hS => ?_)
        have hP : va_P D vwCl (wX8 cA a_m m_s m_past m_pasts m_text m_typed m_faceOfSide m_firstSide m_faces m_before m_endA m_endB m_from m_queue m_ring m_ringSize m_ringNodes m_rings m_path m_pathSize m_old y1 m_bestNodes m_bestInside m_bestFits m_far m_xs m_ys) H := hP
        have hD : va_D A (wX8 cA a_m m_s m_past m_pasts m_text m_typed m_faceOfSide m_firstSide m_faces m_before m_endA m_endB m_from m_queue m_ring m_ringSize m_ringNodes m_rings m_path m_pathSize m_old y1 m_bestNodes m_bestInside m_bestFits m_far m_xs m_ys) := hD
        refine lv_iinc (v := (x3 + 1)) (lv' := [(3, .int (x3 + 1)), (0, .ref (a_m 0)), (1, .int x1), (2, .int x2)]) hx hb dX8_fitting_62 hl (k := 3) rfl rfl (by decide) rfl (fun ls hl => ?_)
        refine lv_goto (tgt := 4) hx hb dX8_fitting_65 (by decide) ?_
        exact ih4 x1 x2 (x3 + 1) y1 _ _ _ (lv_sub hl [1, 2, 3, 0] rfl) hP hD hS hf
      have B43 : ∀ (x1 : Int32) (x3 : Int32) (x4 : Int32) (y0 : Int32) (y1 : Int32) (m_lastRing : Int32) (H : Heap) (locs : List Loc) (ls : Array Slot), lv_has ls 5 [(0, .ref (a_m 0)), (1, .int x1), (3, .int x3), (4, .int x4)] → va_P D vwCl (wX8 cA a_m m_s m_past m_pasts m_text m_typed m_faceOfSide m_firstSide m_faces m_before m_endA m_endB m_from m_queue m_ring m_ringSize m_ringNodes m_rings m_path m_pathSize m_old m_lastRing m_bestNodes m_bestInside m_bestFits m_far m_xs m_ys) H → va_D A (wX8 cA a_m m_s m_past m_pasts m_text m_typed m_faceOfSide m_firstSide m_faces m_before m_endA m_endB m_from m_queue m_ring m_ringSize m_ringNodes m_rings m_path m_pathSize m_old m_lastRing m_bestNodes m_bestInside m_bestFits m_far m_xs m_ys) → va_S A s.heap H locs → f_X8_fitting_b43 N m_ringNodes m_rings (f_X8_fitting_b4 N m_ringNodes m_rings n4) x1 x3 x4 y0 y1 m_lastRing = some ρ → W p l e ({ frames := 0, cells := 0, slots := 0, locals := 0 } : Room) s m ([.ref (a_m 0), .int p1] : List Value).toArray below meth c H locs 0 0 (MQ below (va_Qi (fun r (_ : Unit) => r = ρ.1) (fun _ t => va_P D vwCl (wX8 cA a_m m_s m_past m_pasts m_text m_typed m_faceOfSide m_firstSide m_faces m_before m_endA m_endB m_from m_queue m_ring m_ringSize m_ringNodes m_rings m_path m_pathSize m_old ρ.2 m_bestNodes m_bestInside m_bestFits m_far m_xs m_ys) t.heap ∧ va_D A (wX8 cA a_m m_s m_past m_pasts m_text m_typed m_faceOfSide m_firstSide m_faces m_before m_endA m_endB m_from m_queue m_ring m_ringSize m_ringNodes m_rings m_path m_pathSize m_old ρ.2 m_bestNodes m_bestInside m_bestFits m_far m_xs m_ys)) A) ([.ref (a_m 0), .int p1] : List Value).toArray s 0 0 A) (F0 m 43 ls [.int y1, .int y0]) := by
        intro x1 x3 x4 y0 y1 m_lastRing H locs ls hl hP hD hS hf
        refine lv_iadd hx hb dX8_fitting_43 ?_
        refine lv_topi (fun x2_5 ex2_5 => ?_)
        have hf := nm_t ex2_5 hf
        refine lv_istore_n (lv' := [(2, .int x2_5), (0, .ref (a_m 0)), (1, .int x1), (3, .int x3), (4, .int x4)]) hx hb dX8_fitting_44 rfl hl (by decide) rfl (fun ls hl => ?_)
        refine lv_aload_n hx hb dX8_fitting_45 rfl (lv_at hl 1 rfl) ?_
        refine lv_iload hx hb dX8_fitting_46 (lv_at hl 4 rfl) ?_
        refine lv_if_eq (tgt := 55) hx hb dX8_fitting_48 (by decide) (fun c_6 => ?_) (fun c_6 => ?_)
        · have hf := ite_t c_6 hf
          refine lv_aload_n hx hb dX8_fitting_55 rfl (lv_at hl 1 rfl) ?_
          refine va_get (D := D) (ci := 8) (C := RX8) (T := TX8) (N := 27) hx hb hT kwX8 hown hK.1 hP 0 rfl rfl 20 (by decide) (hT _ kf_X8_189) (fun _ h9 => h9) rfl dX8_fitting_56 ?_
          exact B59 x1 x2_5 x3 m_lastRing m_lastRing _ _ _ (lv_sub hl [1, 2, 0, 3] rfl) hP hD hS hf
        · have hf := ite_f c_6 hf
          refine lv_iload_n hx hb dX8_fitting_51 rfl (lv_at hl 3 rfl) ?_
          refine lv_goto (tgt := 59) hx hb dX8_fitting_52 (by decide) ?_
          exact B59 x1 x2_5 x3 x3 m_lastRing _ _ _ (lv_sub hl [1, 2, 0, 3] rfl) hP hD hS hf
      have B30 : ∀ (x1 : Int32) (x2 : Int32) (x3 : Int32) (y0 : Int32) (m_lastRing : Int32) (H : Heap) (locs : List Loc) (ls : Array Slot), lv_has ls 5 [(0, .ref (a_m 0)), (1, .int x1), (2, .int x2), (3, .int x3)] → va_P D vwCl (wX8 cA a_m m_s m_past m_pasts m_text m_typed m_faceOfSide m_firstSide m_faces m_before m_endA m_endB m_from m_queue m_ring m_ringSize m_ringNodes m_rings m_path m_pathSize m_old m_lastRing m_bestNodes m_bestInside m_bestFits m_far m_xs m_ys) H → va_D A (wX8 cA a_m m_s m_past m_pasts m_text m_typed m_faceOfSide m_firstSide m_faces m_before m_endA m_endB m_from m_queue m_ring m_ringSize m_ringNodes m_rings m_path m_pathSize m_old m_lastRing m_bestNodes m_bestInside m_bestFits m_far m_xs m_ys) → va_S A s.heap H locs → f_X8_fitting_b30 N m_ringNodes m_rings (f_X8_fitting_b4 N m_ringNodes m_rings n4) x1 x2 x3 y0 m_lastRing = some ρ → W p l e ({ frames := 0, cells := 0, slots := 0, locals := 0 } : Room) s m ([.ref (a_m 0), .int p1] : List Value).toArray below meth c H locs 0 0 (MQ below (va_Qi (fun r (_ : Unit) => r = ρ.1) (fun _ t => va_P D vwCl (wX8 cA a_m m_s m_past m_pasts m_text m_typed m_faceOfSide m_firstSide m_faces m_before m_endA m_endB m_from m_queue m_ring m_ringSize m_ringNodes m_rings m_path m_pathSize m_old ρ.2 m_bestNodes m_bestInside m_bestFits m_far m_xs m_ys) t.heap ∧ va_D A (wX8 cA a_m m_s m_past m_pasts m_text m_typed m_faceOfSide m_firstSide m_faces m_before m_endA m_endB m_from m_queue m_ring m_ringSize m_ringNodes m_rings m_path m_pathSize m_old ρ.2 m_bestNodes m_bestInside m_bestFits m_far m_xs m_ys)) A) ([.ref (a_m 0), .int p1] : List Value).toArray s 0 0 A) (F0 m 30 ls [.int y0]) := by
        intro x1 x2 x3 y0 m_lastRing H locs ls hl hP hD hS hf
        refine lv_istore (lv' := [(4, .int y0), (0, .ref (a_m 0)), (1, .int x1), (2, .int x2), (3, .int x3)]) hx hb dX8_fitting_30 hl (by decide) rfl (fun ls hl => ?_)
        refine lv_iload_n hx hb dX8_fitting_32 rfl (lv_at hl 3 rfl) ?_
        refine lv_iload hx hb dX8_fitting_33 (lv_at hl 0 rfl) ?_
        refine lv_if_eq (tgt := 42) hx hb dX8_fitting_35 (by decide) (fun c_4 => ?_) (fun c_4 => ?_)
        · have hf := ite_t c_4 hf
          refine lv_iconst (v := 0) hx hb dX8_fitting_42 (by decide) ?_
          exact B43 x1 x3 y0 x2 0 m_lastRing _ _ _ (lv_sub hl [1, 2, 4, 0] rfl) hP hD hS hf
        · have hf := ite_f c_4 hf
          refine lv_iconst (v := 1) hx hb dX8_fitting_38 (by decide) ?_
          refine lv_goto (tgt := 43) hx hb dX8_fitting_39 (by decide) ?_
          exact B43 x1 x3 y0 x2 1 m_lastRing _ _ _ (lv_sub hl [1, 2, 4, 0] rfl) hP hD hS hf
      intro x1 x2 x3 m_lastRing H locs ls hl hP hD hS hf
      refine lv_iload_n hx hb dX8_fitting_4 rfl (lv_at hl 3 rfl) ?_
      refine lv_aload_n hx hb dX8_fitting_5 rfl (lv_at hl 0 rfl) ?_
      refine va_get (D := D) (ci := 8) (C := RX8) (T := TX8) (N := 27) hx hb hT kwX8 hown hK.1 hP 0 rfl rfl 16 (by decide) (hT _ kf_X8_182) (fun _ h9 => h9) rfl dX8_fitting_6 ?_
      refine lv_icmp_ge (tgt := 68) hx hb dX8_fitting_9 (by decide) (fun c_1 => ?_) (fun c_1 => ?_)
      · have hf := ite_t c_1 hf
        refine lv_iload_n hx hb dX8_fitting_68 rfl (lv_at hl 2 rfl) ?_
        have eR := some_i hf
        exact W.iret hx hb hr (fun t ht hW => ⟨⟨x2, (), rfl, fst_e eR, by rw [← eR, ht]; exact hP, by rw [← eR]; exact hD⟩, hS.F ht⟩) hS.2.2 dX8_fitting_69 (hlocks := hlk)
      · have hf := ite_f c_1 hf
        refine lv_iload_n hx hb dX8_fitting_12 rfl (lv_at hl 1 rfl) ?_
        refine lv_aload_n hx hb dX8_fitting_13 rfl (lv_at hl 0 rfl) ?_
        refine va_get (D := D) (ci := 8) (C := RX8) (T := TX8) (N := 27) hx hb hT kwX8 hown hK.1 hP 0 rfl rfl 15 (by decide) (hT _ kf_X8_47) (fun _ h9 => h9) rfl dX8_fitting_14 ?_
        refine lv_iload_n hx hb dX8_fitting_17 rfl (lv_at hl 3 rfl) ?_
        obtain ⟨h_2, hf⟩ := chk_s hf
        refine va_iald hx hb hK.1 hP 13 0 rfl rfl (inb_in h_2) dX8_fitting_18 ?_
        refine lv_iconst (v := (-1)) hx hb dX8_fitting_19 (by decide) ?_
        refine lv_ixor hx hb dX8_fitting_20 ?_
        refine lv_iand hx hb dX8_fitting_21 ?_
        refine lv_if_ne (tgt := 29) hx hb dX8_fitting_22 (by decide) (fun c_3 => ?_) (fun c_3 => ?_)
        · have hf := ite_t c_3 hf
          refine lv_iconst (v := 0) hx hb dX8_fitting_29 (by decide) ?_
          exact B30 x1 x2 x3 0 m_lastRing _ _ _ (lv_sub hl [0, 1, 2, 3] rfl) hP hD hS hf
        · have hf := ite_fn c_3 hf
          refine lv_iconst (v := 1) hx hb dX8_fitting_25 (by decide) ?_
          refine lv_goto (tgt := 30) hx hb dX8_fitting_26 (by decide) ?_
          exact B30 x1 x2 x3 1 m_lastRing _ _ _ (lv_sub hl [0, 1, 2, 3] rfl) hP hD hS hf
  refine lv_iconst (v := 0) hx hb dX8_fitting_0 (by decide) ?_
  refine lv_istore_n (lv' := [(2, .int 0), (0, .ref (a_m 0)), (1, .int p1)]) hx hb dX8_fitting_1 rfl hl (by decide) rfl (fun ls hl => ?_)
  refine lv_iconst (v := 0) hx hb dX8_fitting_2 (by decide) ?_
  refine lv_istore_n (lv' := [(3, .int 0), (2, .int 0), (0, .ref (a_m 0)), (1, .int p1)]) hx hb dX8_fitting_3 rfl hl (by decide) rfl (fun ls hl => ?_)
  exact B4 N p1 0 0 m_lastRing _ _ _ (lv_sub hl [2, 3, 1, 0] rfl) hP hD hS hf
set_option maxRecDepth 100000 in
set_option maxHeartbeats 4000000 in
theorem c_X8_offers (l : Launch) (D : va_G) (cA : Nat → ClassId) (a_m : Nat → Nat) (m_s : Nat → Int32) (m_past : Nat → Int32) (m_pasts : Int32) (m_text : Nat → Int32) (m_typed : Int32) (m_faceOfSide : Nat → Int32) (m_firstSide : Nat → Int32) (m_faces : Int32) (m_before : Nat → Int32) (m_endA : Nat → Int32) (m_endB : Nat → Int32) (m_from : Nat → Int32) (m_queue : Nat → Int32) (m_ring : Nat → Int32) (m_ringSize : Nat → Int32) (m_ringNodes : Nat → Int32) (m_rings : Int32) (m_path : Nat → Int32) (m_pathSize : Int32) (m_old : Nat → Int32) (m_lastRing : Int32) (m_bestNodes : Int32) (m_bestInside : Int32) (m_bestFits : Int32) (m_far : Nat → Int32) (m_xs : Nat → UInt32) (m_ys : Nat → UInt32) (p1 : Int32) (p2 : Int32) (sz N : Nat) (ρ : Int32 × Int32 × Int32 × Int32) (hf : f_X8_offers N m_ringNodes m_rings m_lastRing m_bestNodes m_bestInside m_bestFits p1 p2 = some ρ) : Met l yX8_offers (Cond.code yX8_offers cX8_offers 5 (Option.none : Option Jvm.ClassFile.FieldType) :: lw_g) ({ frames := 1, cells := 0, slots := 0, locals := 24 } : Room) (PcW D (tyA cA) (wX8 cA a_m m_s m_past m_pasts m_text m_typed m_faceOfSide m_firstSide m_faces m_before m_endA m_endB m_from m_queue m_ring m_ringSize m_ringNodes m_rings m_path m_pathSize m_old m_lastRing m_bestNodes m_bestInside m_bestFits m_far m_xs m_ys) sz [.ref (a_m 0), .int p1, .int p2]) (va_Qv (fun (_ : Unit) => True) (fun _ t => va_P D vwCl (wX8 cA a_m m_s m_past m_pasts m_text m_typed m_faceOfSide m_firstSide m_faces m_before m_endA m_endB m_from m_queue m_ring m_ringSize m_ringNodes m_rings m_path m_pathSize m_old ρ.1 ρ.2.1 ρ.2.2.1 ρ.2.2.2 m_far m_xs m_ys) t.heap ∧ va_D (va_A (wX8 cA a_m m_s m_past m_pasts m_text m_typed m_faceOfSide m_firstSide m_faces m_before m_endA m_endB m_from m_queue m_ring m_ringSize m_ringNodes m_rings m_path m_pathSize m_old m_lastRing m_bestNodes m_bestInside m_bestFits m_far m_xs m_ys) sz) (wX8 cA a_m m_s m_past m_pasts m_text m_typed m_faceOfSide m_firstSide m_faces m_before m_endA m_endB m_from m_queue m_ring m_ringSize m_ringNodes m_rings m_path m_pathSize m_old ρ.1 ρ.2.1 ρ.2.2.1 ρ.2.2.2 m_far m_xs m_ys)) (va_A (wX8 cA a_m m_s m_past m_pasts m_text m_typed m_faceOfSide m_firstSide m_faces m_before m_endA m_endB m_from m_queue m_ring m_ringSize m_ringNodes m_rings m_path m_pathSize m_old m_lastRing m_bestNodes m_bestInside m_bestFits m_far m_xs m_ys) sz)) 0 0 (va_A (wX8 cA a_m m_s m_past m_pasts m_text m_typed m_faceOfSide m_firstSide m_faces m_before m_endA m_endB m_from m_queue m_ring m_ringSize m_ringNodes m_rings m_path m_pathSize m_old m_lastRing m_bestNodes m_bestInside m_bestFits m_far m_xs m_ys) sz) := by
  refine mkW (QQ := fun A => va_Qv (fun (_ : Unit) => True) (fun _ t => va_P D vwCl (wX8 cA a_m m_s m_past m_pasts m_text m_typed m_faceOfSide m_firstSide m_faces m_before m_endA m_endB m_from m_queue m_ring m_ringSize m_ringNodes m_rings m_path m_pathSize m_old ρ.1 ρ.2.1 ρ.2.2.1 ρ.2.2.2 m_far m_xs m_ys) t.heap ∧ va_D A (wX8 cA a_m m_s m_past m_pasts m_text m_typed m_faceOfSide m_firstSide m_faces m_before m_endA m_endB m_from m_queue m_ring m_ringSize m_ringNodes m_rings m_path m_pathSize m_old ρ.1 ρ.2.1 ρ.2.2.1 ρ.2.2.2 m_far m_xs m_ys)) A) (by decide) (Nat.le_of_ble_eq_true rfl) fun p e s m below meth c ls A C hl hP hK hD hA hS => ?_
  obtain ⟨hx, hb, hml, hown, hT, hr, hlk⟩ := id C
  have hl : lv_has ls 5 [(0, .ref (a_m 0)), (1, .int p1), (2, .int p2)] := hl
  have B69 : ∀ (y1 : Int32) (m_lastRing : Int32) (m_bestNodes : Int32) (m_bestInside : Int32) (m_bestFits : Int32) (H : Heap) (locs : List Loc) (ls : Array Slot), lv_has ls 5 [] → va_P D vwCl (wX8 cA a_m m_s m_past m_pasts m_text m_typed m_faceOfSide m_firstSide m_faces m_before m_endA m_endB m_from m_queue m_ring m_ringSize m_ringNodes m_rings m_path m_pathSize m_old m_lastRing m_bestNodes m_bestInside m_bestFits m_far m_xs m_ys) H → va_D A (wX8 cA a_m m_s m_past m_pasts m_text m_typed m_faceOfSide m_firstSide m_faces m_before m_endA m_endB m_from m_queue m_ring m_ringSize m_ringNodes m_rings m_path m_pathSize m_old m_lastRing m_bestNodes m_bestInside m_bestFits m_far m_xs m_ys) → va_S A s.heap H locs → f_X8_offers_b69 N m_ringNodes m_rings y1 m_lastRing m_bestNodes m_bestInside m_bestFits = some ρ → W p l e ({ frames := 1, cells := 0, slots := 0, locals := 24 } : Room) s m ([.ref (a_m 0), .int p1, .int p2] : List Value).toArray below meth c H locs 0 0 (MQ below (va_Qv (fun (_ : Unit) => True) (fun _ t => va_P D vwCl (wX8 cA a_m m_s m_past m_pasts m_text m_typed m_faceOfSide m_firstSide m_faces m_before m_endA m_endB m_from m_queue m_ring m_ringSize m_ringNodes m_rings m_path m_pathSize m_old ρ.1 ρ.2.1 ρ.2.2.1 ρ.2.2.2 m_far m_xs m_ys) t.heap ∧ va_D A (wX8 cA a_m m_s m_past m_pasts m_text m_typed m_faceOfSide m_firstSide m_faces m_before m_endA m_endB m_from m_queue m_ring m_ringSize m_ringNodes m_rings m_path m_pathSize m_old ρ.1 ρ.2.1 ρ.2.2.1 ρ.2.2.2 m_far m_xs m_ys)) A) ([.ref (a_m 0), .int p1, .int p2] : List Value).toArray s 0 0 A) (F0 m 69 ls [.int y1, .ref (a_m 0)]) := by
    intro y1 m_lastRing m_bestNodes m_bestInside m_bestFits H locs ls hl hP hD hS hf
    refine va_put (D := D) (ci := 8) (v := .int y1) (ty := .int) (C := RX8) (T := TX8) (N := 27) hx hb hT kwX8 tyX8 tyX8_ok nmX8 hown hK.1 hP hD hS 0 rfl rfl 22 (by decide) (hT _ kf_X8_201) (fun _ h9 => h9) rfl (by decide +kernel) rfl rfl (Nat.le_of_ble_eq_true rfl) dX8_offers_69 (fun H locs hP hD hS => ?_)
    have hP : va_P D vwCl (wX8 cA a_m m_s m_past m_pasts m_text m_typed m_faceOfSide m_firstSide m_faces m_before m_endA m_endB m_from m_queue m_ring m_ringSize m_ringNodes m_rings m_path m_pathSize m_old m_lastRing m_bestNodes y1 m_bestFits m_far m_xs m_ys) H := hP
    have hD : va_D A (wX8 cA a_m m_s m_past m_pasts m_text m_typed m_faceOfSide m_firstSide m_faces m_before m_endA m_endB m_from m_queue m_ring m_ringSize m_ringNodes m_rings m_path m_pathSize m_old m_lastRing m_bestNodes y1 m_bestFits m_far m_xs m_ys) := hD
    have eR := some_i hf
    exact W.vret hx hb hr (fun t ht hW => ⟨⟨(), rfl, trivial, by rw [← eR, ht]; exact hP, by rw [← eR]; exact hD⟩, hS.F ht⟩) hS.2.2 dX8_offers_72 (hlocks := hlk)
  have B52 : ∀ (x2 : Int32) (x4 : Int32) (y1 : Int32) (m_lastRing : Int32) (m_bestNodes : Int32) (m_bestInside : Int32) (m_bestFits : Int32) (H : Heap) (locs : List Loc) (ls : Array Slot), lv_has ls 5 [(0, .ref (a_m 0)), (2, .int x2), (4, .int x4)] → va_P D vwCl (wX8 cA a_m m_s m_past m_pasts m_text m_typed m_faceOfSide m_firstSide m_faces m_before m_endA m_endB m_from m_queue m_ring m_ringSize m_ringNodes m_rings m_path m_pathSize m_old m_lastRing m_bestNodes m_bestInside m_bestFits m_far m_xs m_ys) H → va_D A (wX8 cA a_m m_s m_past m_pasts m_text m_typed m_faceOfSide m_firstSide m_faces m_before m_endA m_endB m_from m_queue m_ring m_ringSize m_ringNodes m_rings m_path m_pathSize m_old m_lastRing m_bestNodes m_bestInside m_bestFits m_far m_xs m_ys) → va_S A s.heap H locs → f_X8_offers_b52 N m_ringNodes m_rings x2 x4 y1 m_lastRing m_bestNodes m_bestInside m_bestFits = some ρ → W p l e ({ frames := 1, cells := 0, slots := 0, locals := 24 } : Room) s m ([.ref (a_m 0), .int p1, .int p2] : List Value).toArray below meth c H locs 0 0 (MQ below (va_Qv (fun (_ : Unit) => True) (fun _ t => va_P D vwCl (wX8 cA a_m m_s m_past m_pasts m_text m_typed m_faceOfSide m_firstSide m_faces m_before m_endA m_endB m_from m_queue m_ring m_ringSize m_ringNodes m_rings m_path m_pathSize m_old ρ.1 ρ.2.1 ρ.2.2.1 ρ.2.2.2 m_far m_xs m_ys) t.heap ∧ va_D A (wX8 cA a_m m_s m_past m_pasts m_text m_typed m_faceOfSide m_firstSide m_faces m_before m_endA m_endB m_from m_queue m_ring m_ringSize m_ringNodes m_rings m_path m_pathSize m_old ρ.1 ρ.2.1 ρ.2.2.1 ρ.2.2.2 m_far m_xs m_ys)) A) ([.ref (a_m 0), .int p1, .int p2] : List Value).toArray s 0 0 A) (F0 m 52 ls [.int y1, .ref (a_m 0)]) := by
    intro x2 x4 y1 m_lastRing m_bestNodes m_bestInside m_bestFits H locs ls hl hP hD hS hf
    refine va_put (D := D) (ci := 8) (v := .int y1) (ty := .int) (C := RX8) (T := TX8) (N := 27) hx hb hT kwX8 tyX8 tyX8_ok nmX8 hown hK.1 hP hD hS 0 rfl rfl 21 (by decide) (hT _ kf_X8_198) (fun _ h9 => h9) rfl (by decide +kernel) rfl rfl (Nat.le_of_ble_eq_true rfl) dX8_offers_52 (fun H locs hP hD hS => ?_)
    have hP : va_P D vwCl (wX8 cA a_m m_s m_past m_pasts m_text m_typed m_faceOfSide m_firstSide m_faces m_before m_endA m_endB m_from m_queue m_ring m_ringSize m_ringNodes m_rings m_path m_pathSize m_old m_lastRing y1 m_bestInside m_bestFits m_far m_xs m_ys) H := hP
    have hD : va_D A (wX8 cA a_m m_s m_past m_pasts m_text m_typed m_faceOfSide m_firstSide m_faces m_before m_endA m_endB m_from m_queue m_ring m_ringSize m_ringNodes m_rings m_path m_pathSize m_old m_lastRing y1 m_bestInside m_bestFits m_far m_xs m_ys) := hD
    refine lv_aload_n hx hb dX8_offers_55 rfl (lv_at hl 0 rfl) ?_
    refine lv_iload hx hb dX8_offers_56 (lv_at hl 2 rfl) ?_
    refine lv_if_eq (tgt := 65) hx hb dX8_offers_58 (by decide) (fun c_6 => ?_) (fun c_6 => ?_)
    · have hf := ite_t c_6 hf
      refine lv_aload_n hx hb dX8_offers_65 rfl (lv_at hl 0 rfl) ?_
      refine va_get (D := D) (ci := 8) (C := RX8) (T := TX8) (N := 27) hx hb hT kwX8 hown hK.1 hP 0 rfl rfl 22 (by decide) (hT _ kf_X8_201) (fun _ h9 => h9) rfl dX8_offers_66 ?_
      exact B69 m_bestInside m_lastRing y1 m_bestInside m_bestFits _ _ _ (lv_sub hl [] rfl) hP hD hS hf
    · have hf := ite_f c_6 hf
      refine lv_iload_n hx hb dX8_offers_61 rfl (lv_at hl 1 rfl) ?_
      refine lv_goto (tgt := 69) hx hb dX8_offers_62 (by decide) ?_
      exact B69 x2 m_lastRing y1 m_bestInside m_bestFits _ _ _ (lv_sub hl [] rfl) hP hD hS hf
  have B35 : ∀ (x1 : Int32) (x2 : Int32) (x4 : Int32) (y1 : Int32) (m_lastRing : Int32) (m_bestNodes : Int32) (m_bestInside : Int32) (m_bestFits : Int32) (H : Heap) (locs : List Loc) (ls : Array Slot), lv_has ls 5 [(0, .ref (a_m 0)), (1, .int x1), (2, .int x2), (4, .int x4)] → va_P D vwCl (wX8 cA a_m m_s m_past m_pasts m_text m_typed m_faceOfSide m_firstSide m_faces m_before m_endA m_endB m_from m_queue m_ring m_ringSize m_ringNodes m_rings m_path m_pathSize m_old m_lastRing m_bestNodes m_bestInside m_bestFits m_far m_xs m_ys) H → va_D A (wX8 cA a_m m_s m_past m_pasts m_text m_typed m_faceOfSide m_firstSide m_faces m_before m_endA m_endB m_from m_queue m_ring m_ringSize m_ringNodes m_rings m_path m_pathSize m_old m_lastRing m_bestNodes m_bestInside m_bestFits m_far m_xs m_ys) → va_S A s.heap H locs → f_X8_offers_b35 N m_ringNodes m_rings x1 x2 x4 y1 m_lastRing m_bestNodes m_bestInside m_bestFits = some ρ → W p l e ({ frames := 1, cells := 0, slots := 0, locals := 24 } : Room) s m ([.ref (a_m 0), .int p1, .int p2] : List Value).toArray below meth c H locs 0 0 (MQ below (va_Qv (fun (_ : Unit) => True) (fun _ t => va_P D vwCl (wX8 cA a_m m_s m_past m_pasts m_text m_typed m_faceOfSide m_firstSide m_faces m_before m_endA m_endB m_from m_queue m_ring m_ringSize m_ringNodes m_rings m_path m_pathSize m_old ρ.1 ρ.2.1 ρ.2.2.1 ρ.2.2.2 m_far m_xs m_ys) t.heap ∧ va_D A (wX8 cA a_m m_s m_past m_pasts m_text m_typed m_faceOfSide m_firstSide m_faces m_before m_endA m_endB m_from m_queue m_ring m_ringSize m_ringNodes m_rings m_path m_pathSize m_old ρ.1 ρ.2.1 ρ.2.2.1 ρ.2.2.2 m_far m_xs m_ys)) A) ([.ref (a_m 0), .int p1, .int p2] : List Value).toArray s 0 0 A) (F0 m 35 ls [.int y1, .ref (a_m 0)]) := by
    intro x1 x2 x4 y1 m_lastRing m_bestNodes m_bestInside m_bestFits H locs ls hl hP hD hS hf
    refine va_put (D := D) (ci := 8) (v := .int y1) (ty := .int) (C := RX8) (T := TX8) (N := 27) hx hb hT kwX8 tyX8 tyX8_ok nmX8 hown hK.1 hP hD hS 0 rfl rfl 23 (by decide) (hT _ kf_X8_195) (fun _ h9 => h9) rfl (by decide +kernel) rfl rfl (Nat.le_of_ble_eq_true rfl) dX8_offers_35 (fun H locs hP hD hS => ?_)
    have hP : va_P D vwCl (wX8 cA a_m m_s m_past m_pasts m_text m_typed m_faceOfSide m_firstSide m_faces m_before m_endA m_endB m_from m_queue m_ring m_ringSize m_ringNodes m_rings m_path m_pathSize m_old m_lastRing m_bestNodes m_bestInside y1 m_far m_xs m_ys) H := hP
    have hD : va_D A (wX8 cA a_m m_s m_past m_pasts m_text m_typed m_faceOfSide m_firstSide m_faces m_before m_endA m_endB m_from m_queue m_ring m_ringSize m_ringNodes m_rings m_path m_pathSize m_old m_lastRing m_bestNodes m_bestInside y1 m_far m_xs m_ys) := hD
    refine lv_aload_n hx hb dX8_offers_38 rfl (lv_at hl 0 rfl) ?_
    refine lv_iload hx hb dX8_offers_39 (lv_at hl 3 rfl) ?_
    refine lv_if_eq (tgt := 48) hx hb dX8_offers_41 (by decide) (fun c_5 => ?_) (fun c_5 => ?_)
    · have hf := ite_t c_5 hf
      refine lv_aload_n hx hb dX8_offers_48 rfl (lv_at hl 0 rfl) ?_
      refine va_get (D := D) (ci := 8) (C := RX8) (T := TX8) (N := 27) hx hb hT kwX8 hown hK.1 hP 0 rfl rfl 21 (by decide) (hT _ kf_X8_198) (fun _ h9 => h9) rfl dX8_offers_49 ?_
      exact B52 x2 x4 m_bestNodes m_lastRing m_bestNodes m_bestInside y1 _ _ _ (lv_sub hl [0, 2, 3] rfl) hP hD hS hf
    · have hf := ite_f c_5 hf
      refine lv_iload_n hx hb dX8_offers_44 rfl (lv_at hl 1 rfl) ?_
      refine lv_goto (tgt := 52) hx hb dX8_offers_45 (by decide) ?_
      exact B52 x2 x4 x1 m_lastRing m_bestNodes m_bestInside y1 _ _ _ (lv_sub hl [0, 2, 3] rfl) hP hD hS hf
  have B19 : ∀ (x1 : Int32) (x2 : Int32) (x3 : Int32) (y0 : Int32) (m_lastRing : Int32) (m_bestNodes : Int32) (m_bestInside : Int32) (m_bestFits : Int32) (H : Heap) (locs : List Loc) (ls : Array Slot), lv_has ls 5 [(0, .ref (a_m 0)), (1, .int x1), (2, .int x2), (3, .int x3)] → va_P D vwCl (wX8 cA a_m m_s m_past m_pasts m_text m_typed m_faceOfSide m_firstSide m_faces m_before m_endA m_endB m_from m_queue m_ring m_ringSize m_ringNodes m_rings m_path m_pathSize m_old m_lastRing m_bestNodes m_bestInside m_bestFits m_far m_xs m_ys) H → va_D A (wX8 cA a_m m_s m_past m_pasts m_text m_typed m_faceOfSide m_firstSide m_faces m_before m_endA m_endB m_from m_queue m_ring m_ringSize m_ringNodes m_rings m_path m_pathSize m_old m_lastRing m_bestNodes m_bestInside m_bestFits m_far m_xs m_ys) → va_S A s.heap H locs → f_X8_offers_b19 N m_ringNodes m_rings x1 x2 x3 y0 m_lastRing m_bestNodes m_bestInside m_bestFits = some ρ → W p l e ({ frames := 1, cells := 0, slots := 0, locals := 24 } : Room) s m ([.ref (a_m 0), .int p1, .int p2] : List Value).toArray below meth c H locs 0 0 (MQ below (va_Qv (fun (_ : Unit) => True) (fun _ t => va_P D vwCl (wX8 cA a_m m_s m_past m_pasts m_text m_typed m_faceOfSide m_firstSide m_faces m_before m_endA m_endB m_from m_queue m_ring m_ringSize m_ringNodes m_rings m_path m_pathSize m_old ρ.1 ρ.2.1 ρ.2.2.1 ρ.2.2.2 m_far m_xs m_ys) t.heap ∧ va_D A (wX8 cA a_m m_s m_past m_pasts m_text m_typed m_faceOfSide m_firstSide m_faces m_before m_endA m_endB m_from m_queue m_ring m_ringSize m_ringNodes m_rings m_path m_pathSize m_old ρ.1 ρ.2.1 ρ.2.2.1 ρ.2.2.2 m_far m_xs m_ys)) A) ([.ref (a_m 0), .int p1, .int p2] : List Value).toArray s 0 0 A) (F0 m 19 ls [.int y0]) := by
    intro x1 x2 x3 y0 m_lastRing m_bestNodes m_bestInside m_bestFits H locs ls hl hP hD hS hf
    refine lv_istore (lv' := [(4, .int y0), (0, .ref (a_m 0)), (1, .int x1), (2, .int x2), (3, .int x3)]) hx hb dX8_offers_19 hl (by decide) rfl (fun ls hl => ?_)
    refine lv_aload_n hx hb dX8_offers_21 rfl (lv_at hl 1 rfl) ?_
    refine lv_iload hx hb dX8_offers_22 (lv_at hl 0 rfl) ?_
    refine lv_if_eq (tgt := 31) hx hb dX8_offers_24 (by decide) (fun c_4 => ?_) (fun c_4 => ?_)
    · have hf := ite_t c_4 hf
      refine lv_aload_n hx hb dX8_offers_31 rfl (lv_at hl 1 rfl) ?_
      refine va_get (D := D) (ci := 8) (C := RX8) (T := TX8) (N := 27) hx hb hT kwX8 hown hK.1 hP 0 rfl rfl 23 (by decide) (hT _ kf_X8_195) (fun _ h9 => h9) rfl dX8_offers_32 ?_
      exact B35 x1 x2 y0 m_bestFits m_lastRing m_bestNodes m_bestInside m_bestFits _ _ _ (lv_sub hl [1, 2, 3, 0] rfl) hP hD hS hf
    · have hf := ite_f c_4 hf
      refine lv_iload_n hx hb dX8_offers_27 rfl (lv_at hl 4 rfl) ?_
      refine lv_goto (tgt := 35) hx hb dX8_offers_28 (by decide) ?_
      exact B35 x1 x2 y0 x3 m_lastRing m_bestNodes m_bestInside m_bestFits _ _ _ (lv_sub hl [1, 2, 3, 0] rfl) hP hD hS hf
  refine lv_aload_n hx hb dX8_offers_0 rfl (lv_at hl 0 rfl) ?_
  refine lv_iload_n hx hb dX8_offers_1 rfl (lv_at hl 1 rfl) ?_
  obtain ⟨r_1, hcr_1, hf⟩ := bd1_s hf
  refine backWi (w2 := (wX8 cA a_m m_s m_past m_pasts m_text m_typed m_faceOfSide m_firstSide m_faces m_before m_endA m_endB m_from m_queue m_ring m_ringSize m_ringNodes m_rings m_path m_pathSize m_old r_1.2 m_bestNodes m_bestInside m_bestFits m_far m_xs m_ys)) (runVw C (c_X8_fitting l D cA a_m m_s m_past m_pasts m_text m_typed m_faceOfSide m_firstSide m_faces m_before m_endA m_endB m_from m_queue m_ring m_ringSize m_ringNodes m_rings m_path m_pathSize m_old m_lastRing m_bestNodes m_bestInside m_bestFits m_far m_xs m_ys p1 _ N r_1 hcr_1) cf_X8_fitting km_X8_192 ⟨rfl, rfl, by decide, by decide⟩ ⟨Nat.zero_le _, Nat.zero_le _⟩ (va_recv hK.1 hP (ci := 8) (q0 := 0) rfl rfl) (hP.sub [0, 1, 2, 3, 4, 5, 6, 7, 8, 9, 10, 11, 12, 13, 14, 15, 16, 17, 18] rfl) (hD.sub [0, 1, 2, 3, 4, 5, 6, 7, 8, 9, 10, 11, 12, 13, 14, 15, 16, 17, 18] rfl rfl) hK hl.1 rfl rfl (Nat.le_of_ble_eq_true rfl) dX8_offers_2) hP hD hS hA [0, 1, 2, 3, 4, 5, 6, 7, 8, 9, 10, 11, 12, 13, 14, 15, 16, 17, 18] rfl [] rfl rfl (by decide) [0, 1, 2, 3, 4, 5, 6, 7, 8, 9, 10, 11, 12, 13, 14, 15, 16, 17, 18] rfl rfl (fun H locs hP hD hS => ?_)
  refine lv_topi (fun x3_2 ex3_2 => ?_)
  have hf := nm_t ex3_2 hf
  refine lv_istore_n (lv' := [(3, .int x3_2), (0, .ref (a_m 0)), (1, .int p1), (2, .int p2)]) hx hb dX8_offers_5 rfl hl (by decide) rfl (fun ls hl => ?_)
  refine lv_iload_n hx hb dX8_offers_6 rfl (lv_at hl 0 rfl) ?_
  refine lv_aload_n hx hb dX8_offers_7 rfl (lv_at hl 1 rfl) ?_
  refine va_get (D := D) (ci := 8) (C := RX8) (T := TX8) (N := 27) hx hb hT kwX8 hown hK.1 hP 0 rfl rfl 23 (by decide) (hT _ kf_X8_195) (fun _ h9 => h9) rfl dX8_offers_8 ?_
  refine lv_icmp_ge (tgt := 18) hx hb dX8_offers_11 (by decide) (fun c_3 => ?_) (fun c_3 => ?_)
  · have hf := ite_t c_3 hf
    refine lv_iconst (v := 0) hx hb dX8_offers_18 (by decide) ?_
    exact B19 p1 p2 x3_2 0 r_1.2 m_bestNodes m_bestInside m_bestFits _ _ _ (lv_sub hl [1, 2, 3, 0] rfl) hP hD hS hf
  · have hf := ite_f c_3 hf
    refine lv_iconst (v := 1) hx hb dX8_offers_14 (by decide) ?_
    refine lv_goto (tgt := 19) hx hb dX8_offers_15 (by decide) ?_
    exact B19 p1 p2 x3_2 1 r_1.2 m_bestNodes m_bestInside m_bestFits _ _ _ (lv_sub hl [1, 2, 3, 0] rfl) hP hD hS hf
set_option maxRecDepth 100000 in
set_option maxHeartbeats 4000000 in
theorem c_X8_nodesOfEdges (l : Launch) (D : va_G) (cA : Nat → ClassId) (a_m : Nat → Nat) (m_s : Nat → Int32) (m_past : Nat → Int32) (m_pasts : Int32) (m_text : Nat → Int32) (m_typed : Int32) (m_faceOfSide : Nat → Int32) (m_firstSide : Nat → Int32) (m_faces : Int32) (m_before : Nat → Int32) (m_endA : Nat → Int32) (m_endB : Nat → Int32) (m_from : Nat → Int32) (m_queue : Nat → Int32) (m_ring : Nat → Int32) (m_ringSize : Nat → Int32) (m_ringNodes : Nat → Int32) (m_rings : Int32) (m_path : Nat → Int32) (m_pathSize : Int32) (m_old : Nat → Int32) (m_lastRing : Int32) (m_bestNodes : Int32) (m_bestInside : Int32) (m_bestFits : Int32) (m_far : Nat → Int32) (m_xs : Nat → UInt32) (m_ys : Nat → UInt32) (p1 : Int32) (N : Nat) (ρ : Int32) (hf : f_X8_nodesOfEdges N m_endA m_endB p1 = some ρ) : Met l yX8_nodesOfEdges (Cond.code yX8_nodesOfEdges cX8_nodesOfEdges 4 (Option.some Jvm.ClassFile.FieldType.int) :: lw_g) ({ frames := 1, cells := 0, slots := 0, locals := 21 } : Room) (PcS D (tyA cA) (wX8 cA a_m m_s m_past m_pasts m_text m_typed m_faceOfSide m_firstSide m_faces m_before m_endA m_endB m_from m_queue m_ring m_ringSize m_ringNodes m_rings m_path m_pathSize m_old m_lastRing m_bestNodes m_bestInside m_bestFits m_far m_xs m_ys) [.ref (a_m 0), .int p1]) (vp_Si (fun r => r = ρ)) 0 0 (fun _ => False) := by
  refine mkS (by decide +kernel) (Nat.le_of_ble_eq_true rfl) fun p e s m below meth c ls C hl hP hK => ?_
  obtain ⟨hx, hb, hml, hown, hT, hr, hlk⟩ := id C
  have hl : lv_has ls 4 [(0, .ref (a_m 0)), (1, .int p1)] := hl
  have B4 : ∀ (n4 : Nat), ∀ (x1 : Int32) (x2 : Int32) (x3 : Int32) (ls : Array Slot), lv_has ls 4 [(0, .ref (a_m 0)), (1, .int x1), (2, .int x2), (3, .int x3)] → f_X8_nodesOfEdges_b4 N m_endA m_endB n4 x1 x2 x3 = some ρ → W p l e ({ frames := 1, cells := 0, slots := 0, locals := 21 } : Room) s m ([.ref (a_m 0), .int p1] : List Value).toArray below meth c s.heap [] 0 0 (MQ below (vp_Si (fun r => r = ρ)) ([.ref (a_m 0), .int p1] : List Value).toArray s 0 0 (fun _ => False)) (F0 m 4 ls []) := by
    intro n4
    induction n4 with
    | zero =>
      intro x1 x2 x3 ls hl hf
      cases (show (none : Option (Int32)) = some ρ from hf)
    | succ n4 ih4 =>
      have B40 : ∀ (x1 : Int32) (x3 : Int32) (y0 : Int32) (y1 : Int32) (ls : Array Slot), lv_has ls 4 [(0, .ref (a_m 0)), (1, .int x1), (3, .int x3)] → f_X8_nodesOfEdges_b40 N m_endA m_endB (f_X8_nodesOfEdges_b4 N m_endA m_endB n4) x1 x3 y0 y1 = some ρ → W p l e ({ frames := 1, cells := 0, slots := 0, locals := 21 } : Room) s m ([.ref (a_m 0), .int p1] : List Value).toArray below meth c s.heap [] 0 0 (MQ below (vp_Si (fun r => r = ρ)) ([.ref (a_m 0), .int p1] : List Value).toArray s 0 0 (fun _ => False)) (F0 m 40 ls [.int y1, .int y0]) := by
        intro x1 x3 y0 y1 ls hl hf
        refine lv_ior hx hb dX8_nodesOfEdges_40 ?_
        refine lv_topi (fun x2_6 ex2_6 => ?_)
        have hf := nm_t ex2_6 hf
        refine lv_istore_n (lv' := [(2, .int x2_6), (0, .ref (a_m 0)), (1, .int x1), (3, .int x3)]) hx hb dX8_nodesOfEdges_41 rfl hl (by decide) rfl (fun ls hl => ?_)
        refine lv_iinc (v := (x3 + 1)) (lv' := [(3, .int (x3 + 1)), (2, .int x2_6), (0, .ref (a_m 0)), (1, .int x1)]) hx hb dX8_nodesOfEdges_42 hl (k := 3) rfl rfl (by decide) rfl (fun ls hl => ?_)
        refine lv_goto (tgt := 4) hx hb dX8_nodesOfEdges_45 (by decide) ?_
        exact ih4 x1 x2_6 (x3 + 1) _ (lv_sub hl [2, 3, 1, 0] rfl) hf
      intro x1 x2 x3 ls hl hf
      refine lv_iload_n hx hb dX8_nodesOfEdges_4 rfl (lv_at hl 3 rfl) ?_
      refine lv_bipush (v := 21) hx hb dX8_nodesOfEdges_5 (by decide) ?_
      refine lv_icmp_ge (tgt := 48) hx hb dX8_nodesOfEdges_7 (by decide) (fun c_1 => ?_) (fun c_1 => ?_)
      · have hf := ite_t c_1 hf
        refine lv_iload_n hx hb dX8_nodesOfEdges_48 rfl (lv_at hl 2 rfl) ?_
        exact W.iret hx hb hr (fun t ht hW => ⟨_, rfl, some_i hf, ht⟩) (fun _ h => by cases h) dX8_nodesOfEdges_49 (hlocks := hlk)
      · have hf := ite_f c_1 hf
        refine lv_iload_n hx hb dX8_nodesOfEdges_10 rfl (lv_at hl 2 rfl) ?_
        refine lv_iload_n hx hb dX8_nodesOfEdges_11 rfl (lv_at hl 1 rfl) ?_
        refine lv_iload_n hx hb dX8_nodesOfEdges_12 rfl (lv_at hl 3 rfl) ?_
        obtain ⟨r_2, hcr_2, hf⟩ := bd1_s hf
        refine backI (runS0 C (c_X8_has l D cA x1 x3 N r_2 hcr_2) cf_X8_has km_X8_166 ⟨rfl, rfl, by decide, by decide⟩ ⟨Nat.zero_le _, Nat.zero_le _⟩ (hP.sub [] rfl) hK hl.1 rfl rfl (Nat.le_of_ble_eq_true rfl) dX8_nodesOfEdges_13) ?_
        refine lv_if_eq (tgt := 39) hx hb dX8_nodesOfEdges_16 (by decide) (fun c_3 => ?_) (fun c_3 => ?_)
        · have hf := ite_t c_3 hf
          refine lv_iconst (v := 0) hx hb dX8_nodesOfEdges_39 (by decide) ?_
          exact B40 x1 x3 x2 0 _ (lv_sub hl [0, 1, 3] rfl) hf
        · have hf := ite_f c_3 hf
          refine lv_iconst (v := 1) hx hb dX8_nodesOfEdges_19 (by decide) ?_
          refine lv_aload_n hx hb dX8_nodesOfEdges_20 rfl (lv_at hl 0 rfl) ?_
          refine va_get (D := D) (ci := 8) (C := RX8) (T := TX8) (N := 27) hx hb hT kwX8 hown hK.1 hP 0 rfl rfl 9 (by decide) (hT _ kf_X8_29) (fun _ h9 => h9) rfl dX8_nodesOfEdges_21 ?_
          refine lv_iload_n hx hb dX8_nodesOfEdges_24 rfl (lv_at hl 3 rfl) ?_
          obtain ⟨h_4, hf⟩ := chk_s hf
          refine va_iald hx hb hK.1 hP 7 0 rfl rfl (inb_in h_4) dX8_nodesOfEdges_25 ?_
          refine lv_ishl hx hb dX8_nodesOfEdges_26 ?_
          refine lv_iconst (v := 1) hx hb dX8_nodesOfEdges_27 (by decide) ?_
          refine lv_aload_n hx hb dX8_nodesOfEdges_28 rfl (lv_at hl 0 rfl) ?_
          refine va_get (D := D) (ci := 8) (C := RX8) (T := TX8) (N := 27) hx hb hT kwX8 hown hK.1 hP 0 rfl rfl 10 (by decide) (hT _ kf_X8_32) (fun _ h9 => h9) rfl dX8_nodesOfEdges_29 ?_
          refine lv_iload_n hx hb dX8_nodesOfEdges_32 rfl (lv_at hl 3 rfl) ?_
          obtain ⟨h_5, hf⟩ := chk_s hf
          refine va_iald hx hb hK.1 hP 8 0 rfl rfl (inb_in h_5) dX8_nodesOfEdges_33 ?_
          refine lv_ishl hx hb dX8_nodesOfEdges_34 ?_
          refine lv_ior hx hb dX8_nodesOfEdges_35 ?_
          refine lv_goto (tgt := 40) hx hb dX8_nodesOfEdges_36 (by decide) ?_
          exact B40 x1 x3 x2 (((1 : Int32) <<< ((m_endA x3.toNatClampNeg) &&& 31)) ||| ((1 : Int32) <<< ((m_endB x3.toNatClampNeg) &&& 31))) _ (lv_sub hl [0, 1, 3] rfl) hf
  refine lv_iconst (v := 0) hx hb dX8_nodesOfEdges_0 (by decide) ?_
  refine lv_istore_n (lv' := [(2, .int 0), (0, .ref (a_m 0)), (1, .int p1)]) hx hb dX8_nodesOfEdges_1 rfl hl (by decide) rfl (fun ls hl => ?_)
  refine lv_iconst (v := 0) hx hb dX8_nodesOfEdges_2 (by decide) ?_
  refine lv_istore_n (lv' := [(3, .int 0), (2, .int 0), (0, .ref (a_m 0)), (1, .int p1)]) hx hb dX8_nodesOfEdges_3 rfl hl (by decide) rfl (fun ls hl => ?_)
  exact B4 N p1 0 0 _ (lv_sub hl [2, 3, 1, 0] rfl) hf
set_option maxRecDepth 100000 in
set_option maxHeartbeats 4000000 in
theorem c_X8_picks (l : Launch) (D : va_G) (cA : Nat → ClassId) (a_m : Nat → Nat) (m_s : Nat → Int32) (m_past : Nat → Int32) (m_pasts : Int32) (m_text : Nat → Int32) (m_typed : Int32) (m_faceOfSide : Nat → Int32) (m_firstSide : Nat → Int32) (m_faces : Int32) (m_before : Nat → Int32) (m_endA : Nat → Int32) (m_endB : Nat → Int32) (m_from : Nat → Int32) (m_queue : Nat → Int32) (m_ring : Nat → Int32) (m_ringSize : Nat → Int32) (m_ringNodes : Nat → Int32) (m_rings : Int32) (m_path : Nat → Int32) (m_pathSize : Int32) (m_old : Nat → Int32) (m_lastRing : Int32) (m_bestNodes : Int32) (m_bestInside : Int32) (m_bestFits : Int32) (m_far : Nat → Int32) (m_xs : Nat → UInt32) (m_ys : Nat → UInt32) (p1 : Int32) (p2 : Int32) (p3 : Int32) (sz N : Nat) (ρ : Int32 × Int32 × Int32 × Int32) (hf : f_X8_picks N m_endA m_endB m_ringNodes m_rings m_lastRing m_bestNodes m_bestInside m_bestFits p1 p2 p3 = some ρ) : Met l yX8_picks (Cond.code yX8_picks cX8_picks 11 (Option.none : Option Jvm.ClassFile.FieldType) :: lw_g) ({ frames := 2, cells := 0, slots := 0, locals := 49 } : Room) (PcW D (tyA cA) (wX8 cA a_m m_s m_past m_pasts m_text m_typed m_faceOfSide m_firstSide m_faces m_before m_endA m_endB m_from m_queue m_ring m_ringSize m_ringNodes m_rings m_path m_pathSize m_old m_lastRing m_bestNodes m_bestInside m_bestFits m_far m_xs m_ys) sz [.ref (a_m 0), .int p1, .int p2, .int p3]) (va_Qv (fun (_ : Unit) => True) (fun _ t => va_P D vwCl (wX8 cA a_m m_s m_past m_pasts m_text m_typed m_faceOfSide m_firstSide m_faces m_before m_endA m_endB m_from m_queue m_ring m_ringSize m_ringNodes m_rings m_path m_pathSize m_old ρ.1 ρ.2.1 ρ.2.2.1 ρ.2.2.2 m_far m_xs m_ys) t.heap ∧ va_D (va_A (wX8 cA a_m m_s m_past m_pasts m_text m_typed m_faceOfSide m_firstSide m_faces m_before m_endA m_endB m_from m_queue m_ring m_ringSize m_ringNodes m_rings m_path m_pathSize m_old m_lastRing m_bestNodes m_bestInside m_bestFits m_far m_xs m_ys) sz) (wX8 cA a_m m_s m_past m_pasts m_text m_typed m_faceOfSide m_firstSide m_faces m_before m_endA m_endB m_from m_queue m_ring m_ringSize m_ringNodes m_rings m_path m_pathSize m_old ρ.1 ρ.2.1 ρ.2.2.1 ρ.2.2.2 m_far m_xs m_ys)) (va_A (wX8 cA a_m m_s m_past m_pasts m_text m_typed m_faceOfSide m_firstSide m_faces m_before m_endA m_endB m_from m_queue m_ring m_ringSize m_ringNodes m_rings m_path m_pathSize m_old m_lastRing m_bestNodes m_bestInside m_bestFits m_far m_xs m_ys) sz)) 0 0 (va_A (wX8 cA a_m m_s m_past m_pasts m_text m_typed m_faceOfSide m_firstSide m_faces m_before m_endA m_endB m_from m_queue m_ring m_ringSize m_ringNodes m_rings m_path m_pathSize m_old m_lastRing m_bestNodes m_bestInside m_bestFits m_far m_xs m_ys) sz) := by
  refine mkW (QQ := fun A => va_Qv (fun (_ : Unit) => True) (fun _ t => va_P D vwCl (wX8 cA a_m m_s m_past m_pasts m_text m_typed m_faceOfSide m_firstSide m_faces m_before m_endA m_endB m_from m_queue m_ring m_ringSize m_ringNodes m_rings m_path m_pathSize m_old ρ.1 ρ.2.1 ρ.2.2.1 ρ.2.2.2 m_far m_xs m_ys) t.heap ∧ va_D A (wX8 cA a_m m_s m_past m_pasts m_text m_typed m_faceOfSide m_firstSide m_faces m_before m_endA m_endB m_from m_queue m_ring m_ringSize m_ringNodes m_rings m_path m_pathSize m_old ρ.1 ρ.2.1 ρ.2.2.1 ρ.2.2.2 m_far m_xs m_ys)) A) (by decide) (Nat.le_of_ble_eq_true rfl) fun p e s m below meth c ls A C hl hP hK hD hA hS => ?_
  obtain ⟨hx, hb, hml, hown, hT, hr, hlk⟩ := id C
  have hl : lv_has ls 11 [(0, .ref (a_m 0)), (1, .int p1), (2, .int p2), (3, .int p3)] := hl
  have B100 : ∀ (n100 : Nat), ∀ (x1 : Int32) (x3 : Int32) (x5 : Int32) (x6 : Int32) (m_lastRing : Int32) (m_bestNodes : Int32) (m_bestInside : Int32) (m_bestFits : Int32) (H : Heap) (locs : List Loc) (ls : Array Slot), lv_has ls 11 [(0, .ref (a_m 0)), (1, .int x1), (3, .int x3), (5, .int x5), (6, .int x6)] → va_P D vwCl (wX8 cA a_m m_s m_past m_pasts m_text m_typed m_faceOfSide m_firstSide m_faces m_before m_endA m_endB m_from m_queue m_ring m_ringSize m_ringNodes m_rings m_path m_pathSize m_old m_lastRing m_bestNodes m_bestInside m_bestFits m_far m_xs m_ys) H → va_D A (wX8 cA a_m m_s m_past m_pasts m_text m_typed m_faceOfSide m_firstSide m_faces m_before m_endA m_endB m_from m_queue m_ring m_ringSize m_ringNodes m_rings m_path m_pathSize m_old m_lastRing m_bestNodes m_bestInside m_bestFits m_far m_xs m_ys) → va_S A s.heap H locs → f_X8_picks_b100 N m_endA m_endB m_ringNodes m_rings n100 x1 x3 x5 x6 m_lastRing m_bestNodes m_bestInside m_bestFits = some ρ → W p l e ({ frames := 2, cells := 0, slots := 0, locals := 49 } : Room) s m ([.ref (a_m 0), .int p1, .int p2, .int p3] : List Value).toArray below meth c H locs 0 0 (MQ below (va_Qv (fun (_ : Unit) => True) (fun _ t => va_P D vwCl (wX8 cA a_m m_s m_past m_pasts m_text m_typed m_faceOfSide m_firstSide m_faces m_before m_endA m_endB m_from m_queue m_ring m_ringSize m_ringNodes m_rings m_path m_pathSize m_old ρ.1 ρ.2.1 ρ.2.2.1 ρ.2.2.2 m_far m_xs m_ys) t.heap ∧ va_D A (wX8 cA a_m m_s m_past m_pasts m_text m_typed m_faceOfSide m_firstSide m_faces m_before m_endA m_endB m_from m_queue m_ring m_ringSize m_ringNodes m_rings m_path m_pathSize m_old ρ.1 ρ.2.1 ρ.2.2.1 ρ.2.2.2 m_far m_xs m_ys)) A) ([.ref (a_m 0), .int p1, .int p2, .int p3] : List Value).toArray s 0 0 A) (F0 m 100 ls []) := by
    intro n100
    induction n100 with
    | zero =>
      intro x1 x3 x5 x6 m_lastRing m_bestNodes m_bestInside m_bestFits H locs ls hl hP hD hS hf
      cases (show (none : Option (Int32 × Int32 × Int32 × Int32)) = some ρ from hf)
    | succ n100 ih100 =>
      have B211 : ∀ (x1 : Int32) (x3 : Int32) (x5 : Int32) (x6 : Int32) (m_lastRing : Int32) (m_bestNodes : Int32) (m_bestInside : Int32) (m_bestFits : Int32) (H : Heap) (locs : List Loc) (ls : Array Slot), lv_has ls 11 [(0, .ref (a_m 0)), (1, .int x1), (3, .int x3), (5, .int x5), (6, .int x6)] → va_P D vwCl (wX8 cA a_m m_s m_past m_pasts m_text m_typed m_faceOfSide m_firstSide m_faces m_before m_endA m_endB m_from m_queue m_ring m_ringSize m_ringNodes m_rings m_path m_pathSize m_old m_lastRing m_bestNodes m_bestInside m_bestFits m_far m_xs m_ys) H → va_D A (wX8 cA a_m m_s m_past m_pasts m_text m_typed m_faceOfSide m_firstSide m_faces m_before m_endA m_endB m_from m_queue m_ring m_ringSize m_ringNodes m_rings m_path m_pathSize m_old m_lastRing m_bestNodes m_bestInside m_bestFits m_far m_xs m_ys) → va_S A s.heap H locs → f_X8_picks_b211 N m_endA m_endB m_ringNodes m_rings (f_X8_picks_b100 N m_endA m_endB m_ringNodes m_rings n100) x1 x3 x5 x6 m_lastRing m_bestNodes m_bestInside m_bestFits = some ρ → W p l e ({ frames := 2, cells := 0, slots := 0, locals := 49 } : Room) s m ([.ref (a_m 0), .int p1, .int p2, .int p3] : List Value).toArray below meth c H locs 0 0 (MQ below (va_Qv (fun (_ : Unit) => True) (fun _ t => va_P D vwCl (wX8 cA a_m m_s m_past m_pasts m_text m_typed m_faceOfSide m_firstSide m_faces m_before m_endA m_endB m_from m_queue m_ring m_ringSize m_ringNodes m_rings m_path m_pathSize m_old ρ.1 ρ.2.1 ρ.2.2.1 ρ.2.2.2 m_far m_xs m_ys) t.heap ∧ va_D A (wX8 cA a_m m_s m_past m_pasts m_text m_typed m_faceOfSide m_firstSide m_faces m_before m_endA m_endB m_from m_queue m_ring m_ringSize m_ringNodes m_rings m_path m_pathSize m_old ρ.1 ρ.2.1 ρ.2.2.1 ρ.2.2.2 m_far m_xs m_ys)) A) ([.ref (a_m 0), .int p1, .int p2, .int p3] : List Value).toArray s 0 0 A) (F0 m 211 ls []) := by
        intro x1 x3 x5 x6 m_lastRing m_bestNodes m_bestInside m_bestFits H locs ls hl hP hD hS hf
        refine lv_iinc (v := (x6 + 1)) (lv' := [(6, .int (x6 + 1)), (0, .ref (a_m 0)), (1, .int x1), (3, .int x3), (5, .int x5)]) hx hb dX8_picks_211 hl (k := 4) rfl rfl (by decide) rfl (fun ls hl => ?_)
        refine lv_goto (tgt := 100) hx hb dX8_picks_214 (by decide) ?_
        exact ih100 x1 x3 x5 (x6 + 1) m_lastRing m_bestNodes m_bestInside m_bestFits _ _ _ (lv_sub hl [1, 2, 3, 4, 0] rfl) hP hD hS hf
      have B203 : ∀ (x1 : Int32) (x3 : Int32) (x5 : Int32) (x6 : Int32) (x7 : Int32) (x8 : Int32) (m_lastRing : Int32) (m_bestNodes : Int32) (m_bestInside : Int32) (m_bestFits : Int32) (H : Heap) (locs : List Loc) (ls : Array Slot), lv_has ls 11 [(0, .ref (a_m 0)), (1, .int x1), (3, .int x3), (5, .int x5), (6, .int x6), (7, .int x7), (8, .int x8)] → va_P D vwCl (wX8 cA a_m m_s m_past m_pasts m_text m_typed m_faceOfSide m_firstSide m_faces m_before m_endA m_endB m_from m_queue m_ring m_ringSize m_ringNodes m_rings m_path m_pathSize m_old m_lastRing m_bestNodes m_bestInside m_bestFits m_far m_xs m_ys) H → va_D A (wX8 cA a_m m_s m_past m_pasts m_text m_typed m_faceOfSide m_firstSide m_faces m_before m_endA m_endB m_from m_queue m_ring m_ringSize m_ringNodes m_rings m_path m_pathSize m_old m_lastRing m_bestNodes m_bestInside m_bestFits m_far m_xs m_ys) → va_S A s.heap H locs → f_X8_picks_b203 N m_endA m_endB m_ringNodes m_rings (f_X8_picks_b100 N m_endA m_endB m_ringNodes m_rings n100) x1 x3 x5 x6 x7 x8 m_lastRing m_bestNodes m_bestInside m_bestFits = some ρ → W p l e ({ frames := 2, cells := 0, slots := 0, locals := 49 } : Room) s m ([.ref (a_m 0), .int p1, .int p2, .int p3] : List Value).toArray below meth c H locs 0 0 (MQ below (va_Qv (fun (_ : Unit) => True) (fun _ t => va_P D vwCl (wX8 cA a_m m_s m_past m_pasts m_text m_typed m_faceOfSide m_firstSide m_faces m_before m_endA m_endB m_from m_queue m_ring m_ringSize m_ringNodes m_rings m_path m_pathSize m_old ρ.1 ρ.2.1 ρ.2.2.1 ρ.2.2.2 m_far m_xs m_ys) t.heap ∧ va_D A (wX8 cA a_m m_s m_past m_pasts m_text m_typed m_faceOfSide m_firstSide m_faces m_before m_endA m_endB m_from m_queue m_ring m_ringSize m_ringNodes m_rings m_path m_pathSize m_old ρ.1 ρ.2.1 ρ.2.2.1 ρ.2.2.2 m_far m_xs m_ys)) A) ([.ref (a_m 0), .int p1, .int p2, .int p3] : List Value).toArray s 0 0 A) (F0 m 203 ls []) := by
        intro x1 x3 x5 x6 x7 x8 m_lastRing m_bestNodes m_bestInside m_bestFits H locs ls hl hP hD hS hf
        refine lv_aload_n hx hb dX8_picks_203 rfl (lv_at hl 0 rfl) ?_
        refine lv_iload hx hb dX8_picks_204 (lv_at hl 6 rfl) ?_
        refine lv_iload hx hb dX8_picks_206 (lv_at hl 5 rfl) ?_
        obtain ⟨r_23, hcr_23, hf⟩ := bd1_s hf
        refine backWv (w2 := (wX8 cA a_m m_s m_past m_pasts m_text m_typed m_faceOfSide m_firstSide m_faces m_before m_endA m_endB m_from m_queue m_ring m_ringSize m_ringNodes m_rings m_path m_pathSize m_old r_23.1 r_23.2.1 r_23.2.2.1 r_23.2.2.2 m_far m_xs m_ys)) (runVw C (c_X8_offers l D cA a_m m_s m_past m_pasts m_text m_typed m_faceOfSide m_firstSide m_faces m_before m_endA m_endB m_from m_queue m_ring m_ringSize m_ringNodes m_rings m_path m_pathSize m_old m_lastRing m_bestNodes m_bestInside m_bestFits m_far m_xs m_ys x8 x7 _ N r_23 hcr_23) cf_X8_offers km_X8_204 ⟨rfl, rfl, by decide, by decide⟩ ⟨Nat.zero_le _, Nat.zero_le _⟩ (va_recv hK.1 hP (ci := 8) (q0 := 0) rfl rfl) (hP.sub [0, 1, 2, 3, 4, 5, 6, 7, 8, 9, 10, 11, 12, 13, 14, 15, 16, 17, 18] rfl) (hD.sub [0, 1, 2, 3, 4, 5, 6, 7, 8, 9, 10, 11, 12, 13, 14, 15, 16, 17, 18] rfl rfl) hK hl.1 rfl rfl (Nat.le_of_ble_eq_true rfl) dX8_picks_208) hP hD hS hA [0, 1, 2, 3, 4, 5, 6, 7, 8, 9, 10, 11, 12, 13, 14, 15, 16, 17, 18] rfl [] rfl rfl (by decide) [0, 1, 2, 3, 4, 5, 6, 7, 8, 9, 10, 11, 12, 13, 14, 15, 16, 17, 18] rfl rfl (fun H locs hP hD hS => ?_)
        exact B211 x1 x3 x5 x6 r_23.1 r_23.2.1 r_23.2.2.1 r_23.2.2.2 _ _ _ (lv_sub hl [0, 1, 2, 3, 4] rfl) hP hD hS hf
      have B135 : ∀ (n135 : Nat), ∀ (x1 : Int32) (x3 : Int32) (x5 : Int32) (x6 : Int32) (x7 : Int32) (x8 : Int32) (x9 : Int32) (m_lastRing : Int32) (m_bestNodes : Int32) (m_bestInside : Int32) (m_bestFits : Int32) (H : Heap) (locs : List Loc) (ls : Array Slot), lv_has ls 11 [(0, .ref (a_m 0)), (1, .int x1), (3, .int x3), (5, .int x5), (6, .int x6), (7, .int x7), (8, .int x8), (9, .int x9)] → va_P D vwCl (wX8 cA a_m m_s m_past m_pasts m_text m_typed m_faceOfSide m_firstSide m_faces m_before m_endA m_endB m_from m_queue m_ring m_ringSize m_ringNodes m_rings m_path m_pathSize m_old m_lastRing m_bestNodes m_bestInside m_bestFits m_far m_xs m_ys) H → va_D A (wX8 cA a_m m_s m_past m_pasts m_text m_typed m_faceOfSide m_firstSide m_faces m_before m_endA m_endB m_from m_queue m_ring m_ringSize m_ringNodes m_rings m_path m_pathSize m_old m_lastRing m_bestNodes m_bestInside m_bestFits m_far m_xs m_ys) → va_S A s.heap H locs → f_X8_picks_b135 N m_endA m_endB m_ringNodes m_rings (f_X8_picks_b100 N m_endA m_endB m_ringNodes m_rings n100) n135 x1 x3 x5 x6 x7 x8 x9 m_lastRing m_bestNodes m_bestInside m_bestFits = some ρ → W p l e ({ frames := 2, cells := 0, slots := 0, locals := 49 } : Room) s m ([.ref (a_m 0), .int p1, .int p2, .int p3] : List Value).toArray below meth c H locs 0 0 (MQ below (va_Qv (fun (_ : Unit) => True) (fun _ t => va_P D vwCl (wX8 cA a_m m_s m_past m_pasts m_text m_typed m_faceOfSide m_firstSide m_faces m_before m_endA m_endB m_from m_queue m_ring m_ringSize m_ringNodes m_rings m_path m_pathSize m_old ρ.1 ρ.2.1 ρ.2.2.1 ρ.2.2.2 m_far m_xs m_ys) t.heap ∧ va_D A (wX8 cA a_m m_s m_past m_pasts m_text m_typed m_faceOfSide m_firstSide m_faces m_before m_endA m_endB m_from m_queue m_ring m_ringSize m_ringNodes m_rings m_path m_pathSize m_old ρ.1 ρ.2.1 ρ.2.2.1 ρ.2.2.2 m_far m_xs m_ys)) A) ([.ref (a_m 0), .int p1, .int p2, .int p3] : List Value).toArray s 0 0 A) (F0 m 135 ls []) := by
        intro n135
        induction n135 with
        | zero =>
          intro x1 x3 x5 x6 x7 x8 x9 m_lastRing m_bestNodes m_bestInside m_bestFits H locs ls hl hP hD hS hf
          cases (show (none : Option (Int32 × Int32 × Int32 × Int32)) = some ρ from hf)
        | succ n135 ih135 =>
          have B194 : ∀ (x1 : Int32) (x3 : Int32) (x5 : Int32) (x6 : Int32) (x7 : Int32) (x9 : Int32) (y0 : Int32) (y1 : Int32) (m_lastRing : Int32) (m_bestNodes : Int32) (m_bestInside : Int32) (m_bestFits : Int32) (H : Heap) (locs : List Loc) (ls : Array Slot), lv_has ls 11 [(0, .ref (a_m 0)), (1, .int x1), (3, .int x3), (5, .int x5), (6, .int x6), (7, .int x7), (9, .int x9)] → va_P D vwCl (wX8 cA a_m m_s m_past m_pasts m_text m_typed m_faceOfSide m_firstSide m_faces m_before m_endA m_endB m_from m_queue m_ring m_ringSize m_ringNodes m_rings m_path m_pathSize m_old m_lastRing m_bestNodes m_bestInside m_bestFits m_far m_xs m_ys) H → va_D A (wX8 cA a_m m_s m_past m_pasts m_text m_typed m_faceOfSide m_firstSide m_faces m_before m_endA m_endB m_from m_queue m_ring m_ringSize m_ringNodes m_rings m_path m_pathSize m_old m_lastRing m_bestNodes m_bestInside m_bestFits m_far m_xs m_ys) → va_S A s.heap H locs → f_X8_picks_b194 N m_endA m_endB m_ringNodes m_rings (f_X8_picks_b100 N m_endA m_endB m_ringNodes m_rings n100) (f_X8_picks_b135 N m_endA m_endB m_ringNodes m_rings (f_X8_picks_b100 N m_endA m_endB m_ringNodes m_rings n100) n135) x1 x3 x5 x6 x7 x9 y0 y1 m_lastRing m_bestNodes m_bestInside m_bestFits = some ρ → W p l e ({ frames := 2, cells := 0, slots := 0, locals := 49 } : Room) s m ([.ref (a_m 0), .int p1, .int p2, .int p3] : List Value).toArray below meth c H locs 0 0 (MQ below (va_Qv (fun (_ : Unit) => True) (fun _ t => va_P D vwCl (wX8 cA a_m m_s m_past m_pasts m_text m_typed m_faceOfSide m_firstSide m_faces m_before m_endA m_endB m_from m_queue m_ring m_ringSize m_ringNodes m_rings m_path m_pathSize m_old ρ.1 ρ.2.1 ρ.2.2.1 ρ.2.2.2 m_far m_xs m_ys) t.heap ∧ va_D A (wX8 cA a_m m_s m_past m_pasts m_text m_typed m_faceOfSide m_firstSide m_faces m_before m_endA m_endB m_from m_queue m_ring m_ringSize m_ringNodes m_rings m_path m_pathSize m_old ρ.1 ρ.2.1 ρ.2.2.1 ρ.2.2.2 m_far m_xs m_ys)) A) ([.ref (a_m 0), .int p1, .int p2, .int p3] : List Value).toArray s 0 0 A) (F0 m 194 ls [.int y1, .int y0]) := by
            intro x1 x3 x5 x6 x7 x9 y0 y1 m_lastRing m_bestNodes m_bestInside m_bestFits H locs ls hl hP hD hS hf
            refine lv_ior hx hb dX8_picks_194 ?_
            refine lv_topi (fun x8_22 ex8_22 => ?_)
            have hf := nm_t ex8_22 hf
            refine lv_istore (lv' := [(8, .int x8_22), (0, .ref (a_m 0)), (1, .int x1), (3, .int x3), (5, .int x5), (6, .int x6), (7, .int x7), (9, .int x9)]) hx hb dX8_picks_195 hl (by decide) rfl (fun ls hl => ?_)
            refine lv_iinc (v := (x9 + 1)) (lv' := [(9, .int (x9 + 1)), (8, .int x8_22), (0, .ref (a_m 0)), (1, .int x1), (3, .int x3), (5, .int x5), (6, .int x6), (7, .int x7)]) hx hb dX8_picks_197 hl (k := 7) rfl rfl (by decide) rfl (fun ls hl => ?_)
            refine lv_goto (tgt := 135) hx hb dX8_picks_200 (by decide) ?_
            exact ih135 x1 x3 x5 x6 x7 x8_22 (x9 + 1) m_lastRing m_bestNodes m_bestInside m_bestFits _ _ _ (lv_sub hl [2, 3, 4, 5, 6, 7, 1, 0] rfl) hP hD hS hf
          have B174 : ∀ (x1 : Int32) (x3 : Int32) (x5 : Int32) (x6 : Int32) (x7 : Int32) (x8 : Int32) (x9 : Int32) (y0 : Int32) (m_lastRing : Int32) (m_bestNodes : Int32) (m_bestInside : Int32) (m_bestFits : Int32) (H : Heap) (locs : List Loc) (ls : Array Slot), lv_has ls 11 [(0, .ref (a_m 0)), (1, .int x1), (3, .int x3), (5, .int x5), (6, .int x6), (7, .int x7), (8, .int x8), (9, .int x9)] → va_P D vwCl (wX8 cA a_m m_s m_past m_pasts m_text m_typed m_faceOfSide m_firstSide m_faces m_before m_endA m_endB m_from m_queue m_ring m_ringSize m_ringNodes m_rings m_path m_pathSize m_old m_lastRing m_bestNodes m_bestInside m_bestFits m_far m_xs m_ys) H → va_D A (wX8 cA a_m m_s m_past m_pasts m_text m_typed m_faceOfSide m_firstSide m_faces m_before m_endA m_endB m_from m_queue m_ring m_ringSize m_ringNodes m_rings m_path m_pathSize m_old m_lastRing m_bestNodes m_bestInside m_bestFits m_far m_xs m_ys) → va_S A s.heap H locs → f_X8_picks_b174 N m_endA m_endB m_ringNodes m_rings (f_X8_picks_b100 N m_endA m_endB m_ringNodes m_rings n100) (f_X8_picks_b135 N m_endA m_endB m_ringNodes m_rings (f_X8_picks_b100 N m_endA m_endB m_ringNodes m_rings n100) n135) x1 x3 x5 x6 x7 x8 x9 y0 m_lastRing m_bestNodes m_bestInside m_bestFits = some ρ → W p l e ({ frames := 2, cells := 0, slots := 0, locals := 49 } : Room) s m ([.ref (a_m 0), .int p1, .int p2, .int p3] : List Value).toArray below meth c H locs 0 0 (MQ below (va_Qv (fun (_ : Unit) => True) (fun _ t => va_P D vwCl (wX8 cA a_m m_s m_past m_pasts m_text m_typed m_faceOfSide m_firstSide m_faces m_before m_endA m_endB m_from m_queue m_ring m_ringSize m_ringNodes m_rings m_path m_pathSize m_old ρ.1 ρ.2.1 ρ.2.2.1 ρ.2.2.2 m_far m_xs m_ys) t.heap ∧ va_D A (wX8 cA a_m m_s m_past m_pasts m_text m_typed m_faceOfSide m_firstSide m_faces m_before m_endA m_endB m_from m_queue m_ring m_ringSize m_ringNodes m_rings m_path m_pathSize m_old ρ.1 ρ.2.1 ρ.2.2.1 ρ.2.2.2 m_far m_xs m_ys)) A) ([.ref (a_m 0), .int p1, .int p2, .int p3] : List Value).toArray s 0 0 A) (F0 m 174 ls [.int y0]) := by
            intro x1 x3 x5 x6 x7 x8 x9 y0 m_lastRing m_bestNodes m_bestInside m_bestFits H locs ls hl hP hD hS hf
            refine lv_istore (lv' := [(10, .int y0), (0, .ref (a_m 0)), (1, .int x1), (3, .int x3), (5, .int x5), (6, .int x6), (7, .int x7), (8, .int x8), (9, .int x9)]) hx hb dX8_picks_174 hl (by decide) rfl (fun ls hl => ?_)
            refine lv_iload hx hb dX8_picks_176 (lv_at hl 7 rfl) ?_
            refine lv_iload hx hb dX8_picks_178 (lv_at hl 0 rfl) ?_
            refine lv_iload hx hb dX8_picks_180 (lv_at hl 6 rfl) ?_
            refine lv_iand hx hb dX8_picks_182 ?_
            refine lv_if_eq (tgt := 193) hx hb dX8_picks_183 (by decide) (fun c_21 => ?_) (fun c_21 => ?_)
            · have hf := ite_t c_21 hf
              refine lv_iconst (v := 0) hx hb dX8_picks_193 (by decide) ?_
              exact B194 x1 x3 x5 x6 x7 x9 x8 0 m_lastRing m_bestNodes m_bestInside m_bestFits _ _ _ (lv_sub hl [1, 2, 3, 4, 5, 6, 8] rfl) hP hD hS hf
            · have hf := ite_f c_21 hf
              refine lv_iload hx hb dX8_picks_186 (lv_at hl 0 rfl) ?_
              refine lv_iload_n hx hb dX8_picks_188 rfl (lv_at hl 3 rfl) ?_
              refine lv_iand hx hb dX8_picks_189 ?_
              refine lv_goto (tgt := 194) hx hb dX8_picks_190 (by decide) ?_
              exact B194 x1 x3 x5 x6 x7 x9 x8 (y0 &&& x3) m_lastRing m_bestNodes m_bestInside m_bestFits _ _ _ (lv_sub hl [1, 2, 3, 4, 5, 6, 8] rfl) hP hD hS hf
          intro x1 x3 x5 x6 x7 x8 x9 m_lastRing m_bestNodes m_bestInside m_bestFits H locs ls hl hP hD hS hf
          refine lv_iload hx hb dX8_picks_135 (lv_at hl 7 rfl) ?_
          refine lv_bipush (v := 21) hx hb dX8_picks_137 (by decide) ?_
          refine lv_icmp_ge (tgt := 203) hx hb dX8_picks_139 (by decide) (fun c_16 => ?_) (fun c_16 => ?_)
          · have hf := ite_t c_16 hf
            exact B203 x1 x3 x5 x6 x7 x8 m_lastRing m_bestNodes m_bestInside m_bestFits _ _ _ (lv_sub hl [0, 1, 2, 3, 4, 5, 6] rfl) hP hD hS hf
          · have hf := ite_f c_16 hf
            refine lv_iload_n hx hb dX8_picks_142 rfl (lv_at hl 1 rfl) ?_
            refine lv_iload hx hb dX8_picks_143 (lv_at hl 7 rfl) ?_
            obtain ⟨r_17, hcr_17, hf⟩ := bd1_s hf
            refine backI (runS0 C (c_X8_has l D cA x1 x9 N r_17 hcr_17) cf_X8_has km_X8_166 ⟨rfl, rfl, by decide, by decide⟩ ⟨Nat.zero_le _, Nat.zero_le _⟩ (hP.sub [] rfl) hK hl.1 rfl rfl (Nat.le_of_ble_eq_true rfl) dX8_picks_145) ?_
            refine lv_if_eq (tgt := 173) hx hb dX8_picks_148 (by decide) (fun c_18 => ?_) (fun c_18 => ?_)
            · have hf := ite_t c_18 hf
              refine lv_iconst (v := 0) hx hb dX8_picks_173 (by decide) ?_
              exact B174 x1 x3 x5 x6 x7 x8 x9 0 m_lastRing m_bestNodes m_bestInside m_bestFits _ _ _ (lv_sub hl [0, 1, 2, 3, 4, 5, 6, 7] rfl) hP hD hS hf
            · have hf := ite_f c_18 hf
              refine lv_iconst (v := 1) hx hb dX8_picks_151 (by decide) ?_
              refine lv_aload_n hx hb dX8_picks_152 rfl (lv_at hl 0 rfl) ?_
              refine va_get (D := D) (ci := 8) (C := RX8) (T := TX8) (N := 27) hx hb hT kwX8 hown hK.1 hP 0 rfl rfl 9 (by decide) (hT _ kf_X8_29) (fun _ h9 => h9) rfl dX8_picks_153 ?_
              refine lv_iload hx hb dX8_picks_156 (lv_at hl 7 rfl) ?_
              obtain ⟨h_19, hf⟩ := chk_s hf
              refine va_iald hx hb hK.1 hP 7 0 rfl rfl (inb_in h_19) dX8_picks_158 ?_
              refine lv_ishl hx hb dX8_picks_159 ?_
              refine lv_iconst (v := 1) hx hb dX8_picks_160 (by decide) ?_
              refine lv_aload_n hx hb dX8_picks_161 rfl (lv_at hl 0 rfl) ?_
              refine va_get (D := D) (ci := 8) (C := RX8) (T := TX8) (N := 27) hx hb hT kwX8 hown hK.1 hP 0 rfl rfl 10 (by decide) (hT _ kf_X8_32) (fun _ h9 => h9) rfl dX8_picks_162 ?_
              refine lv_iload hx hb dX8_picks_165 (lv_at hl 7 rfl) ?_
              obtain ⟨h_20, hf⟩ := chk_s hf
              refine va_iald hx hb hK.1 hP 8 0 rfl rfl (inb_in h_20) dX8_picks_167 ?_
              refine lv_ishl hx hb dX8_picks_168 ?_
              refine lv_ior hx hb dX8_picks_169 ?_
              refine lv_goto (tgt := 174) hx hb dX8_picks_170 (by decide) ?_
              exact B174 x1 x3 x5 x6 x7 x8 x9 (((1 : Int32) <<< ((m_endA x9.toNatClampNeg) &&& 31)) ||| ((1 : Int32) <<< ((m_endB x9.toNatClampNeg) &&& 31))) m_lastRing m_bestNodes m_bestInside m_bestFits _ _ _ (lv_sub hl [0, 1, 2, 3, 4, 5, 6, 7] rfl) hP hD hS hf
      intro x1 x3 x5 x6 m_lastRing m_bestNodes m_bestInside m_bestFits H locs ls hl hP hD hS hf
      refine lv_iload hx hb dX8_picks_100 (lv_at hl 4 rfl) ?_
      refine lv_bipush (v := 9) hx hb dX8_picks_102 (by decide) ?_
      refine lv_icmp_ge (tgt := 217) hx hb dX8_picks_104 (by decide) (fun c_12 => ?_) (fun c_12 => ?_)
      · have hf := ite_t c_12 hf
        have eR := some_i hf
        exact W.vret hx hb hr (fun t ht hW => ⟨⟨(), rfl, trivial, by rw [← eR, ht]; exact hP, by rw [← eR]; exact hD⟩, hS.F ht⟩) hS.2.2 dX8_picks_217 (hlocks := hlk)
      · have hf := ite_f c_12 hf
        refine lv_iload hx hb dX8_picks_107 (lv_at hl 3 rfl) ?_
        refine lv_iload hx hb dX8_picks_109 (lv_at hl 4 rfl) ?_
        obtain ⟨r_13, hcr_13, hf⟩ := bd1_s hf
        refine backI (runS0 C (c_X8_has l D cA x5 x6 N r_13 hcr_13) cf_X8_has km_X8_166 ⟨rfl, rfl, by decide, by decide⟩ ⟨Nat.zero_le _, Nat.zero_le _⟩ (hP.sub [] rfl) hK hl.1 rfl rfl (Nat.le_of_ble_eq_true rfl) dX8_picks_111) ?_
        refine lv_if_eq (tgt := 211) hx hb dX8_picks_114 (by decide) (fun c_14 => ?_) (fun c_14 => ?_)
        · have hf := ite_t c_14 hf
          exact B211 x1 x3 x5 x6 m_lastRing m_bestNodes m_bestInside m_bestFits _ _ _ (lv_sub hl [0, 1, 2, 3, 4] rfl) hP hD hS hf
        · have hf := ite_f c_14 hf
          refine lv_aload_n hx hb dX8_picks_117 rfl (lv_at hl 0 rfl) ?_
          refine lv_iconst (v := 1) hx hb dX8_picks_118 (by decide) ?_
          refine lv_iload hx hb dX8_picks_119 (lv_at hl 4 rfl) ?_
          refine lv_ishl hx hb dX8_picks_121 ?_
          refine lv_iload_n hx hb dX8_picks_122 rfl (lv_at hl 1 rfl) ?_
          refine lv_iload_n hx hb dX8_picks_123 rfl (lv_at hl 2 rfl) ?_
          obtain ⟨r_15, hcr_15, hf⟩ := bd1_s hf
          refine backI (runV0 C (c_X8_reached l D cA a_m m_s m_past m_pasts m_text m_typed m_faceOfSide m_firstSide m_faces m_before m_endA m_endB m_from m_queue m_ring m_ringSize m_ringNodes m_rings m_path m_pathSize m_old m_lastRing m_bestNodes m_bestInside m_bestFits m_far m_xs m_ys ((1 : Int32) <<< (x6 &&& 31)) x1 x3 N r_15 hcr_15) cf_X8_reached km_X8_172 ⟨rfl, rfl, by decide, by decide⟩ ⟨Nat.zero_le _, Nat.zero_le _⟩ (va_recv hK.1 hP (ci := 8) (q0 := 0) rfl rfl) (hP.sub [0, 1, 2, 3, 4, 5, 6, 7, 8, 9, 10, 11, 12, 13, 14, 15, 16, 17, 18] rfl) hK hl.1 rfl rfl (Nat.le_of_ble_eq_true rfl) dX8_picks_124) ?_
          refine lv_istore (lv' := [(7, .int r_15), (0, .ref (a_m 0)), (1, .int x1), (3, .int x3), (5, .int x5), (6, .int x6)]) hx hb dX8_picks_127 hl (by decide) rfl (fun ls hl => ?_)
          refine lv_iconst (v := 0) hx hb dX8_picks_129 (by decide) ?_
          refine lv_istore (lv' := [(8, .int 0), (7, .int r_15), (0, .ref (a_m 0)), (1, .int x1), (3, .int x3), (5, .int x5), (6, .int x6)]) hx hb dX8_picks_130 hl (by decide) rfl (fun ls hl => ?_)
          refine lv_iconst (v := 0) hx hb dX8_picks_132 (by decide) ?_
          refine lv_istore (lv' := [(9, .int 0), (8, .int 0), (7, .int r_15), (0, .ref (a_m 0)), (1, .int x1), (3, .int x3), (5, .int x5), (6, .int x6)]) hx hb dX8_picks_133 hl (by decide) rfl (fun ls hl => ?_)
          exact B135 N x1 x3 x5 x6 r_15 0 0 m_lastRing m_bestNodes m_bestInside m_bestFits _ _ _ (lv_sub hl [3, 4, 5, 6, 7, 2, 1, 0] rfl) hP hD hS hf
  have B86 : ∀ (x1 : Int32) (x3 : Int32) (m_lastRing : Int32) (m_bestNodes : Int32) (m_bestInside : Int32) (m_bestFits : Int32) (H : Heap) (locs : List Loc) (ls : Array Slot), lv_has ls 11 [(0, .ref (a_m 0)), (1, .int x1), (3, .int x3)] → va_P D vwCl (wX8 cA a_m m_s m_past m_pasts m_text m_typed m_faceOfSide m_firstSide m_faces m_before m_endA m_endB m_from m_queue m_ring m_ringSize m_ringNodes m_rings m_path m_pathSize m_old m_lastRing m_bestNodes m_bestInside m_bestFits m_far m_xs m_ys) H → va_D A (wX8 cA a_m m_s m_past m_pasts m_text m_typed m_faceOfSide m_firstSide m_faces m_before m_endA m_endB m_from m_queue m_ring m_ringSize m_ringNodes m_rings m_path m_pathSize m_old m_lastRing m_bestNodes m_bestInside m_bestFits m_far m_xs m_ys) → va_S A s.heap H locs → f_X8_picks_b86 N m_endA m_endB m_ringNodes m_rings x1 x3 m_lastRing m_bestNodes m_bestInside m_bestFits = some ρ → W p l e ({ frames := 2, cells := 0, slots := 0, locals := 49 } : Room) s m ([.ref (a_m 0), .int p1, .int p2, .int p3] : List Value).toArray below meth c H locs 0 0 (MQ below (va_Qv (fun (_ : Unit) => True) (fun _ t => va_P D vwCl (wX8 cA a_m m_s m_past m_pasts m_text m_typed m_faceOfSide m_firstSide m_faces m_before m_endA m_endB m_from m_queue m_ring m_ringSize m_ringNodes m_rings m_path m_pathSize m_old ρ.1 ρ.2.1 ρ.2.2.1 ρ.2.2.2 m_far m_xs m_ys) t.heap ∧ va_D A (wX8 cA a_m m_s m_past m_pasts m_text m_typed m_faceOfSide m_firstSide m_faces m_before m_endA m_endB m_from m_queue m_ring m_ringSize m_ringNodes m_rings m_path m_pathSize m_old ρ.1 ρ.2.1 ρ.2.2.1 ρ.2.2.2 m_far m_xs m_ys)) A) ([.ref (a_m 0), .int p1, .int p2, .int p3] : List Value).toArray s 0 0 A) (F0 m 86 ls []) := by
    intro x1 x3 m_lastRing m_bestNodes m_bestInside m_bestFits H locs ls hl hP hD hS hf
    refine lv_aload_n hx hb dX8_picks_86 rfl (lv_at hl 0 rfl) ?_
    refine lv_iload_n hx hb dX8_picks_87 rfl (lv_at hl 1 rfl) ?_
    obtain ⟨r_10, hcr_10, hf⟩ := bd1_s hf
    refine backI (runV0 C (c_X8_nodesOfEdges l D cA a_m m_s m_past m_pasts m_text m_typed m_faceOfSide m_firstSide m_faces m_before m_endA m_endB m_from m_queue m_ring m_ringSize m_ringNodes m_rings m_path m_pathSize m_old m_lastRing m_bestNodes m_bestInside m_bestFits m_far m_xs m_ys x1 N r_10 hcr_10) cf_X8_nodesOfEdges km_X8_207 ⟨rfl, rfl, by decide, by decide⟩ ⟨Nat.zero_le _, Nat.zero_le _⟩ (va_recv hK.1 hP (ci := 8) (q0 := 0) rfl rfl) (hP.sub [0, 1, 2, 3, 4, 5, 6, 7, 8, 9, 10, 11, 12, 13, 14, 15, 16, 17, 18] rfl) hK hl.1 rfl rfl (Nat.le_of_ble_eq_true rfl) dX8_picks_88) ?_
    refine lv_iload_n hx hb dX8_picks_91 rfl (lv_at hl 2 rfl) ?_
    refine lv_iconst (v := (-1)) hx hb dX8_picks_92 (by decide) ?_
    refine lv_ixor hx hb dX8_picks_93 ?_
    refine lv_iand hx hb dX8_picks_94 ?_
    refine lv_topi (fun x5_11 ex5_11 => ?_)
    have hf := nm_t ex5_11 hf
    refine lv_istore (lv' := [(5, .int x5_11), (0, .ref (a_m 0)), (1, .int x1), (3, .int x3)]) hx hb dX8_picks_95 hl (by decide) rfl (fun ls hl => ?_)
    refine lv_iconst (v := 0) hx hb dX8_picks_97 (by decide) ?_
    refine lv_istore (lv' := [(6, .int 0), (5, .int x5_11), (0, .ref (a_m 0)), (1, .int x1), (3, .int x3)]) hx hb dX8_picks_98 hl (by decide) rfl (fun ls hl => ?_)
    exact B100 N x1 x3 x5_11 0 m_lastRing m_bestNodes m_bestInside m_bestFits _ _ _ (lv_sub hl [2, 3, 4, 1, 0] rfl) hP hD hS hf
  have B17 : ∀ (n17 : Nat), ∀ (x1 : Int32) (x3 : Int32) (x4 : Int32) (x5 : Int32) (m_lastRing : Int32) (m_bestNodes : Int32) (m_bestInside : Int32) (m_bestFits : Int32) (H : Heap) (locs : List Loc) (ls : Array Slot), lv_has ls 11 [(0, .ref (a_m 0)), (1, .int x1), (3, .int x3), (4, .int x4), (5, .int x5)] → va_P D vwCl (wX8 cA a_m m_s m_past m_pasts m_text m_typed m_faceOfSide m_firstSide m_faces m_before m_endA m_endB m_from m_queue m_ring m_ringSize m_ringNodes m_rings m_path m_pathSize m_old m_lastRing m_bestNodes m_bestInside m_bestFits m_far m_xs m_ys) H → va_D A (wX8 cA a_m m_s m_past m_pasts m_text m_typed m_faceOfSide m_firstSide m_faces m_before m_endA m_endB m_from m_queue m_ring m_ringSize m_ringNodes m_rings m_path m_pathSize m_old m_lastRing m_bestNodes m_bestInside m_bestFits m_far m_xs m_ys) → va_S A s.heap H locs → f_X8_picks_b17 N m_endA m_endB m_ringNodes m_rings n17 x1 x3 x4 x5 m_lastRing m_bestNodes m_bestInside m_bestFits = some ρ → W p l e ({ frames := 2, cells := 0, slots := 0, locals := 49 } : Room) s m ([.ref (a_m 0), .int p1, .int p2, .int p3] : List Value).toArray below meth c H locs 0 0 (MQ below (va_Qv (fun (_ : Unit) => True) (fun _ t => va_P D vwCl (wX8 cA a_m m_s m_past m_pasts m_text m_typed m_faceOfSide m_firstSide m_faces m_before m_endA m_endB m_from m_queue m_ring m_ringSize m_ringNodes m_rings m_path m_pathSize m_old ρ.1 ρ.2.1 ρ.2.2.1 ρ.2.2.2 m_far m_xs m_ys) t.heap ∧ va_D A (wX8 cA a_m m_s m_past m_pasts m_text m_typed m_faceOfSide m_firstSide m_faces m_before m_endA m_endB m_from m_queue m_ring m_ringSize m_ringNodes m_rings m_path m_pathSize m_old ρ.1 ρ.2.1 ρ.2.2.1 ρ.2.2.2 m_far m_xs m_ys)) A) ([.ref (a_m 0), .int p1, .int p2, .int p3] : List Value).toArray s 0 0 A) (F0 m 17 ls []) := by
    intro n17
    induction n17 with
    | zero =>
      intro x1 x3 x4 x5 m_lastRing m_bestNodes m_bestInside m_bestFits H locs ls hl hP hD hS hf
      cases (show (none : Option (Int32 × Int32 × Int32 × Int32)) = some ρ from hf)
    | succ n17 ih17 =>
      have B80 : ∀ (x1 : Int32) (x3 : Int32) (x4 : Int32) (x5 : Int32) (m_lastRing : Int32) (m_bestNodes : Int32) (m_bestInside : Int32) (m_bestFits : Int32) (H : Heap) (locs : List Loc) (ls : Array Slot), lv_has ls 11 [(0, .ref (a_m 0)), (1, .int x1), (3, .int x3), (4, .int x4), (5, .int x5)] → va_P D vwCl (wX8 cA a_m m_s m_past m_pasts m_text m_typed m_faceOfSide m_firstSide m_faces m_before m_endA m_endB m_from m_queue m_ring m_ringSize m_ringNodes m_rings m_path m_pathSize m_old m_lastRing m_bestNodes m_bestInside m_bestFits m_far m_xs m_ys) H → va_D A (wX8 cA a_m m_s m_past m_pasts m_text m_typed m_faceOfSide m_firstSide m_faces m_before m_endA m_endB m_from m_queue m_ring m_ringSize m_ringNodes m_rings m_path m_pathSize m_old m_lastRing m_bestNodes m_bestInside m_bestFits m_far m_xs m_ys) → va_S A s.heap H locs → f_X8_picks_b80 N m_endA m_endB m_ringNodes m_rings (f_X8_picks_b17 N m_endA m_endB m_ringNodes m_rings n17) x1 x3 x4 x5 m_lastRing m_bestNodes m_bestInside m_bestFits = some ρ → W p l e ({ frames := 2, cells := 0, slots := 0, locals := 49 } : Room) s m ([.ref (a_m 0), .int p1, .int p2, .int p3] : List Value).toArray below meth c H locs 0 0 (MQ below (va_Qv (fun (_ : Unit) => True) (fun _ t => va_P D vwCl (wX8 cA a_m m_s m_past m_pasts m_text m_typed m_faceOfSide m_firstSide m_faces m_before m_endA m_endB m_from m_queue m_ring m_ringSize m_ringNodes m_rings m_path m_pathSize m_old ρ.1 ρ.2.1 ρ.2.2.1 ρ.2.2.2 m_far m_xs m_ys) t.heap ∧ va_D A (wX8 cA a_m m_s m_past m_pasts m_text m_typed m_faceOfSide m_firstSide m_faces m_before m_endA m_endB m_from m_queue m_ring m_ringSize m_ringNodes m_rings m_path m_pathSize m_old ρ.1 ρ.2.1 ρ.2.2.1 ρ.2.2.2 m_far m_xs m_ys)) A) ([.ref (a_m 0), .int p1, .int p2, .int p3] : List Value).toArray s 0 0 A) (F0 m 80 ls []) := by
        intro x1 x3 x4 x5 m_lastRing m_bestNodes m_bestInside m_bestFits H locs ls hl hP hD hS hf
        refine lv_iinc (v := (x5 + 1)) (lv' := [(5, .int (x5 + 1)), (0, .ref (a_m 0)), (1, .int x1), (3, .int x3), (4, .int x4)]) hx hb dX8_picks_80 hl (k := 4) rfl rfl (by decide) rfl (fun ls hl => ?_)
        refine lv_goto (tgt := 17) hx hb dX8_picks_83 (by decide) ?_
        exact ih17 x1 x3 x4 (x5 + 1) m_lastRing m_bestNodes m_bestInside m_bestFits _ _ _ (lv_sub hl [1, 2, 3, 4, 0] rfl) hP hD hS hf
      have B57 : ∀ (x1 : Int32) (x3 : Int32) (x4 : Int32) (x5 : Int32) (y0 : Int32) (m_lastRing : Int32) (m_bestNodes : Int32) (m_bestInside : Int32) (m_bestFits : Int32) (H : Heap) (locs : List Loc) (ls : Array Slot), lv_has ls 11 [(0, .ref (a_m 0)), (1, .int x1), (3, .int x3), (4, .int x4), (5, .int x5)] → va_P D vwCl (wX8 cA a_m m_s m_past m_pasts m_text m_typed m_faceOfSide m_firstSide m_faces m_before m_endA m_endB m_from m_queue m_ring m_ringSize m_ringNodes m_rings m_path m_pathSize m_old m_lastRing m_bestNodes m_bestInside m_bestFits m_far m_xs m_ys) H → va_D A (wX8 cA a_m m_s m_past m_pasts m_text m_typed m_faceOfSide m_firstSide m_faces m_before m_endA m_endB m_from m_queue m_ring m_ringSize m_ringNodes m_rings m_path m_pathSize m_old m_lastRing m_bestNodes m_bestInside m_bestFits m_far m_xs m_ys) → va_S A s.heap H locs → f_X8_picks_b57 N m_endA m_endB m_ringNodes m_rings (f_X8_picks_b17 N m_endA m_endB m_ringNodes m_rings n17) x1 x3 x4 x5 y0 m_lastRing m_bestNodes m_bestInside m_bestFits = some ρ → W p l e ({ frames := 2, cells := 0, slots := 0, locals := 49 } : Room) s m ([.ref (a_m 0), .int p1, .int p2, .int p3] : List Value).toArray below meth c H locs 0 0 (MQ below (va_Qv (fun (_ : Unit) => True) (fun _ t => va_P D vwCl (wX8 cA a_m m_s m_past m_pasts m_text m_typed m_faceOfSide m_firstSide m_faces m_before m_endA m_endB m_from m_queue m_ring m_ringSize m_ringNodes m_rings m_path m_pathSize m_old ρ.1 ρ.2.1 ρ.2.2.1 ρ.2.2.2 m_far m_xs m_ys) t.heap ∧ va_D A (wX8 cA a_m m_s m_past m_pasts m_text m_typed m_faceOfSide m_firstSide m_faces m_before m_endA m_endB m_from m_queue m_ring m_ringSize m_ringNodes m_rings m_path m_pathSize m_old ρ.1 ρ.2.1 ρ.2.2.1 ρ.2.2.2 m_far m_xs m_ys)) A) ([.ref (a_m 0), .int p1, .int p2, .int p3] : List Value).toArray s 0 0 A) (F0 m 57 ls [.int y0]) := by
        intro x1 x3 x4 x5 y0 m_lastRing m_bestNodes m_bestInside m_bestFits H locs ls hl hP hD hS hf
        refine lv_istore (lv' := [(6, .int y0), (0, .ref (a_m 0)), (1, .int x1), (3, .int x3), (4, .int x4), (5, .int x5)]) hx hb dX8_picks_57 hl (by decide) rfl (fun ls hl => ?_)
        refine lv_iload hx hb dX8_picks_59 (lv_at hl 0 rfl) ?_
        refine lv_if_eq (tgt := 80) hx hb dX8_picks_61 (by decide) (fun c_7 => ?_) (fun c_7 => ?_)
        · have hf := ite_t c_7 hf
          exact B80 x1 x3 x4 x5 m_lastRing m_bestNodes m_bestInside m_bestFits _ _ _ (lv_sub hl [1, 2, 3, 4, 5] rfl) hP hD hS hf
        · have hf := ite_f c_7 hf
          refine lv_iload hx hb dX8_picks_64 (lv_at hl 0 rfl) ?_
          refine lv_iload_n hx hb dX8_picks_66 rfl (lv_at hl 3 rfl) ?_
          refine lv_iconst (v := (-1)) hx hb dX8_picks_67 (by decide) ?_
          refine lv_ixor hx hb dX8_picks_68 ?_
          refine lv_iand hx hb dX8_picks_69 ?_
          refine lv_if_ne (tgt := 80) hx hb dX8_picks_70 (by decide) (fun c_8 => ?_) (fun c_8 => ?_)
          · have hf := ite_t c_8 hf
            exact B80 x1 x3 x4 x5 m_lastRing m_bestNodes m_bestInside m_bestFits _ _ _ (lv_sub hl [1, 2, 3, 4, 5] rfl) hP hD hS hf
          · have hf := ite_fn c_8 hf
            refine lv_aload_n hx hb dX8_picks_73 rfl (lv_at hl 1 rfl) ?_
            refine lv_iload hx hb dX8_picks_74 (lv_at hl 0 rfl) ?_
            refine lv_iconst (v := 0) hx hb dX8_picks_76 (by decide) ?_
            obtain ⟨r_9, hcr_9, hf⟩ := bd1_s hf
            refine backWv (w2 := (wX8 cA a_m m_s m_past m_pasts m_text m_typed m_faceOfSide m_firstSide m_faces m_before m_endA m_endB m_from m_queue m_ring m_ringSize m_ringNodes m_rings m_path m_pathSize m_old r_9.1 r_9.2.1 r_9.2.2.1 r_9.2.2.2 m_far m_xs m_ys)) (runVw C (c_X8_offers l D cA a_m m_s m_past m_pasts m_text m_typed m_faceOfSide m_firstSide m_faces m_before m_endA m_endB m_from m_queue m_ring m_ringSize m_ringNodes m_rings m_path m_pathSize m_old m_lastRing m_bestNodes m_bestInside m_bestFits m_far m_xs m_ys y0 0 _ N r_9 hcr_9) cf_X8_offers km_X8_204 ⟨rfl, rfl, by decide, by decide⟩ ⟨Nat.zero_le _, Nat.zero_le _⟩ (va_recv hK.1 hP (ci := 8) (q0 := 0) rfl rfl) (hP.sub [0, 1, 2, 3, 4, 5, 6, 7, 8, 9, 10, 11, 12, 13, 14, 15, 16, 17, 18] rfl) (hD.sub [0, 1, 2, 3, 4, 5, 6, 7, 8, 9, 10, 11, 12, 13, 14, 15, 16, 17, 18] rfl rfl) hK hl.1 rfl rfl (Nat.le_of_ble_eq_true rfl) dX8_picks_77) hP hD hS hA [0, 1, 2, 3, 4, 5, 6, 7, 8, 9, 10, 11, 12, 13, 14, 15, 16, 17, 18] rfl [] rfl rfl (by decide) [0, 1, 2, 3, 4, 5, 6, 7, 8, 9, 10, 11, 12, 13, 14, 15, 16, 17, 18] rfl rfl (fun H locs hP hD hS => ?_)
            exact B80 x1 x3 x4 x5 r_9.1 r_9.2.1 r_9.2.2.1 r_9.2.2.2 _ _ _ (lv_sub hl [1, 2, 3, 4, 5] rfl) hP hD hS hf
      intro x1 x3 x4 x5 m_lastRing m_bestNodes m_bestInside m_bestFits H locs ls hl hP hD hS hf
      refine lv_iload hx hb dX8_picks_17 (lv_at hl 4 rfl) ?_
      refine lv_bipush (v := 21) hx hb dX8_picks_19 (by decide) ?_
      refine lv_icmp_ge (tgt := 86) hx hb dX8_picks_21 (by decide) (fun c_2 => ?_) (fun c_2 => ?_)
      · have hf := ite_t c_2 hf
        exact B86 x1 x3 m_lastRing m_bestNodes m_bestInside m_bestFits _ _ _ (lv_sub hl [0, 1, 2] rfl) hP hD hS hf
      · have hf := ite_f c_2 hf
        refine lv_iload hx hb dX8_picks_24 (lv_at hl 3 rfl) ?_
        refine lv_iload hx hb dX8_picks_26 (lv_at hl 4 rfl) ?_
        obtain ⟨r_3, hcr_3, hf⟩ := bd1_s hf
        refine backI (runS0 C (c_X8_has l D cA x4 x5 N r_3 hcr_3) cf_X8_has km_X8_166 ⟨rfl, rfl, by decide, by decide⟩ ⟨Nat.zero_le _, Nat.zero_le _⟩ (hP.sub [] rfl) hK hl.1 rfl rfl (Nat.le_of_ble_eq_true rfl) dX8_picks_28) ?_
        refine lv_if_eq (tgt := 56) hx hb dX8_picks_31 (by decide) (fun c_4 => ?_) (fun c_4 => ?_)
        · have hf := ite_t c_4 hf
          refine lv_iconst (v := 0) hx hb dX8_picks_56 (by decide) ?_
          exact B57 x1 x3 x4 x5 0 m_lastRing m_bestNodes m_bestInside m_bestFits _ _ _ (lv_sub hl [0, 1, 2, 3, 4] rfl) hP hD hS hf
        · have hf := ite_f c_4 hf
          refine lv_iconst (v := 1) hx hb dX8_picks_34 (by decide) ?_
          refine lv_aload_n hx hb dX8_picks_35 rfl (lv_at hl 0 rfl) ?_
          refine va_get (D := D) (ci := 8) (C := RX8) (T := TX8) (N := 27) hx hb hT kwX8 hown hK.1 hP 0 rfl rfl 9 (by decide) (hT _ kf_X8_29) (fun _ h9 => h9) rfl dX8_picks_36 ?_
          refine lv_iload hx hb dX8_picks_39 (lv_at hl 4 rfl) ?_
          obtain ⟨h_5, hf⟩ := chk_s hf
          refine va_iald hx hb hK.1 hP 7 0 rfl rfl (inb_in h_5) dX8_picks_41 ?_
          refine lv_ishl hx hb dX8_picks_42 ?_
          refine lv_iconst (v := 1) hx hb dX8_picks_43 (by decide) ?_
          refine lv_aload_n hx hb dX8_picks_44 rfl (lv_at hl 0 rfl) ?_
          refine va_get (D := D) (ci := 8) (C := RX8) (T := TX8) (N := 27) hx hb hT kwX8 hown hK.1 hP 0 rfl rfl 10 (by decide) (hT _ kf_X8_32) (fun _ h9 => h9) rfl dX8_picks_45 ?_
          refine lv_iload hx hb dX8_picks_48 (lv_at hl 4 rfl) ?_
          obtain ⟨h_6, hf⟩ := chk_s hf
          refine va_iald hx hb hK.1 hP 8 0 rfl rfl (inb_in h_6) dX8_picks_50 ?_
          refine lv_ishl hx hb dX8_picks_51 ?_
          refine lv_ior hx hb dX8_picks_52 ?_
          refine lv_goto (tgt := 57) hx hb dX8_picks_53 (by decide) ?_
          exact B57 x1 x3 x4 x5 (((1 : Int32) <<< ((m_endA x5.toNatClampNeg) &&& 31)) ||| ((1 : Int32) <<< ((m_endB x5.toNatClampNeg) &&& 31))) m_lastRing m_bestNodes m_bestInside m_bestFits _ _ _ (lv_sub hl [0, 1, 2, 3, 4] rfl) hP hD hS hf
  refine lv_aload_n hx hb dX8_picks_0 rfl (lv_at hl 0 rfl) ?_
  refine lv_sipush (v := 1000) hx hb dX8_picks_1 (by decide) ?_
  refine va_put (D := D) (ci := 8) (v := .int 1000) (ty := .int) (C := RX8) (T := TX8) (N := 27) hx hb hT kwX8 tyX8 tyX8_ok nmX8 hown hK.1 hP hD hS 0 rfl rfl 23 (by decide) (hT _ kf_X8_195) (fun _ h9 => h9) rfl (by decide +kernel) rfl rfl (Nat.le_of_ble_eq_true rfl) dX8_picks_4 (fun H locs hP hD hS => ?_)
  have hP : va_P D vwCl (wX8 cA a_m m_s m_past m_pasts m_text m_typed m_faceOfSide m_firstSide m_faces m_before m_endA m_endB m_from m_queue m_ring m_ringSize m_ringNodes m_rings m_path m_pathSize m_old m_lastRing m_bestNodes m_bestInside 1000 m_far m_xs m_ys) H := hP
  have hD : va_D A (wX8 cA a_m m_s m_past m_pasts m_text m_typed m_faceOfSide m_firstSide m_faces m_before m_endA m_endB m_from m_queue m_ring m_ringSize m_ringNodes m_rings m_path m_pathSize m_old m_lastRing m_bestNodes m_bestInside 1000 m_far m_xs m_ys) := hD
  refine lv_iload_n hx hb dX8_picks_7 rfl (lv_at hl 1 rfl) ?_
  refine lv_iload_n hx hb dX8_picks_8 rfl (lv_at hl 2 rfl) ?_
  refine lv_iconst (v := (-1)) hx hb dX8_picks_9 (by decide) ?_
  refine lv_ixor hx hb dX8_picks_10 ?_
  refine lv_iand hx hb dX8_picks_11 ?_
  refine lv_topi (fun x4_1 ex4_1 => ?_)
  have hf := nm_t ex4_1 hf
  refine lv_istore (lv' := [(4, .int x4_1), (0, .ref (a_m 0)), (1, .int p1), (2, .int p2), (3, .int p3)]) hx hb dX8_picks_12 hl (by decide) rfl (fun ls hl => ?_)
  refine lv_iconst (v := 0) hx hb dX8_picks_14 (by decide) ?_
  refine lv_istore (lv' := [(5, .int 0), (4, .int x4_1), (0, .ref (a_m 0)), (1, .int p1), (2, .int p2), (3, .int p3)]) hx hb dX8_picks_15 hl (by decide) rfl (fun ls hl => ?_)
  exact B17 N p1 p3 x4_1 0 m_lastRing m_bestNodes m_bestInside 1000 _ _ _ (lv_sub hl [2, 3, 5, 1, 0] rfl) hP hD hS hf
set_option maxRecDepth 100000 in
set_option maxHeartbeats 4000000 in
theorem c_X8_ownEdges (l : Launch) (D : va_G) (cA : Nat → ClassId) (a_m : Nat → Nat) (m_s : Nat → Int32) (m_past : Nat → Int32) (m_pasts : Int32) (m_text : Nat → Int32) (m_typed : Int32) (m_faceOfSide : Nat → Int32) (m_firstSide : Nat → Int32) (m_faces : Int32) (m_before : Nat → Int32) (m_endA : Nat → Int32) (m_endB : Nat → Int32) (m_from : Nat → Int32) (m_queue : Nat → Int32) (m_ring : Nat → Int32) (m_ringSize : Nat → Int32) (m_ringNodes : Nat → Int32) (m_rings : Int32) (m_path : Nat → Int32) (m_pathSize : Int32) (m_old : Nat → Int32) (m_lastRing : Int32) (m_bestNodes : Int32) (m_bestInside : Int32) (m_bestFits : Int32) (m_far : Nat → Int32) (m_xs : Nat → UInt32) (m_ys : Nat → UInt32) (p1 : Int32) (N : Nat) (ρ : Int32) (hf : f_X8_ownEdges N m_endA m_endB m_bestNodes m_bestInside p1 = some ρ) : Met l yX8_ownEdges (Cond.code yX8_ownEdges cX8_ownEdges 6 (Option.some Jvm.ClassFile.FieldType.int) :: lw_g) ({ frames := 1, cells := 0, slots := 0, locals := 21 } : Room) (PcS D (tyA cA) (wX8 cA a_m m_s m_past m_pasts m_text m_typed m_faceOfSide m_firstSide m_faces m_before m_endA m_endB m_from m_queue m_ring m_ringSize m_ringNodes m_rings m_path m_pathSize m_old m_lastRing m_bestNodes m_bestInside m_bestFits m_far m_xs m_ys) [.ref (a_m 0), .int p1]) (vp_Si (fun r => r = ρ)) 0 0 (fun _ => False) := by
  refine mkS (by decide +kernel) (Nat.le_of_ble_eq_true rfl) fun p e s m below meth c ls C hl hP hK => ?_
  obtain ⟨hx, hb, hml, hown, hT, hr, hlk⟩ := id C
  have hl : lv_has ls 6 [(0, .ref (a_m 0)), (1, .int p1)] := hl
  have B4 : ∀ (n4 : Nat), ∀ (x1 : Int32) (x2 : Int32) (x3 : Int32) (ls : Array Slot), lv_has ls 6 [(0, .ref (a_m 0)), (1, .int x1), (2, .int x2), (3, .int x3)] → f_X8_ownEdges_b4 N m_endA m_endB m_bestNodes m_bestInside n4 x1 x2 x3 = some ρ → W p l e ({ frames := 1, cells := 0, slots := 0, locals := 21 } : Room) s m ([.ref (a_m 0), .int p1] : List Value).toArray below meth c s.heap [] 0 0 (MQ below (vp_Si (fun r => r = ρ)) ([.ref (a_m 0), .int p1] : List Value).toArray s 0 0 (fun _ => False)) (F0 m 4 ls []) := by
    intro n4
    induction n4 with
    | zero =>
      intro x1 x2 x3 ls hl hf
      cases (show (none : Option (Int32)) = some ρ from hf)
    | succ n4 ih4 =>
      have B100 : ∀ (x1 : Int32) (x3 : Int32) (y0 : Int32) (y1 : Int32) (ls : Array Slot), lv_has ls 6 [(0, .ref (a_m 0)), (1, .int x1), (3, .int x3)] → f_X8_ownEdges_b100 N m_endA m_endB m_bestNodes m_bestInside (f_X8_ownEdges_b4 N m_endA m_endB m_bestNodes m_bestInside n4) x1 x3 y0 y1 = some ρ → W p l e ({ frames := 1, cells := 0, slots := 0, locals := 21 } : Room) s m ([.ref (a_m 0), .int p1] : List Value).toArray below meth c s.heap [] 0 0 (MQ below (vp_Si (fun r => r = ρ)) ([.ref (a_m 0), .int p1] : List Value).toArray s 0 0 (fun _ => False)) (F0 m 100 ls [.int y1, .int y0]) := by
        intro x1 x3 y0 y1 ls hl hf
        refine lv_ior hx hb dX8_ownEdges_100 ?_
        refine lv_topi (fun x2_11 ex2_11 => ?_)
        have hf := nm_t ex2_11 hf
        refine lv_istore_n (lv' := [(2, .int x2_11), (0, .ref (a_m 0)), (1, .int x1), (3, .int x3)]) hx hb dX8_ownEdges_101 rfl hl (by decide) rfl (fun ls hl => ?_)
        refine lv_iinc (v := (x3 + 1)) (lv' := [(3, .int (x3 + 1)), (2, .int x2_11), (0, .ref (a_m 0)), (1, .int x1)]) hx hb dX8_ownEdges_102 hl (k := 3) rfl rfl (by decide) rfl (fun ls hl => ?_)
        refine lv_goto (tgt := 4) hx hb dX8_ownEdges_105 (by decide) ?_
        exact ih4 x1 x2_11 (x3 + 1) _ (lv_sub hl [2, 3, 1, 0] rfl) hf
      have B99 : ∀ (x1 : Int32) (x3 : Int32) (y0 : Int32) (ls : Array Slot), lv_has ls 6 [(0, .ref (a_m 0)), (1, .int x1), (3, .int x3)] → f_X8_ownEdges_b99 N m_endA m_endB m_bestNodes m_bestInside (f_X8_ownEdges_b4 N m_endA m_endB m_bestNodes m_bestInside n4) x1 x3 y0 = some ρ → W p l e ({ frames := 1, cells := 0, slots := 0, locals := 21 } : Room) s m ([.ref (a_m 0), .int p1] : List Value).toArray below meth c s.heap [] 0 0 (MQ below (vp_Si (fun r => r = ρ)) ([.ref (a_m 0), .int p1] : List Value).toArray s 0 0 (fun _ => False)) (F0 m 99 ls [.int y0]) := by
        intro x1 x3 y0 ls hl hf
        refine lv_iconst (v := 0) hx hb dX8_ownEdges_99 (by decide) ?_
        exact B100 x1 x3 y0 0 _ (lv_sub hl [0, 1, 2] rfl) hf
      have B80 : ∀ (x1 : Int32) (x2 : Int32) (x3 : Int32) (x4 : Int32) (y0 : Int32) (ls : Array Slot), lv_has ls 6 [(0, .ref (a_m 0)), (1, .int x1), (2, .int x2), (3, .int x3), (4, .int x4)] → f_X8_ownEdges_b80 N m_endA m_endB m_bestNodes m_bestInside (f_X8_ownEdges_b4 N m_endA m_endB m_bestNodes m_bestInside n4) x1 x2 x3 x4 y0 = some ρ → W p l e ({ frames := 1, cells := 0, slots := 0, locals := 21 } : Room) s m ([.ref (a_m 0), .int p1] : List Value).toArray below meth c s.heap [] 0 0 (MQ below (vp_Si (fun r => r = ρ)) ([.ref (a_m 0), .int p1] : List Value).toArray s 0 0 (fun _ => False)) (F0 m 80 ls [.int y0]) := by
        intro x1 x2 x3 x4 y0 ls hl hf
        refine lv_istore (lv' := [(5, .int y0), (0, .ref (a_m 0)), (1, .int x1), (2, .int x2), (3, .int x3), (4, .int x4)]) hx hb dX8_ownEdges_80 hl (by decide) rfl (fun ls hl => ?_)
        refine lv_iload_n hx hb dX8_ownEdges_82 rfl (lv_at hl 3 rfl) ?_
        refine lv_iload hx hb dX8_ownEdges_83 (lv_at hl 5 rfl) ?_
        refine lv_if_eq (tgt := 99) hx hb dX8_ownEdges_85 (by decide) (fun c_9 => ?_) (fun c_9 => ?_)
        · have hf := ite_t c_9 hf
          exact B99 x1 x3 x2 _ (lv_sub hl [1, 2, 4] rfl) hf
        · have hf := ite_f c_9 hf
          refine lv_iload hx hb dX8_ownEdges_88 (lv_at hl 0 rfl) ?_
          refine lv_if_eq (tgt := 99) hx hb dX8_ownEdges_90 (by decide) (fun c_10 => ?_) (fun c_10 => ?_)
          · have hf := ite_t c_10 hf
            exact B99 x1 x3 x2 _ (lv_sub hl [1, 2, 4] rfl) hf
          · have hf := ite_f c_10 hf
            refine lv_iconst (v := 1) hx hb dX8_ownEdges_93 (by decide) ?_
            refine lv_iload_n hx hb dX8_ownEdges_94 rfl (lv_at hl 4 rfl) ?_
            refine lv_ishl hx hb dX8_ownEdges_95 ?_
            refine lv_goto (tgt := 100) hx hb dX8_ownEdges_96 (by decide) ?_
            exact B100 x1 x3 x2 ((1 : Int32) <<< (x3 &&& 31)) _ (lv_sub hl [1, 2, 4] rfl) hf
      have B39 : ∀ (x1 : Int32) (x2 : Int32) (x3 : Int32) (y0 : Int32) (ls : Array Slot), lv_has ls 6 [(0, .ref (a_m 0)), (1, .int x1), (2, .int x2), (3, .int x3)] → f_X8_ownEdges_b39 N m_endA m_endB m_bestNodes m_bestInside (f_X8_ownEdges_b4 N m_endA m_endB m_bestNodes m_bestInside n4) x1 x2 x3 y0 = some ρ → W p l e ({ frames := 1, cells := 0, slots := 0, locals := 21 } : Room) s m ([.ref (a_m 0), .int p1] : List Value).toArray below meth c s.heap [] 0 0 (MQ below (vp_Si (fun r => r = ρ)) ([.ref (a_m 0), .int p1] : List Value).toArray s 0 0 (fun _ => False)) (F0 m 39 ls [.int y0]) := by
        intro x1 x2 x3 y0 ls hl hf
        refine lv_istore (lv' := [(4, .int y0), (0, .ref (a_m 0)), (1, .int x1), (2, .int x2), (3, .int x3)]) hx hb dX8_ownEdges_39 hl (by decide) rfl (fun ls hl => ?_)
        refine lv_aload_n hx hb dX8_ownEdges_41 rfl (lv_at hl 1 rfl) ?_
        refine va_get (D := D) (ci := 8) (C := RX8) (T := TX8) (N := 27) hx hb hT kwX8 hown hK.1 hP 0 rfl rfl 22 (by decide) (hT _ kf_X8_201) (fun _ h9 => h9) rfl dX8_ownEdges_42 ?_
        refine lv_if_ne (tgt := 65) hx hb dX8_ownEdges_45 (by decide) (fun c_6 => ?_) (fun c_6 => ?_)
        · have hf := ite_t c_6 hf
          refine lv_iload hx hb dX8_ownEdges_65 (lv_at hl 0 rfl) ?_
          refine lv_aload_n hx hb dX8_ownEdges_67 rfl (lv_at hl 1 rfl) ?_
          refine va_get (D := D) (ci := 8) (C := RX8) (T := TX8) (N := 27) hx hb hT kwX8 hown hK.1 hP 0 rfl rfl 22 (by decide) (hT _ kf_X8_201) (fun _ h9 => h9) rfl dX8_ownEdges_68 ?_
          refine lv_iand hx hb dX8_ownEdges_71 ?_
          refine lv_if_eq (tgt := 79) hx hb dX8_ownEdges_72 (by decide) (fun c_7 => ?_) (fun c_7 => ?_)
          · have hf := ite_t c_7 hf
            refine lv_iconst (v := 0) hx hb dX8_ownEdges_79 (by decide) ?_
            exact B80 x1 x2 x3 y0 0 _ (lv_sub hl [1, 2, 3, 4, 0] rfl) hf
          · have hf := ite_f c_7 hf
            refine lv_iconst (v := 1) hx hb dX8_ownEdges_75 (by decide) ?_
            refine lv_goto (tgt := 80) hx hb dX8_ownEdges_76 (by decide) ?_
            exact B80 x1 x2 x3 y0 1 _ (lv_sub hl [1, 2, 3, 4, 0] rfl) hf
        · have hf := ite_fn c_6 hf
          refine lv_iload hx hb dX8_ownEdges_48 (lv_at hl 0 rfl) ?_
          refine lv_aload_n hx hb dX8_ownEdges_50 rfl (lv_at hl 1 rfl) ?_
          refine va_get (D := D) (ci := 8) (C := RX8) (T := TX8) (N := 27) hx hb hT kwX8 hown hK.1 hP 0 rfl rfl 21 (by decide) (hT _ kf_X8_198) (fun _ h9 => h9) rfl dX8_ownEdges_51 ?_
          refine lv_icmp_ne (tgt := 61) hx hb dX8_ownEdges_54 (by decide) (fun c_8 => ?_) (fun c_8 => ?_)
          · have hf := ite_t c_8 hf
            refine lv_iconst (v := 0) hx hb dX8_ownEdges_61 (by decide) ?_
            refine lv_goto (tgt := 80) hx hb dX8_ownEdges_62 (by decide) ?_
            exact B80 x1 x2 x3 y0 0 _ (lv_sub hl [1, 2, 3, 4, 0] rfl) hf
          · have hf := ite_fn c_8 hf
            refine lv_iconst (v := 1) hx hb dX8_ownEdges_57 (by decide) ?_
            refine lv_goto (tgt := 80) hx hb dX8_ownEdges_58 (by decide) ?_
            exact B80 x1 x2 x3 y0 1 _ (lv_sub hl [1, 2, 3, 4, 0] rfl) hf
      intro x1 x2 x3 ls hl hf
      refine lv_iload_n hx hb dX8_ownEdges_4 rfl (lv_at hl 3 rfl) ?_
      refine lv_bipush (v := 21) hx hb dX8_ownEdges_5 (by decide) ?_
      refine lv_icmp_ge (tgt := 108) hx hb dX8_ownEdges_7 (by decide) (fun c_1 => ?_) (fun c_1 => ?_)
      · have hf := ite_t c_1 hf
        refine lv_iload_n hx hb dX8_ownEdges_108 rfl (lv_at hl 2 rfl) ?_
        exact W.iret hx hb hr (fun t ht hW => ⟨_, rfl, some_i hf, ht⟩) (fun _ h => by cases h) dX8_ownEdges_109 (hlocks := hlk)
      · have hf := ite_f c_1 hf
        refine lv_iload_n hx hb dX8_ownEdges_10 rfl (lv_at hl 1 rfl) ?_
        refine lv_iload_n hx hb dX8_ownEdges_11 rfl (lv_at hl 3 rfl) ?_
        obtain ⟨r_2, hcr_2, hf⟩ := bd1_s hf
        refine backI (runS0 C (c_X8_has l D cA x1 x3 N r_2 hcr_2) cf_X8_has km_X8_166 ⟨rfl, rfl, by decide, by decide⟩ ⟨Nat.zero_le _, Nat.zero_le _⟩ (hP.sub [] rfl) hK hl.1 rfl rfl (Nat.le_of_ble_eq_true rfl) dX8_ownEdges_12) ?_
        refine lv_if_eq (tgt := 38) hx hb dX8_ownEdges_15 (by decide) (fun c_3 => ?_) (fun c_3 => ?_)
        · have hf := ite_t c_3 hf
          refine lv_iconst (v := 0) hx hb dX8_ownEdges_38 (by decide) ?_
          exact B39 x1 x2 x3 0 _ (lv_sub hl [0, 1, 2, 3] rfl) hf
        · have hf := ite_f c_3 hf
          refine lv_iconst (v := 1) hx hb dX8_ownEdges_18 (by decide) ?_
          refine lv_aload_n hx hb dX8_ownEdges_19 rfl (lv_at hl 0 rfl) ?_
          refine va_get (D := D) (ci := 8) (C := RX8) (T := TX8) (N := 27) hx hb hT kwX8 hown hK.1 hP 0 rfl rfl 9 (by decide) (hT _ kf_X8_29) (fun _ h9 => h9) rfl dX8_ownEdges_20 ?_
          refine lv_iload_n hx hb dX8_ownEdges_23 rfl (lv_at hl 3 rfl) ?_
          obtain ⟨h_4, hf⟩ := chk_s hf
          refine va_iald hx hb hK.1 hP 7 0 rfl rfl (inb_in h_4) dX8_ownEdges_24 ?_
          refine lv_ishl hx hb dX8_ownEdges_25 ?_
          refine lv_iconst (v := 1) hx hb dX8_ownEdges_26 (by decide) ?_
          refine lv_aload_n hx hb dX8_ownEdges_27 rfl (lv_at hl 0 rfl) ?_
          refine va_get (D := D) (ci := 8) (C := RX8) (T := TX8) (N := 27) hx hb hT kwX8 hown hK.1 hP 0 rfl rfl 10 (by decide) (hT _ kf_X8_32) (fun _ h9 => h9) rfl dX8_ownEdges_28 ?_
          refine lv_iload_n hx hb dX8_ownEdges_31 rfl (lv_at hl 3 rfl) ?_
          obtain ⟨h_5, hf⟩ := chk_s hf
          refine va_iald hx hb hK.1 hP 8 0 rfl rfl (inb_in h_5) dX8_ownEdges_32 ?_
          refine lv_ishl hx hb dX8_ownEdges_33 ?_
          refine lv_ior hx hb dX8_ownEdges_34 ?_
          refine lv_goto (tgt := 39) hx hb dX8_ownEdges_35 (by decide) ?_
          exact B39 x1 x2 x3 (((1 : Int32) <<< ((m_endA x3.toNatClampNeg) &&& 31)) ||| ((1 : Int32) <<< ((m_endB x3.toNatClampNeg) &&& 31))) _ (lv_sub hl [0, 1, 2, 3] rfl) hf
  refine lv_iconst (v := 0) hx hb dX8_ownEdges_0 (by decide) ?_
  refine lv_istore_n (lv' := [(2, .int 0), (0, .ref (a_m 0)), (1, .int p1)]) hx hb dX8_ownEdges_1 rfl hl (by decide) rfl (fun ls hl => ?_)
  refine lv_iconst (v := 0) hx hb dX8_ownEdges_2 (by decide) ?_
  refine lv_istore_n (lv' := [(3, .int 0), (2, .int 0), (0, .ref (a_m 0)), (1, .int p1)]) hx hb dX8_ownEdges_3 rfl hl (by decide) rfl (fun ls hl => ?_)
  exact B4 N p1 0 0 _ (lv_sub hl [2, 3, 1, 0] rfl) hf
set_option maxRecDepth 100000 in
set_option maxHeartbeats 4000000 in
theorem c_X8_splits (l : Launch) (D : va_G) (cA : Nat → ClassId) (a_m : Nat → Nat) (m_s : Nat → Int32) (m_past : Nat → Int32) (m_pasts : Int32) (m_text : Nat → Int32) (m_typed : Int32) (m_faceOfSide : Nat → Int32) (m_firstSide : Nat → Int32) (m_faces : Int32) (m_before : Nat → Int32) (m_endA : Nat → Int32) (m_endB : Nat → Int32) (m_from : Nat → Int32) (m_queue : Nat → Int32) (m_ring : Nat → Int32) (m_ringSize : Nat → Int32) (m_ringNodes : Nat → Int32) (m_rings : Int32) (m_path : Nat → Int32) (m_pathSize : Int32) (m_old : Nat → Int32) (m_lastRing : Int32) (m_bestNodes : Int32) (m_bestInside : Int32) (m_bestFits : Int32) (m_far : Nat → Int32) (m_xs : Nat → UInt32) (m_ys : Nat → UInt32) (p1 : Int32) (sz N : Nat) (ρ : (Nat → Int32) × (Nat → Int32) × (Nat → Int32) × Int32 × (Nat → Int32)) (hf : f_X8_splits N m_ring m_ringSize m_ringNodes m_rings m_path m_pathSize m_old p1 = some ρ) : Met l yX8_splits (Cond.code yX8_splits cX8_splits 6 (Option.none : Option Jvm.ClassFile.FieldType) :: lw_g) ({ frames := 1, cells := 0, slots := 0, locals := 22 } : Room) (PcW D (tyA cA) (wX8 cA a_m m_s m_past m_pasts m_text m_typed m_faceOfSide m_firstSide m_faces m_before m_endA m_endB m_from m_queue m_ring m_ringSize m_ringNodes m_rings m_path m_pathSize m_old m_lastRing m_bestNodes m_bestInside m_bestFits m_far m_xs m_ys) sz [.ref (a_m 0), .int p1]) (va_Qv (fun (_ : Unit) => True) (fun _ t => va_P D vwCl (wX8 cA a_m m_s m_past m_pasts m_text m_typed m_faceOfSide m_firstSide m_faces m_before m_endA m_endB m_from m_queue ρ.1 ρ.2.1 ρ.2.2.1 ρ.2.2.2.1 m_path m_pathSize ρ.2.2.2.2 m_lastRing m_bestNodes m_bestInside m_bestFits m_far m_xs m_ys) t.heap ∧ va_D (va_A (wX8 cA a_m m_s m_past m_pasts m_text m_typed m_faceOfSide m_firstSide m_faces m_before m_endA m_endB m_from m_queue m_ring m_ringSize m_ringNodes m_rings m_path m_pathSize m_old m_lastRing m_bestNodes m_bestInside m_bestFits m_far m_xs m_ys) sz) (wX8 cA a_m m_s m_past m_pasts m_text m_typed m_faceOfSide m_firstSide m_faces m_before m_endA m_endB m_from m_queue ρ.1 ρ.2.1 ρ.2.2.1 ρ.2.2.2.1 m_path m_pathSize ρ.2.2.2.2 m_lastRing m_bestNodes m_bestInside m_bestFits m_far m_xs m_ys)) (va_A (wX8 cA a_m m_s m_past m_pasts m_text m_typed m_faceOfSide m_firstSide m_faces m_before m_endA m_endB m_from m_queue m_ring m_ringSize m_ringNodes m_rings m_path m_pathSize m_old m_lastRing m_bestNodes m_bestInside m_bestFits m_far m_xs m_ys) sz)) 0 0 (va_A (wX8 cA a_m m_s m_past m_pasts m_text m_typed m_faceOfSide m_firstSide m_faces m_before m_endA m_endB m_from m_queue m_ring m_ringSize m_ringNodes m_rings m_path m_pathSize m_old m_lastRing m_bestNodes m_bestInside m_bestFits m_far m_xs m_ys) sz) := by
  refine mkW (QQ := fun A => va_Qv (fun (_ : Unit) => True) (fun _ t => va_P D vwCl (wX8 cA a_m m_s m_past m_pasts m_text m_typed m_faceOfSide m_firstSide m_faces m_before m_endA m_endB m_from m_queue ρ.1 ρ.2.1 ρ.2.2.1 ρ.2.2.2.1 m_path m_pathSize ρ.2.2.2.2 m_lastRing m_bestNodes m_bestInside m_bestFits m_far m_xs m_ys) t.heap ∧ va_D A (wX8 cA a_m m_s m_past m_pasts m_text m_typed m_faceOfSide m_firstSide m_faces m_before m_endA m_endB m_from m_queue ρ.1 ρ.2.1 ρ.2.2.1 ρ.2.2.2.1 m_path m_pathSize ρ.2.2.2.2 m_lastRing m_bestNodes m_bestInside m_bestFits m_far m_xs m_ys)) A) (by decide) (Nat.le_of_ble_eq_true rfl) fun p e s m below meth c ls A C hl hP hK hD hA hS => ?_
  obtain ⟨hx, hb, hml, hown, hT, hr, hlk⟩ := id C
  have hl : lv_has ls 6 [(0, .ref (a_m 0)), (1, .int p1)] := hl
  have B245 : ∀ (m_ring : Nat → Int32) (m_ringSize : Nat → Int32) (m_ringNodes : Nat → Int32) (m_rings : Int32) (m_old : Nat → Int32) (H : Heap) (locs : List Loc) (ls : Array Slot), lv_has ls 6 [(0, .ref (a_m 0))] → va_P D vwCl (wX8 cA a_m m_s m_past m_pasts m_text m_typed m_faceOfSide m_firstSide m_faces m_before m_endA m_endB m_from m_queue m_ring m_ringSize m_ringNodes m_rings m_path m_pathSize m_old m_lastRing m_bestNodes m_bestInside m_bestFits m_far m_xs m_ys) H → va_D A (wX8 cA a_m m_s m_past m_pasts m_text m_typed m_faceOfSide m_firstSide m_faces m_before m_endA m_endB m_from m_queue m_ring m_ringSize m_ringNodes m_rings m_path m_pathSize m_old m_lastRing m_bestNodes m_bestInside m_bestFits m_far m_xs m_ys) → va_S A s.heap H locs → f_X8_splits_b245 N m_path m_pathSize m_ring m_ringSize m_ringNodes m_rings m_old = some ρ → W p l e ({ frames := 1, cells := 0, slots := 0, locals := 22 } : Room) s m ([.ref (a_m 0), .int p1] : List Value).toArray below meth c H locs 0 0 (MQ below (va_Qv (fun (_ : Unit) => True) (fun _ t => va_P D vwCl (wX8 cA a_m m_s m_past m_pasts m_text m_typed m_faceOfSide m_firstSide m_faces m_before m_endA m_endB m_from m_queue ρ.1 ρ.2.1 ρ.2.2.1 ρ.2.2.2.1 m_path m_pathSize ρ.2.2.2.2 m_lastRing m_bestNodes m_bestInside m_bestFits m_far m_xs m_ys) t.heap ∧ va_D A (wX8 cA a_m m_s m_past m_pasts m_text m_typed m_faceOfSide m_firstSide m_faces m_before m_endA m_endB m_from m_queue ρ.1 ρ.2.1 ρ.2.2.1 ρ.2.2.2.1 m_path m_pathSize ρ.2.2.2.2 m_lastRing m_bestNodes m_bestInside m_bestFits m_far m_xs m_ys)) A) ([.ref (a_m 0), .int p1] : List Value).toArray s 0 0 A) (F0 m 245 ls []) := by
    intro m_ring m_ringSize m_ringNodes m_rings m_old H locs ls hl hP hD hS hf
    refine lv_aload_n hx hb dX8_splits_245 rfl (lv_at hl 0 rfl) ?_
    refine lv_dup hx hb dX8_splits_246 rfl ?_
    refine va_get (D := D) (ci := 8) (C := RX8) (T := TX8) (N := 27) hx hb hT kwX8 hown hK.1 hP 0 rfl rfl 16 (by decide) (hT _ kf_X8_182) (fun _ h9 => h9) rfl dX8_splits_247 ?_
    refine lv_iconst (v := 1) hx hb dX8_splits_250 (by decide) ?_
    refine lv_iadd hx hb dX8_splits_251 ?_
    refine va_put (D := D) (ci := 8) (v := .int (m_rings + 1)) (ty := .int) (C := RX8) (T := TX8) (N := 27) hx hb hT kwX8 tyX8 tyX8_ok nmX8 hown hK.1 hP hD hS 0 rfl rfl 16 (by decide) (hT _ kf_X8_182) (fun _ h9 => h9) rfl (by decide +kernel) rfl rfl (Nat.le_of_ble_eq_true rfl) dX8_splits_252 (fun H locs hP hD hS => ?_)
    have hP : va_P D vwCl (wX8 cA a_m m_s m_past m_pasts m_text m_typed m_faceOfSide m_firstSide m_faces m_before m_endA m_endB m_from m_queue m_ring m_ringSize m_ringNodes (m_rings + 1) m_path m_pathSize m_old m_lastRing m_bestNodes m_bestInside m_bestFits m_far m_xs m_ys) H := hP
    have hD : va_D A (wX8 cA a_m m_s m_past m_pasts m_text m_typed m_faceOfSide m_firstSide m_faces m_before m_endA m_endB m_from m_queue m_ring m_ringSize m_ringNodes (m_rings + 1) m_path m_pathSize m_old m_lastRing m_bestNodes m_bestInside m_bestFits m_far m_xs m_ys) := hD
    have eR := some_i hf
    exact W.vret hx hb hr (fun t ht hW => ⟨⟨(), rfl, trivial, by rw [← eR, ht]; exact hP, by rw [← eR]; exact hD⟩, hS.F ht⟩) hS.2.2 dX8_splits_255 (hlocks := hlk)
  have B213 : ∀ (n213 : Nat), ∀ (x5 : Int32) (m_ring : Nat → Int32) (m_ringSize : Nat → Int32) (m_ringNodes : Nat → Int32) (m_rings : Int32) (m_old : Nat → Int32) (H : Heap) (locs : List Loc) (ls : Array Slot), lv_has ls 6 [(0, .ref (a_m 0)), (5, .int x5)] → va_P D vwCl (wX8 cA a_m m_s m_past m_pasts m_text m_typed m_faceOfSide m_firstSide m_faces m_before m_endA m_endB m_from m_queue m_ring m_ringSize m_ringNodes m_rings m_path m_pathSize m_old m_lastRing m_bestNodes m_bestInside m_bestFits m_far m_xs m_ys) H → va_D A (wX8 cA a_m m_s m_past m_pasts m_text m_typed m_faceOfSide m_firstSide m_faces m_before m_endA m_endB m_from m_queue m_ring m_ringSize m_ringNodes m_rings m_path m_pathSize m_old m_lastRing m_bestNodes m_bestInside m_bestFits m_far m_xs m_ys) → va_S A s.heap H locs → f_X8_splits_b213 N m_path m_pathSize n213 x5 m_ring m_ringSize m_ringNodes m_rings m_old = some ρ → W p l e ({ frames := 1, cells := 0, slots := 0, locals := 22 } : Room) s m ([.ref (a_m 0), .int p1] : List Value).toArray below meth c H locs 0 0 (MQ below (va_Qv (fun (_ : Unit) => True) (fun _ t => va_P D vwCl (wX8 cA a_m m_s m_past m_pasts m_text m_typed m_faceOfSide m_firstSide m_faces m_before m_endA m_endB m_from m_queue ρ.1 ρ.2.1 ρ.2.2.1 ρ.2.2.2.1 m_path m_pathSize ρ.2.2.2.2 m_lastRing m_bestNodes m_bestInside m_bestFits m_far m_xs m_ys) t.heap ∧ va_D A (wX8 cA a_m m_s m_past m_pasts m_text m_typed m_faceOfSide m_firstSide m_faces m_before m_endA m_endB m_from m_queue ρ.1 ρ.2.1 ρ.2.2.1 ρ.2.2.2.1 m_path m_pathSize ρ.2.2.2.2 m_lastRing m_bestNodes m_bestInside m_bestFits m_far m_xs m_ys)) A) ([.ref (a_m 0), .int p1] : List Value).toArray s 0 0 A) (F0 m 213 ls []) := by
    intro n213
    induction n213 with
    | zero =>
      intro x5 m_ring m_ringSize m_ringNodes m_rings m_old H locs ls hl hP hD hS hf
      cases (show (none : Option ((Nat → Int32) × (Nat → Int32) × (Nat → Int32) × Int32 × (Nat → Int32))) = some ρ from hf)
    | succ n213 ih213 =>
      intro x5 m_ring m_ringSize m_ringNodes m_rings m_old H locs ls hl hP hD hS hf
      refine lv_iload hx hb dX8_splits_213 (lv_at hl 1 rfl) ?_
      refine lv_aload_n hx hb dX8_splits_215 rfl (lv_at hl 0 rfl) ?_
      refine va_get (D := D) (ci := 8) (C := RX8) (T := TX8) (N := 27) hx hb hT kwX8 hown hK.1 hP 0 rfl rfl 18 (by decide) (hT _ kf_X8_176) (fun _ h9 => h9) rfl dX8_splits_216 ?_
      refine lv_iconst (v := 1) hx hb dX8_splits_219 (by decide) ?_
      refine lv_isub hx hb dX8_splits_220 ?_
      refine lv_icmp_ge (tgt := 245) hx hb dX8_splits_221 (by decide) (fun c_31 => ?_) (fun c_31 => ?_)
      · have hf := ite_t c_31 hf
        exact B245 m_ring m_ringSize m_ringNodes m_rings m_old _ _ _ (lv_sub hl [0] rfl) hP hD hS hf
      · have hf := ite_f c_31 hf
        refine lv_aload_n hx hb dX8_splits_224 rfl (lv_at hl 0 rfl) ?_
        refine lv_aload_n hx hb dX8_splits_225 rfl (lv_at hl 0 rfl) ?_
        refine va_get (D := D) (ci := 8) (C := RX8) (T := TX8) (N := 27) hx hb hT kwX8 hown hK.1 hP 0 rfl rfl 16 (by decide) (hT _ kf_X8_182) (fun _ h9 => h9) rfl dX8_splits_226 ?_
        refine lv_aload_n hx hb dX8_splits_229 rfl (lv_at hl 0 rfl) ?_
        refine va_get (D := D) (ci := 8) (C := RX8) (T := TX8) (N := 27) hx hb hT kwX8 hown hK.1 hP 0 rfl rfl 17 (by decide) (hT _ kf_X8_50) (fun _ h9 => h9) rfl dX8_splits_230 ?_
        refine lv_iload hx hb dX8_splits_233 (lv_at hl 1 rfl) ?_
        obtain ⟨h_32, hf⟩ := chk_s hf
        refine va_iald hx hb hK.1 hP 14 0 rfl rfl (inb_in h_32) dX8_splits_235 ?_
        obtain ⟨r_33, hcr_33, hf⟩ := bd1_s hf
        refine backWv (w2 := (wX8 cA a_m m_s m_past m_pasts m_text m_typed m_faceOfSide m_firstSide m_faces m_before m_endA m_endB m_from m_queue r_33.1 r_33.2.1 r_33.2.2 m_rings m_path m_pathSize m_old m_lastRing m_bestNodes m_bestInside m_bestFits m_far m_xs m_ys)) (runVw C (c_X8_adds l D cA a_m m_s m_past m_pasts m_text m_typed m_faceOfSide m_firstSide m_faces m_before m_endA m_endB m_from m_queue m_ring m_ringSize m_ringNodes m_rings m_path m_pathSize m_old m_lastRing m_bestNodes m_bestInside m_bestFits m_far m_xs m_ys m_rings (m_path x5.toNatClampNeg) _ N r_33 hcr_33) cf_X8_adds km_X8_185 ⟨rfl, rfl, by decide, by decide⟩ ⟨Nat.zero_le _, Nat.zero_le _⟩ (va_recv hK.1 hP (ci := 8) (q0 := 0) rfl rfl) (hP.sub [0, 1, 2, 3, 4, 5, 6, 7, 8, 9, 10, 11, 12, 13, 14, 15, 16, 17, 18] rfl) (hD.sub [0, 1, 2, 3, 4, 5, 6, 7, 8, 9, 10, 11, 12, 13, 14, 15, 16, 17, 18] rfl rfl) hK hl.1 rfl rfl (Nat.le_of_ble_eq_true rfl) dX8_splits_236) hP hD hS hA [0, 1, 2, 3, 4, 5, 6, 7, 8, 9, 10, 11, 12, 13, 14, 15, 16, 17, 18] rfl [] rfl rfl (by decide) [0, 1, 2, 3, 4, 5, 6, 7, 8, 9, 10, 11, 12, 13, 14, 15, 16, 17, 18] rfl rfl (fun H locs hP hD hS => ?_)
        refine lv_iinc (v := (x5 + 1)) (lv' := [(5, .int (x5 + 1)), (0, .ref (a_m 0))]) hx hb dX8_splits_239 hl (k := 1) rfl rfl (by decide) rfl (fun ls hl => ?_)
        refine lv_goto (tgt := 213) hx hb dX8_splits_242 (by decide) ?_
        exact ih213 (x5 + 1) r_33.1 r_33.2.1 r_33.2.2 m_rings m_old _ _ _ (lv_sub hl [1, 0] rfl) hP hD hS hf
  have B210 : ∀ (m_ring : Nat → Int32) (m_ringSize : Nat → Int32) (m_ringNodes : Nat → Int32) (m_rings : Int32) (m_old : Nat → Int32) (H : Heap) (locs : List Loc) (ls : Array Slot), lv_has ls 6 [(0, .ref (a_m 0))] → va_P D vwCl (wX8 cA a_m m_s m_past m_pasts m_text m_typed m_faceOfSide m_firstSide m_faces m_before m_endA m_endB m_from m_queue m_ring m_ringSize m_ringNodes m_rings m_path m_pathSize m_old m_lastRing m_bestNodes m_bestInside m_bestFits m_far m_xs m_ys) H → va_D A (wX8 cA a_m m_s m_past m_pasts m_text m_typed m_faceOfSide m_firstSide m_faces m_before m_endA m_endB m_from m_queue m_ring m_ringSize m_ringNodes m_rings m_path m_pathSize m_old m_lastRing m_bestNodes m_bestInside m_bestFits m_far m_xs m_ys) → va_S A s.heap H locs → f_X8_splits_b210 N m_path m_pathSize m_ring m_ringSize m_ringNodes m_rings m_old = some ρ → W p l e ({ frames := 1, cells := 0, slots := 0, locals := 22 } : Room) s m ([.ref (a_m 0), .int p1] : List Value).toArray below meth c H locs 0 0 (MQ below (va_Qv (fun (_ : Unit) => True) (fun _ t => va_P D vwCl (wX8 cA a_m m_s m_past m_pasts m_text m_typed m_faceOfSide m_firstSide m_faces m_before m_endA m_endB m_from m_queue ρ.1 ρ.2.1 ρ.2.2.1 ρ.2.2.2.1 m_path m_pathSize ρ.2.2.2.2 m_lastRing m_bestNodes m_bestInside m_bestFits m_far m_xs m_ys) t.heap ∧ va_D A (wX8 cA a_m m_s m_past m_pasts m_text m_typed m_faceOfSide m_firstSide m_faces m_before m_endA m_endB m_from m_queue ρ.1 ρ.2.1 ρ.2.2.1 ρ.2.2.2.1 m_path m_pathSize ρ.2.2.2.2 m_lastRing m_bestNodes m_bestInside m_bestFits m_far m_xs m_ys)) A) ([.ref (a_m 0), .int p1] : List Value).toArray s 0 0 A) (F0 m 210 ls []) := by
    intro m_ring m_ringSize m_ringNodes m_rings m_old H locs ls hl hP hD hS hf
    refine lv_iconst (v := 1) hx hb dX8_splits_210 (by decide) ?_
    refine lv_istore (lv' := [(5, .int 1), (0, .ref (a_m 0))]) hx hb dX8_splits_211 hl (by decide) rfl (fun ls hl => ?_)
    exact B213 N 1 m_ring m_ringSize m_ringNodes m_rings m_old _ _ _ (lv_sub hl [1, 0] rfl) hP hD hS hf
  have B187 : ∀ (n187 : Nat), ∀ (x1 : Int32) (x5 : Int32) (m_ring : Nat → Int32) (m_ringSize : Nat → Int32) (m_ringNodes : Nat → Int32) (m_rings : Int32) (m_old : Nat → Int32) (H : Heap) (locs : List Loc) (ls : Array Slot), lv_has ls 6 [(0, .ref (a_m 0)), (1, .int x1), (5, .int x5)] → va_P D vwCl (wX8 cA a_m m_s m_past m_pasts m_text m_typed m_faceOfSide m_firstSide m_faces m_before m_endA m_endB m_from m_queue m_ring m_ringSize m_ringNodes m_rings m_path m_pathSize m_old m_lastRing m_bestNodes m_bestInside m_bestFits m_far m_xs m_ys) H → va_D A (wX8 cA a_m m_s m_past m_pasts m_text m_typed m_faceOfSide m_firstSide m_faces m_before m_endA m_endB m_from m_queue m_ring m_ringSize m_ringNodes m_rings m_path m_pathSize m_old m_lastRing m_bestNodes m_bestInside m_bestFits m_far m_xs m_ys) → va_S A s.heap H locs → f_X8_splits_b187 N m_path m_pathSize n187 x1 x5 m_ring m_ringSize m_ringNodes m_rings m_old = some ρ → W p l e ({ frames := 1, cells := 0, slots := 0, locals := 22 } : Room) s m ([.ref (a_m 0), .int p1] : List Value).toArray below meth c H locs 0 0 (MQ below (va_Qv (fun (_ : Unit) => True) (fun _ t => va_P D vwCl (wX8 cA a_m m_s m_past m_pasts m_text m_typed m_faceOfSide m_firstSide m_faces m_before m_endA m_endB m_from m_queue ρ.1 ρ.2.1 ρ.2.2.1 ρ.2.2.2.1 m_path m_pathSize ρ.2.2.2.2 m_lastRing m_bestNodes m_bestInside m_bestFits m_far m_xs m_ys) t.heap ∧ va_D A (wX8 cA a_m m_s m_past m_pasts m_text m_typed m_faceOfSide m_firstSide m_faces m_before m_endA m_endB m_from m_queue ρ.1 ρ.2.1 ρ.2.2.1 ρ.2.2.2.1 m_path m_pathSize ρ.2.2.2.2 m_lastRing m_bestNodes m_bestInside m_bestFits m_far m_xs m_ys)) A) ([.ref (a_m 0), .int p1] : List Value).toArray s 0 0 A) (F0 m 187 ls []) := by
    intro n187
    induction n187 with
    | zero =>
      intro x1 x5 m_ring m_ringSize m_ringNodes m_rings m_old H locs ls hl hP hD hS hf
      cases (show (none : Option ((Nat → Int32) × (Nat → Int32) × (Nat → Int32) × Int32 × (Nat → Int32))) = some ρ from hf)
    | succ n187 ih187 =>
      intro x1 x5 m_ring m_ringSize m_ringNodes m_rings m_old H locs ls hl hP hD hS hf
      refine lv_iload hx hb dX8_splits_187 (lv_at hl 2 rfl) ?_
      refine lv_if_le (tgt := 210) hx hb dX8_splits_189 (by decide) (fun c_28 => ?_) (fun c_28 => ?_)
      · have hf := ite_t c_28 hf
        exact B210 m_ring m_ringSize m_ringNodes m_rings m_old _ _ _ (lv_sub hl [0] rfl) hP hD hS hf
      · have hf := ite_f c_28 hf
        refine lv_aload_n hx hb dX8_splits_192 rfl (lv_at hl 0 rfl) ?_
        refine lv_iload_n hx hb dX8_splits_193 rfl (lv_at hl 1 rfl) ?_
        refine lv_aload_n hx hb dX8_splits_194 rfl (lv_at hl 0 rfl) ?_
        refine va_get (D := D) (ci := 8) (C := RX8) (T := TX8) (N := 27) hx hb hT kwX8 hown hK.1 hP 0 rfl rfl 17 (by decide) (hT _ kf_X8_50) (fun _ h9 => h9) rfl dX8_splits_195 ?_
        refine lv_iload hx hb dX8_splits_198 (lv_at hl 2 rfl) ?_
        obtain ⟨h_29, hf⟩ := chk_s hf
        refine va_iald hx hb hK.1 hP 14 0 rfl rfl (inb_in h_29) dX8_splits_200 ?_
        obtain ⟨r_30, hcr_30, hf⟩ := bd1_s hf
        refine backWv (w2 := (wX8 cA a_m m_s m_past m_pasts m_text m_typed m_faceOfSide m_firstSide m_faces m_before m_endA m_endB m_from m_queue r_30.1 r_30.2.1 r_30.2.2 m_rings m_path m_pathSize m_old m_lastRing m_bestNodes m_bestInside m_bestFits m_far m_xs m_ys)) (runVw C (c_X8_adds l D cA a_m m_s m_past m_pasts m_text m_typed m_faceOfSide m_firstSide m_faces m_before m_endA m_endB m_from m_queue m_ring m_ringSize m_ringNodes m_rings m_path m_pathSize m_old m_lastRing m_bestNodes m_bestInside m_bestFits m_far m_xs m_ys x1 (m_path x5.toNatClampNeg) _ N r_30 hcr_30) cf_X8_adds km_X8_185 ⟨rfl, rfl, by decide, by decide⟩ ⟨Nat.zero_le _, Nat.zero_le _⟩ (va_recv hK.1 hP (ci := 8) (q0 := 0) rfl rfl) (hP.sub [0, 1, 2, 3, 4, 5, 6, 7, 8, 9, 10, 11, 12, 13, 14, 15, 16, 17, 18] rfl) (hD.sub [0, 1, 2, 3, 4, 5, 6, 7, 8, 9, 10, 11, 12, 13, 14, 15, 16, 17, 18] rfl rfl) hK hl.1 rfl rfl (Nat.le_of_ble_eq_true rfl) dX8_splits_201) hP hD hS hA [0, 1, 2, 3, 4, 5, 6, 7, 8, 9, 10, 11, 12, 13, 14, 15, 16, 17, 18] rfl [] rfl rfl (by decide) [0, 1, 2, 3, 4, 5, 6, 7, 8, 9, 10, 11, 12, 13, 14, 15, 16, 17, 18] rfl rfl (fun H locs hP hD hS => ?_)
        refine lv_iinc (v := (x5 + (-1))) (lv' := [(5, .int (x5 + (-1))), (0, .ref (a_m 0)), (1, .int x1)]) hx hb dX8_splits_204 hl (k := 2) rfl rfl (by decide) rfl (fun ls hl => ?_)
        refine lv_goto (tgt := 187) hx hb dX8_splits_207 (by decide) ?_
        exact ih187 x1 (x5 + (-1)) r_30.1 r_30.2.1 r_30.2.2 m_rings m_old _ _ _ (lv_sub hl [1, 2, 0] rfl) hP hD hS hf
  have B179 : ∀ (x1 : Int32) (m_ring : Nat → Int32) (m_ringSize : Nat → Int32) (m_ringNodes : Nat → Int32) (m_rings : Int32) (m_old : Nat → Int32) (H : Heap) (locs : List Loc) (ls : Array Slot), lv_has ls 6 [(0, .ref (a_m 0)), (1, .int x1)] → va_P D vwCl (wX8 cA a_m m_s m_past m_pasts m_text m_typed m_faceOfSide m_firstSide m_faces m_before m_endA m_endB m_from m_queue m_ring m_ringSize m_ringNodes m_rings m_path m_pathSize m_old m_lastRing m_bestNodes m_bestInside m_bestFits m_far m_xs m_ys) H → va_D A (wX8 cA a_m m_s m_past m_pasts m_text m_typed m_faceOfSide m_firstSide m_faces m_before m_endA m_endB m_from m_queue m_ring m_ringSize m_ringNodes m_rings m_path m_pathSize m_old m_lastRing m_bestNodes m_bestInside m_bestFits m_far m_xs m_ys) → va_S A s.heap H locs → f_X8_splits_b179 N m_path m_pathSize x1 m_ring m_ringSize m_ringNodes m_rings m_old = some ρ → W p l e ({ frames := 1, cells := 0, slots := 0, locals := 22 } : Room) s m ([.ref (a_m 0), .int p1] : List Value).toArray below meth c H locs 0 0 (MQ below (va_Qv (fun (_ : Unit) => True) (fun _ t => va_P D vwCl (wX8 cA a_m m_s m_past m_pasts m_text m_typed m_faceOfSide m_firstSide m_faces m_before m_endA m_endB m_from m_queue ρ.1 ρ.2.1 ρ.2.2.1 ρ.2.2.2.1 m_path m_pathSize ρ.2.2.2.2 m_lastRing m_bestNodes m_bestInside m_bestFits m_far m_xs m_ys) t.heap ∧ va_D A (wX8 cA a_m m_s m_past m_pasts m_text m_typed m_faceOfSide m_firstSide m_faces m_before m_endA m_endB m_from m_queue ρ.1 ρ.2.1 ρ.2.2.1 ρ.2.2.2.1 m_path m_pathSize ρ.2.2.2.2 m_lastRing m_bestNodes m_bestInside m_bestFits m_far m_xs m_ys)) A) ([.ref (a_m 0), .int p1] : List Value).toArray s 0 0 A) (F0 m 179 ls []) := by
    intro x1 m_ring m_ringSize m_ringNodes m_rings m_old H locs ls hl hP hD hS hf
    refine lv_aload_n hx hb dX8_splits_179 rfl (lv_at hl 0 rfl) ?_
    refine va_get (D := D) (ci := 8) (C := RX8) (T := TX8) (N := 27) hx hb hT kwX8 hown hK.1 hP 0 rfl rfl 18 (by decide) (hT _ kf_X8_176) (fun _ h9 => h9) rfl dX8_splits_180 ?_
    refine lv_iconst (v := 2) hx hb dX8_splits_183 (by decide) ?_
    refine lv_isub hx hb dX8_splits_184 ?_
    refine lv_topi (fun x5_27 ex5_27 => ?_)
    have hf := nm_t ex5_27 hf
    refine lv_istore (lv' := [(5, .int x5_27), (0, .ref (a_m 0)), (1, .int x1)]) hx hb dX8_splits_185 hl (by decide) rfl (fun ls hl => ?_)
    exact B187 N x1 x5_27 m_ring m_ringSize m_ringNodes m_rings m_old _ _ _ (lv_sub hl [1, 2, 0] rfl) hP hD hS hf
  have B147 : ∀ (n147 : Nat), ∀ (x1 : Int32) (x2 : Int32) (x3 : Int32) (x4 : Int32) (m_ring : Nat → Int32) (m_ringSize : Nat → Int32) (m_ringNodes : Nat → Int32) (m_rings : Int32) (m_old : Nat → Int32) (H : Heap) (locs : List Loc) (ls : Array Slot), lv_has ls 6 [(0, .ref (a_m 0)), (1, .int x1), (2, .int x2), (3, .int x3), (4, .int x4)] → va_P D vwCl (wX8 cA a_m m_s m_past m_pasts m_text m_typed m_faceOfSide m_firstSide m_faces m_before m_endA m_endB m_from m_queue m_ring m_ringSize m_ringNodes m_rings m_path m_pathSize m_old m_lastRing m_bestNodes m_bestInside m_bestFits m_far m_xs m_ys) H → va_D A (wX8 cA a_m m_s m_past m_pasts m_text m_typed m_faceOfSide m_firstSide m_faces m_before m_endA m_endB m_from m_queue m_ring m_ringSize m_ringNodes m_rings m_path m_pathSize m_old m_lastRing m_bestNodes m_bestInside m_bestFits m_far m_xs m_ys) → va_S A s.heap H locs → f_X8_splits_b147 N m_path m_pathSize n147 x1 x2 x3 x4 m_ring m_ringSize m_ringNodes m_rings m_old = some ρ → W p l e ({ frames := 1, cells := 0, slots := 0, locals := 22 } : Room) s m ([.ref (a_m 0), .int p1] : List Value).toArray below meth c H locs 0 0 (MQ below (va_Qv (fun (_ : Unit) => True) (fun _ t => va_P D vwCl (wX8 cA a_m m_s m_past m_pasts m_text m_typed m_faceOfSide m_firstSide m_faces m_before m_endA m_endB m_from m_queue ρ.1 ρ.2.1 ρ.2.2.1 ρ.2.2.2.1 m_path m_pathSize ρ.2.2.2.2 m_lastRing m_bestNodes m_bestInside m_bestFits m_far m_xs m_ys) t.heap ∧ va_D A (wX8 cA a_m m_s m_past m_pasts m_text m_typed m_faceOfSide m_firstSide m_faces m_before m_endA m_endB m_from m_queue ρ.1 ρ.2.1 ρ.2.2.1 ρ.2.2.2.1 m_path m_pathSize ρ.2.2.2.2 m_lastRing m_bestNodes m_bestInside m_bestFits m_far m_xs m_ys)) A) ([.ref (a_m 0), .int p1] : List Value).toArray s 0 0 A) (F0 m 147 ls []) := by
    intro n147
    induction n147 with
    | zero =>
      intro x1 x2 x3 x4 m_ring m_ringSize m_ringNodes m_rings m_old H locs ls hl hP hD hS hf
      cases (show (none : Option ((Nat → Int32) × (Nat → Int32) × (Nat → Int32) × Int32 × (Nat → Int32))) = some ρ from hf)
    | succ n147 ih147 =>
      intro x1 x2 x3 x4 m_ring m_ringSize m_ringNodes m_rings m_old H locs ls hl hP hD hS hf
      refine lv_iload hx hb dX8_splits_147 (lv_at hl 4 rfl) ?_
      refine lv_iload_n hx hb dX8_splits_149 rfl (lv_at hl 3 rfl) ?_
      refine lv_icmp_eq (tgt := 179) hx hb dX8_splits_150 (by decide) (fun c_22 => ?_) (fun c_22 => ?_)
      · have hf := ite_t c_22 hf
        exact B179 x1 m_ring m_ringSize m_ringNodes m_rings m_old _ _ _ (lv_sub hl [0, 1] rfl) hP hD hS hf
      · have hf := ite_f c_22 hf
        refine lv_iload hx hb dX8_splits_153 (lv_at hl 4 rfl) ?_
        refine lv_iconst (v := 1) hx hb dX8_splits_155 (by decide) ?_
        refine lv_iadd hx hb dX8_splits_156 ?_
        refine lv_iload_n hx hb dX8_splits_157 rfl (lv_at hl 2 rfl) ?_
        obtain ⟨h_23, hf⟩ := chk_s hf
        refine lv_irem hx hb dX8_splits_158 (nz_n h_23) ?_
        refine lv_topi (fun x4_24 ex4_24 => ?_)
        have hf := nm_t ex4_24 hf
        refine lv_istore (lv' := [(4, .int x4_24), (0, .ref (a_m 0)), (1, .int x1), (2, .int x2), (3, .int x3)]) hx hb dX8_splits_159 hl (by decide) rfl (fun ls hl => ?_)
        refine lv_aload_n hx hb dX8_splits_161 rfl (lv_at hl 1 rfl) ?_
        refine lv_aload_n hx hb dX8_splits_162 rfl (lv_at hl 1 rfl) ?_
        refine va_get (D := D) (ci := 8) (C := RX8) (T := TX8) (N := 27) hx hb hT kwX8 hown hK.1 hP 0 rfl rfl 16 (by decide) (hT _ kf_X8_182) (fun _ h9 => h9) rfl dX8_splits_163 ?_
        refine lv_aload_n hx hb dX8_splits_166 rfl (lv_at hl 1 rfl) ?_
        refine va_get (D := D) (ci := 8) (C := RX8) (T := TX8) (N := 27) hx hb hT kwX8 hown hK.1 hP 0 rfl rfl 19 (by decide) (hT _ kf_X8_53) (fun _ h9 => h9) rfl dX8_splits_167 ?_
        refine lv_iload hx hb dX8_splits_170 (lv_at hl 0 rfl) ?_
        obtain ⟨h_25, hf⟩ := chk_s hf
        refine va_iald hx hb hK.1 hP 15 0 rfl rfl (inb_in h_25) dX8_splits_172 ?_
        obtain ⟨r_26, hcr_26, hf⟩ := bd1_s hf
        refine backWv (w2 := (wX8 cA a_m m_s m_past m_pasts m_text m_typed m_faceOfSide m_firstSide m_faces m_before m_endA m_endB m_from m_queue r_26.1 r_26.2.1 r_26.2.2 m_rings m_path m_pathSize m_old m_lastRing m_bestNodes m_bestInside m_bestFits m_far m_xs m_ys)) (runVw C (c_X8_adds l D cA a_m m_s m_past m_pasts m_text m_typed m_faceOfSide m_firstSide m_faces m_before m_endA m_endB m_from m_queue m_ring m_ringSize m_ringNodes m_rings m_path m_pathSize m_old m_lastRing m_bestNodes m_bestInside m_bestFits m_far m_xs m_ys m_rings (m_old x4_24.toNatClampNeg) _ N r_26 hcr_26) cf_X8_adds km_X8_185 ⟨rfl, rfl, by decide, by decide⟩ ⟨Nat.zero_le _, Nat.zero_le _⟩ (va_recv hK.1 hP (ci := 8) (q0 := 0) rfl rfl) (hP.sub [0, 1, 2, 3, 4, 5, 6, 7, 8, 9, 10, 11, 12, 13, 14, 15, 16, 17, 18] rfl) (hD.sub [0, 1, 2, 3, 4, 5, 6, 7, 8, 9, 10, 11, 12, 13, 14, 15, 16, 17, 18] rfl rfl) hK hl.1 rfl rfl (Nat.le_of_ble_eq_true rfl) dX8_splits_173) hP hD hS hA [0, 1, 2, 3, 4, 5, 6, 7, 8, 9, 10, 11, 12, 13, 14, 15, 16, 17, 18] rfl [] rfl rfl (by decide) [0, 1, 2, 3, 4, 5, 6, 7, 8, 9, 10, 11, 12, 13, 14, 15, 16, 17, 18] rfl rfl (fun H locs hP hD hS => ?_)
        refine lv_goto (tgt := 147) hx hb dX8_splits_176 (by decide) ?_
        exact ih147 x1 x2 x3 x4_24 r_26.1 r_26.2.1 r_26.2.2 m_rings m_old _ _ _ (lv_sub hl [1, 2, 3, 4, 0] rfl) hP hD hS hf
  have B132 : ∀ (x1 : Int32) (x2 : Int32) (x3 : Int32) (x4 : Int32) (m_ring : Nat → Int32) (m_ringSize : Nat → Int32) (m_ringNodes : Nat → Int32) (m_rings : Int32) (m_old : Nat → Int32) (H : Heap) (locs : List Loc) (ls : Array Slot), lv_has ls 6 [(0, .ref (a_m 0)), (1, .int x1), (2, .int x2), (3, .int x3), (4, .int x4)] → va_P D vwCl (wX8 cA a_m m_s m_past m_pasts m_text m_typed m_faceOfSide m_firstSide m_faces m_before m_endA m_endB m_from m_queue m_ring m_ringSize m_ringNodes m_rings m_path m_pathSize m_old m_lastRing m_bestNodes m_bestInside m_bestFits m_far m_xs m_ys) H → va_D A (wX8 cA a_m m_s m_past m_pasts m_text m_typed m_faceOfSide m_firstSide m_faces m_before m_endA m_endB m_from m_queue m_ring m_ringSize m_ringNodes m_rings m_path m_pathSize m_old m_lastRing m_bestNodes m_bestInside m_bestFits m_far m_xs m_ys) → va_S A s.heap H locs → f_X8_splits_b132 N m_path m_pathSize x1 x2 x3 x4 m_ring m_ringSize m_ringNodes m_rings m_old = some ρ → W p l e ({ frames := 1, cells := 0, slots := 0, locals := 22 } : Room) s m ([.ref (a_m 0), .int p1] : List Value).toArray below meth c H locs 0 0 (MQ below (va_Qv (fun (_ : Unit) => True) (fun _ t => va_P D vwCl (wX8 cA a_m m_s m_past m_pasts m_text m_typed m_faceOfSide m_firstSide m_faces m_before m_endA m_endB m_from m_queue ρ.1 ρ.2.1 ρ.2.2.1 ρ.2.2.2.1 m_path m_pathSize ρ.2.2.2.2 m_lastRing m_bestNodes m_bestInside m_bestFits m_far m_xs m_ys) t.heap ∧ va_D A (wX8 cA a_m m_s m_past m_pasts m_text m_typed m_faceOfSide m_firstSide m_faces m_before m_endA m_endB m_from m_queue ρ.1 ρ.2.1 ρ.2.2.1 ρ.2.2.2.1 m_path m_pathSize ρ.2.2.2.2 m_lastRing m_bestNodes m_bestInside m_bestFits m_far m_xs m_ys)) A) ([.ref (a_m 0), .int p1] : List Value).toArray s 0 0 A) (F0 m 132 ls []) := by
    intro x1 x2 x3 x4 m_ring m_ringSize m_ringNodes m_rings m_old H locs ls hl hP hD hS hf
    refine lv_aload_n hx hb dX8_splits_132 rfl (lv_at hl 0 rfl) ?_
    refine lv_aload_n hx hb dX8_splits_133 rfl (lv_at hl 0 rfl) ?_
    refine va_get (D := D) (ci := 8) (C := RX8) (T := TX8) (N := 27) hx hb hT kwX8 hown hK.1 hP 0 rfl rfl 16 (by decide) (hT _ kf_X8_182) (fun _ h9 => h9) rfl dX8_splits_134 ?_
    refine lv_aload_n hx hb dX8_splits_137 rfl (lv_at hl 0 rfl) ?_
    refine va_get (D := D) (ci := 8) (C := RX8) (T := TX8) (N := 27) hx hb hT kwX8 hown hK.1 hP 0 rfl rfl 19 (by decide) (hT _ kf_X8_53) (fun _ h9 => h9) rfl dX8_splits_138 ?_
    refine lv_iload hx hb dX8_splits_141 (lv_at hl 4 rfl) ?_
    obtain ⟨h_20, hf⟩ := chk_s hf
    refine va_iald hx hb hK.1 hP 15 0 rfl rfl (inb_in h_20) dX8_splits_143 ?_
    obtain ⟨r_21, hcr_21, hf⟩ := bd1_s hf
    refine backWv (w2 := (wX8 cA a_m m_s m_past m_pasts m_text m_typed m_faceOfSide m_firstSide m_faces m_before m_endA m_endB m_from m_queue r_21.1 r_21.2.1 r_21.2.2 m_rings m_path m_pathSize m_old m_lastRing m_bestNodes m_bestInside m_bestFits m_far m_xs m_ys)) (runVw C (c_X8_adds l D cA a_m m_s m_past m_pasts m_text m_typed m_faceOfSide m_firstSide m_faces m_before m_endA m_endB m_from m_queue m_ring m_ringSize m_ringNodes m_rings m_path m_pathSize m_old m_lastRing m_bestNodes m_bestInside m_bestFits m_far m_xs m_ys m_rings (m_old x4.toNatClampNeg) _ N r_21 hcr_21) cf_X8_adds km_X8_185 ⟨rfl, rfl, by decide, by decide⟩ ⟨Nat.zero_le _, Nat.zero_le _⟩ (va_recv hK.1 hP (ci := 8) (q0 := 0) rfl rfl) (hP.sub [0, 1, 2, 3, 4, 5, 6, 7, 8, 9, 10, 11, 12, 13, 14, 15, 16, 17, 18] rfl) (hD.sub [0, 1, 2, 3, 4, 5, 6, 7, 8, 9, 10, 11, 12, 13, 14, 15, 16, 17, 18] rfl rfl) hK hl.1 rfl rfl (Nat.le_of_ble_eq_true rfl) dX8_splits_144) hP hD hS hA [0, 1, 2, 3, 4, 5, 6, 7, 8, 9, 10, 11, 12, 13, 14, 15, 16, 17, 18] rfl [] rfl rfl (by decide) [0, 1, 2, 3, 4, 5, 6, 7, 8, 9, 10, 11, 12, 13, 14, 15, 16, 17, 18] rfl rfl (fun H locs hP hD hS => ?_)
    exact B147 N x1 x2 x3 x4 r_21.1 r_21.2.1 r_21.2.2 m_rings m_old _ _ _ (lv_sub hl [0, 1, 2, 3, 4] rfl) hP hD hS hf
  have B88 : ∀ (n88 : Nat), ∀ (x1 : Int32) (x2 : Int32) (x3 : Int32) (x4 : Int32) (m_ring : Nat → Int32) (m_ringSize : Nat → Int32) (m_ringNodes : Nat → Int32) (m_rings : Int32) (m_old : Nat → Int32) (H : Heap) (locs : List Loc) (ls : Array Slot), lv_has ls 6 [(0, .ref (a_m 0)), (1, .int x1), (2, .int x2), (3, .int x3), (4, .int x4)] → va_P D vwCl (wX8 cA a_m m_s m_past m_pasts m_text m_typed m_faceOfSide m_firstSide m_faces m_before m_endA m_endB m_from m_queue m_ring m_ringSize m_ringNodes m_rings m_path m_pathSize m_old m_lastRing m_bestNodes m_bestInside m_bestFits m_far m_xs m_ys) H → va_D A (wX8 cA a_m m_s m_past m_pasts m_text m_typed m_faceOfSide m_firstSide m_faces m_before m_endA m_endB m_from m_queue m_ring m_ringSize m_ringNodes m_rings m_path m_pathSize m_old m_lastRing m_bestNodes m_bestInside m_bestFits m_far m_xs m_ys) → va_S A s.heap H locs → f_X8_splits_b88 N m_path m_pathSize n88 x1 x2 x3 x4 m_ring m_ringSize m_ringNodes m_rings m_old = some ρ → W p l e ({ frames := 1, cells := 0, slots := 0, locals := 22 } : Room) s m ([.ref (a_m 0), .int p1] : List Value).toArray below meth c H locs 0 0 (MQ below (va_Qv (fun (_ : Unit) => True) (fun _ t => va_P D vwCl (wX8 cA a_m m_s m_past m_pasts m_text m_typed m_faceOfSide m_firstSide m_faces m_before m_endA m_endB m_from m_queue ρ.1 ρ.2.1 ρ.2.2.1 ρ.2.2.2.1 m_path m_pathSize ρ.2.2.2.2 m_lastRing m_bestNodes m_bestInside m_bestFits m_far m_xs m_ys) t.heap ∧ va_D A (wX8 cA a_m m_s m_past m_pasts m_text m_typed m_faceOfSide m_firstSide m_faces m_before m_endA m_endB m_from m_queue ρ.1 ρ.2.1 ρ.2.2.1 ρ.2.2.2.1 m_path m_pathSize ρ.2.2.2.2 m_lastRing m_bestNodes m_bestInside m_bestFits m_far m_xs m_ys)) A) ([.ref (a_m 0), .int p1] : List Value).toArray s 0 0 A) (F0 m 88 ls []) := by
    intro n88
    induction n88 with
    | zero =>
      intro x1 x2 x3 x4 m_ring m_ringSize m_ringNodes m_rings m_old H locs ls hl hP hD hS hf
      cases (show (none : Option ((Nat → Int32) × (Nat → Int32) × (Nat → Int32) × Int32 × (Nat → Int32))) = some ρ from hf)
    | succ n88 ih88 =>
      intro x1 x2 x3 x4 m_ring m_ringSize m_ringNodes m_rings m_old H locs ls hl hP hD hS hf
      refine lv_aload_n hx hb dX8_splits_88 rfl (lv_at hl 0 rfl) ?_
      refine va_get (D := D) (ci := 8) (C := RX8) (T := TX8) (N := 27) hx hb hT kwX8 hown hK.1 hP 0 rfl rfl 19 (by decide) (hT _ kf_X8_53) (fun _ h9 => h9) rfl dX8_splits_89 ?_
      refine lv_iload hx hb dX8_splits_92 (lv_at hl 4 rfl) ?_
      obtain ⟨h_13, hf⟩ := chk_s hf
      refine va_iald hx hb hK.1 hP 15 0 rfl rfl (inb_in h_13) dX8_splits_94 ?_
      refine lv_aload_n hx hb dX8_splits_95 rfl (lv_at hl 0 rfl) ?_
      refine va_get (D := D) (ci := 8) (C := RX8) (T := TX8) (N := 27) hx hb hT kwX8 hown hK.1 hP 0 rfl rfl 17 (by decide) (hT _ kf_X8_50) (fun _ h9 => h9) rfl dX8_splits_96 ?_
      refine lv_aload_n hx hb dX8_splits_99 rfl (lv_at hl 0 rfl) ?_
      refine va_get (D := D) (ci := 8) (C := RX8) (T := TX8) (N := 27) hx hb hT kwX8 hown hK.1 hP 0 rfl rfl 18 (by decide) (hT _ kf_X8_176) (fun _ h9 => h9) rfl dX8_splits_100 ?_
      refine lv_iconst (v := 1) hx hb dX8_splits_103 (by decide) ?_
      refine lv_isub hx hb dX8_splits_104 ?_
      obtain ⟨h_14, hf⟩ := chk_s hf
      refine va_iald hx hb hK.1 hP 14 0 rfl rfl (inb_in h_14) dX8_splits_105 ?_
      refine lv_icmp_eq (tgt := 132) hx hb dX8_splits_106 (by decide) (fun c_15 => ?_) (fun c_15 => ?_)
      · have hf := ite_t c_15 hf
        exact B132 x1 x2 x3 x4 m_ring m_ringSize m_ringNodes m_rings m_old _ _ _ (lv_sub hl [0, 1, 2, 3, 4] rfl) hP hD hS hf
      · have hf := ite_f c_15 hf
        refine lv_iload hx hb dX8_splits_109 (lv_at hl 4 rfl) ?_
        refine lv_iconst (v := 1) hx hb dX8_splits_111 (by decide) ?_
        refine lv_iadd hx hb dX8_splits_112 ?_
        refine lv_iload_n hx hb dX8_splits_113 rfl (lv_at hl 2 rfl) ?_
        obtain ⟨h_16, hf⟩ := chk_s hf
        refine lv_irem hx hb dX8_splits_114 (nz_n h_16) ?_
        refine lv_topi (fun x4_17 ex4_17 => ?_)
        have hf := nm_t ex4_17 hf
        refine lv_istore (lv' := [(4, .int x4_17), (0, .ref (a_m 0)), (1, .int x1), (2, .int x2), (3, .int x3)]) hx hb dX8_splits_115 hl (by decide) rfl (fun ls hl => ?_)
        refine lv_aload_n hx hb dX8_splits_117 rfl (lv_at hl 1 rfl) ?_
        refine lv_iload_n hx hb dX8_splits_118 rfl (lv_at hl 2 rfl) ?_
        refine lv_aload_n hx hb dX8_splits_119 rfl (lv_at hl 1 rfl) ?_
        refine va_get (D := D) (ci := 8) (C := RX8) (T := TX8) (N := 27) hx hb hT kwX8 hown hK.1 hP 0 rfl rfl 19 (by decide) (hT _ kf_X8_53) (fun _ h9 => h9) rfl dX8_splits_120 ?_
        refine lv_iload hx hb dX8_splits_123 (lv_at hl 0 rfl) ?_
        obtain ⟨h_18, hf⟩ := chk_s hf
        refine va_iald hx hb hK.1 hP 15 0 rfl rfl (inb_in h_18) dX8_splits_125 ?_
        obtain ⟨r_19, hcr_19, hf⟩ := bd1_s hf
        refine backWv (w2 := (wX8 cA a_m m_s m_past m_pasts m_text m_typed m_faceOfSide m_firstSide m_faces m_before m_endA m_endB m_from m_queue r_19.1 r_19.2.1 r_19.2.2 m_rings m_path m_pathSize m_old m_lastRing m_bestNodes m_bestInside m_bestFits m_far m_xs m_ys)) (runVw C (c_X8_adds l D cA a_m m_s m_past m_pasts m_text m_typed m_faceOfSide m_firstSide m_faces m_before m_endA m_endB m_from m_queue m_ring m_ringSize m_ringNodes m_rings m_path m_pathSize m_old m_lastRing m_bestNodes m_bestInside m_bestFits m_far m_xs m_ys x1 (m_old x4_17.toNatClampNeg) _ N r_19 hcr_19) cf_X8_adds km_X8_185 ⟨rfl, rfl, by decide, by decide⟩ ⟨Nat.zero_le _, Nat.zero_le _⟩ (va_recv hK.1 hP (ci := 8) (q0 := 0) rfl rfl) (hP.sub [0, 1, 2, 3, 4, 5, 6, 7, 8, 9, 10, 11, 12, 13, 14, 15, 16, 17, 18] rfl) (hD.sub [0, 1, 2, 3, 4, 5, 6, 7, 8, 9, 10, 11, 12, 13, 14, 15, 16, 17, 18] rfl rfl) hK hl.1 rfl rfl (Nat.le_of_ble_eq_true rfl) dX8_splits_126) hP hD hS hA [0, 1, 2, 3, 4, 5, 6, 7, 8, 9, 10, 11, 12, 13, 14, 15, 16, 17, 18] rfl [] rfl rfl (by decide) [0, 1, 2, 3, 4, 5, 6, 7, 8, 9, 10, 11, 12, 13, 14, 15, 16, 17, 18] rfl rfl (fun H locs hP hD hS => ?_)
        refine lv_goto (tgt := 88) hx hb dX8_splits_129 (by decide) ?_
        exact ih88 x1 x2 x3 x4_17 r_19.1 r_19.2.1 r_19.2.2 m_rings m_old _ _ _ (lv_sub hl [1, 2, 3, 4, 0] rfl) hP hD hS hf
  have B60 : ∀ (x1 : Int32) (x2 : Int32) (x3 : Int32) (m_ring : Nat → Int32) (m_ringSize : Nat → Int32) (m_ringNodes : Nat → Int32) (m_rings : Int32) (m_old : Nat → Int32) (H : Heap) (locs : List Loc) (ls : Array Slot), lv_has ls 6 [(0, .ref (a_m 0)), (1, .int x1), (2, .int x2), (3, .int x3)] → va_P D vwCl (wX8 cA a_m m_s m_past m_pasts m_text m_typed m_faceOfSide m_firstSide m_faces m_before m_endA m_endB m_from m_queue m_ring m_ringSize m_ringNodes m_rings m_path m_pathSize m_old m_lastRing m_bestNodes m_bestInside m_bestFits m_far m_xs m_ys) H → va_D A (wX8 cA a_m m_s m_past m_pasts m_text m_typed m_faceOfSide m_firstSide m_faces m_before m_endA m_endB m_from m_queue m_ring m_ringSize m_ringNodes m_rings m_path m_pathSize m_old m_lastRing m_bestNodes m_bestInside m_bestFits m_far m_xs m_ys) → va_S A s.heap H locs → f_X8_splits_b60 N m_path m_pathSize x1 x2 x3 m_ring m_ringSize m_ringNodes m_rings m_old = some ρ → W p l e ({ frames := 1, cells := 0, slots := 0, locals := 22 } : Room) s m ([.ref (a_m 0), .int p1] : List Value).toArray below meth c H locs 0 0 (MQ below (va_Qv (fun (_ : Unit) => True) (fun _ t => va_P D vwCl (wX8 cA a_m m_s m_past m_pasts m_text m_typed m_faceOfSide m_firstSide m_faces m_before m_endA m_endB m_from m_queue ρ.1 ρ.2.1 ρ.2.2.1 ρ.2.2.2.1 m_path m_pathSize ρ.2.2.2.2 m_lastRing m_bestNodes m_bestInside m_bestFits m_far m_xs m_ys) t.heap ∧ va_D A (wX8 cA a_m m_s m_past m_pasts m_text m_typed m_faceOfSide m_firstSide m_faces m_before m_endA m_endB m_from m_queue ρ.1 ρ.2.1 ρ.2.2.1 ρ.2.2.2.1 m_path m_pathSize ρ.2.2.2.2 m_lastRing m_bestNodes m_bestInside m_bestFits m_far m_xs m_ys)) A) ([.ref (a_m 0), .int p1] : List Value).toArray s 0 0 A) (F0 m 60 ls []) := by
    intro x1 x2 x3 m_ring m_ringSize m_ringNodes m_rings m_old H locs ls hl hP hD hS hf
    refine lv_aload_n hx hb dX8_splits_60 rfl (lv_at hl 0 rfl) ?_
    refine lv_iload_n hx hb dX8_splits_61 rfl (lv_at hl 1 rfl) ?_
    obtain ⟨r_9, hcr_9, hf⟩ := bd1_s hf
    refine backWv (w2 := (wX8 cA a_m m_s m_past m_pasts m_text m_typed m_faceOfSide m_firstSide m_faces m_before m_endA m_endB m_from m_queue m_ring r_9.1 r_9.2 m_rings m_path m_pathSize m_old m_lastRing m_bestNodes m_bestInside m_bestFits m_far m_xs m_ys)) (runVw C (c_X8_begins l D cA a_m m_s m_past m_pasts m_text m_typed m_faceOfSide m_firstSide m_faces m_before m_endA m_endB m_from m_queue m_ring m_ringSize m_ringNodes m_rings m_path m_pathSize m_old m_lastRing m_bestNodes m_bestInside m_bestFits m_far m_xs m_ys x1 _ N r_9 hcr_9) cf_X8_begins km_X8_179 ⟨rfl, rfl, by decide, by decide⟩ ⟨Nat.zero_le _, Nat.zero_le _⟩ (va_recv hK.1 hP (ci := 8) (q0 := 0) rfl rfl) (hP.sub [0, 1, 2, 3, 4, 5, 6, 7, 8, 9, 10, 11, 12, 13, 14, 15, 16, 17, 18] rfl) (hD.sub [0, 1, 2, 3, 4, 5, 6, 7, 8, 9, 10, 11, 12, 13, 14, 15, 16, 17, 18] rfl rfl) hK hl.1 rfl rfl (Nat.le_of_ble_eq_true rfl) dX8_splits_62) hP hD hS hA [0, 1, 2, 3, 4, 5, 6, 7, 8, 9, 10, 11, 12, 13, 14, 15, 16, 17, 18] rfl [] rfl rfl (by decide) [0, 1, 2, 3, 4, 5, 6, 7, 8, 9, 10, 11, 12, 13, 14, 15, 16, 17, 18] rfl rfl (fun H locs hP hD hS => ?_)
    refine lv_aload_n hx hb dX8_splits_65 rfl (lv_at hl 0 rfl) ?_
    refine lv_aload_n hx hb dX8_splits_66 rfl (lv_at hl 0 rfl) ?_
    refine va_get (D := D) (ci := 8) (C := RX8) (T := TX8) (N := 27) hx hb hT kwX8 hown hK.1 hP 0 rfl rfl 16 (by decide) (hT _ kf_X8_182) (fun _ h9 => h9) rfl dX8_splits_67 ?_
    obtain ⟨r_10, hcr_10, hf⟩ := bd1_s hf
    refine backWv (w2 := (wX8 cA a_m m_s m_past m_pasts m_text m_typed m_faceOfSide m_firstSide m_faces m_before m_endA m_endB m_from m_queue m_ring r_10.1 r_10.2 m_rings m_path m_pathSize m_old m_lastRing m_bestNodes m_bestInside m_bestFits m_far m_xs m_ys)) (runVw C (c_X8_begins l D cA a_m m_s m_past m_pasts m_text m_typed m_faceOfSide m_firstSide m_faces m_before m_endA m_endB m_from m_queue m_ring r_9.1 r_9.2 m_rings m_path m_pathSize m_old m_lastRing m_bestNodes m_bestInside m_bestFits m_far m_xs m_ys m_rings _ N r_10 hcr_10) cf_X8_begins km_X8_179 ⟨rfl, rfl, by decide, by decide⟩ ⟨Nat.zero_le _, Nat.zero_le _⟩ (va_recv hK.1 hP (ci := 8) (q0 := 0) rfl rfl) (hP.sub [0, 1, 2, 3, 4, 5, 6, 7, 8, 9, 10, 11, 12, 13, 14, 15, 16, 17, 18] rfl) (hD.sub [0, 1, 2, 3, 4, 5, 6, 7, 8, 9, 10, 11, 12, 13, 14, 15, 16, 17, 18] rfl rfl) hK hl.1 rfl rfl (Nat.le_of_ble_eq_true rfl) dX8_splits_70) hP hD hS hA [0, 1, 2, 3, 4, 5, 6, 7, 8, 9, 10, 11, 12, 13, 14, 15, 16, 17, 18] rfl [] rfl rfl (by decide) [0, 1, 2, 3, 4, 5, 6, 7, 8, 9, 10, 11, 12, 13, 14, 15, 16, 17, 18] rfl rfl (fun H locs hP hD hS => ?_)
    refine lv_iload_n hx hb dX8_splits_73 rfl (lv_at hl 3 rfl) ?_
    refine lv_istore (lv' := [(4, .int x3), (0, .ref (a_m 0)), (1, .int x1), (2, .int x2), (3, .int x3)]) hx hb dX8_splits_74 hl (by decide) rfl (fun ls hl => ?_)
    refine lv_aload_n hx hb dX8_splits_76 rfl (lv_at hl 1 rfl) ?_
    refine lv_iload_n hx hb dX8_splits_77 rfl (lv_at hl 2 rfl) ?_
    refine lv_aload_n hx hb dX8_splits_78 rfl (lv_at hl 1 rfl) ?_
    refine va_get (D := D) (ci := 8) (C := RX8) (T := TX8) (N := 27) hx hb hT kwX8 hown hK.1 hP 0 rfl rfl 19 (by decide) (hT _ kf_X8_53) (fun _ h9 => h9) rfl dX8_splits_79 ?_
    refine lv_iload hx hb dX8_splits_82 (lv_at hl 0 rfl) ?_
    obtain ⟨h_11, hf⟩ := chk_s hf
    refine va_iald hx hb hK.1 hP 15 0 rfl rfl (inb_in h_11) dX8_splits_84 ?_
    obtain ⟨r_12, hcr_12, hf⟩ := bd1_s hf
    refine backWv (w2 := (wX8 cA a_m m_s m_past m_pasts m_text m_typed m_faceOfSide m_firstSide m_faces m_before m_endA m_endB m_from m_queue r_12.1 r_12.2.1 r_12.2.2 m_rings m_path m_pathSize m_old m_lastRing m_bestNodes m_bestInside m_bestFits m_far m_xs m_ys)) (runVw C (c_X8_adds l D cA a_m m_s m_past m_pasts m_text m_typed m_faceOfSide m_firstSide m_faces m_before m_endA m_endB m_from m_queue m_ring r_10.1 r_10.2 m_rings m_path m_pathSize m_old m_lastRing m_bestNodes m_bestInside m_bestFits m_far m_xs m_ys x1 (m_old x3.toNatClampNeg) _ N r_12 hcr_12) cf_X8_adds km_X8_185 ⟨rfl, rfl, by decide, by decide⟩ ⟨Nat.zero_le _, Nat.zero_le _⟩ (va_recv hK.1 hP (ci := 8) (q0 := 0) rfl rfl) (hP.sub [0, 1, 2, 3, 4, 5, 6, 7, 8, 9, 10, 11, 12, 13, 14, 15, 16, 17, 18] rfl) (hD.sub [0, 1, 2, 3, 4, 5, 6, 7, 8, 9, 10, 11, 12, 13, 14, 15, 16, 17, 18] rfl rfl) hK hl.1 rfl rfl (Nat.le_of_ble_eq_true rfl) dX8_splits_85) hP hD hS hA [0, 1, 2, 3, 4, 5, 6, 7, 8, 9, 10, 11, 12, 13, 14, 15, 16, 17, 18] rfl [] rfl rfl (by decide) [0, 1, 2, 3, 4, 5, 6, 7, 8, 9, 10, 11, 12, 13, 14, 15, 16, 17, 18] rfl rfl (fun H locs hP hD hS => ?_)
    exact B88 N x1 x2 x3 x3 r_12.1 r_12.2.1 r_12.2.2 m_rings m_old _ _ _ (lv_sub hl [1, 2, 3, 4, 0] rfl) hP hD hS hf
  have B39 : ∀ (n39 : Nat), ∀ (x1 : Int32) (x2 : Int32) (x3 : Int32) (m_ring : Nat → Int32) (m_ringSize : Nat → Int32) (m_ringNodes : Nat → Int32) (m_rings : Int32) (m_old : Nat → Int32) (H : Heap) (locs : List Loc) (ls : Array Slot), lv_has ls 6 [(0, .ref (a_m 0)), (1, .int x1), (2, .int x2), (3, .int x3)] → va_P D vwCl (wX8 cA a_m m_s m_past m_pasts m_text m_typed m_faceOfSide m_firstSide m_faces m_before m_endA m_endB m_from m_queue m_ring m_ringSize m_ringNodes m_rings m_path m_pathSize m_old m_lastRing m_bestNodes m_bestInside m_bestFits m_far m_xs m_ys) H → va_D A (wX8 cA a_m m_s m_past m_pasts m_text m_typed m_faceOfSide m_firstSide m_faces m_before m_endA m_endB m_from m_queue m_ring m_ringSize m_ringNodes m_rings m_path m_pathSize m_old m_lastRing m_bestNodes m_bestInside m_bestFits m_far m_xs m_ys) → va_S A s.heap H locs → f_X8_splits_b39 N m_path m_pathSize n39 x1 x2 x3 m_ring m_ringSize m_ringNodes m_rings m_old = some ρ → W p l e ({ frames := 1, cells := 0, slots := 0, locals := 22 } : Room) s m ([.ref (a_m 0), .int p1] : List Value).toArray below meth c H locs 0 0 (MQ below (va_Qv (fun (_ : Unit) => True) (fun _ t => va_P D vwCl (wX8 cA a_m m_s m_past m_pasts m_text m_typed m_faceOfSide m_firstSide m_faces m_before m_endA m_endB m_from m_queue ρ.1 ρ.2.1 ρ.2.2.1 ρ.2.2.2.1 m_path m_pathSize ρ.2.2.2.2 m_lastRing m_bestNodes m_bestInside m_bestFits m_far m_xs m_ys) t.heap ∧ va_D A (wX8 cA a_m m_s m_past m_pasts m_text m_typed m_faceOfSide m_firstSide m_faces m_before m_endA m_endB m_from m_queue ρ.1 ρ.2.1 ρ.2.2.1 ρ.2.2.2.1 m_path m_pathSize ρ.2.2.2.2 m_lastRing m_bestNodes m_bestInside m_bestFits m_far m_xs m_ys)) A) ([.ref (a_m 0), .int p1] : List Value).toArray s 0 0 A) (F0 m 39 ls []) := by
    intro n39
    induction n39 with
    | zero =>
      intro x1 x2 x3 m_ring m_ringSize m_ringNodes m_rings m_old H locs ls hl hP hD hS hf
      cases (show (none : Option ((Nat → Int32) × (Nat → Int32) × (Nat → Int32) × Int32 × (Nat → Int32))) = some ρ from hf)
    | succ n39 ih39 =>
      intro x1 x2 x3 m_ring m_ringSize m_ringNodes m_rings m_old H locs ls hl hP hD hS hf
      refine lv_aload_n hx hb dX8_splits_39 rfl (lv_at hl 0 rfl) ?_
      refine va_get (D := D) (ci := 8) (C := RX8) (T := TX8) (N := 27) hx hb hT kwX8 hown hK.1 hP 0 rfl rfl 19 (by decide) (hT _ kf_X8_53) (fun _ h9 => h9) rfl dX8_splits_40 ?_
      refine lv_iload_n hx hb dX8_splits_43 rfl (lv_at hl 3 rfl) ?_
      obtain ⟨h_6, hf⟩ := chk_s hf
      refine va_iald hx hb hK.1 hP 15 0 rfl rfl (inb_in h_6) dX8_splits_44 ?_
      refine lv_aload_n hx hb dX8_splits_45 rfl (lv_at hl 0 rfl) ?_
      refine va_get (D := D) (ci := 8) (C := RX8) (T := TX8) (N := 27) hx hb hT kwX8 hown hK.1 hP 0 rfl rfl 17 (by decide) (hT _ kf_X8_50) (fun _ h9 => h9) rfl dX8_splits_46 ?_
      refine lv_iconst (v := 0) hx hb dX8_splits_49 (by decide) ?_
      obtain ⟨h_7, hf⟩ := chk_s hf
      refine va_iald hx hb hK.1 hP 14 0 rfl rfl (inb_in h_7) dX8_splits_50 ?_
      refine lv_icmp_eq (tgt := 60) hx hb dX8_splits_51 (by decide) (fun c_8 => ?_) (fun c_8 => ?_)
      · have hf := ite_t c_8 hf
        exact B60 x1 x2 x3 m_ring m_ringSize m_ringNodes m_rings m_old _ _ _ (lv_sub hl [0, 1, 2, 3] rfl) hP hD hS hf
      · have hf := ite_f c_8 hf
        refine lv_iinc (v := (x3 + 1)) (lv' := [(3, .int (x3 + 1)), (0, .ref (a_m 0)), (1, .int x1), (2, .int x2)]) hx hb dX8_splits_54 hl (k := 3) rfl rfl (by decide) rfl (fun ls hl => ?_)
        refine lv_goto (tgt := 39) hx hb dX8_splits_57 (by decide) ?_
        exact ih39 x1 x2 (x3 + 1) m_ring m_ringSize m_ringNodes m_rings m_old _ _ _ (lv_sub hl [1, 2, 3, 0] rfl) hP hD hS hf
  have B37 : ∀ (x1 : Int32) (x2 : Int32) (m_ring : Nat → Int32) (m_ringSize : Nat → Int32) (m_ringNodes : Nat → Int32) (m_rings : Int32) (m_old : Nat → Int32) (H : Heap) (locs : List Loc) (ls : Array Slot), lv_has ls 6 [(0, .ref (a_m 0)), (1, .int x1), (2, .int x2)] → va_P D vwCl (wX8 cA a_m m_s m_past m_pasts m_text m_typed m_faceOfSide m_firstSide m_faces m_before m_endA m_endB m_from m_queue m_ring m_ringSize m_ringNodes m_rings m_path m_pathSize m_old m_lastRing m_bestNodes m_bestInside m_bestFits m_far m_xs m_ys) H → va_D A (wX8 cA a_m m_s m_past m_pasts m_text m_typed m_faceOfSide m_firstSide m_faces m_before m_endA m_endB m_from m_queue m_ring m_ringSize m_ringNodes m_rings m_path m_pathSize m_old m_lastRing m_bestNodes m_bestInside m_bestFits m_far m_xs m_ys) → va_S A s.heap H locs → f_X8_splits_b37 N m_path m_pathSize x1 x2 m_ring m_ringSize m_ringNodes m_rings m_old = some ρ → W p l e ({ frames := 1, cells := 0, slots := 0, locals := 22 } : Room) s m ([.ref (a_m 0), .int p1] : List Value).toArray below meth c H locs 0 0 (MQ below (va_Qv (fun (_ : Unit) => True) (fun _ t => va_P D vwCl (wX8 cA a_m m_s m_past m_pasts m_text m_typed m_faceOfSide m_firstSide m_faces m_before m_endA m_endB m_from m_queue ρ.1 ρ.2.1 ρ.2.2.1 ρ.2.2.2.1 m_path m_pathSize ρ.2.2.2.2 m_lastRing m_bestNodes m_bestInside m_bestFits m_far m_xs m_ys) t.heap ∧ va_D A (wX8 cA a_m m_s m_past m_pasts m_text m_typed m_faceOfSide m_firstSide m_faces m_before m_endA m_endB m_from m_queue ρ.1 ρ.2.1 ρ.2.2.1 ρ.2.2.2.1 m_path m_pathSize ρ.2.2.2.2 m_lastRing m_bestNodes m_bestInside m_bestFits m_far m_xs m_ys)) A) ([.ref (a_m 0), .int p1] : List Value).toArray s 0 0 A) (F0 m 37 ls []) := by
    intro x1 x2 m_ring m_ringSize m_ringNodes m_rings m_old H locs ls hl hP hD hS hf
    refine lv_iconst (v := 0) hx hb dX8_splits_37 (by decide) ?_
    refine lv_istore_n (lv' := [(3, .int 0), (0, .ref (a_m 0)), (1, .int x1), (2, .int x2)]) hx hb dX8_splits_38 rfl hl (by decide) rfl (fun ls hl => ?_)
    exact B39 N x1 x2 0 m_ring m_ringSize m_ringNodes m_rings m_old _ _ _ (lv_sub hl [1, 2, 3, 0] rfl) hP hD hS hf
  have B9 : ∀ (n9 : Nat), ∀ (x1 : Int32) (x2 : Int32) (x3 : Int32) (m_ring : Nat → Int32) (m_ringSize : Nat → Int32) (m_ringNodes : Nat → Int32) (m_rings : Int32) (m_old : Nat → Int32) (H : Heap) (locs : List Loc) (ls : Array Slot), lv_has ls 6 [(0, .ref (a_m 0)), (1, .int x1), (2, .int x2), (3, .int x3)] → va_P D vwCl (wX8 cA a_m m_s m_past m_pasts m_text m_typed m_faceOfSide m_firstSide m_faces m_before m_endA m_endB m_from m_queue m_ring m_ringSize m_ringNodes m_rings m_path m_pathSize m_old m_lastRing m_bestNodes m_bestInside m_bestFits m_far m_xs m_ys) H → va_D A (wX8 cA a_m m_s m_past m_pasts m_text m_typed m_faceOfSide m_firstSide m_faces m_before m_endA m_endB m_from m_queue m_ring m_ringSize m_ringNodes m_rings m_path m_pathSize m_old m_lastRing m_bestNodes m_bestInside m_bestFits m_far m_xs m_ys) → va_S A s.heap H locs → f_X8_splits_b9 N m_path m_pathSize n9 x1 x2 x3 m_ring m_ringSize m_ringNodes m_rings m_old = some ρ → W p l e ({ frames := 1, cells := 0, slots := 0, locals := 22 } : Room) s m ([.ref (a_m 0), .int p1] : List Value).toArray below meth c H locs 0 0 (MQ below (va_Qv (fun (_ : Unit) => True) (fun _ t => va_P D vwCl (wX8 cA a_m m_s m_past m_pasts m_text m_typed m_faceOfSide m_firstSide m_faces m_before m_endA m_endB m_from m_queue ρ.1 ρ.2.1 ρ.2.2.1 ρ.2.2.2.1 m_path m_pathSize ρ.2.2.2.2 m_lastRing m_bestNodes m_bestInside m_bestFits m_far m_xs m_ys) t.heap ∧ va_D A (wX8 cA a_m m_s m_past m_pasts m_text m_typed m_faceOfSide m_firstSide m_faces m_before m_endA m_endB m_from m_queue ρ.1 ρ.2.1 ρ.2.2.1 ρ.2.2.2.1 m_path m_pathSize ρ.2.2.2.2 m_lastRing m_bestNodes m_bestInside m_bestFits m_far m_xs m_ys)) A) ([.ref (a_m 0), .int p1] : List Value).toArray s 0 0 A) (F0 m 9 ls []) := by
    intro n9
    induction n9 with
    | zero =>
      intro x1 x2 x3 m_ring m_ringSize m_ringNodes m_rings m_old H locs ls hl hP hD hS hf
      cases (show (none : Option ((Nat → Int32) × (Nat → Int32) × (Nat → Int32) × Int32 × (Nat → Int32))) = some ρ from hf)
    | succ n9 ih9 =>
      intro x1 x2 x3 m_ring m_ringSize m_ringNodes m_rings m_old H locs ls hl hP hD hS hf
      refine lv_iload_n hx hb dX8_splits_9 rfl (lv_at hl 3 rfl) ?_
      refine lv_iload_n hx hb dX8_splits_10 rfl (lv_at hl 2 rfl) ?_
      refine lv_icmp_ge (tgt := 37) hx hb dX8_splits_11 (by decide) (fun c_3 => ?_) (fun c_3 => ?_)
      · have hf := ite_t c_3 hf
        exact B37 x1 x2 m_ring m_ringSize m_ringNodes m_rings m_old _ _ _ (lv_sub hl [0, 1, 2] rfl) hP hD hS hf
      · have hf := ite_f c_3 hf
        refine lv_aload_n hx hb dX8_splits_14 rfl (lv_at hl 0 rfl) ?_
        refine va_get (D := D) (ci := 8) (C := RX8) (T := TX8) (N := 27) hx hb hT kwX8 hown hK.1 hP 0 rfl rfl 19 (by decide) (hT _ kf_X8_53) (fun _ h9 => h9) rfl dX8_splits_15 ?_
        refine lv_iload_n hx hb dX8_splits_18 rfl (lv_at hl 3 rfl) ?_
        refine lv_aload_n hx hb dX8_splits_19 rfl (lv_at hl 0 rfl) ?_
        refine va_get (D := D) (ci := 8) (C := RX8) (T := TX8) (N := 27) hx hb hT kwX8 hown hK.1 hP 0 rfl rfl 13 (by decide) (hT _ kf_X8_41) (fun _ h9 => h9) rfl dX8_splits_20 ?_
        refine lv_bipush (v := 10) hx hb dX8_splits_23 (by decide) ?_
        refine lv_iload_n hx hb dX8_splits_25 rfl (lv_at hl 1 rfl) ?_
        refine lv_imul hx hb dX8_splits_26 ?_
        refine lv_iload_n hx hb dX8_splits_27 rfl (lv_at hl 3 rfl) ?_
        refine lv_iadd hx hb dX8_splits_28 ?_
        obtain ⟨h_4, hf⟩ := chk_s hf
        refine va_iald hx hb hK.1 hP 11 0 rfl rfl (inb_in h_4) dX8_splits_29 ?_
        obtain ⟨h_5, hf⟩ := chk_s hf
        refine va_iast hx hb hK.1 hP hD hS 15 0 rfl rfl (inb_in h_5) dX8_splits_30 (fun H locs hP hD hS => ?_)
        have hP : va_P D vwCl (wX8 cA a_m m_s m_past m_pasts m_text m_typed m_faceOfSide m_firstSide m_faces m_before m_endA m_endB m_from m_queue m_ring m_ringSize m_ringNodes m_rings m_path m_pathSize (upd m_old x3.toNatClampNeg (m_ring ((10 * x1) + x3).toNatClampNeg)) m_lastRing m_bestNodes m_bestInside m_bestFits m_far m_xs m_ys) H := hP
        have hD : va_D A (wX8 cA a_m m_s m_past m_pasts m_text m_typed m_faceOfSide m_firstSide m_faces m_before m_endA m_endB m_from m_queue m_ring m_ringSize m_ringNodes m_rings m_path m_pathSize (upd m_old x3.toNatClampNeg (m_ring ((10 * x1) + x3).toNatClampNeg)) m_lastRing m_bestNodes m_bestInside m_bestFits m_far m_xs m_ys) := hD
        refine lv_iinc (v := (x3 + 1)) (lv' := [(3, .int (x3 + 1)), (0, .ref (a_m 0)), (1, .int x1), (2, .int x2)]) hx hb dX8_splits_31 hl (k := 3) rfl rfl (by decide) rfl (fun ls hl => ?_)
        refine lv_goto (tgt := 9) hx hb dX8_splits_34 (by decide) ?_
        exact ih9 x1 x2 (x3 + 1) m_ring m_ringSize m_ringNodes m_rings (upd m_old x3.toNatClampNeg (m_ring ((10 * x1) + x3).toNatClampNeg)) _ _ _ (lv_sub hl [1, 2, 3, 0] rfl) hP hD hS hf
  refine lv_aload_n hx hb dX8_splits_0 rfl (lv_at hl 0 rfl) ?_
  refine va_get (D := D) (ci := 8) (C := RX8) (T := TX8) (N := 27) hx hb hT kwX8 hown hK.1 hP 0 rfl rfl 14 (by decide) (hT _ kf_X8_44) (fun _ h9 => h9) rfl dX8_splits_1 ?_
  refine lv_iload_n hx hb dX8_splits_4 rfl (lv_at hl 1 rfl) ?_
  obtain ⟨h_1, hf⟩ := chk_s hf
  refine va_iald hx hb hK.1 hP 12 0 rfl rfl (inb_in h_1) dX8_splits_5 ?_
  refine lv_topi (fun x2_2 ex2_2 => ?_)
  have hf := nm_t ex2_2 hf
  refine lv_istore_n (lv' := [(2, .int x2_2), (0, .ref (a_m 0)), (1, .int p1)]) hx hb dX8_splits_6 rfl hl (by decide) rfl (fun ls hl => ?_)
  refine lv_iconst (v := 0) hx hb dX8_splits_7 (by decide) ?_
  refine lv_istore_n (lv' := [(3, .int 0), (2, .int x2_2), (0, .ref (a_m 0)), (1, .int p1)]) hx hb dX8_splits_8 rfl hl (by decide) rfl (fun ls hl => ?_)
  exact B9 N p1 x2_2 0 m_ring m_ringSize m_ringNodes m_rings m_old _ _ _ (lv_sub hl [2, 3, 1, 0] rfl) hP hD hS hf
set_option maxRecDepth 100000 in
set_option maxHeartbeats 4000000 in
theorem c_X8_canDraw (l : Launch) (D : va_G) (cA : Nat → ClassId) (a_m : Nat → Nat) (m_s : Nat → Int32) (m_past : Nat → Int32) (m_pasts : Int32) (m_text : Nat → Int32) (m_typed : Int32) (m_faceOfSide : Nat → Int32) (m_firstSide : Nat → Int32) (m_faces : Int32) (m_before : Nat → Int32) (m_endA : Nat → Int32) (m_endB : Nat → Int32) (m_from : Nat → Int32) (m_queue : Nat → Int32) (m_ring : Nat → Int32) (m_ringSize : Nat → Int32) (m_ringNodes : Nat → Int32) (m_rings : Int32) (m_path : Nat → Int32) (m_pathSize : Int32) (m_old : Nat → Int32) (m_lastRing : Int32) (m_bestNodes : Int32) (m_bestInside : Int32) (m_bestFits : Int32) (m_far : Nat → Int32) (m_xs : Nat → UInt32) (m_ys : Nat → UInt32) (p1 : Int32) (sz N : Nat) (ρ : Int32 × (Nat → Int32) × (Nat → Int32) × (Nat → Int32) × (Nat → Int32) × (Nat → Int32) × Int32 × (Nat → Int32) × Int32 × (Nat → Int32) × Int32 × Int32 × Int32 × Int32) (hf : f_X8_canDraw N m_endA m_endB m_from m_queue m_ring m_ringSize m_ringNodes m_rings m_path m_pathSize m_old m_lastRing m_bestNodes m_bestInside m_bestFits p1 = some ρ) : Met l yX8_canDraw (Cond.code yX8_canDraw cX8_canDraw 10 (Option.some Jvm.ClassFile.FieldType.boolean) :: lw_g) ({ frames := 3, cells := 0, slots := 0, locals := 79 } : Room) (PcW D (tyA cA) (wX8 cA a_m m_s m_past m_pasts m_text m_typed m_faceOfSide m_firstSide m_faces m_before m_endA m_endB m_from m_queue m_ring m_ringSize m_ringNodes m_rings m_path m_pathSize m_old m_lastRing m_bestNodes m_bestInside m_bestFits m_far m_xs m_ys) sz [.ref (a_m 0), .int p1]) (va_Qi (fun r (_ : Unit) => r = ρ.1) (fun _ t => va_P D vwCl (wX8 cA a_m m_s m_past m_pasts m_text m_typed m_faceOfSide m_firstSide m_faces m_before m_endA m_endB ρ.2.1 ρ.2.2.1 ρ.2.2.2.1 ρ.2.2.2.2.1 ρ.2.2.2.2.2.1 ρ.2.2.2.2.2.2.1 ρ.2.2.2.2.2.2.2.1 ρ.2.2.2.2.2.2.2.2.1 ρ.2.2.2.2.2.2.2.2.2.1 ρ.2.2.2.2.2.2.2.2.2.2.1 ρ.2.2.2.2.2.2.2.2.2.2.2.1 ρ.2.2.2.2.2.2.2.2.2.2.2.2.1 ρ.2.2.2.2.2.2.2.2.2.2.2.2.2 m_far m_xs m_ys) t.heap ∧ va_D (va_A (wX8 cA a_m m_s m_past m_pasts m_text m_typed m_faceOfSide m_firstSide m_faces m_before m_endA m_endB m_from m_queue m_ring m_ringSize m_ringNodes m_rings m_path m_pathSize m_old m_lastRing m_bestNodes m_bestInside m_bestFits m_far m_xs m_ys) sz) (wX8 cA a_m m_s m_past m_pasts m_text m_typed m_faceOfSide m_firstSide m_faces m_before m_endA m_endB ρ.2.1 ρ.2.2.1 ρ.2.2.2.1 ρ.2.2.2.2.1 ρ.2.2.2.2.2.1 ρ.2.2.2.2.2.2.1 ρ.2.2.2.2.2.2.2.1 ρ.2.2.2.2.2.2.2.2.1 ρ.2.2.2.2.2.2.2.2.2.1 ρ.2.2.2.2.2.2.2.2.2.2.1 ρ.2.2.2.2.2.2.2.2.2.2.2.1 ρ.2.2.2.2.2.2.2.2.2.2.2.2.1 ρ.2.2.2.2.2.2.2.2.2.2.2.2.2 m_far m_xs m_ys)) (va_A (wX8 cA a_m m_s m_past m_pasts m_text m_typed m_faceOfSide m_firstSide m_faces m_before m_endA m_endB m_from m_queue m_ring m_ringSize m_ringNodes m_rings m_path m_pathSize m_old m_lastRing m_bestNodes m_bestInside m_bestFits m_far m_xs m_ys) sz)) 0 0 (va_A (wX8 cA a_m m_s m_past m_pasts m_text m_typed m_faceOfSide m_firstSide m_faces m_before m_endA m_endB m_from m_queue m_ring m_ringSize m_ringNodes m_rings m_path m_pathSize m_old m_lastRing m_bestNodes m_bestInside m_bestFits m_far m_xs m_ys) sz) := by
  refine mkW (QQ := fun A => va_Qi (fun r (_ : Unit) => r = ρ.1) (fun _ t => va_P D vwCl (wX8 cA a_m m_s m_past m_pasts m_text m_typed m_faceOfSide m_firstSide m_faces m_before m_endA m_endB ρ.2.1 ρ.2.2.1 ρ.2.2.2.1 ρ.2.2.2.2.1 ρ.2.2.2.2.2.1 ρ.2.2.2.2.2.2.1 ρ.2.2.2.2.2.2.2.1 ρ.2.2.2.2.2.2.2.2.1 ρ.2.2.2.2.2.2.2.2.2.1 ρ.2.2.2.2.2.2.2.2.2.2.1 ρ.2.2.2.2.2.2.2.2.2.2.2.1 ρ.2.2.2.2.2.2.2.2.2.2.2.2.1 ρ.2.2.2.2.2.2.2.2.2.2.2.2.2 m_far m_xs m_ys) t.heap ∧ va_D A (wX8 cA a_m m_s m_past m_pasts m_text m_typed m_faceOfSide m_firstSide m_faces m_before m_endA m_endB ρ.2.1 ρ.2.2.1 ρ.2.2.2.1 ρ.2.2.2.2.1 ρ.2.2.2.2.2.1 ρ.2.2.2.2.2.2.1 ρ.2.2.2.2.2.2.2.1 ρ.2.2.2.2.2.2.2.2.1 ρ.2.2.2.2.2.2.2.2.2.1 ρ.2.2.2.2.2.2.2.2.2.2.1 ρ.2.2.2.2.2.2.2.2.2.2.2.1 ρ.2.2.2.2.2.2.2.2.2.2.2.2.1 ρ.2.2.2.2.2.2.2.2.2.2.2.2.2 m_far m_xs m_ys)) A) (by decide) (Nat.le_of_ble_eq_true rfl) fun p e s m below meth c ls A C hl hP hK hD hA hS => ?_
  obtain ⟨hx, hb, hml, hown, hT, hr, hlk⟩ := id C
  have hl : lv_has ls 10 [(0, .ref (a_m 0)), (1, .int p1)] := hl
  have B127 : ∀ (n127 : Nat), ∀ (x1 : Int32) (x4 : Int32) (x5 : Int32) (m_from : Nat → Int32) (m_queue : Nat → Int32) (m_ring : Nat → Int32) (m_ringSize : Nat → Int32) (m_ringNodes : Nat → Int32) (m_rings : Int32) (m_path : Nat → Int32) (m_pathSize : Int32) (m_old : Nat → Int32) (m_lastRing : Int32) (m_bestNodes : Int32) (m_bestInside : Int32) (m_bestFits : Int32) (H : Heap) (locs : List Loc) (ls : Array Slot), lv_has ls 10 [(0, .ref (a_m 0)), (1, .int x1), (4, .int x4), (5, .int x5)] → va_P D vwCl (wX8 cA a_m m_s m_past m_pasts m_text m_typed m_faceOfSide m_firstSide m_faces m_before m_endA m_endB m_from m_queue m_ring m_ringSize m_ringNodes m_rings m_path m_pathSize m_old m_lastRing m_bestNodes m_bestInside m_bestFits m_far m_xs m_ys) H → va_D A (wX8 cA a_m m_s m_past m_pasts m_text m_typed m_faceOfSide m_firstSide m_faces m_before m_endA m_endB m_from m_queue m_ring m_ringSize m_ringNodes m_rings m_path m_pathSize m_old m_lastRing m_bestNodes m_bestInside m_bestFits m_far m_xs m_ys) → va_S A s.heap H locs → f_X8_canDraw_b127 N m_endA m_endB n127 x1 x4 x5 m_from m_queue m_ring m_ringSize m_ringNodes m_rings m_path m_pathSize m_old m_lastRing m_bestNodes m_bestInside m_bestFits = some ρ → W p l e ({ frames := 3, cells := 0, slots := 0, locals := 79 } : Room) s m ([.ref (a_m 0), .int p1] : List Value).toArray below meth c H locs 0 0 (MQ below (va_Qi (fun r (_ : Unit) => r = ρ.1) (fun _ t => va_P D vwCl (wX8 cA a_m m_s m_past m_pasts m_text m_typed m_faceOfSide m_firstSide m_faces m_before m_endA m_endB ρ.2.1 ρ.2.2.1 ρ.2.2.2.1 ρ.2.2.2.2.1 ρ.2.2.2.2.2.1 ρ.2.2.2.2.2.2.1 ρ.2.2.2.2.2.2.2.1 ρ.2.2.2.2.2.2.2.2.1 ρ.2.2.2.2.2.2.2.2.2.1 ρ.2.2.2.2.2.2.2.2.2.2.1 ρ.2.2.2.2.2.2.2.2.2.2.2.1 ρ.2.2.2.2.2.2.2.2.2.2.2.2.1 ρ.2.2.2.2.2.2.2.2.2.2.2.2.2 m_far m_xs m_ys) t.heap ∧ va_D A (wX8 cA a_m m_s m_past m_pasts m_text m_typed m_faceOfSide m_firstSide m_faces m_before m_endA m_endB ρ.2.1 ρ.2.2.1 ρ.2.2.2.1 ρ.2.2.2.2.1 ρ.2.2.2.2.2.1 ρ.2.2.2.2.2.2.1 ρ.2.2.2.2.2.2.2.1 ρ.2.2.2.2.2.2.2.2.1 ρ.2.2.2.2.2.2.2.2.2.1 ρ.2.2.2.2.2.2.2.2.2.2.1 ρ.2.2.2.2.2.2.2.2.2.2.2.1 ρ.2.2.2.2.2.2.2.2.2.2.2.2.1 ρ.2.2.2.2.2.2.2.2.2.2.2.2.2 m_far m_xs m_ys)) A) ([.ref (a_m 0), .int p1] : List Value).toArray s 0 0 A) (F0 m 127 ls []) := by
    intro n127
    induction n127 with
    | zero =>
      intro x1 x4 x5 m_from m_queue m_ring m_ringSize m_ringNodes m_rings m_path m_pathSize m_old m_lastRing m_bestNodes m_bestInside m_bestFits H locs ls hl hP hD hS hf
      cases (show (none : Option (Int32 × (Nat → Int32) × (Nat → Int32) × (Nat → Int32) × (Nat → Int32) × (Nat → Int32) × Int32 × (Nat → Int32) × Int32 × (Nat → Int32) × Int32 × Int32 × Int32 × Int32)) = some ρ from hf)
    | succ n127 ih127 =>
      have B249 : ∀ (x1 : Int32) (x4 : Int32) (x5 : Int32) (y1 : Int32) (m_from : Nat → Int32) (m_queue : Nat → Int32) (m_ring : Nat → Int32) (m_ringSize : Nat → Int32) (m_ringNodes : Nat → Int32) (m_rings : Int32) (m_path : Nat → Int32) (m_pathSize : Int32) (m_old : Nat → Int32) (m_lastRing : Int32) (m_bestNodes : Int32) (m_bestInside : Int32) (m_bestFits : Int32) (H : Heap) (locs : List Loc) (ls : Array Slot), lv_has ls 10 [(0, .ref (a_m 0)), (1, .int x1), (4, .int x4), (5, .int x5)] → va_P D vwCl (wX8 cA a_m m_s m_past m_pasts m_text m_typed m_faceOfSide m_firstSide m_faces m_before m_endA m_endB m_from m_queue m_ring m_ringSize m_ringNodes m_rings m_path m_pathSize m_old m_lastRing m_bestNodes m_bestInside m_bestFits m_far m_xs m_ys) H → va_D A (wX8 cA a_m m_s m_past m_pasts m_text m_typed m_faceOfSide m_firstSide m_faces m_before m_endA m_endB m_from m_queue m_ring m_ringSize m_ringNodes m_rings m_path m_pathSize m_old m_lastRing m_bestNodes m_bestInside m_bestFits m_far m_xs m_ys) → va_S A s.heap H locs → f_X8_canDraw_b249 N m_endA m_endB (f_X8_canDraw_b127 N m_endA m_endB n127) x1 x4 x5 y1 m_from m_queue m_ring m_ringSize m_ringNodes m_rings m_path m_pathSize m_old m_lastRing m_bestNodes m_bestInside m_bestFits = some ρ → W p l e ({ frames := 3, cells := 0, slots := 0, locals := 79 } : Room) s m ([.ref (a_m 0), .int p1] : List Value).toArray below meth c H locs 0 0 (MQ below (va_Qi (fun r (_ : Unit) => r = ρ.1) (fun _ t => va_P D vwCl (wX8 cA a_m m_s m_past m_pasts m_text m_typed m_faceOfSide m_firstSide m_faces m_before m_endA m_endB ρ.2.1 ρ.2.2.1 ρ.2.2.2.1 ρ.2.2.2.2.1 ρ.2.2.2.2.2.1 ρ.2.2.2.2.2.2.1 ρ.2.2.2.2.2.2.2.1 ρ.2.2.2.2.2.2.2.2.1 ρ.2.2.2.2.2.2.2.2.2.1 ρ.2.2.2.2.2.2.2.2.2.2.1 ρ.2.2.2.2.2.2.2.2.2.2.2.1 ρ.2.2.2.2.2.2.2.2.2.2.2.2.1 ρ.2.2.2.2.2.2.2.2.2.2.2.2.2 m_far m_xs m_ys) t.heap ∧ va_D A (wX8 cA a_m m_s m_past m_pasts m_text m_typed m_faceOfSide m_firstSide m_faces m_before m_endA m_endB ρ.2.1 ρ.2.2.1 ρ.2.2.2.1 ρ.2.2.2.2.1 ρ.2.2.2.2.2.1 ρ.2.2.2.2.2.2.1 ρ.2.2.2.2.2.2.2.1 ρ.2.2.2.2.2.2.2.2.1 ρ.2.2.2.2.2.2.2.2.2.1 ρ.2.2.2.2.2.2.2.2.2.2.1 ρ.2.2.2.2.2.2.2.2.2.2.2.1 ρ.2.2.2.2.2.2.2.2.2.2.2.2.1 ρ.2.2.2.2.2.2.2.2.2.2.2.2.2 m_far m_xs m_ys)) A) ([.ref (a_m 0), .int p1] : List Value).toArray s 0 0 A) (F0 m 249 ls [.int y1, .ref (a_m 0)]) := by
        intro x1 x4 x5 y1 m_from m_queue m_ring m_ringSize m_ringNodes m_rings m_path m_pathSize m_old m_lastRing m_bestNodes m_bestInside m_bestFits H locs ls hl hP hD hS hf
        obtain ⟨r_32, hcr_32, hf⟩ := bd1_s hf
        refine backWv (w2 := (wX8 cA a_m m_s m_past m_pasts m_text m_typed m_faceOfSide m_firstSide m_faces m_before m_endA m_endB m_from m_queue r_32.1 r_32.2.1 r_32.2.2.1 r_32.2.2.2.1 m_path m_pathSize r_32.2.2.2.2 m_lastRing m_bestNodes m_bestInside m_bestFits m_far m_xs m_ys)) (runVw C (c_X8_splits l D cA a_m m_s m_past m_pasts m_text m_typed m_faceOfSide m_firstSide m_faces m_before m_endA m_endB m_from m_queue m_ring m_ringSize m_ringNodes m_rings m_path m_pathSize m_old m_lastRing m_bestNodes m_bestInside m_bestFits m_far m_xs m_ys y1 _ N r_32 hcr_32) cf_X8_splits km_X8_231 ⟨rfl, rfl, by decide, by decide⟩ ⟨Nat.zero_le _, Nat.zero_le _⟩ (va_recv hK.1 hP (ci := 8) (q0 := 0) rfl rfl) (hP.sub [0, 1, 2, 3, 4, 5, 6, 7, 8, 9, 10, 11, 12, 13, 14, 15, 16, 17, 18] rfl) (hD.sub [0, 1, 2, 3, 4, 5, 6, 7, 8, 9, 10, 11, 12, 13, 14, 15, 16, 17, 18] rfl rfl) hK hl.1 rfl rfl (Nat.le_of_ble_eq_true rfl) dX8_canDraw_249) hP hD hS hA [0, 1, 2, 3, 4, 5, 6, 7, 8, 9, 10, 11, 12, 13, 14, 15, 16, 17, 18] rfl [] rfl rfl (by decide) [0, 1, 2, 3, 4, 5, 6, 7, 8, 9, 10, 11, 12, 13, 14, 15, 16, 17, 18] rfl rfl (fun H locs hP hD hS => ?_)
        refine lv_goto (tgt := 127) hx hb dX8_canDraw_252 (by decide) ?_
        exact ih127 x1 x4 x5 m_from m_queue r_32.1 r_32.2.1 r_32.2.2.1 r_32.2.2.2.1 m_path m_pathSize r_32.2.2.2.2 m_lastRing m_bestNodes m_bestInside m_bestFits _ _ _ (lv_sub hl [0, 1, 2, 3] rfl) hP hD hS hf
      intro x1 x4 x5 m_from m_queue m_ring m_ringSize m_ringNodes m_rings m_path m_pathSize m_old m_lastRing m_bestNodes m_bestInside m_bestFits H locs ls hl hP hD hS hf
      refine lv_iload hx hb dX8_canDraw_127 (lv_at hl 2 rfl) ?_
      refine lv_iload_n hx hb dX8_canDraw_129 rfl (lv_at hl 1 rfl) ?_
      refine lv_icmp_eq (tgt := 255) hx hb dX8_canDraw_130 (by decide) (fun c_17 => ?_) (fun c_17 => ?_)
      · have hf := ite_t c_17 hf
        refine lv_iconst (v := 1) hx hb dX8_canDraw_255 (by decide) ?_
        have eR := some_i hf
        exact W.zret hx hb hr (by decide) (fun t ht hW => ⟨⟨1, (), rfl, fst_e eR, by rw [← eR, ht]; exact hP, by rw [← eR]; exact hD⟩, hS.F ht⟩) hS.2.2 dX8_canDraw_256 (hlocks := hlk)
      · have hf := ite_f c_17 hf
        refine lv_aload_n hx hb dX8_canDraw_133 rfl (lv_at hl 0 rfl) ?_
        refine lv_iload_n hx hb dX8_canDraw_134 rfl (lv_at hl 1 rfl) ?_
        refine lv_iload hx hb dX8_canDraw_135 (lv_at hl 2 rfl) ?_
        refine lv_iload hx hb dX8_canDraw_137 (lv_at hl 3 rfl) ?_
        obtain ⟨r_18, hcr_18, hf⟩ := bd1_s hf
        refine backWv (w2 := (wX8 cA a_m m_s m_past m_pasts m_text m_typed m_faceOfSide m_firstSide m_faces m_before m_endA m_endB m_from m_queue m_ring m_ringSize m_ringNodes m_rings m_path m_pathSize m_old r_18.1 r_18.2.1 r_18.2.2.1 r_18.2.2.2 m_far m_xs m_ys)) (runVw C (c_X8_picks l D cA a_m m_s m_past m_pasts m_text m_typed m_faceOfSide m_firstSide m_faces m_before m_endA m_endB m_from m_queue m_ring m_ringSize m_ringNodes m_rings m_path m_pathSize m_old m_lastRing m_bestNodes m_bestInside m_bestFits m_far m_xs m_ys x1 x4 x5 _ N r_18 hcr_18) cf_X8_picks km_X8_225 ⟨rfl, rfl, by decide, by decide⟩ ⟨Nat.zero_le _, Nat.zero_le _⟩ (va_recv hK.1 hP (ci := 8) (q0 := 0) rfl rfl) (hP.sub [0, 1, 2, 3, 4, 5, 6, 7, 8, 9, 10, 11, 12, 13, 14, 15, 16, 17, 18] rfl) (hD.sub [0, 1, 2, 3, 4, 5, 6, 7, 8, 9, 10, 11, 12, 13, 14, 15, 16, 17, 18] rfl rfl) hK hl.1 rfl rfl (Nat.le_of_ble_eq_true rfl) dX8_canDraw_139) hP hD hS hA [0, 1, 2, 3, 4, 5, 6, 7, 8, 9, 10, 11, 12, 13, 14, 15, 16, 17, 18] rfl [] rfl rfl (by decide) [0, 1, 2, 3, 4, 5, 6, 7, 8, 9, 10, 11, 12, 13, 14, 15, 16, 17, 18] rfl rfl (fun H locs hP hD hS => ?_)
        refine lv_aload_n hx hb dX8_canDraw_142 rfl (lv_at hl 0 rfl) ?_
        refine va_get (D := D) (ci := 8) (C := RX8) (T := TX8) (N := 27) hx hb hT kwX8 hown hK.1 hP 0 rfl rfl 23 (by decide) (hT _ kf_X8_195) (fun _ h9 => h9) rfl dX8_canDraw_143 ?_
        refine lv_if_ne (tgt := 151) hx hb dX8_canDraw_146 (by decide) (fun c_19 => ?_) (fun c_19 => ?_)
        · have hf := ite_t c_19 hf
          refine lv_aload_n hx hb dX8_canDraw_151 rfl (lv_at hl 0 rfl) ?_
          refine va_get (D := D) (ci := 8) (C := RX8) (T := TX8) (N := 27) hx hb hT kwX8 hown hK.1 hP 0 rfl rfl 21 (by decide) (hT _ kf_X8_198) (fun _ h9 => h9) rfl dX8_canDraw_152 ?_
          obtain ⟨r_20, hcr_20, hf⟩ := bd1_s hf
          refine backI (runS0 C (c_X8_lowest l D cA r_18.2.1 N r_20 hcr_20) cf_X8_lowest km_X8_210 ⟨rfl, rfl, by decide, by decide⟩ ⟨Nat.zero_le _, Nat.zero_le _⟩ (hP.sub [] rfl) hK hl.1 rfl rfl (Nat.le_of_ble_eq_true rfl) dX8_canDraw_155) ?_
          refine lv_istore (lv' := [(6, .int r_20), (0, .ref (a_m 0)), (1, .int x1), (4, .int x4), (5, .int x5)]) hx hb dX8_canDraw_158 hl (by decide) rfl (fun ls hl => ?_)
          refine lv_aload_n hx hb dX8_canDraw_160 rfl (lv_at hl 1 rfl) ?_
          refine lv_iload_n hx hb dX8_canDraw_161 rfl (lv_at hl 2 rfl) ?_
          refine lv_iload hx hb dX8_canDraw_162 (lv_at hl 3 rfl) ?_
          refine lv_iconst (v := (-1)) hx hb dX8_canDraw_164 (by decide) ?_
          refine lv_ixor hx hb dX8_canDraw_165 ?_
          refine lv_iand hx hb dX8_canDraw_166 ?_
          obtain ⟨r_21, hcr_21, hf⟩ := bd1_s hf
          refine backI (runV0 C (c_X8_ownEdges l D cA a_m m_s m_past m_pasts m_text m_typed m_faceOfSide m_firstSide m_faces m_before m_endA m_endB m_from m_queue m_ring m_ringSize m_ringNodes m_rings m_path m_pathSize m_old r_18.1 r_18.2.1 r_18.2.2.1 r_18.2.2.2 m_far m_xs m_ys (x1 &&& (x4 ^^^ (-1))) N r_21 hcr_21) cf_X8_ownEdges km_X8_228 ⟨rfl, rfl, by decide, by decide⟩ ⟨Nat.zero_le _, Nat.zero_le _⟩ (va_recv hK.1 hP (ci := 8) (q0 := 0) rfl rfl) (hP.sub [0, 1, 2, 3, 4, 5, 6, 7, 8, 9, 10, 11, 12, 13, 14, 15, 16, 17, 18] rfl) hK hl.1 rfl rfl (Nat.le_of_ble_eq_true rfl) dX8_canDraw_167) ?_
          refine lv_istore (lv' := [(7, .int r_21), (6, .int r_20), (0, .ref (a_m 0)), (1, .int x1), (4, .int x4), (5, .int x5)]) hx hb dX8_canDraw_170 hl (by decide) rfl (fun ls hl => ?_)
          refine lv_aload_n hx hb dX8_canDraw_172 rfl (lv_at hl 2 rfl) ?_
          refine lv_iload hx hb dX8_canDraw_173 (lv_at hl 1 rfl) ?_
          refine lv_iload hx hb dX8_canDraw_175 (lv_at hl 0 rfl) ?_
          refine lv_aload_n hx hb dX8_canDraw_177 rfl (lv_at hl 2 rfl) ?_
          refine va_get (D := D) (ci := 8) (C := RX8) (T := TX8) (N := 27) hx hb hT kwX8 hown hK.1 hP 0 rfl rfl 22 (by decide) (hT _ kf_X8_201) (fun _ h9 => h9) rfl dX8_canDraw_178 ?_
          refine lv_aload_n hx hb dX8_canDraw_181 rfl (lv_at hl 2 rfl) ?_
          refine va_get (D := D) (ci := 8) (C := RX8) (T := TX8) (N := 27) hx hb hT kwX8 hown hK.1 hP 0 rfl rfl 21 (by decide) (hT _ kf_X8_198) (fun _ h9 => h9) rfl dX8_canDraw_182 ?_
          refine lv_iconst (v := 1) hx hb dX8_canDraw_185 (by decide) ?_
          refine lv_iload hx hb dX8_canDraw_186 (lv_at hl 1 rfl) ?_
          refine lv_ishl hx hb dX8_canDraw_188 ?_
          refine lv_iconst (v := (-1)) hx hb dX8_canDraw_189 (by decide) ?_
          refine lv_ixor hx hb dX8_canDraw_190 ?_
          refine lv_iand hx hb dX8_canDraw_191 ?_
          obtain ⟨r_22, hcr_22, hf⟩ := bd1_s hf
          refine backWi (w2 := (wX8 cA a_m m_s m_past m_pasts m_text m_typed m_faceOfSide m_firstSide m_faces m_before m_endA m_endB r_22.2.1 r_22.2.2 m_ring m_ringSize m_ringNodes m_rings m_path m_pathSize m_old r_18.1 r_18.2.1 r_18.2.2.1 r_18.2.2.2 m_far m_xs m_ys)) (runVw C (c_X8_finds l D cA a_m m_s m_past m_pasts m_text m_typed m_faceOfSide m_firstSide m_faces m_before m_endA m_endB m_from m_queue m_ring m_ringSize m_ringNodes m_rings m_path m_pathSize m_old r_18.1 r_18.2.1 r_18.2.2.1 r_18.2.2.2 m_far m_xs m_ys r_20 r_21 r_18.2.2.1 (r_18.2.1 &&& (((1 : Int32) <<< (r_20 &&& 31)) ^^^ (-1))) _ N r_22 hcr_22) cf_X8_finds km_X8_213 ⟨rfl, rfl, by decide, by decide⟩ ⟨Nat.zero_le _, Nat.zero_le _⟩ (va_recv hK.1 hP (ci := 8) (q0 := 0) rfl rfl) (hP.sub [0, 1, 2, 3, 4, 5, 6, 7, 8, 9, 10, 11, 12, 13, 14, 15, 16, 17, 18] rfl) (hD.sub [0, 1, 2, 3, 4, 5, 6, 7, 8, 9, 10, 11, 12, 13, 14, 15, 16, 17, 18] rfl rfl) hK hl.1 rfl rfl (Nat.le_of_ble_eq_true rfl) dX8_canDraw_192) hP hD hS hA [0, 1, 2, 3, 4, 5, 6, 7, 8, 9, 10, 11, 12, 13, 14, 15, 16, 17, 18] rfl [] rfl rfl (by decide) [0, 1, 2, 3, 4, 5, 6, 7, 8, 9, 10, 11, 12, 13, 14, 15, 16, 17, 18] rfl rfl (fun H locs hP hD hS => ?_)
          refine lv_topi (fun x8_23 ex8_23 => ?_)
          have hf := nm_t ex8_23 hf
          refine lv_istore (lv' := [(8, .int x8_23), (7, .int r_21), (6, .int r_20), (0, .ref (a_m 0)), (1, .int x1), (4, .int x4), (5, .int x5)]) hx hb dX8_canDraw_195 hl (by decide) rfl (fun ls hl => ?_)
          refine lv_aload_n hx hb dX8_canDraw_197 rfl (lv_at hl 3 rfl) ?_
          refine lv_iload hx hb dX8_canDraw_198 (lv_at hl 0 rfl) ?_
          refine lv_iload hx hb dX8_canDraw_200 (lv_at hl 2 rfl) ?_
          obtain ⟨r_24, hcr_24, hf⟩ := bd1_s hf
          refine backWv (w2 := (wX8 cA a_m m_s m_past m_pasts m_text m_typed m_faceOfSide m_firstSide m_faces m_before m_endA m_endB r_22.2.1 r_22.2.2 m_ring m_ringSize m_ringNodes m_rings r_24.1 r_24.2 m_old r_18.1 r_18.2.1 r_18.2.2.1 r_18.2.2.2 m_far m_xs m_ys)) (runVw C (c_X8_takesPath l D cA a_m m_s m_past m_pasts m_text m_typed m_faceOfSide m_firstSide m_faces m_before m_endA m_endB r_22.2.1 r_22.2.2 m_ring m_ringSize m_ringNodes m_rings m_path m_pathSize m_old r_18.1 r_18.2.1 r_18.2.2.1 r_18.2.2.2 m_far m_xs m_ys x8_23 r_20 _ N r_24 hcr_24) cf_X8_takesPath km_X8_216 ⟨rfl, rfl, by decide, by decide⟩ ⟨Nat.zero_le _, Nat.zero_le _⟩ (va_recv hK.1 hP (ci := 8) (q0 := 0) rfl rfl) (hP.sub [0, 1, 2, 3, 4, 5, 6, 7, 8, 9, 10, 11, 12, 13, 14, 15, 16, 17, 18] rfl) (hD.sub [0, 1, 2, 3, 4, 5, 6, 7, 8, 9, 10, 11, 12, 13, 14, 15, 16, 17, 18] rfl rfl) hK hl.1 rfl rfl (Nat.le_of_ble_eq_true rfl) dX8_canDraw_202) hP hD hS hA [0, 1, 2, 3, 4, 5, 6, 7, 8, 9, 10, 11, 12, 13, 14, 15, 16, 17, 18] rfl [] rfl rfl (by decide) [0, 1, 2, 3, 4, 5, 6, 7, 8, 9, 10, 11, 12, 13, 14, 15, 16, 17, 18] rfl rfl (fun H locs hP hD hS => ?_)
          refine lv_aload_n hx hb dX8_canDraw_205 rfl (lv_at hl 3 rfl) ?_
          refine lv_aload_n hx hb dX8_canDraw_206 rfl (lv_at hl 3 rfl) ?_
          refine va_get (D := D) (ci := 8) (C := RX8) (T := TX8) (N := 27) hx hb hT kwX8 hown hK.1 hP 0 rfl rfl 21 (by decide) (hT _ kf_X8_198) (fun _ h9 => h9) rfl dX8_canDraw_207 ?_
          obtain ⟨r_25, hcr_25, hf⟩ := bd1_s hf
          refine backWi (w2 := (wX8 cA a_m m_s m_past m_pasts m_text m_typed m_faceOfSide m_firstSide m_faces m_before m_endA m_endB r_22.2.1 r_22.2.2 m_ring m_ringSize m_ringNodes m_rings r_24.1 r_24.2 m_old r_25.2 r_18.2.1 r_18.2.2.1 r_18.2.2.2 m_far m_xs m_ys)) (runVw C (c_X8_fitting l D cA a_m m_s m_past m_pasts m_text m_typed m_faceOfSide m_firstSide m_faces m_before m_endA m_endB r_22.2.1 r_22.2.2 m_ring m_ringSize m_ringNodes m_rings r_24.1 r_24.2 m_old r_18.1 r_18.2.1 r_18.2.2.1 r_18.2.2.2 m_far m_xs m_ys r_18.2.1 _ N r_25 hcr_25) cf_X8_fitting km_X8_192 ⟨rfl, rfl, by decide, by decide⟩ ⟨Nat.zero_le _, Nat.zero_le _⟩ (va_recv hK.1 hP (ci := 8) (q0 := 0) rfl rfl) (hP.sub [0, 1, 2, 3, 4, 5, 6, 7, 8, 9, 10, 11, 12, 13, 14, 15, 16, 17, 18] rfl) (hD.sub [0, 1, 2, 3, 4, 5, 6, 7, 8, 9, 10, 11, 12, 13, 14, 15, 16, 17, 18] rfl rfl) hK hl.1 rfl rfl (Nat.le_of_ble_eq_true rfl) dX8_canDraw_210) hP hD hS hA [0, 1, 2, 3, 4, 5, 6, 7, 8, 9, 10, 11, 12, 13, 14, 15, 16, 17, 18] rfl [] rfl rfl (by decide) [0, 1, 2, 3, 4, 5, 6, 7, 8, 9, 10, 11, 12, 13, 14, 15, 16, 17, 18] rfl rfl (fun H locs hP hD hS => ?_)
          refine lv_topi (fun x9_26 ex9_26 => ?_)
          have hf := nm_t ex9_26 hf
          refine lv_istore (lv' := [(9, .int x9_26), (8, .int x8_23), (7, .int r_21), (6, .int r_20), (0, .ref (a_m 0)), (1, .int x1), (4, .int x4), (5, .int x5)]) hx hb dX8_canDraw_213 hl (by decide) rfl (fun ls hl => ?_)
          refine lv_iload hx hb dX8_canDraw_215 (lv_at hl 6 rfl) ?_
          refine lv_aload_n hx hb dX8_canDraw_217 rfl (lv_at hl 4 rfl) ?_
          refine lv_iload hx hb dX8_canDraw_218 (lv_at hl 2 rfl) ?_
          obtain ⟨r_27, hcr_27, hf⟩ := bd1_s hf
          refine backI (runV0 C (c_X8_edgesOfPath l D cA a_m m_s m_past m_pasts m_text m_typed m_faceOfSide m_firstSide m_faces m_before m_endA m_endB r_22.2.1 r_22.2.2 m_ring m_ringSize m_ringNodes m_rings r_24.1 r_24.2 m_old r_25.2 r_18.2.1 r_18.2.2.1 r_18.2.2.2 m_far m_xs m_ys r_21 N r_27 hcr_27) cf_X8_edgesOfPath km_X8_219 ⟨rfl, rfl, by decide, by decide⟩ ⟨Nat.zero_le _, Nat.zero_le _⟩ (va_recv hK.1 hP (ci := 8) (q0 := 0) rfl rfl) (hP.sub [0, 1, 2, 3, 4, 5, 6, 7, 8, 9, 10, 11, 12, 13, 14, 15, 16, 17, 18] rfl) hK hl.1 rfl rfl (Nat.le_of_ble_eq_true rfl) dX8_canDraw_220) ?_
          refine lv_ior hx hb dX8_canDraw_223 ?_
          refine lv_topi (fun x4_28 ex4_28 => ?_)
          have hf := nm_t ex4_28 hf
          refine lv_istore (lv' := [(4, .int x4_28), (9, .int x9_26), (8, .int x8_23), (7, .int r_21), (6, .int r_20), (0, .ref (a_m 0)), (1, .int x1), (5, .int x5)]) hx hb dX8_canDraw_224 hl (by decide) rfl (fun ls hl => ?_)
          refine lv_iload hx hb dX8_canDraw_226 (lv_at hl 7 rfl) ?_
          refine lv_aload_n hx hb dX8_canDraw_228 rfl (lv_at hl 5 rfl) ?_
          obtain ⟨r_29, hcr_29, hf⟩ := bd1_s hf
          refine backI (runV0 C (c_X8_nodesOfPath l D cA a_m m_s m_past m_pasts m_text m_typed m_faceOfSide m_firstSide m_faces m_before m_endA m_endB r_22.2.1 r_22.2.2 m_ring m_ringSize m_ringNodes m_rings r_24.1 r_24.2 m_old r_25.2 r_18.2.1 r_18.2.2.1 r_18.2.2.2 m_far m_xs m_ys N r_29 hcr_29) cf_X8_nodesOfPath km_X8_222 ⟨rfl, rfl, by decide, by decide⟩ ⟨Nat.zero_le _, Nat.zero_le _⟩ (va_recv hK.1 hP (ci := 8) (q0 := 0) rfl rfl) (hP.sub [0, 1, 2, 3, 4, 5, 6, 7, 8, 9, 10, 11, 12, 13, 14, 15, 16, 17, 18] rfl) hK hl.1 rfl rfl (Nat.le_of_ble_eq_true rfl) dX8_canDraw_229) ?_
          refine lv_ior hx hb dX8_canDraw_232 ?_
          refine lv_topi (fun x5_30 ex5_30 => ?_)
          have hf := nm_t ex5_30 hf
          refine lv_istore (lv' := [(5, .int x5_30), (4, .int x4_28), (9, .int x9_26), (8, .int x8_23), (7, .int r_21), (6, .int r_20), (0, .ref (a_m 0)), (1, .int x1)]) hx hb dX8_canDraw_233 hl (by decide) rfl (fun ls hl => ?_)
          refine lv_aload_n hx hb dX8_canDraw_235 rfl (lv_at hl 6 rfl) ?_
          refine lv_iload hx hb dX8_canDraw_236 (lv_at hl 2 rfl) ?_
          refine lv_if_le (tgt := 248) hx hb dX8_canDraw_238 (by decide) (fun c_31 => ?_) (fun c_31 => ?_)
          · have hf := ite_t c_31 hf
            refine lv_iconst (v := 0) hx hb dX8_canDraw_248 (by decide) ?_
            exact B249 x1 x4_28 x5_30 0 r_22.2.1 r_22.2.2 m_ring m_ringSize m_ringNodes m_rings r_24.1 r_24.2 m_old r_25.2 r_18.2.1 r_18.2.2.1 r_18.2.2.2 _ _ _ (lv_sub hl [6, 7, 1, 0] rfl) hP hD hS hf
          · have hf := ite_f c_31 hf
            refine lv_aload_n hx hb dX8_canDraw_241 rfl (lv_at hl 6 rfl) ?_
            refine va_get (D := D) (ci := 8) (C := RX8) (T := TX8) (N := 27) hx hb hT kwX8 hown hK.1 hP 0 rfl rfl 20 (by decide) (hT _ kf_X8_189) (fun _ h9 => h9) rfl dX8_canDraw_242 ?_
            refine lv_goto (tgt := 249) hx hb dX8_canDraw_245 (by decide) ?_
            exact B249 x1 x4_28 x5_30 r_25.2 r_22.2.1 r_22.2.2 m_ring m_ringSize m_ringNodes m_rings r_24.1 r_24.2 m_old r_25.2 r_18.2.1 r_18.2.2.1 r_18.2.2.2 _ _ _ (lv_sub hl [6, 7, 1, 0] rfl) hP hD hS hf
        · have hf := ite_fn c_19 hf
          refine lv_iconst (v := 0) hx hb dX8_canDraw_149 (by decide) ?_
          have eR := some_i hf
          exact W.zret hx hb hr (by decide) (fun t ht hW => ⟨⟨0, (), rfl, fst_e eR, by rw [← eR, ht]; exact hP, by rw [← eR]; exact hD⟩, hS.F ht⟩) hS.2.2 dX8_canDraw_150 (hlocks := hlk)
  have B78 : ∀ (n78 : Nat), ∀ (x1 : Int32) (x4 : Int32) (x5 : Int32) (x6 : Int32) (m_from : Nat → Int32) (m_queue : Nat → Int32) (m_ring : Nat → Int32) (m_ringSize : Nat → Int32) (m_ringNodes : Nat → Int32) (m_rings : Int32) (m_path : Nat → Int32) (m_pathSize : Int32) (m_old : Nat → Int32) (m_lastRing : Int32) (m_bestNodes : Int32) (m_bestInside : Int32) (m_bestFits : Int32) (H : Heap) (locs : List Loc) (ls : Array Slot), lv_has ls 10 [(0, .ref (a_m 0)), (1, .int x1), (4, .int x4), (5, .int x5), (6, .int x6)] → va_P D vwCl (wX8 cA a_m m_s m_past m_pasts m_text m_typed m_faceOfSide m_firstSide m_faces m_before m_endA m_endB m_from m_queue m_ring m_ringSize m_ringNodes m_rings m_path m_pathSize m_old m_lastRing m_bestNodes m_bestInside m_bestFits m_far m_xs m_ys) H → va_D A (wX8 cA a_m m_s m_past m_pasts m_text m_typed m_faceOfSide m_firstSide m_faces m_before m_endA m_endB m_from m_queue m_ring m_ringSize m_ringNodes m_rings m_path m_pathSize m_old m_lastRing m_bestNodes m_bestInside m_bestFits m_far m_xs m_ys) → va_S A s.heap H locs → f_X8_canDraw_b78 N m_endA m_endB n78 x1 x4 x5 x6 m_from m_queue m_ring m_ringSize m_ringNodes m_rings m_path m_pathSize m_old m_lastRing m_bestNodes m_bestInside m_bestFits = some ρ → W p l e ({ frames := 3, cells := 0, slots := 0, locals := 79 } : Room) s m ([.ref (a_m 0), .int p1] : List Value).toArray below meth c H locs 0 0 (MQ below (va_Qi (fun r (_ : Unit) => r = ρ.1) (fun _ t => va_P D vwCl (wX8 cA a_m m_s m_past m_pasts m_text m_typed m_faceOfSide m_firstSide m_faces m_before m_endA m_endB ρ.2.1 ρ.2.2.1 ρ.2.2.2.1 ρ.2.2.2.2.1 ρ.2.2.2.2.2.1 ρ.2.2.2.2.2.2.1 ρ.2.2.2.2.2.2.2.1 ρ.2.2.2.2.2.2.2.2.1 ρ.2.2.2.2.2.2.2.2.2.1 ρ.2.2.2.2.2.2.2.2.2.2.1 ρ.2.2.2.2.2.2.2.2.2.2.2.1 ρ.2.2.2.2.2.2.2.2.2.2.2.2.1 ρ.2.2.2.2.2.2.2.2.2.2.2.2.2 m_far m_xs m_ys) t.heap ∧ va_D A (wX8 cA a_m m_s m_past m_pasts m_text m_typed m_faceOfSide m_firstSide m_faces m_before m_endA m_endB ρ.2.1 ρ.2.2.1 ρ.2.2.2.1 ρ.2.2.2.2.1 ρ.2.2.2.2.2.1 ρ.2.2.2.2.2.2.1 ρ.2.2.2.2.2.2.2.1 ρ.2.2.2.2.2.2.2.2.1 ρ.2.2.2.2.2.2.2.2.2.1 ρ.2.2.2.2.2.2.2.2.2.2.1 ρ.2.2.2.2.2.2.2.2.2.2.2.1 ρ.2.2.2.2.2.2.2.2.2.2.2.2.1 ρ.2.2.2.2.2.2.2.2.2.2.2.2.2 m_far m_xs m_ys)) A) ([.ref (a_m 0), .int p1] : List Value).toArray s 0 0 A) (F0 m 78 ls []) := by
    intro n78
    induction n78 with
    | zero =>
      intro x1 x4 x5 x6 m_from m_queue m_ring m_ringSize m_ringNodes m_rings m_path m_pathSize m_old m_lastRing m_bestNodes m_bestInside m_bestFits H locs ls hl hP hD hS hf
      cases (show (none : Option (Int32 × (Nat → Int32) × (Nat → Int32) × (Nat → Int32) × (Nat → Int32) × (Nat → Int32) × Int32 × (Nat → Int32) × Int32 × (Nat → Int32) × Int32 × Int32 × Int32 × Int32)) = some ρ from hf)
    | succ n78 ih78 =>
      have B121 : ∀ (x1 : Int32) (x4 : Int32) (x5 : Int32) (x6 : Int32) (m_from : Nat → Int32) (m_queue : Nat → Int32) (m_ring : Nat → Int32) (m_ringSize : Nat → Int32) (m_ringNodes : Nat → Int32) (m_rings : Int32) (m_path : Nat → Int32) (m_pathSize : Int32) (m_old : Nat → Int32) (m_lastRing : Int32) (m_bestNodes : Int32) (m_bestInside : Int32) (m_bestFits : Int32) (H : Heap) (locs : List Loc) (ls : Array Slot), lv_has ls 10 [(0, .ref (a_m 0)), (1, .int x1), (4, .int x4), (5, .int x5), (6, .int x6)] → va_P D vwCl (wX8 cA a_m m_s m_past m_pasts m_text m_typed m_faceOfSide m_firstSide m_faces m_before m_endA m_endB m_from m_queue m_ring m_ringSize m_ringNodes m_rings m_path m_pathSize m_old m_lastRing m_bestNodes m_bestInside m_bestFits m_far m_xs m_ys) H → va_D A (wX8 cA a_m m_s m_past m_pasts m_text m_typed m_faceOfSide m_firstSide m_faces m_before m_endA m_endB m_from m_queue m_ring m_ringSize m_ringNodes m_rings m_path m_pathSize m_old m_lastRing m_bestNodes m_bestInside m_bestFits m_far m_xs m_ys) → va_S A s.heap H locs → f_X8_canDraw_b121 N m_endA m_endB (f_X8_canDraw_b78 N m_endA m_endB n78) x1 x4 x5 x6 m_from m_queue m_ring m_ringSize m_ringNodes m_rings m_path m_pathSize m_old m_lastRing m_bestNodes m_bestInside m_bestFits = some ρ → W p l e ({ frames := 3, cells := 0, slots := 0, locals := 79 } : Room) s m ([.ref (a_m 0), .int p1] : List Value).toArray below meth c H locs 0 0 (MQ below (va_Qi (fun r (_ : Unit) => r = ρ.1) (fun _ t => va_P D vwCl (wX8 cA a_m m_s m_past m_pasts m_text m_typed m_faceOfSide m_firstSide m_faces m_before m_endA m_endB ρ.2.1 ρ.2.2.1 ρ.2.2.2.1 ρ.2.2.2.2.1 ρ.2.2.2.2.2.1 ρ.2.2.2.2.2.2.1 ρ.2.2.2.2.2.2.2.1 ρ.2.2.2.2.2.2.2.2.1 ρ.2.2.2.2.2.2.2.2.2.1 ρ.2.2.2.2.2.2.2.2.2.2.1 ρ.2.2.2.2.2.2.2.2.2.2.2.1 ρ.2.2.2.2.2.2.2.2.2.2.2.2.1 ρ.2.2.2.2.2.2.2.2.2.2.2.2.2 m_far m_xs m_ys) t.heap ∧ va_D A (wX8 cA a_m m_s m_past m_pasts m_text m_typed m_faceOfSide m_firstSide m_faces m_before m_endA m_endB ρ.2.1 ρ.2.2.1 ρ.2.2.2.1 ρ.2.2.2.2.1 ρ.2.2.2.2.2.1 ρ.2.2.2.2.2.2.1 ρ.2.2.2.2.2.2.2.1 ρ.2.2.2.2.2.2.2.2.1 ρ.2.2.2.2.2.2.2.2.2.1 ρ.2.2.2.2.2.2.2.2.2.2.1 ρ.2.2.2.2.2.2.2.2.2.2.2.1 ρ.2.2.2.2.2.2.2.2.2.2.2.2.1 ρ.2.2.2.2.2.2.2.2.2.2.2.2.2 m_far m_xs m_ys)) A) ([.ref (a_m 0), .int p1] : List Value).toArray s 0 0 A) (F0 m 121 ls []) := by
        intro x1 x4 x5 x6 m_from m_queue m_ring m_ringSize m_ringNodes m_rings m_path m_pathSize m_old m_lastRing m_bestNodes m_bestInside m_bestFits H locs ls hl hP hD hS hf
        refine lv_iinc (v := (x6 + 1)) (lv' := [(6, .int (x6 + 1)), (0, .ref (a_m 0)), (1, .int x1), (4, .int x4), (5, .int x5)]) hx hb dX8_canDraw_121 hl (k := 4) rfl rfl (by decide) rfl (fun ls hl => ?_)
        refine lv_goto (tgt := 78) hx hb dX8_canDraw_124 (by decide) ?_
        exact ih78 x1 x4 x5 (x6 + 1) m_from m_queue m_ring m_ringSize m_ringNodes m_rings m_path m_pathSize m_old m_lastRing m_bestNodes m_bestInside m_bestFits _ _ _ (lv_sub hl [1, 2, 3, 4, 0] rfl) hP hD hS hf
      have B93 : ∀ (n93 : Nat), ∀ (x1 : Int32) (x4 : Int32) (x5 : Int32) (x6 : Int32) (x7 : Int32) (m_from : Nat → Int32) (m_queue : Nat → Int32) (m_ring : Nat → Int32) (m_ringSize : Nat → Int32) (m_ringNodes : Nat → Int32) (m_rings : Int32) (m_path : Nat → Int32) (m_pathSize : Int32) (m_old : Nat → Int32) (m_lastRing : Int32) (m_bestNodes : Int32) (m_bestInside : Int32) (m_bestFits : Int32) (H : Heap) (locs : List Loc) (ls : Array Slot), lv_has ls 10 [(0, .ref (a_m 0)), (1, .int x1), (4, .int x4), (5, .int x5), (6, .int x6), (7, .int x7)] → va_P D vwCl (wX8 cA a_m m_s m_past m_pasts m_text m_typed m_faceOfSide m_firstSide m_faces m_before m_endA m_endB m_from m_queue m_ring m_ringSize m_ringNodes m_rings m_path m_pathSize m_old m_lastRing m_bestNodes m_bestInside m_bestFits m_far m_xs m_ys) H → va_D A (wX8 cA a_m m_s m_past m_pasts m_text m_typed m_faceOfSide m_firstSide m_faces m_before m_endA m_endB m_from m_queue m_ring m_ringSize m_ringNodes m_rings m_path m_pathSize m_old m_lastRing m_bestNodes m_bestInside m_bestFits m_far m_xs m_ys) → va_S A s.heap H locs → f_X8_canDraw_b93 N m_endA m_endB (f_X8_canDraw_b78 N m_endA m_endB n78) n93 x1 x4 x5 x6 x7 m_from m_queue m_ring m_ringSize m_ringNodes m_rings m_path m_pathSize m_old m_lastRing m_bestNodes m_bestInside m_bestFits = some ρ → W p l e ({ frames := 3, cells := 0, slots := 0, locals := 79 } : Room) s m ([.ref (a_m 0), .int p1] : List Value).toArray below meth c H locs 0 0 (MQ below (va_Qi (fun r (_ : Unit) => r = ρ.1) (fun _ t => va_P D vwCl (wX8 cA a_m m_s m_past m_pasts m_text m_typed m_faceOfSide m_firstSide m_faces m_before m_endA m_endB ρ.2.1 ρ.2.2.1 ρ.2.2.2.1 ρ.2.2.2.2.1 ρ.2.2.2.2.2.1 ρ.2.2.2.2.2.2.1 ρ.2.2.2.2.2.2.2.1 ρ.2.2.2.2.2.2.2.2.1 ρ.2.2.2.2.2.2.2.2.2.1 ρ.2.2.2.2.2.2.2.2.2.2.1 ρ.2.2.2.2.2.2.2.2.2.2.2.1 ρ.2.2.2.2.2.2.2.2.2.2.2.2.1 ρ.2.2.2.2.2.2.2.2.2.2.2.2.2 m_far m_xs m_ys) t.heap ∧ va_D A (wX8 cA a_m m_s m_past m_pasts m_text m_typed m_faceOfSide m_firstSide m_faces m_before m_endA m_endB ρ.2.1 ρ.2.2.1 ρ.2.2.2.1 ρ.2.2.2.2.1 ρ.2.2.2.2.2.1 ρ.2.2.2.2.2.2.1 ρ.2.2.2.2.2.2.2.1 ρ.2.2.2.2.2.2.2.2.1 ρ.2.2.2.2.2.2.2.2.2.1 ρ.2.2.2.2.2.2.2.2.2.2.1 ρ.2.2.2.2.2.2.2.2.2.2.2.1 ρ.2.2.2.2.2.2.2.2.2.2.2.2.1 ρ.2.2.2.2.2.2.2.2.2.2.2.2.2 m_far m_xs m_ys)) A) ([.ref (a_m 0), .int p1] : List Value).toArray s 0 0 A) (F0 m 93 ls []) := by
        intro n93
        induction n93 with
        | zero =>
          intro x1 x4 x5 x6 x7 m_from m_queue m_ring m_ringSize m_ringNodes m_rings m_path m_pathSize m_old m_lastRing m_bestNodes m_bestInside m_bestFits H locs ls hl hP hD hS hf
          cases (show (none : Option (Int32 × (Nat → Int32) × (Nat → Int32) × (Nat → Int32) × (Nat → Int32) × (Nat → Int32) × Int32 × (Nat → Int32) × Int32 × (Nat → Int32) × Int32 × Int32 × Int32 × Int32)) = some ρ from hf)
        | succ n93 ih93 =>
          intro x1 x4 x5 x6 x7 m_from m_queue m_ring m_ringSize m_ringNodes m_rings m_path m_pathSize m_old m_lastRing m_bestNodes m_bestInside m_bestFits H locs ls hl hP hD hS hf
          refine lv_iload hx hb dX8_canDraw_93 (lv_at hl 5 rfl) ?_
          refine lv_aload_n hx hb dX8_canDraw_95 rfl (lv_at hl 0 rfl) ?_
          refine va_get (D := D) (ci := 8) (C := RX8) (T := TX8) (N := 27) hx hb hT kwX8 hown hK.1 hP 0 rfl rfl 18 (by decide) (hT _ kf_X8_176) (fun _ h9 => h9) rfl dX8_canDraw_96 ?_
          refine lv_icmp_ge (tgt := 121) hx hb dX8_canDraw_99 (by decide) (fun c_14 => ?_) (fun c_14 => ?_)
          · have hf := ite_t c_14 hf
            exact B121 x1 x4 x5 x6 m_from m_queue m_ring m_ringSize m_ringNodes m_rings m_path m_pathSize m_old m_lastRing m_bestNodes m_bestInside m_bestFits _ _ _ (lv_sub hl [0, 1, 2, 3, 4] rfl) hP hD hS hf
          · have hf := ite_f c_14 hf
            refine lv_aload_n hx hb dX8_canDraw_102 rfl (lv_at hl 0 rfl) ?_
            refine lv_iload hx hb dX8_canDraw_103 (lv_at hl 4 rfl) ?_
            refine lv_aload_n hx hb dX8_canDraw_105 rfl (lv_at hl 0 rfl) ?_
            refine va_get (D := D) (ci := 8) (C := RX8) (T := TX8) (N := 27) hx hb hT kwX8 hown hK.1 hP 0 rfl rfl 17 (by decide) (hT _ kf_X8_50) (fun _ h9 => h9) rfl dX8_canDraw_106 ?_
            refine lv_iload hx hb dX8_canDraw_109 (lv_at hl 5 rfl) ?_
            obtain ⟨h_15, hf⟩ := chk_s hf
            refine va_iald hx hb hK.1 hP 14 0 rfl rfl (inb_in h_15) dX8_canDraw_111 ?_
            obtain ⟨r_16, hcr_16, hf⟩ := bd1_s hf
            refine backWv (w2 := (wX8 cA a_m m_s m_past m_pasts m_text m_typed m_faceOfSide m_firstSide m_faces m_before m_endA m_endB m_from m_queue r_16.1 r_16.2.1 r_16.2.2 m_rings m_path m_pathSize m_old m_lastRing m_bestNodes m_bestInside m_bestFits m_far m_xs m_ys)) (runVw C (c_X8_adds l D cA a_m m_s m_past m_pasts m_text m_typed m_faceOfSide m_firstSide m_faces m_before m_endA m_endB m_from m_queue m_ring m_ringSize m_ringNodes m_rings m_path m_pathSize m_old m_lastRing m_bestNodes m_bestInside m_bestFits m_far m_xs m_ys x6 (m_path x7.toNatClampNeg) _ N r_16 hcr_16) cf_X8_adds km_X8_185 ⟨rfl, rfl, by decide, by decide⟩ ⟨Nat.zero_le _, Nat.zero_le _⟩ (va_recv hK.1 hP (ci := 8) (q0 := 0) rfl rfl) (hP.sub [0, 1, 2, 3, 4, 5, 6, 7, 8, 9, 10, 11, 12, 13, 14, 15, 16, 17, 18] rfl) (hD.sub [0, 1, 2, 3, 4, 5, 6, 7, 8, 9, 10, 11, 12, 13, 14, 15, 16, 17, 18] rfl rfl) hK hl.1 rfl rfl (Nat.le_of_ble_eq_true rfl) dX8_canDraw_112) hP hD hS hA [0, 1, 2, 3, 4, 5, 6, 7, 8, 9, 10, 11, 12, 13, 14, 15, 16, 17, 18] rfl [] rfl rfl (by decide) [0, 1, 2, 3, 4, 5, 6, 7, 8, 9, 10, 11, 12, 13, 14, 15, 16, 17, 18] rfl rfl (fun H locs hP hD hS => ?_)
            refine lv_iinc (v := (x7 + 1)) (lv' := [(7, .int (x7 + 1)), (0, .ref (a_m 0)), (1, .int x1), (4, .int x4), (5, .int x5), (6, .int x6)]) hx hb dX8_canDraw_115 hl (k := 5) rfl rfl (by decide) rfl (fun ls hl => ?_)
            refine lv_goto (tgt := 93) hx hb dX8_canDraw_118 (by decide) ?_
            exact ih93 x1 x4 x5 x6 (x7 + 1) m_from m_queue r_16.1 r_16.2.1 r_16.2.2 m_rings m_path m_pathSize m_old m_lastRing m_bestNodes m_bestInside m_bestFits _ _ _ (lv_sub hl [1, 2, 3, 4, 5, 0] rfl) hP hD hS hf
      intro x1 x4 x5 x6 m_from m_queue m_ring m_ringSize m_ringNodes m_rings m_path m_pathSize m_old m_lastRing m_bestNodes m_bestInside m_bestFits H locs ls hl hP hD hS hf
      refine lv_iload hx hb dX8_canDraw_78 (lv_at hl 4 rfl) ?_
      refine lv_iconst (v := 2) hx hb dX8_canDraw_80 (by decide) ?_
      refine lv_icmp_ge (tgt := 127) hx hb dX8_canDraw_81 (by decide) (fun c_12 => ?_) (fun c_12 => ?_)
      · have hf := ite_t c_12 hf
        exact B127 N x1 x4 x5 m_from m_queue m_ring m_ringSize m_ringNodes m_rings m_path m_pathSize m_old m_lastRing m_bestNodes m_bestInside m_bestFits _ _ _ (lv_sub hl [0, 1, 2, 3] rfl) hP hD hS hf
      · have hf := ite_f c_12 hf
        refine lv_aload_n hx hb dX8_canDraw_84 rfl (lv_at hl 0 rfl) ?_
        refine lv_iload hx hb dX8_canDraw_85 (lv_at hl 4 rfl) ?_
        obtain ⟨r_13, hcr_13, hf⟩ := bd1_s hf
        refine backWv (w2 := (wX8 cA a_m m_s m_past m_pasts m_text m_typed m_faceOfSide m_firstSide m_faces m_before m_endA m_endB m_from m_queue m_ring r_13.1 r_13.2 m_rings m_path m_pathSize m_old m_lastRing m_bestNodes m_bestInside m_bestFits m_far m_xs m_ys)) (runVw C (c_X8_begins l D cA a_m m_s m_past m_pasts m_text m_typed m_faceOfSide m_firstSide m_faces m_before m_endA m_endB m_from m_queue m_ring m_ringSize m_ringNodes m_rings m_path m_pathSize m_old m_lastRing m_bestNodes m_bestInside m_bestFits m_far m_xs m_ys x6 _ N r_13 hcr_13) cf_X8_begins km_X8_179 ⟨rfl, rfl, by decide, by decide⟩ ⟨Nat.zero_le _, Nat.zero_le _⟩ (va_recv hK.1 hP (ci := 8) (q0 := 0) rfl rfl) (hP.sub [0, 1, 2, 3, 4, 5, 6, 7, 8, 9, 10, 11, 12, 13, 14, 15, 16, 17, 18] rfl) (hD.sub [0, 1, 2, 3, 4, 5, 6, 7, 8, 9, 10, 11, 12, 13, 14, 15, 16, 17, 18] rfl rfl) hK hl.1 rfl rfl (Nat.le_of_ble_eq_true rfl) dX8_canDraw_87) hP hD hS hA [0, 1, 2, 3, 4, 5, 6, 7, 8, 9, 10, 11, 12, 13, 14, 15, 16, 17, 18] rfl [] rfl rfl (by decide) [0, 1, 2, 3, 4, 5, 6, 7, 8, 9, 10, 11, 12, 13, 14, 15, 16, 17, 18] rfl rfl (fun H locs hP hD hS => ?_)
        refine lv_iconst (v := 0) hx hb dX8_canDraw_90 (by decide) ?_
        refine lv_istore (lv' := [(7, .int 0), (0, .ref (a_m 0)), (1, .int x1), (4, .int x4), (5, .int x5), (6, .int x6)]) hx hb dX8_canDraw_91 hl (by decide) rfl (fun ls hl => ?_)
        exact B93 N x1 x4 x5 x6 0 m_from m_queue m_ring r_13.1 r_13.2 m_rings m_path m_pathSize m_old m_lastRing m_bestNodes m_bestInside m_bestFits _ _ _ (lv_sub hl [1, 2, 3, 4, 5, 0] rfl) hP hD hS hf
  refine lv_iload_n hx hb dX8_canDraw_0 rfl (lv_at hl 1 rfl) ?_
  obtain ⟨r_1, hcr_1, hf⟩ := bd1_s hf
  refine backI (runS0 C (c_X8_lowest l D cA p1 N r_1 hcr_1) cf_X8_lowest km_X8_210 ⟨rfl, rfl, by decide, by decide⟩ ⟨Nat.zero_le _, Nat.zero_le _⟩ (hP.sub [] rfl) hK hl.1 rfl rfl (Nat.le_of_ble_eq_true rfl) dX8_canDraw_1) ?_
  refine lv_istore_n (lv' := [(2, .int r_1), (0, .ref (a_m 0)), (1, .int p1)]) hx hb dX8_canDraw_4 rfl hl (by decide) rfl (fun ls hl => ?_)
  refine lv_aload_n hx hb dX8_canDraw_5 rfl (lv_at hl 1 rfl) ?_
  refine lv_aload_n hx hb dX8_canDraw_6 rfl (lv_at hl 1 rfl) ?_
  refine va_get (D := D) (ci := 8) (C := RX8) (T := TX8) (N := 27) hx hb hT kwX8 hown hK.1 hP 0 rfl rfl 9 (by decide) (hT _ kf_X8_29) (fun _ h9 => h9) rfl dX8_canDraw_7 ?_
  refine lv_iload_n hx hb dX8_canDraw_10 rfl (lv_at hl 0 rfl) ?_
  obtain ⟨h_2, hf⟩ := chk_s hf
  refine va_iald hx hb hK.1 hP 7 0 rfl rfl (inb_in h_2) dX8_canDraw_11 ?_
  refine lv_iload_n hx hb dX8_canDraw_12 rfl (lv_at hl 2 rfl) ?_
  refine lv_iconst (v := 1) hx hb dX8_canDraw_13 (by decide) ?_
  refine lv_iload_n hx hb dX8_canDraw_14 rfl (lv_at hl 0 rfl) ?_
  refine lv_ishl hx hb dX8_canDraw_15 ?_
  refine lv_iconst (v := (-1)) hx hb dX8_canDraw_16 (by decide) ?_
  refine lv_ixor hx hb dX8_canDraw_17 ?_
  refine lv_iand hx hb dX8_canDraw_18 ?_
  refine lv_sipush (v := 511) hx hb dX8_canDraw_19 (by decide) ?_
  refine lv_iconst (v := 1) hx hb dX8_canDraw_22 (by decide) ?_
  refine lv_aload_n hx hb dX8_canDraw_23 rfl (lv_at hl 1 rfl) ?_
  refine va_get (D := D) (ci := 8) (C := RX8) (T := TX8) (N := 27) hx hb hT kwX8 hown hK.1 hP 0 rfl rfl 10 (by decide) (hT _ kf_X8_32) (fun _ h9 => h9) rfl dX8_canDraw_24 ?_
  refine lv_iload_n hx hb dX8_canDraw_27 rfl (lv_at hl 0 rfl) ?_
  obtain ⟨h_3, hf⟩ := chk_s hf
  refine va_iald hx hb hK.1 hP 8 0 rfl rfl (inb_in h_3) dX8_canDraw_28 ?_
  refine lv_ishl hx hb dX8_canDraw_29 ?_
  obtain ⟨r_4, hcr_4, hf⟩ := bd1_s hf
  refine backWi (w2 := (wX8 cA a_m m_s m_past m_pasts m_text m_typed m_faceOfSide m_firstSide m_faces m_before m_endA m_endB r_4.2.1 r_4.2.2 m_ring m_ringSize m_ringNodes m_rings m_path m_pathSize m_old m_lastRing m_bestNodes m_bestInside m_bestFits m_far m_xs m_ys)) (runVw C (c_X8_finds l D cA a_m m_s m_past m_pasts m_text m_typed m_faceOfSide m_firstSide m_faces m_before m_endA m_endB m_from m_queue m_ring m_ringSize m_ringNodes m_rings m_path m_pathSize m_old m_lastRing m_bestNodes m_bestInside m_bestFits m_far m_xs m_ys (m_endA r_1.toNatClampNeg) (p1 &&& (((1 : Int32) <<< (r_1 &&& 31)) ^^^ (-1))) 511 ((1 : Int32) <<< ((m_endB r_1.toNatClampNeg) &&& 31)) _ N r_4 hcr_4) cf_X8_finds km_X8_213 ⟨rfl, rfl, by decide, by decide⟩ ⟨Nat.zero_le _, Nat.zero_le _⟩ (va_recv hK.1 hP (ci := 8) (q0 := 0) rfl rfl) (hP.sub [0, 1, 2, 3, 4, 5, 6, 7, 8, 9, 10, 11, 12, 13, 14, 15, 16, 17, 18] rfl) (hD.sub [0, 1, 2, 3, 4, 5, 6, 7, 8, 9, 10, 11, 12, 13, 14, 15, 16, 17, 18] rfl rfl) hK hl.1 rfl rfl (Nat.le_of_ble_eq_true rfl) dX8_canDraw_30) hP hD hS hA [0, 1, 2, 3, 4, 5, 6, 7, 8, 9, 10, 11, 12, 13, 14, 15, 16, 17, 18] rfl [] rfl rfl (by decide) [0, 1, 2, 3, 4, 5, 6, 7, 8, 9, 10, 11, 12, 13, 14, 15, 16, 17, 18] rfl rfl (fun H locs hP hD hS => ?_)
  refine lv_topi (fun x3_5 ex3_5 => ?_)
  have hf := nm_t ex3_5 hf
  refine lv_istore_n (lv' := [(3, .int x3_5), (2, .int r_1), (0, .ref (a_m 0)), (1, .int p1)]) hx hb dX8_canDraw_33 rfl hl (by decide) rfl (fun ls hl => ?_)
  refine lv_iload_n hx hb dX8_canDraw_34 rfl (lv_at hl 0 rfl) ?_
  refine lv_bipush (v := (-9)) hx hb dX8_canDraw_35 (by decide) ?_
  refine lv_icmp_ne (tgt := 42) hx hb dX8_canDraw_37 (by decide) (fun c_6 => ?_) (fun c_6 => ?_)
  · have hf := ite_t c_6 hf
    refine lv_aload_n hx hb dX8_canDraw_42 rfl (lv_at hl 2 rfl) ?_
    refine lv_iload_n hx hb dX8_canDraw_43 rfl (lv_at hl 0 rfl) ?_
    refine lv_aload_n hx hb dX8_canDraw_44 rfl (lv_at hl 2 rfl) ?_
    refine va_get (D := D) (ci := 8) (C := RX8) (T := TX8) (N := 27) hx hb hT kwX8 hown hK.1 hP 0 rfl rfl 9 (by decide) (hT _ kf_X8_29) (fun _ h9 => h9) rfl dX8_canDraw_45 ?_
    refine lv_iload_n hx hb dX8_canDraw_48 rfl (lv_at hl 1 rfl) ?_
    obtain ⟨h_7, hf⟩ := chk_s hf
    refine va_iald hx hb hK.1 hP 7 0 rfl rfl (inb_in h_7) dX8_canDraw_49 ?_
    obtain ⟨r_8, hcr_8, hf⟩ := bd1_s hf
    refine backWv (w2 := (wX8 cA a_m m_s m_past m_pasts m_text m_typed m_faceOfSide m_firstSide m_faces m_before m_endA m_endB r_4.2.1 r_4.2.2 m_ring m_ringSize m_ringNodes m_rings r_8.1 r_8.2 m_old m_lastRing m_bestNodes m_bestInside m_bestFits m_far m_xs m_ys)) (runVw C (c_X8_takesPath l D cA a_m m_s m_past m_pasts m_text m_typed m_faceOfSide m_firstSide m_faces m_before m_endA m_endB r_4.2.1 r_4.2.2 m_ring m_ringSize m_ringNodes m_rings m_path m_pathSize m_old m_lastRing m_bestNodes m_bestInside m_bestFits m_far m_xs m_ys x3_5 (m_endA r_1.toNatClampNeg) _ N r_8 hcr_8) cf_X8_takesPath km_X8_216 ⟨rfl, rfl, by decide, by decide⟩ ⟨Nat.zero_le _, Nat.zero_le _⟩ (va_recv hK.1 hP (ci := 8) (q0 := 0) rfl rfl) (hP.sub [0, 1, 2, 3, 4, 5, 6, 7, 8, 9, 10, 11, 12, 13, 14, 15, 16, 17, 18] rfl) (hD.sub [0, 1, 2, 3, 4, 5, 6, 7, 8, 9, 10, 11, 12, 13, 14, 15, 16, 17, 18] rfl rfl) hK hl.1 rfl rfl (Nat.le_of_ble_eq_true rfl) dX8_canDraw_50) hP hD hS hA [0, 1, 2, 3, 4, 5, 6, 7, 8, 9, 10, 11, 12, 13, 14, 15, 16, 17, 18] rfl [] rfl rfl (by decide) [0, 1, 2, 3, 4, 5, 6, 7, 8, 9, 10, 11, 12, 13, 14, 15, 16, 17, 18] rfl rfl (fun H locs hP hD hS => ?_)
    refine lv_aload_n hx hb dX8_canDraw_53 rfl (lv_at hl 2 rfl) ?_
    refine lv_iload_n hx hb dX8_canDraw_54 rfl (lv_at hl 3 rfl) ?_
    obtain ⟨r_9, hcr_9, hf⟩ := bd1_s hf
    refine backI (runV0 C (c_X8_edgesOfPath l D cA a_m m_s m_past m_pasts m_text m_typed m_faceOfSide m_firstSide m_faces m_before m_endA m_endB r_4.2.1 r_4.2.2 m_ring m_ringSize m_ringNodes m_rings r_8.1 r_8.2 m_old m_lastRing m_bestNodes m_bestInside m_bestFits m_far m_xs m_ys p1 N r_9 hcr_9) cf_X8_edgesOfPath km_X8_219 ⟨rfl, rfl, by decide, by decide⟩ ⟨Nat.zero_le _, Nat.zero_le _⟩ (va_recv hK.1 hP (ci := 8) (q0 := 0) rfl rfl) (hP.sub [0, 1, 2, 3, 4, 5, 6, 7, 8, 9, 10, 11, 12, 13, 14, 15, 16, 17, 18] rfl) hK hl.1 rfl rfl (Nat.le_of_ble_eq_true rfl) dX8_canDraw_55) ?_
    refine lv_iconst (v := 1) hx hb dX8_canDraw_58 (by decide) ?_
    refine lv_iload_n hx hb dX8_canDraw_59 rfl (lv_at hl 1 rfl) ?_
    refine lv_ishl hx hb dX8_canDraw_60 ?_
    refine lv_ior hx hb dX8_canDraw_61 ?_
    refine lv_topi (fun x4_10 ex4_10 => ?_)
    have hf := nm_t ex4_10 hf
    refine lv_istore (lv' := [(4, .int x4_10), (3, .int x3_5), (2, .int r_1), (0, .ref (a_m 0)), (1, .int p1)]) hx hb dX8_canDraw_62 hl (by decide) rfl (fun ls hl => ?_)
    refine lv_aload_n hx hb dX8_canDraw_64 rfl (lv_at hl 3 rfl) ?_
    obtain ⟨r_11, hcr_11, hf⟩ := bd1_s hf
    refine backI (runV0 C (c_X8_nodesOfPath l D cA a_m m_s m_past m_pasts m_text m_typed m_faceOfSide m_firstSide m_faces m_before m_endA m_endB r_4.2.1 r_4.2.2 m_ring m_ringSize m_ringNodes m_rings r_8.1 r_8.2 m_old m_lastRing m_bestNodes m_bestInside m_bestFits m_far m_xs m_ys N r_11 hcr_11) cf_X8_nodesOfPath km_X8_222 ⟨rfl, rfl, by decide, by decide⟩ ⟨Nat.zero_le _, Nat.zero_le _⟩ (va_recv hK.1 hP (ci := 8) (q0 := 0) rfl rfl) (hP.sub [0, 1, 2, 3, 4, 5, 6, 7, 8, 9, 10, 11, 12, 13, 14, 15, 16, 17, 18] rfl) hK hl.1 rfl rfl (Nat.le_of_ble_eq_true rfl) dX8_canDraw_65) ?_
    refine lv_istore (lv' := [(5, .int r_11), (4, .int x4_10), (3, .int x3_5), (2, .int r_1), (0, .ref (a_m 0)), (1, .int p1)]) hx hb dX8_canDraw_68 hl (by decide) rfl (fun ls hl => ?_)
    refine lv_aload_n hx hb dX8_canDraw_70 rfl (lv_at hl 4 rfl) ?_
    refine lv_iconst (v := 2) hx hb dX8_canDraw_71 (by decide) ?_
    refine va_put (D := D) (ci := 8) (v := .int 2) (ty := .int) (C := RX8) (T := TX8) (N := 27) hx hb hT kwX8 tyX8 tyX8_ok nmX8 hown hK.1 hP hD hS 0 rfl rfl 16 (by decide) (hT _ kf_X8_182) (fun _ h9 => h9) rfl (by decide +kernel) rfl rfl (Nat.le_of_ble_eq_true rfl) dX8_canDraw_72 (fun H locs hP hD hS => ?_)
    have hP : va_P D vwCl (wX8 cA a_m m_s m_past m_pasts m_text m_typed m_faceOfSide m_firstSide m_faces m_before m_endA m_endB r_4.2.1 r_4.2.2 m_ring m_ringSize m_ringNodes 2 r_8.1 r_8.2 m_old m_lastRing m_bestNodes m_bestInside m_bestFits m_far m_xs m_ys) H := hP
    have hD : va_D A (wX8 cA a_m m_s m_past m_pasts m_text m_typed m_faceOfSide m_firstSide m_faces m_before m_endA m_endB r_4.2.1 r_4.2.2 m_ring m_ringSize m_ringNodes 2 r_8.1 r_8.2 m_old m_lastRing m_bestNodes m_bestInside m_bestFits m_far m_xs m_ys) := hD
    refine lv_iconst (v := 0) hx hb dX8_canDraw_75 (by decide) ?_
    refine lv_istore (lv' := [(6, .int 0), (5, .int r_11), (4, .int x4_10), (3, .int x3_5), (2, .int r_1), (0, .ref (a_m 0)), (1, .int p1)]) hx hb dX8_canDraw_76 hl (by decide) rfl (fun ls hl => ?_)
    exact B78 N p1 x4_10 r_11 0 r_4.2.1 r_4.2.2 m_ring m_ringSize m_ringNodes 2 r_8.1 r_8.2 m_old m_lastRing m_bestNodes m_bestInside m_bestFits _ _ _ (lv_sub hl [5, 6, 2, 1, 0] rfl) hP hD hS hf
  · have hf := ite_fn c_6 hf
    refine lv_iconst (v := 1) hx hb dX8_canDraw_40 (by decide) ?_
    have eR := some_i hf
    exact W.zret hx hb hr (by decide) (fun t ht hW => ⟨⟨1, (), rfl, fst_e eR, by rw [← eR, ht]; exact hP, by rw [← eR]; exact hD⟩, hS.F ht⟩) hS.2.2 dX8_canDraw_41 (hlocks := hlk)
