set_option maxRecDepth 100000 in
set_option maxHeartbeats 4000000 in
theorem c_X8_planar (l : Launch) (D : va_G) (cA : Nat → ClassId) (a_m : Nat → Nat) (m_s : Nat → Int32) (m_past : Nat → Int32) (m_pasts : Int32) (m_text : Nat → Int32) (m_typed : Int32) (m_faceOfSide : Nat → Int32) (m_firstSide : Nat → Int32) (m_faces : Int32) (m_before : Nat → Int32) (m_endA : Nat → Int32) (m_endB : Nat → Int32) (m_from : Nat → Int32) (m_queue : Nat → Int32) (m_ring : Nat → Int32) (m_ringSize : Nat → Int32) (m_ringNodes : Nat → Int32) (m_rings : Int32) (m_path : Nat → Int32) (m_pathSize : Int32) (m_old : Nat → Int32) (m_lastRing : Int32) (m_bestNodes : Int32) (m_bestInside : Int32) (m_bestFits : Int32) (m_far : Nat → Int32) (m_xs : Nat → UInt32) (m_ys : Nat → UInt32) (p1 : Int32) (sz N : Nat) (ρ : Int32 × (Nat → Int32) × (Nat → Int32) × (Nat → Int32) × (Nat → Int32) × (Nat → Int32) × Int32 × (Nat → Int32) × Int32 × (Nat → Int32) × Int32 × Int32 × Int32 × Int32) (hf : f_X8_planar N m_endA m_endB m_from m_queue m_ring m_ringSize m_ringNodes m_rings m_path m_pathSize m_old m_lastRing m_bestNodes m_bestInside m_bestFits p1 = some ρ) : Met l yX8_planar (Cond.code yX8_planar cX8_planar 5 (Option.some Jvm.ClassFile.FieldType.boolean) :: lw_g) ({ frames := 4, cells := 0, slots := 0, locals := 108 } : Room) (PcW D (tyA cA) (wX8 cA a_m m_s m_past m_pasts m_text m_typed m_faceOfSide m_firstSide m_faces m_before m_endA m_endB m_from m_queue m_ring m_ringSize m_ringNodes m_rings m_path m_pathSize m_old m_lastRing m_bestNodes m_bestInside m_bestFits m_far m_xs m_ys) sz [.ref (a_m 0), .int p1]) (va_Qi (fun r (_ : Unit) => r = ρ.1) (fun _ t => va_P D vwCl (wX8 cA a_m m_s m_past m_pasts m_text m_typed m_faceOfSide m_firstSide m_faces m_before m_endA m_endB ρ.2.1 ρ.2.2.1 ρ.2.2.2.1 ρ.2.2.2.2.1 ρ.2.2.2.2.2.1 ρ.2.2.2.2.2.2.1 ρ.2.2.2.2.2.2.2.1 ρ.2.2.2.2.2.2.2.2.1 ρ.2.2.2.2.2.2.2.2.2.1 ρ.2.2.2.2.2.2.2.2.2.2.1 ρ.2.2.2.2.2.2.2.2.2.2.2.1 ρ.2.2.2.2.2.2.2.2.2.2.2.2.1 ρ.2.2.2.2.2.2.2.2.2.2.2.2.2 m_far m_xs m_ys) t.heap ∧ va_D (va_A (wX8 cA a_m m_s m_past m_pasts m_text m_typed m_faceOfSide m_firstSide m_faces m_before m_endA m_endB m_from m_queue m_ring m_ringSize m_ringNodes m_rings m_path m_pathSize m_old m_lastRing m_bestNodes m_bestInside m_bestFits m_far m_xs m_ys) sz) (wX8 cA a_m m_s m_past m_pasts m_text m_typed m_faceOfSide m_firstSide m_faces m_before m_endA m_endB ρ.2.1 ρ.2.2.1 ρ.2.2.2.1 ρ.2.2.2.2.1 ρ.2.2.2.2.2.1 ρ.2.2.2.2.2.2.1 ρ.2.2.2.2.2.2.2.1 ρ.2.2.2.2.2.2.2.2.1 ρ.2.2.2.2.2.2.2.2.2.1 ρ.2.2.2.2.2.2.2.2.2.2.1 ρ.2.2.2.2.2.2.2.2.2.2.2.1 ρ.2.2.2.2.2.2.2.2.2.2.2.2.1 ρ.2.2.2.2.2.2.2.2.2.2.2.2.2 m_far m_xs m_ys)) (va_A (wX8 cA a_m m_s m_past m_pasts m_text m_typed m_faceOfSide m_firstSide m_faces m_before m_endA m_endB m_from m_queue m_ring m_ringSize m_ringNodes m_rings m_path m_pathSize m_old m_lastRing m_bestNodes m_bestInside m_bestFits m_far m_xs m_ys) sz)) 0 0 (va_A (wX8 cA a_m m_s m_past m_pasts m_text m_typed m_faceOfSide m_firstSide m_faces m_before m_endA m_endB m_from m_queue m_ring m_ringSize m_ringNodes m_rings m_path m_pathSize m_old m_lastRing m_bestNodes m_bestInside m_bestFits m_far m_xs m_ys) sz) := by
  refine mkW (QQ := fun A => va_Qi (fun r (_ : Unit) => r = ρ.1) (fun _ t => va_P D vwCl (wX8 cA a_m m_s m_past m_pasts m_text m_typed m_faceOfSide m_firstSide m_faces m_before m_endA m_endB ρ.2.1 ρ.2.2.1 ρ.2.2.2.1 ρ.2.2.2.2.1 ρ.2.2.2.2.2.1 ρ.2.2.2.2.2.2.1 ρ.2.2.2.2.2.2.2.1 ρ.2.2.2.2.2.2.2.2.1 ρ.2.2.2.2.2.2.2.2.2.1 ρ.2.2.2.2.2.2.2.2.2.2.1 ρ.2.2.2.2.2.2.2.2.2.2.2.1 ρ.2.2.2.2.2.2.2.2.2.2.2.2.1 ρ.2.2.2.2.2.2.2.2.2.2.2.2.2 m_far m_xs m_ys) t.heap ∧ va_D A (wX8 cA a_m m_s m_past m_pasts m_text m_typed m_faceOfSide m_firstSide m_faces m_before m_endA m_endB ρ.2.1 ρ.2.2.1 ρ.2.2.2.1 ρ.2.2.2.2.1 ρ.2.2.2.2.2.1 ρ.2.2.2.2.2.2.1 ρ.2.2.2.2.2.2.2.1 ρ.2.2.2.2.2.2.2.2.1 ρ.2.2.2.2.2.2.2.2.2.1 ρ.2.2.2.2.2.2.2.2.2.2.1 ρ.2.2.2.2.2.2.2.2.2.2.2.1 ρ.2.2.2.2.2.2.2.2.2.2.2.2.1 ρ.2.2.2.2.2.2.2.2.2.2.2.2.2 m_far m_xs m_ys)) A) (by decide) (Nat.le_of_ble_eq_true rfl) fun p e s m below meth c ls A C hl hP hK hD hA hS => ?_
  obtain ⟨hx, hb, hml, hown, hT, hr, hlk⟩ := id C
  have hl : lv_has ls 5 [(0, .ref (a_m 0)), (1, .int p1)] := hl
  have B4 : ∀ (n4 : Nat), ∀ (x1 : Int32) (x2 : Int32) (x3 : Int32) (m_from : Nat → Int32) (m_queue : Nat → Int32) (m_ring : Nat → Int32) (m_ringSize : Nat → Int32) (m_ringNodes : Nat → Int32) (m_rings : Int32) (m_path : Nat → Int32) (m_pathSize : Int32) (m_old : Nat → Int32) (m_lastRing : Int32) (m_bestNodes : Int32) (m_bestInside : Int32) (m_bestFits : Int32) (H : Heap) (locs : List Loc) (ls : Array Slot), lv_has ls 5 [(0, .ref (a_m 0)), (1, .int x1), (2, .int x2), (3, .int x3)] → va_P D vwCl (wX8 cA a_m m_s m_past m_pasts m_text m_typed m_faceOfSide m_firstSide m_faces m_before m_endA m_endB m_from m_queue m_ring m_ringSize m_ringNodes m_rings m_path m_pathSize m_old m_lastRing m_bestNodes m_bestInside m_bestFits m_far m_xs m_ys) H → va_D A (wX8 cA a_m m_s m_past m_pasts m_text m_typed m_faceOfSide m_firstSide m_faces m_before m_endA m_endB m_from m_queue m_ring m_ringSize m_ringNodes m_rings m_path m_pathSize m_old m_lastRing m_bestNodes m_bestInside m_bestFits m_far m_xs m_ys) → va_S A s.heap H locs → f_X8_planar_b4 N m_endA m_endB n4 x1 x2 x3 m_from m_queue m_ring m_ringSize m_ringNodes m_rings m_path m_pathSize m_old m_lastRing m_bestNodes m_bestInside m_bestFits = some ρ → W p l e ({ frames := 4, cells := 0, slots := 0, locals := 108 } : Room) s m ([.ref (a_m 0), .int p1] : List Value).toArray below meth c H locs 0 0 (MQ below (va_Qi (fun r (_ : Unit) => r = ρ.1) (fun _ t => va_P D vwCl (wX8 cA a_m m_s m_past m_pasts m_text m_typed m_faceOfSide m_firstSide m_faces m_before m_endA m_endB ρ.2.1 ρ.2.2.1 ρ.2.2.2.1 ρ.2.2.2.2.1 ρ.2.2.2.2.2.1 ρ.2.2.2.2.2.2.1 ρ.2.2.2.2.2.2.2.1 ρ.2.2.2.2.2.2.2.2.1 ρ.2.2.2.2.2.2.2.2.2.1 ρ.2.2.2.2.2.2.2.2.2.2.1 ρ.2.2.2.2.2.2.2.2.2.2.2.1 ρ.2.2.2.2.2.2.2.2.2.2.2.2.1 ρ.2.2.2.2.2.2.2.2.2.2.2.2.2 m_far m_xs m_ys) t.heap ∧ va_D A (wX8 cA a_m m_s m_past m_pasts m_text m_typed m_faceOfSide m_firstSide m_faces m_before m_endA m_endB ρ.2.1 ρ.2.2.1 ρ.2.2.2.1 ρ.2.2.2.2.1 ρ.2.2.2.2.2.1 ρ.2.2.2.2.2.2.1 ρ.2.2.2.2.2.2.2.1 ρ.2.2.2.2.2.2.2.2.1 ρ.2.2.2.2.2.2.2.2.2.1 ρ.2.2.2.2.2.2.2.2.2.2.1 ρ.2.2.2.2.2.2.2.2.2.2.2.1 ρ.2.2.2.2.2.2.2.2.2.2.2.2.1 ρ.2.2.2.2.2.2.2.2.2.2.2.2.2 m_far m_xs m_ys)) A) ([.ref (a_m 0), .int p1] : List Value).toArray s 0 0 A) (F0 m 4 ls []) := by
    intro n4
    induction n4 with
    | zero =>
      intro x1 x2 x3 m_from m_queue m_ring m_ringSize m_ringNodes m_rings m_path m_pathSize m_old m_lastRing m_bestNodes m_bestInside m_bestFits H locs ls hl hP hD hS hf
      cases (show (none : Option (Int32 × (Nat → Int32) × (Nat → Int32) × (Nat → Int32) × (Nat → Int32) × (Nat → Int32) × Int32 × (Nat → Int32) × Int32 × (Nat → Int32) × Int32 × Int32 × Int32 × Int32)) = some ρ from hf)
    | succ n4 ih4 =>
      intro x1 x2 x3 m_from m_queue m_ring m_ringSize m_ringNodes m_rings m_path m_pathSize m_old m_lastRing m_bestNodes m_bestInside m_bestFits H locs ls hl hP hD hS hf
      refine lv_iload_n hx hb dX8_planar_4 rfl (lv_at hl 2 rfl) ?_
      refine lv_if_eq (tgt := 40) hx hb dX8_planar_5 (by decide) (fun c_1 => ?_) (fun c_1 => ?_)
      · have hf := ite_t c_1 hf
        refine lv_iload_n hx hb dX8_planar_40 rfl (lv_at hl 3 rfl) ?_
        obtain ⟨h_2, hf⟩ := chk_s hf
        have eR := some_i hf
        exact W.zret hx hb hr (isB_n h_2) (fun t ht hW => ⟨⟨x3, (), rfl, fst_e eR, by rw [← eR, ht]; exact hP, by rw [← eR]; exact hD⟩, hS.F ht⟩) hS.2.2 dX8_planar_41 (hlocks := hlk)
      · have hf := ite_f c_1 hf
        refine lv_iload_n hx hb dX8_planar_8 rfl (lv_at hl 3 rfl) ?_
        refine lv_if_eq (tgt := 40) hx hb dX8_planar_9 (by decide) (fun c_3 => ?_) (fun c_3 => ?_)
        · have hf := ite_t c_3 hf
          refine lv_iload_n hx hb dX8_planar_40 rfl (lv_at hl 3 rfl) ?_
          obtain ⟨h_4, hf⟩ := chk_s hf
          have eR := some_i hf
          exact W.zret hx hb hr (isB_n h_4) (fun t ht hW => ⟨⟨x3, (), rfl, fst_e eR, by rw [← eR, ht]; exact hP, by rw [← eR]; exact hD⟩, hS.F ht⟩) hS.2.2 dX8_planar_41 (hlocks := hlk)
        · have hf := ite_f c_3 hf
          refine lv_aload_n hx hb dX8_planar_12 rfl (lv_at hl 0 rfl) ?_
          refine lv_iload_n hx hb dX8_planar_13 rfl (lv_at hl 1 rfl) ?_
          refine lv_iload_n hx hb dX8_planar_14 rfl (lv_at hl 2 rfl) ?_
          obtain ⟨r_5, hcr_5, hf⟩ := bd1_s hf
          refine backI (runS0 C (c_X8_lowest l D cA x2 N r_5 hcr_5) cf_X8_lowest km_X8_210 ⟨rfl, rfl, by decide, by decide⟩ ⟨Nat.zero_le _, Nat.zero_le _⟩ (hP.sub [] rfl) hK hl.1 rfl rfl (Nat.le_of_ble_eq_true rfl) dX8_planar_15) ?_
          obtain ⟨r_6, hcr_6, hf⟩ := bd1_s hf
          refine backI (runV0 C (c_X8_block l D cA a_m m_s m_past m_pasts m_text m_typed m_faceOfSide m_firstSide m_faces m_before m_endA m_endB m_from m_queue m_ring m_ringSize m_ringNodes m_rings m_path m_pathSize m_old m_lastRing m_bestNodes m_bestInside m_bestFits m_far m_xs m_ys x1 r_5 N r_6 hcr_6) cf_X8_block km_X8_234 ⟨rfl, rfl, by decide, by decide⟩ ⟨Nat.zero_le _, Nat.zero_le _⟩ (va_recv hK.1 hP (ci := 8) (q0 := 0) rfl rfl) (hP.sub [0, 1, 2, 3, 4, 5, 6, 7, 8, 9, 10, 11, 12, 13, 14, 15, 16, 17, 18] rfl) hK hl.1 rfl rfl (Nat.le_of_ble_eq_true rfl) dX8_planar_18) ?_
          refine lv_istore (lv' := [(4, .int r_6), (0, .ref (a_m 0)), (1, .int x1), (2, .int x2), (3, .int x3)]) hx hb dX8_planar_21 hl (by decide) rfl (fun ls hl => ?_)
          refine lv_aload_n hx hb dX8_planar_23 rfl (lv_at hl 1 rfl) ?_
          refine lv_iload hx hb dX8_planar_24 (lv_at hl 0 rfl) ?_
          obtain ⟨r_7, hcr_7, hf⟩ := bd1_s hf
          refine backWi (w2 := (wX8 cA a_m m_s m_past m_pasts m_text m_typed m_faceOfSide m_firstSide m_faces m_before m_endA m_endB r_7.2.1 r_7.2.2.1 r_7.2.2.2.1 r_7.2.2.2.2.1 r_7.2.2.2.2.2.1 r_7.2.2.2.2.2.2.1 r_7.2.2.2.2.2.2.2.1 r_7.2.2.2.2.2.2.2.2.1 r_7.2.2.2.2.2.2.2.2.2.1 r_7.2.2.2.2.2.2.2.2.2.2.1 r_7.2.2.2.2.2.2.2.2.2.2.2.1 r_7.2.2.2.2.2.2.2.2.2.2.2.2.1 r_7.2.2.2.2.2.2.2.2.2.2.2.2.2 m_far m_xs m_ys)) (runVw C (c_X8_canDraw l D cA a_m m_s m_past m_pasts m_text m_typed m_faceOfSide m_firstSide m_faces m_before m_endA m_endB m_from m_queue m_ring m_ringSize m_ringNodes m_rings m_path m_pathSize m_old m_lastRing m_bestNodes m_bestInside m_bestFits m_far m_xs m_ys r_6 _ N r_7 hcr_7) cf_X8_canDraw km_X8_237 ⟨rfl, rfl, by decide, by decide⟩ ⟨Nat.zero_le _, Nat.zero_le _⟩ (va_recv hK.1 hP (ci := 8) (q0 := 0) rfl rfl) (hP.sub [0, 1, 2, 3, 4, 5, 6, 7, 8, 9, 10, 11, 12, 13, 14, 15, 16, 17, 18] rfl) (hD.sub [0, 1, 2, 3, 4, 5, 6, 7, 8, 9, 10, 11, 12, 13, 14, 15, 16, 17, 18] rfl rfl) hK hl.1 rfl rfl (Nat.le_of_ble_eq_true rfl) dX8_planar_26) hP hD hS hA [0, 1, 2, 3, 4, 5, 6, 7, 8, 9, 10, 11, 12, 13, 14, 15, 16, 17, 18] rfl [] rfl rfl (by decide) [0, 1, 2, 3, 4, 5, 6, 7, 8, 9, 10, 11, 12, 13, 14, 15, 16, 17, 18] rfl rfl (fun H locs hP hD hS => ?_)
          refine lv_topi (fun x3_8 ex3_8 => ?_)
          have hf := nm_t ex3_8 hf
          refine lv_istore_n (lv' := [(3, .int x3_8), (4, .int r_6), (0, .ref (a_m 0)), (1, .int x1), (2, .int x2)]) hx hb dX8_planar_29 rfl hl (by decide) rfl (fun ls hl => ?_)
          refine lv_iload_n hx hb dX8_planar_30 rfl (lv_at hl 4 rfl) ?_
          refine lv_iload hx hb dX8_planar_31 (lv_at hl 1 rfl) ?_
          refine lv_iconst (v := (-1)) hx hb dX8_planar_33 (by decide) ?_
          refine lv_ixor hx hb dX8_planar_34 ?_
          refine lv_iand hx hb dX8_planar_35 ?_
          refine lv_topi (fun x2_9 ex2_9 => ?_)
          have hf := nm_t ex2_9 hf
          refine lv_istore_n (lv' := [(2, .int x2_9), (3, .int x3_8), (4, .int r_6), (0, .ref (a_m 0)), (1, .int x1)]) hx hb dX8_planar_36 rfl hl (by decide) rfl (fun ls hl => ?_)
          refine lv_goto (tgt := 4) hx hb dX8_planar_37 (by decide) ?_
          exact ih4 x1 x2_9 x3_8 r_7.2.1 r_7.2.2.1 r_7.2.2.2.1 r_7.2.2.2.2.1 r_7.2.2.2.2.2.1 r_7.2.2.2.2.2.2.1 r_7.2.2.2.2.2.2.2.1 r_7.2.2.2.2.2.2.2.2.1 r_7.2.2.2.2.2.2.2.2.2.1 r_7.2.2.2.2.2.2.2.2.2.2.1 r_7.2.2.2.2.2.2.2.2.2.2.2.1 r_7.2.2.2.2.2.2.2.2.2.2.2.2.1 r_7.2.2.2.2.2.2.2.2.2.2.2.2.2 _ _ _ (lv_sub hl [3, 4, 0, 1] rfl) hP hD hS hf
  refine lv_iload_n hx hb dX8_planar_0 rfl (lv_at hl 1 rfl) ?_
  refine lv_istore_n (lv' := [(2, .int p1), (0, .ref (a_m 0)), (1, .int p1)]) hx hb dX8_planar_1 rfl hl (by decide) rfl (fun ls hl => ?_)
  refine lv_iconst (v := 1) hx hb dX8_planar_2 (by decide) ?_
  refine lv_istore_n (lv' := [(3, .int 1), (2, .int p1), (0, .ref (a_m 0)), (1, .int p1)]) hx hb dX8_planar_3 rfl hl (by decide) rfl (fun ls hl => ?_)
  exact B4 N p1 p1 1 m_from m_queue m_ring m_ringSize m_ringNodes m_rings m_path m_pathSize m_old m_lastRing m_bestNodes m_bestInside m_bestFits _ _ _ (lv_sub hl [2, 3, 1, 0] rfl) hP hD hS hf
set_option maxRecDepth 100000 in
set_option maxHeartbeats 4000000 in
theorem c_X8_obstructed (l : Launch) (D : va_G) (cA : Nat → ClassId) (a_m : Nat → Nat) (m_s : Nat → Int32) (m_past : Nat → Int32) (m_pasts : Int32) (m_text : Nat → Int32) (m_typed : Int32) (m_faceOfSide : Nat → Int32) (m_firstSide : Nat → Int32) (m_faces : Int32) (m_before : Nat → Int32) (m_endA : Nat → Int32) (m_endB : Nat → Int32) (m_from : Nat → Int32) (m_queue : Nat → Int32) (m_ring : Nat → Int32) (m_ringSize : Nat → Int32) (m_ringNodes : Nat → Int32) (m_rings : Int32) (m_path : Nat → Int32) (m_pathSize : Int32) (m_old : Nat → Int32) (m_lastRing : Int32) (m_bestNodes : Int32) (m_bestInside : Int32) (m_bestFits : Int32) (m_far : Nat → Int32) (m_xs : Nat → UInt32) (m_ys : Nat → UInt32) (sz N : Nat) (ρ : Int32 × (Nat → Int32) × (Nat → Int32) × (Nat → Int32) × (Nat → Int32) × (Nat → Int32) × (Nat → Int32) × (Nat → Int32) × Int32 × (Nat → Int32) × Int32 × (Nat → Int32) × Int32 × Int32 × Int32 × Int32) (hf : f_X8_obstructed N m_s m_endA m_endB m_from m_queue m_ring m_ringSize m_ringNodes m_rings m_path m_pathSize m_old m_lastRing m_bestNodes m_bestInside m_bestFits = some ρ) : Met l yX8_obstructed (Cond.code yX8_obstructed cX8_obstructed 3 (Option.some Jvm.ClassFile.FieldType.int) :: lw_g) ({ frames := 5, cells := 0, slots := 0, locals := 132 } : Room) (PcW D (tyA cA) (wX8 cA a_m m_s m_past m_pasts m_text m_typed m_faceOfSide m_firstSide m_faces m_before m_endA m_endB m_from m_queue m_ring m_ringSize m_ringNodes m_rings m_path m_pathSize m_old m_lastRing m_bestNodes m_bestInside m_bestFits m_far m_xs m_ys) sz [.ref (a_m 0)]) (va_Qi (fun r (_ : Unit) => r = ρ.1) (fun _ t => va_P D vwCl (wX8 cA a_m m_s m_past m_pasts m_text m_typed m_faceOfSide m_firstSide m_faces m_before ρ.2.1 ρ.2.2.1 ρ.2.2.2.1 ρ.2.2.2.2.1 ρ.2.2.2.2.2.1 ρ.2.2.2.2.2.2.1 ρ.2.2.2.2.2.2.2.1 ρ.2.2.2.2.2.2.2.2.1 ρ.2.2.2.2.2.2.2.2.2.1 ρ.2.2.2.2.2.2.2.2.2.2.1 ρ.2.2.2.2.2.2.2.2.2.2.2.1 ρ.2.2.2.2.2.2.2.2.2.2.2.2.1 ρ.2.2.2.2.2.2.2.2.2.2.2.2.2.1 ρ.2.2.2.2.2.2.2.2.2.2.2.2.2.2.1 ρ.2.2.2.2.2.2.2.2.2.2.2.2.2.2.2 m_far m_xs m_ys) t.heap ∧ va_D (va_A (wX8 cA a_m m_s m_past m_pasts m_text m_typed m_faceOfSide m_firstSide m_faces m_before m_endA m_endB m_from m_queue m_ring m_ringSize m_ringNodes m_rings m_path m_pathSize m_old m_lastRing m_bestNodes m_bestInside m_bestFits m_far m_xs m_ys) sz) (wX8 cA a_m m_s m_past m_pasts m_text m_typed m_faceOfSide m_firstSide m_faces m_before ρ.2.1 ρ.2.2.1 ρ.2.2.2.1 ρ.2.2.2.2.1 ρ.2.2.2.2.2.1 ρ.2.2.2.2.2.2.1 ρ.2.2.2.2.2.2.2.1 ρ.2.2.2.2.2.2.2.2.1 ρ.2.2.2.2.2.2.2.2.2.1 ρ.2.2.2.2.2.2.2.2.2.2.1 ρ.2.2.2.2.2.2.2.2.2.2.2.1 ρ.2.2.2.2.2.2.2.2.2.2.2.2.1 ρ.2.2.2.2.2.2.2.2.2.2.2.2.2.1 ρ.2.2.2.2.2.2.2.2.2.2.2.2.2.2.1 ρ.2.2.2.2.2.2.2.2.2.2.2.2.2.2.2 m_far m_xs m_ys)) (va_A (wX8 cA a_m m_s m_past m_pasts m_text m_typed m_faceOfSide m_firstSide m_faces m_before m_endA m_endB m_from m_queue m_ring m_ringSize m_ringNodes m_rings m_path m_pathSize m_old m_lastRing m_bestNodes m_bestInside m_bestFits m_far m_xs m_ys) sz)) 0 0 (va_A (wX8 cA a_m m_s m_past m_pasts m_text m_typed m_faceOfSide m_firstSide m_faces m_before m_endA m_endB m_from m_queue m_ring m_ringSize m_ringNodes m_rings m_path m_pathSize m_old m_lastRing m_bestNodes m_bestInside m_bestFits m_far m_xs m_ys) sz) := by
  refine mkW (QQ := fun A => va_Qi (fun r (_ : Unit) => r = ρ.1) (fun _ t => va_P D vwCl (wX8 cA a_m m_s m_past m_pasts m_text m_typed m_faceOfSide m_firstSide m_faces m_before ρ.2.1 ρ.2.2.1 ρ.2.2.2.1 ρ.2.2.2.2.1 ρ.2.2.2.2.2.1 ρ.2.2.2.2.2.2.1 ρ.2.2.2.2.2.2.2.1 ρ.2.2.2.2.2.2.2.2.1 ρ.2.2.2.2.2.2.2.2.2.1 ρ.2.2.2.2.2.2.2.2.2.2.1 ρ.2.2.2.2.2.2.2.2.2.2.2.1 ρ.2.2.2.2.2.2.2.2.2.2.2.2.1 ρ.2.2.2.2.2.2.2.2.2.2.2.2.2.1 ρ.2.2.2.2.2.2.2.2.2.2.2.2.2.2.1 ρ.2.2.2.2.2.2.2.2.2.2.2.2.2.2.2 m_far m_xs m_ys) t.heap ∧ va_D A (wX8 cA a_m m_s m_past m_pasts m_text m_typed m_faceOfSide m_firstSide m_faces m_before ρ.2.1 ρ.2.2.1 ρ.2.2.2.1 ρ.2.2.2.2.1 ρ.2.2.2.2.2.1 ρ.2.2.2.2.2.2.1 ρ.2.2.2.2.2.2.2.1 ρ.2.2.2.2.2.2.2.2.1 ρ.2.2.2.2.2.2.2.2.2.1 ρ.2.2.2.2.2.2.2.2.2.2.1 ρ.2.2.2.2.2.2.2.2.2.2.2.1 ρ.2.2.2.2.2.2.2.2.2.2.2.2.1 ρ.2.2.2.2.2.2.2.2.2.2.2.2.2.1 ρ.2.2.2.2.2.2.2.2.2.2.2.2.2.2.1 ρ.2.2.2.2.2.2.2.2.2.2.2.2.2.2.2 m_far m_xs m_ys)) A) (by decide) (Nat.le_of_ble_eq_true rfl) fun p e s m below meth c ls A C hl hP hK hD hA hS => ?_
  obtain ⟨hx, hb, hml, hown, hT, hr, hlk⟩ := id C
  have hl : lv_has ls 3 [(0, .ref (a_m 0))] := hl
  have B17 : ∀ (n17 : Nat), ∀ (x1 : Int32) (x2 : Int32) (m_endA : Nat → Int32) (m_endB : Nat → Int32) (m_from : Nat → Int32) (m_queue : Nat → Int32) (m_ring : Nat → Int32) (m_ringSize : Nat → Int32) (m_ringNodes : Nat → Int32) (m_rings : Int32) (m_path : Nat → Int32) (m_pathSize : Int32) (m_old : Nat → Int32) (m_lastRing : Int32) (m_bestNodes : Int32) (m_bestInside : Int32) (m_bestFits : Int32) (H : Heap) (locs : List Loc) (ls : Array Slot), lv_has ls 3 [(0, .ref (a_m 0)), (1, .int x1), (2, .int x2)] → va_P D vwCl (wX8 cA a_m m_s m_past m_pasts m_text m_typed m_faceOfSide m_firstSide m_faces m_before m_endA m_endB m_from m_queue m_ring m_ringSize m_ringNodes m_rings m_path m_pathSize m_old m_lastRing m_bestNodes m_bestInside m_bestFits m_far m_xs m_ys) H → va_D A (wX8 cA a_m m_s m_past m_pasts m_text m_typed m_faceOfSide m_firstSide m_faces m_before m_endA m_endB m_from m_queue m_ring m_ringSize m_ringNodes m_rings m_path m_pathSize m_old m_lastRing m_bestNodes m_bestInside m_bestFits m_far m_xs m_ys) → va_S A s.heap H locs → f_X8_obstructed_b17 N m_s n17 x1 x2 m_endA m_endB m_from m_queue m_ring m_ringSize m_ringNodes m_rings m_path m_pathSize m_old m_lastRing m_bestNodes m_bestInside m_bestFits = some ρ → W p l e ({ frames := 5, cells := 0, slots := 0, locals := 132 } : Room) s m ([.ref (a_m 0)] : List Value).toArray below meth c H locs 0 0 (MQ below (va_Qi (fun r (_ : Unit) => r = ρ.1) (fun _ t => va_P D vwCl (wX8 cA a_m m_s m_past m_pasts m_text m_typed m_faceOfSide m_firstSide m_faces m_before ρ.2.1 ρ.2.2.1 ρ.2.2.2.1 ρ.2.2.2.2.1 ρ.2.2.2.2.2.1 ρ.2.2.2.2.2.2.1 ρ.2.2.2.2.2.2.2.1 ρ.2.2.2.2.2.2.2.2.1 ρ.2.2.2.2.2.2.2.2.2.1 ρ.2.2.2.2.2.2.2.2.2.2.1 ρ.2.2.2.2.2.2.2.2.2.2.2.1 ρ.2.2.2.2.2.2.2.2.2.2.2.2.1 ρ.2.2.2.2.2.2.2.2.2.2.2.2.2.1 ρ.2.2.2.2.2.2.2.2.2.2.2.2.2.2.1 ρ.2.2.2.2.2.2.2.2.2.2.2.2.2.2.2 m_far m_xs m_ys) t.heap ∧ va_D A (wX8 cA a_m m_s m_past m_pasts m_text m_typed m_faceOfSide m_firstSide m_faces m_before ρ.2.1 ρ.2.2.1 ρ.2.2.2.1 ρ.2.2.2.2.1 ρ.2.2.2.2.2.1 ρ.2.2.2.2.2.2.1 ρ.2.2.2.2.2.2.2.1 ρ.2.2.2.2.2.2.2.2.1 ρ.2.2.2.2.2.2.2.2.2.1 ρ.2.2.2.2.2.2.2.2.2.2.1 ρ.2.2.2.2.2.2.2.2.2.2.2.1 ρ.2.2.2.2.2.2.2.2.2.2.2.2.1 ρ.2.2.2.2.2.2.2.2.2.2.2.2.2.1 ρ.2.2.2.2.2.2.2.2.2.2.2.2.2.2.1 ρ.2.2.2.2.2.2.2.2.2.2.2.2.2.2.2 m_far m_xs m_ys)) A) ([.ref (a_m 0)] : List Value).toArray s 0 0 A) (F0 m 17 ls []) := by
    intro n17
    induction n17 with
    | zero =>
      intro x1 x2 m_endA m_endB m_from m_queue m_ring m_ringSize m_ringNodes m_rings m_path m_pathSize m_old m_lastRing m_bestNodes m_bestInside m_bestFits H locs ls hl hP hD hS hf
      cases (show (none : Option (Int32 × (Nat → Int32) × (Nat → Int32) × (Nat → Int32) × (Nat → Int32) × (Nat → Int32) × (Nat → Int32) × (Nat → Int32) × Int32 × (Nat → Int32) × Int32 × (Nat → Int32) × Int32 × Int32 × Int32 × Int32)) = some ρ from hf)
    | succ n17 ih17 =>
      have B52 : ∀ (x2 : Int32) (y0 : Int32) (m_endA : Nat → Int32) (m_endB : Nat → Int32) (m_from : Nat → Int32) (m_queue : Nat → Int32) (m_ring : Nat → Int32) (m_ringSize : Nat → Int32) (m_ringNodes : Nat → Int32) (m_rings : Int32) (m_path : Nat → Int32) (m_pathSize : Int32) (m_old : Nat → Int32) (m_lastRing : Int32) (m_bestNodes : Int32) (m_bestInside : Int32) (m_bestFits : Int32) (H : Heap) (locs : List Loc) (ls : Array Slot), lv_has ls 3 [(0, .ref (a_m 0)), (2, .int x2)] → va_P D vwCl (wX8 cA a_m m_s m_past m_pasts m_text m_typed m_faceOfSide m_firstSide m_faces m_before m_endA m_endB m_from m_queue m_ring m_ringSize m_ringNodes m_rings m_path m_pathSize m_old m_lastRing m_bestNodes m_bestInside m_bestFits m_far m_xs m_ys) H → va_D A (wX8 cA a_m m_s m_past m_pasts m_text m_typed m_faceOfSide m_firstSide m_faces m_before m_endA m_endB m_from m_queue m_ring m_ringSize m_ringNodes m_rings m_path m_pathSize m_old m_lastRing m_bestNodes m_bestInside m_bestFits m_far m_xs m_ys) → va_S A s.heap H locs → f_X8_obstructed_b52 N m_s (f_X8_obstructed_b17 N m_s n17) x2 y0 m_endA m_endB m_from m_queue m_ring m_ringSize m_ringNodes m_rings m_path m_pathSize m_old m_lastRing m_bestNodes m_bestInside m_bestFits = some ρ → W p l e ({ frames := 5, cells := 0, slots := 0, locals := 132 } : Room) s m ([.ref (a_m 0)] : List Value).toArray below meth c H locs 0 0 (MQ below (va_Qi (fun r (_ : Unit) => r = ρ.1) (fun _ t => va_P D vwCl (wX8 cA a_m m_s m_past m_pasts m_text m_typed m_faceOfSide m_firstSide m_faces m_before ρ.2.1 ρ.2.2.1 ρ.2.2.2.1 ρ.2.2.2.2.1 ρ.2.2.2.2.2.1 ρ.2.2.2.2.2.2.1 ρ.2.2.2.2.2.2.2.1 ρ.2.2.2.2.2.2.2.2.1 ρ.2.2.2.2.2.2.2.2.2.1 ρ.2.2.2.2.2.2.2.2.2.2.1 ρ.2.2.2.2.2.2.2.2.2.2.2.1 ρ.2.2.2.2.2.2.2.2.2.2.2.2.1 ρ.2.2.2.2.2.2.2.2.2.2.2.2.2.1 ρ.2.2.2.2.2.2.2.2.2.2.2.2.2.2.1 ρ.2.2.2.2.2.2.2.2.2.2.2.2.2.2.2 m_far m_xs m_ys) t.heap ∧ va_D A (wX8 cA a_m m_s m_past m_pasts m_text m_typed m_faceOfSide m_firstSide m_faces m_before ρ.2.1 ρ.2.2.1 ρ.2.2.2.1 ρ.2.2.2.2.1 ρ.2.2.2.2.2.1 ρ.2.2.2.2.2.2.1 ρ.2.2.2.2.2.2.2.1 ρ.2.2.2.2.2.2.2.2.1 ρ.2.2.2.2.2.2.2.2.2.1 ρ.2.2.2.2.2.2.2.2.2.2.1 ρ.2.2.2.2.2.2.2.2.2.2.2.1 ρ.2.2.2.2.2.2.2.2.2.2.2.2.1 ρ.2.2.2.2.2.2.2.2.2.2.2.2.2.1 ρ.2.2.2.2.2.2.2.2.2.2.2.2.2.2.1 ρ.2.2.2.2.2.2.2.2.2.2.2.2.2.2.2 m_far m_xs m_ys)) A) ([.ref (a_m 0)] : List Value).toArray s 0 0 A) (F0 m 52 ls [.int y0]) := by
        intro x2 y0 m_endA m_endB m_from m_queue m_ring m_ringSize m_ringNodes m_rings m_path m_pathSize m_old m_lastRing m_bestNodes m_bestInside m_bestFits H locs ls hl hP hD hS hf
        refine lv_istore_n (lv' := [(1, .int y0), (0, .ref (a_m 0)), (2, .int x2)]) hx hb dX8_obstructed_52 rfl hl (by decide) rfl (fun ls hl => ?_)
        refine lv_iinc (v := (x2 + 1)) (lv' := [(2, .int (x2 + 1)), (1, .int y0), (0, .ref (a_m 0))]) hx hb dX8_obstructed_53 hl (k := 2) rfl rfl (by decide) rfl (fun ls hl => ?_)
        refine lv_goto (tgt := 17) hx hb dX8_obstructed_56 (by decide) ?_
        exact ih17 y0 (x2 + 1) m_endA m_endB m_from m_queue m_ring m_ringSize m_ringNodes m_rings m_path m_pathSize m_old m_lastRing m_bestNodes m_bestInside m_bestFits _ _ _ (lv_sub hl [2, 1, 0] rfl) hP hD hS hf
      intro x1 x2 m_endA m_endB m_from m_queue m_ring m_ringSize m_ringNodes m_rings m_path m_pathSize m_old m_lastRing m_bestNodes m_bestInside m_bestFits H locs ls hl hP hD hS hf
      refine lv_iload_n hx hb dX8_obstructed_17 rfl (lv_at hl 2 rfl) ?_
      refine lv_aload_n hx hb dX8_obstructed_18 rfl (lv_at hl 0 rfl) ?_
      refine va_get (D := D) (ci := 8) (C := RX8) (T := TX8) (N := 27) hx hb hT kwX8 hown hK.1 hP 0 rfl rfl 0 (by decide) (hT _ kf_X8_7) (fun _ h9 => h9) rfl dX8_obstructed_19 ?_
      refine lv_iconst (v := 1) hx hb dX8_obstructed_22 (by decide) ?_
      obtain ⟨h_5, hf⟩ := chk_s hf
      refine va_iald hx hb hK.1 hP 1 0 rfl rfl (inb_in h_5) dX8_obstructed_23 ?_
      refine lv_icmp_ge (tgt := 59) hx hb dX8_obstructed_24 (by decide) (fun c_6 => ?_) (fun c_6 => ?_)
      · have hf := ite_t c_6 hf
        refine lv_iload_n hx hb dX8_obstructed_59 rfl (lv_at hl 1 rfl) ?_
        have eR := some_i hf
        exact W.iret hx hb hr (fun t ht hW => ⟨⟨x1, (), rfl, fst_e eR, by rw [← eR, ht]; exact hP, by rw [← eR]; exact hD⟩, hS.F ht⟩) hS.2.2 dX8_obstructed_60 (hlocks := hlk)
      · have hf := ite_f c_6 hf
        refine lv_aload_n hx hb dX8_obstructed_27 rfl (lv_at hl 0 rfl) ?_
        refine lv_iload_n hx hb dX8_obstructed_28 rfl (lv_at hl 1 rfl) ?_
        refine lv_iconst (v := 1) hx hb dX8_obstructed_29 (by decide) ?_
        refine lv_iload_n hx hb dX8_obstructed_30 rfl (lv_at hl 2 rfl) ?_
        refine lv_ishl hx hb dX8_obstructed_31 ?_
        refine lv_iconst (v := (-1)) hx hb dX8_obstructed_32 (by decide) ?_
        refine lv_ixor hx hb dX8_obstructed_33 ?_
        refine lv_iand hx hb dX8_obstructed_34 ?_
        obtain ⟨r_7, hcr_7, hf⟩ := bd1_s hf
        refine backWi (w2 := (wX8 cA a_m m_s m_past m_pasts m_text m_typed m_faceOfSide m_firstSide m_faces m_before m_endA m_endB r_7.2.1 r_7.2.2.1 r_7.2.2.2.1 r_7.2.2.2.2.1 r_7.2.2.2.2.2.1 r_7.2.2.2.2.2.2.1 r_7.2.2.2.2.2.2.2.1 r_7.2.2.2.2.2.2.2.2.1 r_7.2.2.2.2.2.2.2.2.2.1 r_7.2.2.2.2.2.2.2.2.2.2.1 r_7.2.2.2.2.2.2.2.2.2.2.2.1 r_7.2.2.2.2.2.2.2.2.2.2.2.2.1 r_7.2.2.2.2.2.2.2.2.2.2.2.2.2 m_far m_xs m_ys)) (runVw C (c_X8_planar l D cA a_m m_s m_past m_pasts m_text m_typed m_faceOfSide m_firstSide m_faces m_before m_endA m_endB m_from m_queue m_ring m_ringSize m_ringNodes m_rings m_path m_pathSize m_old m_lastRing m_bestNodes m_bestInside m_bestFits m_far m_xs m_ys (x1 &&& (((1 : Int32) <<< (x2 &&& 31)) ^^^ (-1))) _ N r_7 hcr_7) cf_X8_planar km_X8_246 ⟨rfl, rfl, by decide, by decide⟩ ⟨Nat.zero_le _, Nat.zero_le _⟩ (va_recv hK.1 hP (ci := 8) (q0 := 0) rfl rfl) (hP.sub [0, 1, 2, 3, 4, 5, 6, 7, 8, 9, 10, 11, 12, 13, 14, 15, 16, 17, 18] rfl) (hD.sub [0, 1, 2, 3, 4, 5, 6, 7, 8, 9, 10, 11, 12, 13, 14, 15, 16, 17, 18] rfl rfl) hK hl.1 rfl rfl (Nat.le_of_ble_eq_true rfl) dX8_obstructed_35) hP hD hS hA [0, 1, 2, 3, 4, 5, 6, 7, 8, 9, 10, 11, 12, 13, 14, 15, 16, 17, 18] rfl [] rfl rfl (by decide) [0, 1, 2, 3, 4, 5, 6, 7, 8, 9, 10, 11, 12, 13, 14, 15, 16, 17, 18] rfl rfl (fun H locs hP hD hS => ?_)
        refine lv_if_eq (tgt := 45) hx hb dX8_obstructed_38 (by decide) (fun c_8 => ?_) (fun c_8 => ?_)
        · have hf := ite_t c_8 hf
          refine lv_iload_n hx hb dX8_obstructed_45 rfl (lv_at hl 1 rfl) ?_
          refine lv_iconst (v := 1) hx hb dX8_obstructed_46 (by decide) ?_
          refine lv_iload_n hx hb dX8_obstructed_47 rfl (lv_at hl 2 rfl) ?_
          refine lv_ishl hx hb dX8_obstructed_48 ?_
          refine lv_iconst (v := (-1)) hx hb dX8_obstructed_49 (by decide) ?_
          refine lv_ixor hx hb dX8_obstructed_50 ?_
          refine lv_iand hx hb dX8_obstructed_51 ?_
          exact B52 x2 (x1 &&& (((1 : Int32) <<< (x2 &&& 31)) ^^^ (-1))) m_endA m_endB r_7.2.1 r_7.2.2.1 r_7.2.2.2.1 r_7.2.2.2.2.1 r_7.2.2.2.2.2.1 r_7.2.2.2.2.2.2.1 r_7.2.2.2.2.2.2.2.1 r_7.2.2.2.2.2.2.2.2.1 r_7.2.2.2.2.2.2.2.2.2.1 r_7.2.2.2.2.2.2.2.2.2.2.1 r_7.2.2.2.2.2.2.2.2.2.2.2.1 r_7.2.2.2.2.2.2.2.2.2.2.2.2.1 r_7.2.2.2.2.2.2.2.2.2.2.2.2.2 _ _ _ (lv_sub hl [0, 2] rfl) hP hD hS hf
        · have hf := ite_f c_8 hf
          refine lv_iload_n hx hb dX8_obstructed_41 rfl (lv_at hl 1 rfl) ?_
          refine lv_goto (tgt := 52) hx hb dX8_obstructed_42 (by decide) ?_
          exact B52 x2 x1 m_endA m_endB r_7.2.1 r_7.2.2.1 r_7.2.2.2.1 r_7.2.2.2.2.1 r_7.2.2.2.2.2.1 r_7.2.2.2.2.2.2.1 r_7.2.2.2.2.2.2.2.1 r_7.2.2.2.2.2.2.2.2.1 r_7.2.2.2.2.2.2.2.2.2.1 r_7.2.2.2.2.2.2.2.2.2.2.1 r_7.2.2.2.2.2.2.2.2.2.2.2.1 r_7.2.2.2.2.2.2.2.2.2.2.2.2.1 r_7.2.2.2.2.2.2.2.2.2.2.2.2.2 _ _ _ (lv_sub hl [0, 2] rfl) hP hD hS hf
  refine lv_aload_n hx hb dX8_obstructed_0 rfl (lv_at hl 0 rfl) ?_
  obtain ⟨r_1, hcr_1, hf⟩ := bd1_s hf
  refine backWi (w2 := (wX8 cA a_m m_s m_past m_pasts m_text m_typed m_faceOfSide m_firstSide m_faces m_before r_1.2.1 r_1.2.2 m_from m_queue m_ring m_ringSize m_ringNodes m_rings m_path m_pathSize m_old m_lastRing m_bestNodes m_bestInside m_bestFits m_far m_xs m_ys)) (runVw C (c_X8_allEdges l D cA a_m m_s m_past m_pasts m_text m_typed m_faceOfSide m_firstSide m_faces m_before m_endA m_endB m_from m_queue m_ring m_ringSize m_ringNodes m_rings m_path m_pathSize m_old m_lastRing m_bestNodes m_bestInside m_bestFits m_far m_xs m_ys _ N r_1 hcr_1) cf_X8_allEdges km_X8_243 ⟨rfl, rfl, by decide, by decide⟩ ⟨Nat.zero_le _, Nat.zero_le _⟩ (va_recv hK.1 hP (ci := 8) (q0 := 0) rfl rfl) (hP.sub [0, 1, 2, 3, 4, 5, 6, 7, 8, 9, 10, 11, 12, 13, 14, 15, 16, 17, 18] rfl) (hD.sub [0, 1, 2, 3, 4, 5, 6, 7, 8, 9, 10, 11, 12, 13, 14, 15, 16, 17, 18] rfl rfl) hK hl.1 rfl rfl (Nat.le_of_ble_eq_true rfl) dX8_obstructed_1) hP hD hS hA [0, 1, 2, 3, 4, 5, 6, 7, 8, 9, 10, 11, 12, 13, 14, 15, 16, 17, 18] rfl [] rfl rfl (by decide) [0, 1, 2, 3, 4, 5, 6, 7, 8, 9, 10, 11, 12, 13, 14, 15, 16, 17, 18] rfl rfl (fun H locs hP hD hS => ?_)
  refine lv_topi (fun x1_2 ex1_2 => ?_)
  have hf := nm_t ex1_2 hf
  refine lv_istore_n (lv' := [(1, .int x1_2), (0, .ref (a_m 0))]) hx hb dX8_obstructed_4 rfl hl (by decide) rfl (fun ls hl => ?_)
  refine lv_aload_n hx hb dX8_obstructed_5 rfl (lv_at hl 1 rfl) ?_
  refine lv_iload_n hx hb dX8_obstructed_6 rfl (lv_at hl 0 rfl) ?_
  obtain ⟨r_3, hcr_3, hf⟩ := bd1_s hf
  refine backWi (w2 := (wX8 cA a_m m_s m_past m_pasts m_text m_typed m_faceOfSide m_firstSide m_faces m_before r_1.2.1 r_1.2.2 r_3.2.1 r_3.2.2.1 r_3.2.2.2.1 r_3.2.2.2.2.1 r_3.2.2.2.2.2.1 r_3.2.2.2.2.2.2.1 r_3.2.2.2.2.2.2.2.1 r_3.2.2.2.2.2.2.2.2.1 r_3.2.2.2.2.2.2.2.2.2.1 r_3.2.2.2.2.2.2.2.2.2.2.1 r_3.2.2.2.2.2.2.2.2.2.2.2.1 r_3.2.2.2.2.2.2.2.2.2.2.2.2.1 r_3.2.2.2.2.2.2.2.2.2.2.2.2.2 m_far m_xs m_ys)) (runVw C (c_X8_planar l D cA a_m m_s m_past m_pasts m_text m_typed m_faceOfSide m_firstSide m_faces m_before r_1.2.1 r_1.2.2 m_from m_queue m_ring m_ringSize m_ringNodes m_rings m_path m_pathSize m_old m_lastRing m_bestNodes m_bestInside m_bestFits m_far m_xs m_ys x1_2 _ N r_3 hcr_3) cf_X8_planar km_X8_246 ⟨rfl, rfl, by decide, by decide⟩ ⟨Nat.zero_le _, Nat.zero_le _⟩ (va_recv hK.1 hP (ci := 8) (q0 := 0) rfl rfl) (hP.sub [0, 1, 2, 3, 4, 5, 6, 7, 8, 9, 10, 11, 12, 13, 14, 15, 16, 17, 18] rfl) (hD.sub [0, 1, 2, 3, 4, 5, 6, 7, 8, 9, 10, 11, 12, 13, 14, 15, 16, 17, 18] rfl rfl) hK hl.1 rfl rfl (Nat.le_of_ble_eq_true rfl) dX8_obstructed_7) hP hD hS hA [0, 1, 2, 3, 4, 5, 6, 7, 8, 9, 10, 11, 12, 13, 14, 15, 16, 17, 18] rfl [] rfl rfl (by decide) [0, 1, 2, 3, 4, 5, 6, 7, 8, 9, 10, 11, 12, 13, 14, 15, 16, 17, 18] rfl rfl (fun H locs hP hD hS => ?_)
  refine lv_if_eq (tgt := 15) hx hb dX8_obstructed_10 (by decide) (fun c_4 => ?_) (fun c_4 => ?_)
  · have hf := ite_t c_4 hf
    refine lv_iconst (v := 0) hx hb dX8_obstructed_15 (by decide) ?_
    refine lv_istore_n (lv' := [(2, .int 0), (1, .int x1_2), (0, .ref (a_m 0))]) hx hb dX8_obstructed_16 rfl hl (by decide) rfl (fun ls hl => ?_)
    exact B17 N x1_2 0 r_1.2.1 r_1.2.2 r_3.2.1 r_3.2.2.1 r_3.2.2.2.1 r_3.2.2.2.2.1 r_3.2.2.2.2.2.1 r_3.2.2.2.2.2.2.1 r_3.2.2.2.2.2.2.2.1 r_3.2.2.2.2.2.2.2.2.1 r_3.2.2.2.2.2.2.2.2.2.1 r_3.2.2.2.2.2.2.2.2.2.2.1 r_3.2.2.2.2.2.2.2.2.2.2.2.1 r_3.2.2.2.2.2.2.2.2.2.2.2.2.1 r_3.2.2.2.2.2.2.2.2.2.2.2.2.2 _ _ _ (lv_sub hl [2, 1, 0] rfl) hP hD hS hf
  · have hf := ite_f c_4 hf
    refine lv_iconst (v := 0) hx hb dX8_obstructed_13 (by decide) ?_
    have eR := some_i hf
    exact W.iret hx hb hr (fun t ht hW => ⟨⟨0, (), rfl, fst_e eR, by rw [← eR, ht]; exact hP, by rw [← eR]; exact hD⟩, hS.F ht⟩) hS.2.2 dX8_obstructed_14 (hlocks := hlk)
set_option maxRecDepth 100000 in
set_option maxHeartbeats 4000000 in
theorem c_X8_branching (l : Launch) (D : va_G) (cA : Nat → ClassId) (a_m : Nat → Nat) (m_s : Nat → Int32) (m_past : Nat → Int32) (m_pasts : Int32) (m_text : Nat → Int32) (m_typed : Int32) (m_faceOfSide : Nat → Int32) (m_firstSide : Nat → Int32) (m_faces : Int32) (m_before : Nat → Int32) (m_endA : Nat → Int32) (m_endB : Nat → Int32) (m_from : Nat → Int32) (m_queue : Nat → Int32) (m_ring : Nat → Int32) (m_ringSize : Nat → Int32) (m_ringNodes : Nat → Int32) (m_rings : Int32) (m_path : Nat → Int32) (m_pathSize : Int32) (m_old : Nat → Int32) (m_lastRing : Int32) (m_bestNodes : Int32) (m_bestInside : Int32) (m_bestFits : Int32) (m_far : Nat → Int32) (m_xs : Nat → UInt32) (m_ys : Nat → UInt32) (sz N : Nat) (ρ : Int32 × (Nat → Int32) × (Nat → Int32) × (Nat → Int32) × (Nat → Int32) × (Nat → Int32) × (Nat → Int32) × (Nat → Int32) × Int32 × (Nat → Int32) × Int32 × (Nat → Int32) × Int32 × Int32 × Int32 × Int32) (hf : f_X8_branching N m_s m_endA m_endB m_from m_queue m_ring m_ringSize m_ringNodes m_rings m_path m_pathSize m_old m_lastRing m_bestNodes m_bestInside m_bestFits = some ρ) : Met l yX8_branching (Cond.code yX8_branching cX8_branching 6 (Option.some Jvm.ClassFile.FieldType.int) :: lw_g) ({ frames := 6, cells := 0, slots := 0, locals := 154 } : Room) (PcW D (tyA cA) (wX8 cA a_m m_s m_past m_pasts m_text m_typed m_faceOfSide m_firstSide m_faces m_before m_endA m_endB m_from m_queue m_ring m_ringSize m_ringNodes m_rings m_path m_pathSize m_old m_lastRing m_bestNodes m_bestInside m_bestFits m_far m_xs m_ys) sz [.ref (a_m 0)]) (va_Qi (fun r (_ : Unit) => r = ρ.1) (fun _ t => va_P D vwCl (wX8 cA a_m m_s m_past m_pasts m_text m_typed m_faceOfSide m_firstSide m_faces m_before ρ.2.1 ρ.2.2.1 ρ.2.2.2.1 ρ.2.2.2.2.1 ρ.2.2.2.2.2.1 ρ.2.2.2.2.2.2.1 ρ.2.2.2.2.2.2.2.1 ρ.2.2.2.2.2.2.2.2.1 ρ.2.2.2.2.2.2.2.2.2.1 ρ.2.2.2.2.2.2.2.2.2.2.1 ρ.2.2.2.2.2.2.2.2.2.2.2.1 ρ.2.2.2.2.2.2.2.2.2.2.2.2.1 ρ.2.2.2.2.2.2.2.2.2.2.2.2.2.1 ρ.2.2.2.2.2.2.2.2.2.2.2.2.2.2.1 ρ.2.2.2.2.2.2.2.2.2.2.2.2.2.2.2 m_far m_xs m_ys) t.heap ∧ va_D (va_A (wX8 cA a_m m_s m_past m_pasts m_text m_typed m_faceOfSide m_firstSide m_faces m_before m_endA m_endB m_from m_queue m_ring m_ringSize m_ringNodes m_rings m_path m_pathSize m_old m_lastRing m_bestNodes m_bestInside m_bestFits m_far m_xs m_ys) sz) (wX8 cA a_m m_s m_past m_pasts m_text m_typed m_faceOfSide m_firstSide m_faces m_before ρ.2.1 ρ.2.2.1 ρ.2.2.2.1 ρ.2.2.2.2.1 ρ.2.2.2.2.2.1 ρ.2.2.2.2.2.2.1 ρ.2.2.2.2.2.2.2.1 ρ.2.2.2.2.2.2.2.2.1 ρ.2.2.2.2.2.2.2.2.2.1 ρ.2.2.2.2.2.2.2.2.2.2.1 ρ.2.2.2.2.2.2.2.2.2.2.2.1 ρ.2.2.2.2.2.2.2.2.2.2.2.2.1 ρ.2.2.2.2.2.2.2.2.2.2.2.2.2.1 ρ.2.2.2.2.2.2.2.2.2.2.2.2.2.2.1 ρ.2.2.2.2.2.2.2.2.2.2.2.2.2.2.2 m_far m_xs m_ys)) (va_A (wX8 cA a_m m_s m_past m_pasts m_text m_typed m_faceOfSide m_firstSide m_faces m_before m_endA m_endB m_from m_queue m_ring m_ringSize m_ringNodes m_rings m_path m_pathSize m_old m_lastRing m_bestNodes m_bestInside m_bestFits m_far m_xs m_ys) sz)) 0 0 (va_A (wX8 cA a_m m_s m_past m_pasts m_text m_typed m_faceOfSide m_firstSide m_faces m_before m_endA m_endB m_from m_queue m_ring m_ringSize m_ringNodes m_rings m_path m_pathSize m_old m_lastRing m_bestNodes m_bestInside m_bestFits m_far m_xs m_ys) sz) := by
  refine mkW (QQ := fun A => va_Qi (fun r (_ : Unit) => r = ρ.1) (fun _ t => va_P D vwCl (wX8 cA a_m m_s m_past m_pasts m_text m_typed m_faceOfSide m_firstSide m_faces m_before ρ.2.1 ρ.2.2.1 ρ.2.2.2.1 ρ.2.2.2.2.1 ρ.2.2.2.2.2.1 ρ.2.2.2.2.2.2.1 ρ.2.2.2.2.2.2.2.1 ρ.2.2.2.2.2.2.2.2.1 ρ.2.2.2.2.2.2.2.2.2.1 ρ.2.2.2.2.2.2.2.2.2.2.1 ρ.2.2.2.2.2.2.2.2.2.2.2.1 ρ.2.2.2.2.2.2.2.2.2.2.2.2.1 ρ.2.2.2.2.2.2.2.2.2.2.2.2.2.1 ρ.2.2.2.2.2.2.2.2.2.2.2.2.2.2.1 ρ.2.2.2.2.2.2.2.2.2.2.2.2.2.2.2 m_far m_xs m_ys) t.heap ∧ va_D A (wX8 cA a_m m_s m_past m_pasts m_text m_typed m_faceOfSide m_firstSide m_faces m_before ρ.2.1 ρ.2.2.1 ρ.2.2.2.1 ρ.2.2.2.2.1 ρ.2.2.2.2.2.1 ρ.2.2.2.2.2.2.1 ρ.2.2.2.2.2.2.2.1 ρ.2.2.2.2.2.2.2.2.1 ρ.2.2.2.2.2.2.2.2.2.1 ρ.2.2.2.2.2.2.2.2.2.2.1 ρ.2.2.2.2.2.2.2.2.2.2.2.1 ρ.2.2.2.2.2.2.2.2.2.2.2.2.1 ρ.2.2.2.2.2.2.2.2.2.2.2.2.2.1 ρ.2.2.2.2.2.2.2.2.2.2.2.2.2.2.1 ρ.2.2.2.2.2.2.2.2.2.2.2.2.2.2.2 m_far m_xs m_ys)) A) (by decide) (Nat.le_of_ble_eq_true rfl) fun p e s m below meth c ls A C hl hP hK hD hA hS => ?_
  obtain ⟨hx, hb, hml, hown, hT, hr, hlk⟩ := id C
  have hl : lv_has ls 6 [(0, .ref (a_m 0))] := hl
  have B9 : ∀ (n9 : Nat), ∀ (x1 : Int32) (x2 : Int32) (x3 : Int32) (m_endA : Nat → Int32) (m_endB : Nat → Int32) (m_from : Nat → Int32) (m_queue : Nat → Int32) (m_ring : Nat → Int32) (m_ringSize : Nat → Int32) (m_ringNodes : Nat → Int32) (m_rings : Int32) (m_path : Nat → Int32) (m_pathSize : Int32) (m_old : Nat → Int32) (m_lastRing : Int32) (m_bestNodes : Int32) (m_bestInside : Int32) (m_bestFits : Int32) (H : Heap) (locs : List Loc) (ls : Array Slot), lv_has ls 6 [(0, .ref (a_m 0)), (1, .int x1), (2, .int x2), (3, .int x3)] → va_P D vwCl (wX8 cA a_m m_s m_past m_pasts m_text m_typed m_faceOfSide m_firstSide m_faces m_before m_endA m_endB m_from m_queue m_ring m_ringSize m_ringNodes m_rings m_path m_pathSize m_old m_lastRing m_bestNodes m_bestInside m_bestFits m_far m_xs m_ys) H → va_D A (wX8 cA a_m m_s m_past m_pasts m_text m_typed m_faceOfSide m_firstSide m_faces m_before m_endA m_endB m_from m_queue m_ring m_ringSize m_ringNodes m_rings m_path m_pathSize m_old m_lastRing m_bestNodes m_bestInside m_bestFits m_far m_xs m_ys) → va_S A s.heap H locs → f_X8_branching_b9 N m_s n9 x1 x2 x3 m_endA m_endB m_from m_queue m_ring m_ringSize m_ringNodes m_rings m_path m_pathSize m_old m_lastRing m_bestNodes m_bestInside m_bestFits = some ρ → W p l e ({ frames := 6, cells := 0, slots := 0, locals := 154 } : Room) s m ([.ref (a_m 0)] : List Value).toArray below meth c H locs 0 0 (MQ below (va_Qi (fun r (_ : Unit) => r = ρ.1) (fun _ t => va_P D vwCl (wX8 cA a_m m_s m_past m_pasts m_text m_typed m_faceOfSide m_firstSide m_faces m_before ρ.2.1 ρ.2.2.1 ρ.2.2.2.1 ρ.2.2.2.2.1 ρ.2.2.2.2.2.1 ρ.2.2.2.2.2.2.1 ρ.2.2.2.2.2.2.2.1 ρ.2.2.2.2.2.2.2.2.1 ρ.2.2.2.2.2.2.2.2.2.1 ρ.2.2.2.2.2.2.2.2.2.2.1 ρ.2.2.2.2.2.2.2.2.2.2.2.1 ρ.2.2.2.2.2.2.2.2.2.2.2.2.1 ρ.2.2.2.2.2.2.2.2.2.2.2.2.2.1 ρ.2.2.2.2.2.2.2.2.2.2.2.2.2.2.1 ρ.2.2.2.2.2.2.2.2.2.2.2.2.2.2.2 m_far m_xs m_ys) t.heap ∧ va_D A (wX8 cA a_m m_s m_past m_pasts m_text m_typed m_faceOfSide m_firstSide m_faces m_before ρ.2.1 ρ.2.2.1 ρ.2.2.2.1 ρ.2.2.2.2.1 ρ.2.2.2.2.2.1 ρ.2.2.2.2.2.2.1 ρ.2.2.2.2.2.2.2.1 ρ.2.2.2.2.2.2.2.2.1 ρ.2.2.2.2.2.2.2.2.2.1 ρ.2.2.2.2.2.2.2.2.2.2.1 ρ.2.2.2.2.2.2.2.2.2.2.2.1 ρ.2.2.2.2.2.2.2.2.2.2.2.2.1 ρ.2.2.2.2.2.2.2.2.2.2.2.2.2.1 ρ.2.2.2.2.2.2.2.2.2.2.2.2.2.2.1 ρ.2.2.2.2.2.2.2.2.2.2.2.2.2.2.2 m_far m_xs m_ys)) A) ([.ref (a_m 0)] : List Value).toArray s 0 0 A) (F0 m 9 ls []) := by
    intro n9
    induction n9 with
    | zero =>
      intro x1 x2 x3 m_endA m_endB m_from m_queue m_ring m_ringSize m_ringNodes m_rings m_path m_pathSize m_old m_lastRing m_bestNodes m_bestInside m_bestFits H locs ls hl hP hD hS hf
      cases (show (none : Option (Int32 × (Nat → Int32) × (Nat → Int32) × (Nat → Int32) × (Nat → Int32) × (Nat → Int32) × (Nat → Int32) × (Nat → Int32) × Int32 × (Nat → Int32) × Int32 × (Nat → Int32) × Int32 × Int32 × Int32 × Int32)) = some ρ from hf)
    | succ n9 ih9 =>
      have B85 : ∀ (x1 : Int32) (x3 : Int32) (y0 : Int32) (y1 : Int32) (m_endA : Nat → Int32) (m_endB : Nat → Int32) (m_from : Nat → Int32) (m_queue : Nat → Int32) (m_ring : Nat → Int32) (m_ringSize : Nat → Int32) (m_ringNodes : Nat → Int32) (m_rings : Int32) (m_path : Nat → Int32) (m_pathSize : Int32) (m_old : Nat → Int32) (m_lastRing : Int32) (m_bestNodes : Int32) (m_bestInside : Int32) (m_bestFits : Int32) (H : Heap) (locs : List Loc) (ls : Array Slot), lv_has ls 6 [(0, .ref (a_m 0)), (1, .int x1), (3, .int x3)] → va_P D vwCl (wX8 cA a_m m_s m_past m_pasts m_text m_typed m_faceOfSide m_firstSide m_faces m_before m_endA m_endB m_from m_queue m_ring m_ringSize m_ringNodes m_rings m_path m_pathSize m_old m_lastRing m_bestNodes m_bestInside m_bestFits m_far m_xs m_ys) H → va_D A (wX8 cA a_m m_s m_past m_pasts m_text m_typed m_faceOfSide m_firstSide m_faces m_before m_endA m_endB m_from m_queue m_ring m_ringSize m_ringNodes m_rings m_path m_pathSize m_old m_lastRing m_bestNodes m_bestInside m_bestFits m_far m_xs m_ys) → va_S A s.heap H locs → f_X8_branching_b85 N m_s (f_X8_branching_b9 N m_s n9) x1 x3 y0 y1 m_endA m_endB m_from m_queue m_ring m_ringSize m_ringNodes m_rings m_path m_pathSize m_old m_lastRing m_bestNodes m_bestInside m_bestFits = some ρ → W p l e ({ frames := 6, cells := 0, slots := 0, locals := 154 } : Room) s m ([.ref (a_m 0)] : List Value).toArray below meth c H locs 0 0 (MQ below (va_Qi (fun r (_ : Unit) => r = ρ.1) (fun _ t => va_P D vwCl (wX8 cA a_m m_s m_past m_pasts m_text m_typed m_faceOfSide m_firstSide m_faces m_before ρ.2.1 ρ.2.2.1 ρ.2.2.2.1 ρ.2.2.2.2.1 ρ.2.2.2.2.2.1 ρ.2.2.2.2.2.2.1 ρ.2.2.2.2.2.2.2.1 ρ.2.2.2.2.2.2.2.2.1 ρ.2.2.2.2.2.2.2.2.2.1 ρ.2.2.2.2.2.2.2.2.2.2.1 ρ.2.2.2.2.2.2.2.2.2.2.2.1 ρ.2.2.2.2.2.2.2.2.2.2.2.2.1 ρ.2.2.2.2.2.2.2.2.2.2.2.2.2.1 ρ.2.2.2.2.2.2.2.2.2.2.2.2.2.2.1 ρ.2.2.2.2.2.2.2.2.2.2.2.2.2.2.2 m_far m_xs m_ys) t.heap ∧ va_D A (wX8 cA a_m m_s m_past m_pasts m_text m_typed m_faceOfSide m_firstSide m_faces m_before ρ.2.1 ρ.2.2.1 ρ.2.2.2.1 ρ.2.2.2.2.1 ρ.2.2.2.2.2.1 ρ.2.2.2.2.2.2.1 ρ.2.2.2.2.2.2.2.1 ρ.2.2.2.2.2.2.2.2.1 ρ.2.2.2.2.2.2.2.2.2.1 ρ.2.2.2.2.2.2.2.2.2.2.1 ρ.2.2.2.2.2.2.2.2.2.2.2.1 ρ.2.2.2.2.2.2.2.2.2.2.2.2.1 ρ.2.2.2.2.2.2.2.2.2.2.2.2.2.1 ρ.2.2.2.2.2.2.2.2.2.2.2.2.2.2.1 ρ.2.2.2.2.2.2.2.2.2.2.2.2.2.2.2 m_far m_xs m_ys)) A) ([.ref (a_m 0)] : List Value).toArray s 0 0 A) (F0 m 85 ls [.int y1, .int y0]) := by
        intro x1 x3 y0 y1 m_endA m_endB m_from m_queue m_ring m_ringSize m_ringNodes m_rings m_path m_pathSize m_old m_lastRing m_bestNodes m_bestInside m_bestFits H locs ls hl hP hD hS hf
        refine lv_ior hx hb dX8_branching_85 ?_
        refine lv_topi (fun x2_13 ex2_13 => ?_)
        have hf := nm_t ex2_13 hf
        refine lv_istore_n (lv' := [(2, .int x2_13), (0, .ref (a_m 0)), (1, .int x1), (3, .int x3)]) hx hb dX8_branching_86 rfl hl (by decide) rfl (fun ls hl => ?_)
        refine lv_iinc (v := (x3 + 1)) (lv' := [(3, .int (x3 + 1)), (2, .int x2_13), (0, .ref (a_m 0)), (1, .int x1)]) hx hb dX8_branching_87 hl (k := 3) rfl rfl (by decide) rfl (fun ls hl => ?_)
        refine lv_goto (tgt := 9) hx hb dX8_branching_90 (by decide) ?_
        exact ih9 x1 x2_13 (x3 + 1) m_endA m_endB m_from m_queue m_ring m_ringSize m_ringNodes m_rings m_path m_pathSize m_old m_lastRing m_bestNodes m_bestInside m_bestFits _ _ _ (lv_sub hl [2, 3, 1, 0] rfl) hP hD hS hf
      have B71 : ∀ (x1 : Int32) (x2 : Int32) (x3 : Int32) (x4 : Int32) (m_endA : Nat → Int32) (m_endB : Nat → Int32) (m_from : Nat → Int32) (m_queue : Nat → Int32) (m_ring : Nat → Int32) (m_ringSize : Nat → Int32) (m_ringNodes : Nat → Int32) (m_rings : Int32) (m_path : Nat → Int32) (m_pathSize : Int32) (m_old : Nat → Int32) (m_lastRing : Int32) (m_bestNodes : Int32) (m_bestInside : Int32) (m_bestFits : Int32) (H : Heap) (locs : List Loc) (ls : Array Slot), lv_has ls 6 [(0, .ref (a_m 0)), (1, .int x1), (2, .int x2), (3, .int x3), (4, .int x4)] → va_P D vwCl (wX8 cA a_m m_s m_past m_pasts m_text m_typed m_faceOfSide m_firstSide m_faces m_before m_endA m_endB m_from m_queue m_ring m_ringSize m_ringNodes m_rings m_path m_pathSize m_old m_lastRing m_bestNodes m_bestInside m_bestFits m_far m_xs m_ys) H → va_D A (wX8 cA a_m m_s m_past m_pasts m_text m_typed m_faceOfSide m_firstSide m_faces m_before m_endA m_endB m_from m_queue m_ring m_ringSize m_ringNodes m_rings m_path m_pathSize m_old m_lastRing m_bestNodes m_bestInside m_bestFits m_far m_xs m_ys) → va_S A s.heap H locs → f_X8_branching_b71 N m_s (f_X8_branching_b9 N m_s n9) x1 x2 x3 x4 m_endA m_endB m_from m_queue m_ring m_ringSize m_ringNodes m_rings m_path m_pathSize m_old m_lastRing m_bestNodes m_bestInside m_bestFits = some ρ → W p l e ({ frames := 6, cells := 0, slots := 0, locals := 154 } : Room) s m ([.ref (a_m 0)] : List Value).toArray below meth c H locs 0 0 (MQ below (va_Qi (fun r (_ : Unit) => r = ρ.1) (fun _ t => va_P D vwCl (wX8 cA a_m m_s m_past m_pasts m_text m_typed m_faceOfSide m_firstSide m_faces m_before ρ.2.1 ρ.2.2.1 ρ.2.2.2.1 ρ.2.2.2.2.1 ρ.2.2.2.2.2.1 ρ.2.2.2.2.2.2.1 ρ.2.2.2.2.2.2.2.1 ρ.2.2.2.2.2.2.2.2.1 ρ.2.2.2.2.2.2.2.2.2.1 ρ.2.2.2.2.2.2.2.2.2.2.1 ρ.2.2.2.2.2.2.2.2.2.2.2.1 ρ.2.2.2.2.2.2.2.2.2.2.2.2.1 ρ.2.2.2.2.2.2.2.2.2.2.2.2.2.1 ρ.2.2.2.2.2.2.2.2.2.2.2.2.2.2.1 ρ.2.2.2.2.2.2.2.2.2.2.2.2.2.2.2 m_far m_xs m_ys) t.heap ∧ va_D A (wX8 cA a_m m_s m_past m_pasts m_text m_typed m_faceOfSide m_firstSide m_faces m_before ρ.2.1 ρ.2.2.1 ρ.2.2.2.1 ρ.2.2.2.2.1 ρ.2.2.2.2.2.1 ρ.2.2.2.2.2.2.1 ρ.2.2.2.2.2.2.2.1 ρ.2.2.2.2.2.2.2.2.1 ρ.2.2.2.2.2.2.2.2.2.1 ρ.2.2.2.2.2.2.2.2.2.2.1 ρ.2.2.2.2.2.2.2.2.2.2.2.1 ρ.2.2.2.2.2.2.2.2.2.2.2.2.1 ρ.2.2.2.2.2.2.2.2.2.2.2.2.2.1 ρ.2.2.2.2.2.2.2.2.2.2.2.2.2.2.1 ρ.2.2.2.2.2.2.2.2.2.2.2.2.2.2.2 m_far m_xs m_ys)) A) ([.ref (a_m 0)] : List Value).toArray s 0 0 A) (F0 m 71 ls []) := by
        intro x1 x2 x3 x4 m_endA m_endB m_from m_queue m_ring m_ringSize m_ringNodes m_rings m_path m_pathSize m_old m_lastRing m_bestNodes m_bestInside m_bestFits H locs ls hl hP hD hS hf
        refine lv_iload_n hx hb dX8_branching_71 rfl (lv_at hl 2 rfl) ?_
        refine lv_iload hx hb dX8_branching_72 (lv_at hl 4 rfl) ?_
        refine lv_iconst (v := 2) hx hb dX8_branching_74 (by decide) ?_
        refine lv_icmp_le (tgt := 84) hx hb dX8_branching_75 (by decide) (fun c_12 => ?_) (fun c_12 => ?_)
        · have hf := ite_t c_12 hf
          refine lv_iconst (v := 0) hx hb dX8_branching_84 (by decide) ?_
          exact B85 x1 x3 x2 0 m_endA m_endB m_from m_queue m_ring m_ringSize m_ringNodes m_rings m_path m_pathSize m_old m_lastRing m_bestNodes m_bestInside m_bestFits _ _ _ (lv_sub hl [0, 1, 3] rfl) hP hD hS hf
        · have hf := ite_f c_12 hf
          refine lv_iconst (v := 1) hx hb dX8_branching_78 (by decide) ?_
          refine lv_iload_n hx hb dX8_branching_79 rfl (lv_at hl 3 rfl) ?_
          refine lv_ishl hx hb dX8_branching_80 ?_
          refine lv_goto (tgt := 85) hx hb dX8_branching_81 (by decide) ?_
          exact B85 x1 x3 x2 ((1 : Int32) <<< (x3 &&& 31)) m_endA m_endB m_from m_queue m_ring m_ringSize m_ringNodes m_rings m_path m_pathSize m_old m_lastRing m_bestNodes m_bestInside m_bestFits _ _ _ (lv_sub hl [0, 1, 3] rfl) hP hD hS hf
      have B25 : ∀ (n25 : Nat), ∀ (x1 : Int32) (x2 : Int32) (x3 : Int32) (x4 : Int32) (x5 : Int32) (m_endA : Nat → Int32) (m_endB : Nat → Int32) (m_from : Nat → Int32) (m_queue : Nat → Int32) (m_ring : Nat → Int32) (m_ringSize : Nat → Int32) (m_ringNodes : Nat → Int32) (m_rings : Int32) (m_path : Nat → Int32) (m_pathSize : Int32) (m_old : Nat → Int32) (m_lastRing : Int32) (m_bestNodes : Int32) (m_bestInside : Int32) (m_bestFits : Int32) (H : Heap) (locs : List Loc) (ls : Array Slot), lv_has ls 6 [(0, .ref (a_m 0)), (1, .int x1), (2, .int x2), (3, .int x3), (4, .int x4), (5, .int x5)] → va_P D vwCl (wX8 cA a_m m_s m_past m_pasts m_text m_typed m_faceOfSide m_firstSide m_faces m_before m_endA m_endB m_from m_queue m_ring m_ringSize m_ringNodes m_rings m_path m_pathSize m_old m_lastRing m_bestNodes m_bestInside m_bestFits m_far m_xs m_ys) H → va_D A (wX8 cA a_m m_s m_past m_pasts m_text m_typed m_faceOfSide m_firstSide m_faces m_before m_endA m_endB m_from m_queue m_ring m_ringSize m_ringNodes m_rings m_path m_pathSize m_old m_lastRing m_bestNodes m_bestInside m_bestFits m_far m_xs m_ys) → va_S A s.heap H locs → f_X8_branching_b25 N m_s (f_X8_branching_b9 N m_s n9) n25 x1 x2 x3 x4 x5 m_endA m_endB m_from m_queue m_ring m_ringSize m_ringNodes m_rings m_path m_pathSize m_old m_lastRing m_bestNodes m_bestInside m_bestFits = some ρ → W p l e ({ frames := 6, cells := 0, slots := 0, locals := 154 } : Room) s m ([.ref (a_m 0)] : List Value).toArray below meth c H locs 0 0 (MQ below (va_Qi (fun r (_ : Unit) => r = ρ.1) (fun _ t => va_P D vwCl (wX8 cA a_m m_s m_past m_pasts m_text m_typed m_faceOfSide m_firstSide m_faces m_before ρ.2.1 ρ.2.2.1 ρ.2.2.2.1 ρ.2.2.2.2.1 ρ.2.2.2.2.2.1 ρ.2.2.2.2.2.2.1 ρ.2.2.2.2.2.2.2.1 ρ.2.2.2.2.2.2.2.2.1 ρ.2.2.2.2.2.2.2.2.2.1 ρ.2.2.2.2.2.2.2.2.2.2.1 ρ.2.2.2.2.2.2.2.2.2.2.2.1 ρ.2.2.2.2.2.2.2.2.2.2.2.2.1 ρ.2.2.2.2.2.2.2.2.2.2.2.2.2.1 ρ.2.2.2.2.2.2.2.2.2.2.2.2.2.2.1 ρ.2.2.2.2.2.2.2.2.2.2.2.2.2.2.2 m_far m_xs m_ys) t.heap ∧ va_D A (wX8 cA a_m m_s m_past m_pasts m_text m_typed m_faceOfSide m_firstSide m_faces m_before ρ.2.1 ρ.2.2.1 ρ.2.2.2.1 ρ.2.2.2.2.1 ρ.2.2.2.2.2.1 ρ.2.2.2.2.2.2.1 ρ.2.2.2.2.2.2.2.1 ρ.2.2.2.2.2.2.2.2.1 ρ.2.2.2.2.2.2.2.2.2.1 ρ.2.2.2.2.2.2.2.2.2.2.1 ρ.2.2.2.2.2.2.2.2.2.2.2.1 ρ.2.2.2.2.2.2.2.2.2.2.2.2.1 ρ.2.2.2.2.2.2.2.2.2.2.2.2.2.1 ρ.2.2.2.2.2.2.2.2.2.2.2.2.2.2.1 ρ.2.2.2.2.2.2.2.2.2.2.2.2.2.2.2 m_far m_xs m_ys)) A) ([.ref (a_m 0)] : List Value).toArray s 0 0 A) (F0 m 25 ls []) := by
        intro n25
        induction n25 with
        | zero =>
          intro x1 x2 x3 x4 x5 m_endA m_endB m_from m_queue m_ring m_ringSize m_ringNodes m_rings m_path m_pathSize m_old m_lastRing m_bestNodes m_bestInside m_bestFits H locs ls hl hP hD hS hf
          cases (show (none : Option (Int32 × (Nat → Int32) × (Nat → Int32) × (Nat → Int32) × (Nat → Int32) × (Nat → Int32) × (Nat → Int32) × (Nat → Int32) × Int32 × (Nat → Int32) × Int32 × (Nat → Int32) × Int32 × Int32 × Int32 × Int32)) = some ρ from hf)
        | succ n25 ih25 =>
          have B62 : ∀ (x1 : Int32) (x2 : Int32) (x3 : Int32) (x5 : Int32) (y0 : Int32) (y1 : Int32) (m_endA : Nat → Int32) (m_endB : Nat → Int32) (m_from : Nat → Int32) (m_queue : Nat → Int32) (m_ring : Nat → Int32) (m_ringSize : Nat → Int32) (m_ringNodes : Nat → Int32) (m_rings : Int32) (m_path : Nat → Int32) (m_pathSize : Int32) (m_old : Nat → Int32) (m_lastRing : Int32) (m_bestNodes : Int32) (m_bestInside : Int32) (m_bestFits : Int32) (H : Heap) (locs : List Loc) (ls : Array Slot), lv_has ls 6 [(0, .ref (a_m 0)), (1, .int x1), (2, .int x2), (3, .int x3), (5, .int x5)] → va_P D vwCl (wX8 cA a_m m_s m_past m_pasts m_text m_typed m_faceOfSide m_firstSide m_faces m_before m_endA m_endB m_from m_queue m_ring m_ringSize m_ringNodes m_rings m_path m_pathSize m_old m_lastRing m_bestNodes m_bestInside m_bestFits m_far m_xs m_ys) H → va_D A (wX8 cA a_m m_s m_past m_pasts m_text m_typed m_faceOfSide m_firstSide m_faces m_before m_endA m_endB m_from m_queue m_ring m_ringSize m_ringNodes m_rings m_path m_pathSize m_old m_lastRing m_bestNodes m_bestInside m_bestFits m_far m_xs m_ys) → va_S A s.heap H locs → f_X8_branching_b62 N m_s (f_X8_branching_b9 N m_s n9) (f_X8_branching_b25 N m_s (f_X8_branching_b9 N m_s n9) n25) x1 x2 x3 x5 y0 y1 m_endA m_endB m_from m_queue m_ring m_ringSize m_ringNodes m_rings m_path m_pathSize m_old m_lastRing m_bestNodes m_bestInside m_bestFits = some ρ → W p l e ({ frames := 6, cells := 0, slots := 0, locals := 154 } : Room) s m ([.ref (a_m 0)] : List Value).toArray below meth c H locs 0 0 (MQ below (va_Qi (fun r (_ : Unit) => r = ρ.1) (fun _ t => va_P D vwCl (wX8 cA a_m m_s m_past m_pasts m_text m_typed m_faceOfSide m_firstSide m_faces m_before ρ.2.1 ρ.2.2.1 ρ.2.2.2.1 ρ.2.2.2.2.1 ρ.2.2.2.2.2.1 ρ.2.2.2.2.2.2.1 ρ.2.2.2.2.2.2.2.1 ρ.2.2.2.2.2.2.2.2.1 ρ.2.2.2.2.2.2.2.2.2.1 ρ.2.2.2.2.2.2.2.2.2.2.1 ρ.2.2.2.2.2.2.2.2.2.2.2.1 ρ.2.2.2.2.2.2.2.2.2.2.2.2.1 ρ.2.2.2.2.2.2.2.2.2.2.2.2.2.1 ρ.2.2.2.2.2.2.2.2.2.2.2.2.2.2.1 ρ.2.2.2.2.2.2.2.2.2.2.2.2.2.2.2 m_far m_xs m_ys) t.heap ∧ va_D A (wX8 cA a_m m_s m_past m_pasts m_text m_typed m_faceOfSide m_firstSide m_faces m_before ρ.2.1 ρ.2.2.1 ρ.2.2.2.1 ρ.2.2.2.2.1 ρ.2.2.2.2.2.1 ρ.2.2.2.2.2.2.1 ρ.2.2.2.2.2.2.2.1 ρ.2.2.2.2.2.2.2.2.1 ρ.2.2.2.2.2.2.2.2.2.1 ρ.2.2.2.2.2.2.2.2.2.2.1 ρ.2.2.2.2.2.2.2.2.2.2.2.1 ρ.2.2.2.2.2.2.2.2.2.2.2.2.1 ρ.2.2.2.2.2.2.2.2.2.2.2.2.2.1 ρ.2.2.2.2.2.2.2.2.2.2.2.2.2.2.1 ρ.2.2.2.2.2.2.2.2.2.2.2.2.2.2.2 m_far m_xs m_ys)) A) ([.ref (a_m 0)] : List Value).toArray s 0 0 A) (F0 m 62 ls [.int y1, .int y0]) := by
            intro x1 x2 x3 x5 y0 y1 m_endA m_endB m_from m_queue m_ring m_ringSize m_ringNodes m_rings m_path m_pathSize m_old m_lastRing m_bestNodes m_bestInside m_bestFits H locs ls hl hP hD hS hf
            refine lv_iadd hx hb dX8_branching_62 ?_
            refine lv_topi (fun x4_11 ex4_11 => ?_)
            have hf := nm_t ex4_11 hf
            refine lv_istore (lv' := [(4, .int x4_11), (0, .ref (a_m 0)), (1, .int x1), (2, .int x2), (3, .int x3), (5, .int x5)]) hx hb dX8_branching_63 hl (by decide) rfl (fun ls hl => ?_)
            refine lv_iinc (v := (x5 + 1)) (lv' := [(5, .int (x5 + 1)), (4, .int x4_11), (0, .ref (a_m 0)), (1, .int x1), (2, .int x2), (3, .int x3)]) hx hb dX8_branching_65 hl (k := 5) rfl rfl (by decide) rfl (fun ls hl => ?_)
            refine lv_goto (tgt := 25) hx hb dX8_branching_68 (by decide) ?_
            exact ih25 x1 x2 x3 x4_11 (x5 + 1) m_endA m_endB m_from m_queue m_ring m_ringSize m_ringNodes m_rings m_path m_pathSize m_old m_lastRing m_bestNodes m_bestInside m_bestFits _ _ _ (lv_sub hl [2, 3, 4, 5, 1, 0] rfl) hP hD hS hf
          have B61 : ∀ (x1 : Int32) (x2 : Int32) (x3 : Int32) (x5 : Int32) (y0 : Int32) (m_endA : Nat → Int32) (m_endB : Nat → Int32) (m_from : Nat → Int32) (m_queue : Nat → Int32) (m_ring : Nat → Int32) (m_ringSize : Nat → Int32) (m_ringNodes : Nat → Int32) (m_rings : Int32) (m_path : Nat → Int32) (m_pathSize : Int32) (m_old : Nat → Int32) (m_lastRing : Int32) (m_bestNodes : Int32) (m_bestInside : Int32) (m_bestFits : Int32) (H : Heap) (locs : List Loc) (ls : Array Slot), lv_has ls 6 [(0, .ref (a_m 0)), (1, .int x1), (2, .int x2), (3, .int x3), (5, .int x5)] → va_P D vwCl (wX8 cA a_m m_s m_past m_pasts m_text m_typed m_faceOfSide m_firstSide m_faces m_before m_endA m_endB m_from m_queue m_ring m_ringSize m_ringNodes m_rings m_path m_pathSize m_old m_lastRing m_bestNodes m_bestInside m_bestFits m_far m_xs m_ys) H → va_D A (wX8 cA a_m m_s m_past m_pasts m_text m_typed m_faceOfSide m_firstSide m_faces m_before m_endA m_endB m_from m_queue m_ring m_ringSize m_ringNodes m_rings m_path m_pathSize m_old m_lastRing m_bestNodes m_bestInside m_bestFits m_far m_xs m_ys) → va_S A s.heap H locs → f_X8_branching_b61 N m_s (f_X8_branching_b9 N m_s n9) (f_X8_branching_b25 N m_s (f_X8_branching_b9 N m_s n9) n25) x1 x2 x3 x5 y0 m_endA m_endB m_from m_queue m_ring m_ringSize m_ringNodes m_rings m_path m_pathSize m_old m_lastRing m_bestNodes m_bestInside m_bestFits = some ρ → W p l e ({ frames := 6, cells := 0, slots := 0, locals := 154 } : Room) s m ([.ref (a_m 0)] : List Value).toArray below meth c H locs 0 0 (MQ below (va_Qi (fun r (_ : Unit) => r = ρ.1) (fun _ t => va_P D vwCl (wX8 cA a_m m_s m_past m_pasts m_text m_typed m_faceOfSide m_firstSide m_faces m_before ρ.2.1 ρ.2.2.1 ρ.2.2.2.1 ρ.2.2.2.2.1 ρ.2.2.2.2.2.1 ρ.2.2.2.2.2.2.1 ρ.2.2.2.2.2.2.2.1 ρ.2.2.2.2.2.2.2.2.1 ρ.2.2.2.2.2.2.2.2.2.1 ρ.2.2.2.2.2.2.2.2.2.2.1 ρ.2.2.2.2.2.2.2.2.2.2.2.1 ρ.2.2.2.2.2.2.2.2.2.2.2.2.1 ρ.2.2.2.2.2.2.2.2.2.2.2.2.2.1 ρ.2.2.2.2.2.2.2.2.2.2.2.2.2.2.1 ρ.2.2.2.2.2.2.2.2.2.2.2.2.2.2.2 m_far m_xs m_ys) t.heap ∧ va_D A (wX8 cA a_m m_s m_past m_pasts m_text m_typed m_faceOfSide m_firstSide m_faces m_before ρ.2.1 ρ.2.2.1 ρ.2.2.2.1 ρ.2.2.2.2.1 ρ.2.2.2.2.2.1 ρ.2.2.2.2.2.2.1 ρ.2.2.2.2.2.2.2.1 ρ.2.2.2.2.2.2.2.2.1 ρ.2.2.2.2.2.2.2.2.2.1 ρ.2.2.2.2.2.2.2.2.2.2.1 ρ.2.2.2.2.2.2.2.2.2.2.2.1 ρ.2.2.2.2.2.2.2.2.2.2.2.2.1 ρ.2.2.2.2.2.2.2.2.2.2.2.2.2.1 ρ.2.2.2.2.2.2.2.2.2.2.2.2.2.2.1 ρ.2.2.2.2.2.2.2.2.2.2.2.2.2.2.2 m_far m_xs m_ys)) A) ([.ref (a_m 0)] : List Value).toArray s 0 0 A) (F0 m 61 ls [.int y0]) := by
            intro x1 x2 x3 x5 y0 m_endA m_endB m_from m_queue m_ring m_ringSize m_ringNodes m_rings m_path m_pathSize m_old m_lastRing m_bestNodes m_bestInside m_bestFits H locs ls hl hP hD hS hf
            refine lv_iconst (v := 0) hx hb dX8_branching_61 (by decide) ?_
            exact B62 x1 x2 x3 x5 y0 0 m_endA m_endB m_from m_queue m_ring m_ringSize m_ringNodes m_rings m_path m_pathSize m_old m_lastRing m_bestNodes m_bestInside m_bestFits _ _ _ (lv_sub hl [0, 1, 2, 3, 4] rfl) hP hD hS hf
          intro x1 x2 x3 x4 x5 m_endA m_endB m_from m_queue m_ring m_ringSize m_ringNodes m_rings m_path m_pathSize m_old m_lastRing m_bestNodes m_bestInside m_bestFits H locs ls hl hP hD hS hf
          refine lv_iload hx hb dX8_branching_25 (lv_at hl 5 rfl) ?_
          refine lv_aload_n hx hb dX8_branching_27 rfl (lv_at hl 0 rfl) ?_
          refine va_get (D := D) (ci := 8) (C := RX8) (T := TX8) (N := 27) hx hb hT kwX8 hown hK.1 hP 0 rfl rfl 0 (by decide) (hT _ kf_X8_7) (fun _ h9 => h9) rfl dX8_branching_28 ?_
          refine lv_iconst (v := 1) hx hb dX8_branching_31 (by decide) ?_
          obtain ⟨h_5, hf⟩ := chk_s hf
          refine va_iald hx hb hK.1 hP 1 0 rfl rfl (inb_in h_5) dX8_branching_32 ?_
          refine lv_icmp_ge (tgt := 71) hx hb dX8_branching_33 (by decide) (fun c_6 => ?_) (fun c_6 => ?_)
          · have hf := ite_t c_6 hf
            exact B71 x1 x2 x3 x4 m_endA m_endB m_from m_queue m_ring m_ringSize m_ringNodes m_rings m_path m_pathSize m_old m_lastRing m_bestNodes m_bestInside m_bestFits _ _ _ (lv_sub hl [0, 1, 2, 3, 4] rfl) hP hD hS hf
          · have hf := ite_f c_6 hf
            refine lv_iload hx hb dX8_branching_36 (lv_at hl 4 rfl) ?_
            refine lv_iload_n hx hb dX8_branching_38 rfl (lv_at hl 1 rfl) ?_
            refine lv_iload hx hb dX8_branching_39 (lv_at hl 5 rfl) ?_
            obtain ⟨r_7, hcr_7, hf⟩ := bd1_s hf
            refine backI (runS0 C (c_X8_has l D cA x1 x5 N r_7 hcr_7) cf_X8_has km_X8_166 ⟨rfl, rfl, by decide, by decide⟩ ⟨Nat.zero_le _, Nat.zero_le _⟩ (hP.sub [] rfl) hK hl.1 rfl rfl (Nat.le_of_ble_eq_true rfl) dX8_branching_41) ?_
            refine lv_if_eq (tgt := 61) hx hb dX8_branching_44 (by decide) (fun c_8 => ?_) (fun c_8 => ?_)
            · have hf := ite_t c_8 hf
              exact B61 x1 x2 x3 x5 x4 m_endA m_endB m_from m_queue m_ring m_ringSize m_ringNodes m_rings m_path m_pathSize m_old m_lastRing m_bestNodes m_bestInside m_bestFits _ _ _ (lv_sub hl [0, 1, 2, 3, 5] rfl) hP hD hS hf
            · have hf := ite_f c_8 hf
              refine lv_aload_n hx hb dX8_branching_47 rfl (lv_at hl 0 rfl) ?_
              refine lv_iload hx hb dX8_branching_48 (lv_at hl 5 rfl) ?_
              refine lv_iload_n hx hb dX8_branching_50 rfl (lv_at hl 3 rfl) ?_
              obtain ⟨r_9, hcr_9, hf⟩ := bd1_s hf
              refine backI (runV0 C (c_X8_isAt l D cA a_m m_s m_past m_pasts m_text m_typed m_faceOfSide m_firstSide m_faces m_before m_endA m_endB m_from m_queue m_ring m_ringSize m_ringNodes m_rings m_path m_pathSize m_old m_lastRing m_bestNodes m_bestInside m_bestFits m_far m_xs m_ys x5 x3 N r_9 hcr_9) cf_X8_isAt km_X8_82 ⟨rfl, rfl, by decide, by decide⟩ ⟨Nat.zero_le _, Nat.zero_le _⟩ (va_recv hK.1 hP (ci := 8) (q0 := 0) rfl rfl) (hP.sub [0, 1, 2, 3, 4, 5, 6, 7, 8, 9, 10, 11, 12, 13, 14, 15, 16, 17, 18] rfl) hK hl.1 rfl rfl (Nat.le_of_ble_eq_true rfl) dX8_branching_51) ?_
              refine lv_if_eq (tgt := 61) hx hb dX8_branching_54 (by decide) (fun c_10 => ?_) (fun c_10 => ?_)
              · have hf := ite_t c_10 hf
                exact B61 x1 x2 x3 x5 x4 m_endA m_endB m_from m_queue m_ring m_ringSize m_ringNodes m_rings m_path m_pathSize m_old m_lastRing m_bestNodes m_bestInside m_bestFits _ _ _ (lv_sub hl [0, 1, 2, 3, 5] rfl) hP hD hS hf
              · have hf := ite_f c_10 hf
                refine lv_iconst (v := 1) hx hb dX8_branching_57 (by decide) ?_
                refine lv_goto (tgt := 62) hx hb dX8_branching_58 (by decide) ?_
                exact B62 x1 x2 x3 x5 x4 1 m_endA m_endB m_from m_queue m_ring m_ringSize m_ringNodes m_rings m_path m_pathSize m_old m_lastRing m_bestNodes m_bestInside m_bestFits _ _ _ (lv_sub hl [0, 1, 2, 3, 5] rfl) hP hD hS hf
      intro x1 x2 x3 m_endA m_endB m_from m_queue m_ring m_ringSize m_ringNodes m_rings m_path m_pathSize m_old m_lastRing m_bestNodes m_bestInside m_bestFits H locs ls hl hP hD hS hf
      refine lv_iload_n hx hb dX8_branching_9 rfl (lv_at hl 3 rfl) ?_
      refine lv_aload_n hx hb dX8_branching_10 rfl (lv_at hl 0 rfl) ?_
      refine va_get (D := D) (ci := 8) (C := RX8) (T := TX8) (N := 27) hx hb hT kwX8 hown hK.1 hP 0 rfl rfl 0 (by decide) (hT _ kf_X8_7) (fun _ h9 => h9) rfl dX8_branching_11 ?_
      refine lv_iconst (v := 0) hx hb dX8_branching_14 (by decide) ?_
      obtain ⟨h_3, hf⟩ := chk_s hf
      refine va_iald hx hb hK.1 hP 1 0 rfl rfl (inb_in h_3) dX8_branching_15 ?_
      refine lv_icmp_ge (tgt := 93) hx hb dX8_branching_16 (by decide) (fun c_4 => ?_) (fun c_4 => ?_)
      · have hf := ite_t c_4 hf
        refine lv_iload_n hx hb dX8_branching_93 rfl (lv_at hl 2 rfl) ?_
        have eR := some_i hf
        exact W.iret hx hb hr (fun t ht hW => ⟨⟨x2, (), rfl, fst_e eR, by rw [← eR, ht]; exact hP, by rw [← eR]; exact hD⟩, hS.F ht⟩) hS.2.2 dX8_branching_94 (hlocks := hlk)
      · have hf := ite_f c_4 hf
        refine lv_iconst (v := 0) hx hb dX8_branching_19 (by decide) ?_
        refine lv_istore (lv' := [(4, .int 0), (0, .ref (a_m 0)), (1, .int x1), (2, .int x2), (3, .int x3)]) hx hb dX8_branching_20 hl (by decide) rfl (fun ls hl => ?_)
        refine lv_iconst (v := 0) hx hb dX8_branching_22 (by decide) ?_
        refine lv_istore (lv' := [(5, .int 0), (4, .int 0), (0, .ref (a_m 0)), (1, .int x1), (2, .int x2), (3, .int x3)]) hx hb dX8_branching_23 hl (by decide) rfl (fun ls hl => ?_)
        exact B25 N x1 x2 x3 0 0 m_endA m_endB m_from m_queue m_ring m_ringSize m_ringNodes m_rings m_path m_pathSize m_old m_lastRing m_bestNodes m_bestInside m_bestFits _ _ _ (lv_sub hl [2, 3, 4, 5, 1, 0] rfl) hP hD hS hf
  refine lv_aload_n hx hb dX8_branching_0 rfl (lv_at hl 0 rfl) ?_
  obtain ⟨r_1, hcr_1, hf⟩ := bd1_s hf
  refine backWi (w2 := (wX8 cA a_m m_s m_past m_pasts m_text m_typed m_faceOfSide m_firstSide m_faces m_before r_1.2.1 r_1.2.2.1 r_1.2.2.2.1 r_1.2.2.2.2.1 r_1.2.2.2.2.2.1 r_1.2.2.2.2.2.2.1 r_1.2.2.2.2.2.2.2.1 r_1.2.2.2.2.2.2.2.2.1 r_1.2.2.2.2.2.2.2.2.2.1 r_1.2.2.2.2.2.2.2.2.2.2.1 r_1.2.2.2.2.2.2.2.2.2.2.2.1 r_1.2.2.2.2.2.2.2.2.2.2.2.2.1 r_1.2.2.2.2.2.2.2.2.2.2.2.2.2.1 r_1.2.2.2.2.2.2.2.2.2.2.2.2.2.2.1 r_1.2.2.2.2.2.2.2.2.2.2.2.2.2.2.2 m_far m_xs m_ys)) (runVw C (c_X8_obstructed l D cA a_m m_s m_past m_pasts m_text m_typed m_faceOfSide m_firstSide m_faces m_before m_endA m_endB m_from m_queue m_ring m_ringSize m_ringNodes m_rings m_path m_pathSize m_old m_lastRing m_bestNodes m_bestInside m_bestFits m_far m_xs m_ys _ N r_1 hcr_1) cf_X8_obstructed km_X8_249 ⟨rfl, rfl, by decide, by decide⟩ ⟨Nat.zero_le _, Nat.zero_le _⟩ (va_recv hK.1 hP (ci := 8) (q0 := 0) rfl rfl) (hP.sub [0, 1, 2, 3, 4, 5, 6, 7, 8, 9, 10, 11, 12, 13, 14, 15, 16, 17, 18] rfl) (hD.sub [0, 1, 2, 3, 4, 5, 6, 7, 8, 9, 10, 11, 12, 13, 14, 15, 16, 17, 18] rfl rfl) hK hl.1 rfl rfl (Nat.le_of_ble_eq_true rfl) dX8_branching_1) hP hD hS hA [0, 1, 2, 3, 4, 5, 6, 7, 8, 9, 10, 11, 12, 13, 14, 15, 16, 17, 18] rfl [] rfl rfl (by decide) [0, 1, 2, 3, 4, 5, 6, 7, 8, 9, 10, 11, 12, 13, 14, 15, 16, 17, 18] rfl rfl (fun H locs hP hD hS => ?_)
  refine lv_topi (fun x1_2 ex1_2 => ?_)
  have hf := nm_t ex1_2 hf
  refine lv_istore_n (lv' := [(1, .int x1_2), (0, .ref (a_m 0))]) hx hb dX8_branching_4 rfl hl (by decide) rfl (fun ls hl => ?_)
  refine lv_iconst (v := 0) hx hb dX8_branching_5 (by decide) ?_
  refine lv_istore_n (lv' := [(2, .int 0), (1, .int x1_2), (0, .ref (a_m 0))]) hx hb dX8_branching_6 rfl hl (by decide) rfl (fun ls hl => ?_)
  refine lv_iconst (v := 0) hx hb dX8_branching_7 (by decide) ?_
  refine lv_istore_n (lv' := [(3, .int 0), (2, .int 0), (1, .int x1_2), (0, .ref (a_m 0))]) hx hb dX8_branching_8 rfl hl (by decide) rfl (fun ls hl => ?_)
  exact B9 N x1_2 0 0 r_1.2.1 r_1.2.2.1 r_1.2.2.2.1 r_1.2.2.2.2.1 r_1.2.2.2.2.2.1 r_1.2.2.2.2.2.2.1 r_1.2.2.2.2.2.2.2.1 r_1.2.2.2.2.2.2.2.2.1 r_1.2.2.2.2.2.2.2.2.2.1 r_1.2.2.2.2.2.2.2.2.2.2.1 r_1.2.2.2.2.2.2.2.2.2.2.2.1 r_1.2.2.2.2.2.2.2.2.2.2.2.2.1 r_1.2.2.2.2.2.2.2.2.2.2.2.2.2.1 r_1.2.2.2.2.2.2.2.2.2.2.2.2.2.2.1 r_1.2.2.2.2.2.2.2.2.2.2.2.2.2.2.2 _ _ _ (lv_sub hl [3, 2, 1, 0] rfl) hP hD hS hf
set_option maxRecDepth 100000 in
set_option maxHeartbeats 4000000 in
theorem c_X8_canAdd (l : Launch) (D : va_G) (cA : Nat → ClassId) (a_m : Nat → Nat) (m_s : Nat → Int32) (m_past : Nat → Int32) (m_pasts : Int32) (m_text : Nat → Int32) (m_typed : Int32) (m_faceOfSide : Nat → Int32) (m_firstSide : Nat → Int32) (m_faces : Int32) (m_before : Nat → Int32) (m_endA : Nat → Int32) (m_endB : Nat → Int32) (m_from : Nat → Int32) (m_queue : Nat → Int32) (m_ring : Nat → Int32) (m_ringSize : Nat → Int32) (m_ringNodes : Nat → Int32) (m_rings : Int32) (m_path : Nat → Int32) (m_pathSize : Int32) (m_old : Nat → Int32) (m_lastRing : Int32) (m_bestNodes : Int32) (m_bestInside : Int32) (m_bestFits : Int32) (m_far : Nat → Int32) (m_xs : Nat → UInt32) (m_ys : Nat → UInt32) (p1 : Int32) (p2 : Int32) (sz N : Nat) (ρ : Int32 × (Nat → Int32) × (Nat → Int32) × (Nat → Int32) × (Nat → Int32) × (Nat → Int32) × (Nat → Int32) × (Nat → Int32) × Int32 × (Nat → Int32) × Int32 × (Nat → Int32) × Int32 × Int32 × Int32 × Int32) (hf : f_X8_canAdd N m_s m_endA m_endB m_from m_queue m_ring m_ringSize m_ringNodes m_rings m_path m_pathSize m_old m_lastRing m_bestNodes m_bestInside m_bestFits p1 p2 = some ρ) : Met l yX8_canAdd (Cond.code yX8_canAdd cX8_canAdd 3 (Option.some Jvm.ClassFile.FieldType.int) :: lw_g) ({ frames := 5, cells := 0, slots := 0, locals := 132 } : Room) (PcW D (tyA cA) (wX8 cA a_m m_s m_past m_pasts m_text m_typed m_faceOfSide m_firstSide m_faces m_before m_endA m_endB m_from m_queue m_ring m_ringSize m_ringNodes m_rings m_path m_pathSize m_old m_lastRing m_bestNodes m_bestInside m_bestFits m_far m_xs m_ys) sz [.ref (a_m 0), .int p1, .int p2]) (va_Qi (fun r (_ : Unit) => r = ρ.1) (fun _ t => va_P D vwCl (wX8 cA a_m m_s m_past m_pasts m_text m_typed m_faceOfSide m_firstSide m_faces m_before ρ.2.1 ρ.2.2.1 ρ.2.2.2.1 ρ.2.2.2.2.1 ρ.2.2.2.2.2.1 ρ.2.2.2.2.2.2.1 ρ.2.2.2.2.2.2.2.1 ρ.2.2.2.2.2.2.2.2.1 ρ.2.2.2.2.2.2.2.2.2.1 ρ.2.2.2.2.2.2.2.2.2.2.1 ρ.2.2.2.2.2.2.2.2.2.2.2.1 ρ.2.2.2.2.2.2.2.2.2.2.2.2.1 ρ.2.2.2.2.2.2.2.2.2.2.2.2.2.1 ρ.2.2.2.2.2.2.2.2.2.2.2.2.2.2.1 ρ.2.2.2.2.2.2.2.2.2.2.2.2.2.2.2 m_far m_xs m_ys) t.heap ∧ va_D (va_A (wX8 cA a_m m_s m_past m_pasts m_text m_typed m_faceOfSide m_firstSide m_faces m_before m_endA m_endB m_from m_queue m_ring m_ringSize m_ringNodes m_rings m_path m_pathSize m_old m_lastRing m_bestNodes m_bestInside m_bestFits m_far m_xs m_ys) sz) (wX8 cA a_m m_s m_past m_pasts m_text m_typed m_faceOfSide m_firstSide m_faces m_before ρ.2.1 ρ.2.2.1 ρ.2.2.2.1 ρ.2.2.2.2.1 ρ.2.2.2.2.2.1 ρ.2.2.2.2.2.2.1 ρ.2.2.2.2.2.2.2.1 ρ.2.2.2.2.2.2.2.2.1 ρ.2.2.2.2.2.2.2.2.2.1 ρ.2.2.2.2.2.2.2.2.2.2.1 ρ.2.2.2.2.2.2.2.2.2.2.2.1 ρ.2.2.2.2.2.2.2.2.2.2.2.2.1 ρ.2.2.2.2.2.2.2.2.2.2.2.2.2.1 ρ.2.2.2.2.2.2.2.2.2.2.2.2.2.2.1 ρ.2.2.2.2.2.2.2.2.2.2.2.2.2.2.2 m_far m_xs m_ys)) (va_A (wX8 cA a_m m_s m_past m_pasts m_text m_typed m_faceOfSide m_firstSide m_faces m_before m_endA m_endB m_from m_queue m_ring m_ringSize m_ringNodes m_rings m_path m_pathSize m_old m_lastRing m_bestNodes m_bestInside m_bestFits m_far m_xs m_ys) sz)) 0 0 (va_A (wX8 cA a_m m_s m_past m_pasts m_text m_typed m_faceOfSide m_firstSide m_faces m_before m_endA m_endB m_from m_queue m_ring m_ringSize m_ringNodes m_rings m_path m_pathSize m_old m_lastRing m_bestNodes m_bestInside m_bestFits m_far m_xs m_ys) sz) := by
  refine mkW (QQ := fun A => va_Qi (fun r (_ : Unit) => r = ρ.1) (fun _ t => va_P D vwCl (wX8 cA a_m m_s m_past m_pasts m_text m_typed m_faceOfSide m_firstSide m_faces m_before ρ.2.1 ρ.2.2.1 ρ.2.2.2.1 ρ.2.2.2.2.1 ρ.2.2.2.2.2.1 ρ.2.2.2.2.2.2.1 ρ.2.2.2.2.2.2.2.1 ρ.2.2.2.2.2.2.2.2.1 ρ.2.2.2.2.2.2.2.2.2.1 ρ.2.2.2.2.2.2.2.2.2.2.1 ρ.2.2.2.2.2.2.2.2.2.2.2.1 ρ.2.2.2.2.2.2.2.2.2.2.2.2.1 ρ.2.2.2.2.2.2.2.2.2.2.2.2.2.1 ρ.2.2.2.2.2.2.2.2.2.2.2.2.2.2.1 ρ.2.2.2.2.2.2.2.2.2.2.2.2.2.2.2 m_far m_xs m_ys) t.heap ∧ va_D A (wX8 cA a_m m_s m_past m_pasts m_text m_typed m_faceOfSide m_firstSide m_faces m_before ρ.2.1 ρ.2.2.1 ρ.2.2.2.1 ρ.2.2.2.2.1 ρ.2.2.2.2.2.1 ρ.2.2.2.2.2.2.1 ρ.2.2.2.2.2.2.2.1 ρ.2.2.2.2.2.2.2.2.1 ρ.2.2.2.2.2.2.2.2.2.1 ρ.2.2.2.2.2.2.2.2.2.2.1 ρ.2.2.2.2.2.2.2.2.2.2.2.1 ρ.2.2.2.2.2.2.2.2.2.2.2.2.1 ρ.2.2.2.2.2.2.2.2.2.2.2.2.2.1 ρ.2.2.2.2.2.2.2.2.2.2.2.2.2.2.1 ρ.2.2.2.2.2.2.2.2.2.2.2.2.2.2.2 m_far m_xs m_ys)) A) (by decide) (Nat.le_of_ble_eq_true rfl) fun p e s m below meth c ls A C hl hP hK hD hA hS => ?_
  obtain ⟨hx, hb, hml, hown, hT, hr, hlk⟩ := id C
  have hl : lv_has ls 3 [(0, .ref (a_m 0)), (1, .int p1), (2, .int p2)] := hl
  refine lv_aload_n hx hb dX8_canAdd_0 rfl (lv_at hl 0 rfl) ?_
  refine lv_iload_n hx hb dX8_canAdd_1 rfl (lv_at hl 1 rfl) ?_
  refine lv_iload_n hx hb dX8_canAdd_2 rfl (lv_at hl 2 rfl) ?_
  obtain ⟨r_1, hcr_1, hf⟩ := bd1_s hf
  refine backI (runV0 C (c_X8_areNodes l D cA a_m m_s m_past m_pasts m_text m_typed m_faceOfSide m_firstSide m_faces m_before m_endA m_endB m_from m_queue m_ring m_ringSize m_ringNodes m_rings m_path m_pathSize m_old m_lastRing m_bestNodes m_bestInside m_bestFits m_far m_xs m_ys p1 p2 N r_1 hcr_1) cf_X8_areNodes km_X8_100 ⟨rfl, rfl, by decide, by decide⟩ ⟨Nat.zero_le _, Nat.zero_le _⟩ (va_recv hK.1 hP (ci := 8) (q0 := 0) rfl rfl) (hP.sub [0, 1, 2, 3, 4, 5, 6, 7, 8, 9, 10, 11, 12, 13, 14, 15, 16, 17, 18] rfl) hK hl.1 rfl rfl (Nat.le_of_ble_eq_true rfl) dX8_canAdd_3) ?_
  refine lv_if_ne (tgt := 11) hx hb dX8_canAdd_6 (by decide) (fun c_2 => ?_) (fun c_2 => ?_)
  · have hf := ite_t c_2 hf
    refine lv_aload_n hx hb dX8_canAdd_11 rfl (lv_at hl 0 rfl) ?_
    refine lv_iload_n hx hb dX8_canAdd_12 rfl (lv_at hl 1 rfl) ?_
    refine lv_iload_n hx hb dX8_canAdd_13 rfl (lv_at hl 2 rfl) ?_
    obtain ⟨r_3, hcr_3, hf⟩ := bd1_s hf
    refine backI (runV0 C (c_X8_between l D cA a_m m_s m_past m_pasts m_text m_typed m_faceOfSide m_firstSide m_faces m_before m_endA m_endB m_from m_queue m_ring m_ringSize m_ringNodes m_rings m_path m_pathSize m_old m_lastRing m_bestNodes m_bestInside m_bestFits m_far m_xs m_ys p1 p2 N r_3 hcr_3) cf_X8_between km_X8_103 ⟨rfl, rfl, by decide, by decide⟩ ⟨Nat.zero_le _, Nat.zero_le _⟩ (va_recv hK.1 hP (ci := 8) (q0 := 0) rfl rfl) (hP.sub [0, 1, 2, 3, 4, 5, 6, 7, 8, 9, 10, 11, 12, 13, 14, 15, 16, 17, 18] rfl) hK hl.1 rfl rfl (Nat.le_of_ble_eq_true rfl) dX8_canAdd_14) ?_
    refine lv_bipush (v := (-9)) hx hb dX8_canAdd_17 (by decide) ?_
    refine lv_icmp_eq (tgt := 25) hx hb dX8_canAdd_19 (by decide) (fun c_4 => ?_) (fun c_4 => ?_)
    · have hf := ite_t c_4 hf
      refine lv_aload_n hx hb dX8_canAdd_25 rfl (lv_at hl 0 rfl) ?_
      refine lv_iload_n hx hb dX8_canAdd_26 rfl (lv_at hl 1 rfl) ?_
      refine lv_iload_n hx hb dX8_canAdd_27 rfl (lv_at hl 2 rfl) ?_
      obtain ⟨r_5, hcr_5, hf⟩ := bd1_s hf
      refine backWv (w2 := (wX8 cA a_m m_s m_past m_pasts m_text m_typed m_faceOfSide m_firstSide m_faces m_before r_5.1 r_5.2 m_from m_queue m_ring m_ringSize m_ringNodes m_rings m_path m_pathSize m_old m_lastRing m_bestNodes m_bestInside m_bestFits m_far m_xs m_ys)) (runVw C (c_X8_laysEnds l D cA a_m m_s m_past m_pasts m_text m_typed m_faceOfSide m_firstSide m_faces m_before m_endA m_endB m_from m_queue m_ring m_ringSize m_ringNodes m_rings m_path m_pathSize m_old m_lastRing m_bestNodes m_bestInside m_bestFits m_far m_xs m_ys p1 p2 _ N r_5 hcr_5) cf_X8_laysEnds km_X8_240 ⟨rfl, rfl, by decide, by decide⟩ ⟨Nat.zero_le _, Nat.zero_le _⟩ (va_recv hK.1 hP (ci := 8) (q0 := 0) rfl rfl) (hP.sub [0, 1, 2, 3, 4, 5, 6, 7, 8, 9, 10, 11, 12, 13, 14, 15, 16, 17, 18] rfl) (hD.sub [0, 1, 2, 3, 4, 5, 6, 7, 8, 9, 10, 11, 12, 13, 14, 15, 16, 17, 18] rfl rfl) hK hl.1 rfl rfl (Nat.le_of_ble_eq_true rfl) dX8_canAdd_28) hP hD hS hA [0, 1, 2, 3, 4, 5, 6, 7, 8, 9, 10, 11, 12, 13, 14, 15, 16, 17, 18] rfl [] rfl rfl (by decide) [0, 1, 2, 3, 4, 5, 6, 7, 8, 9, 10, 11, 12, 13, 14, 15, 16, 17, 18] rfl rfl (fun H locs hP hD hS => ?_)
      refine lv_aload_n hx hb dX8_canAdd_31 rfl (lv_at hl 0 rfl) ?_
      refine lv_iconst (v := 1) hx hb dX8_canAdd_32 (by decide) ?_
      refine lv_aload_n hx hb dX8_canAdd_33 rfl (lv_at hl 0 rfl) ?_
      refine va_get (D := D) (ci := 8) (C := RX8) (T := TX8) (N := 27) hx hb hT kwX8 hown hK.1 hP 0 rfl rfl 0 (by decide) (hT _ kf_X8_7) (fun _ h9 => h9) rfl dX8_canAdd_34 ?_
      refine lv_iconst (v := 1) hx hb dX8_canAdd_37 (by decide) ?_
      obtain ⟨h_6, hf⟩ := chk_s hf
      refine va_iald hx hb hK.1 hP 1 0 rfl rfl (inb_in h_6) dX8_canAdd_38 ?_
      refine lv_iconst (v := 1) hx hb dX8_canAdd_39 (by decide) ?_
      refine lv_iadd hx hb dX8_canAdd_40 ?_
      refine lv_ishl hx hb dX8_canAdd_41 ?_
      refine lv_iconst (v := 1) hx hb dX8_canAdd_42 (by decide) ?_
      refine lv_isub hx hb dX8_canAdd_43 ?_
      obtain ⟨r_7, hcr_7, hf⟩ := bd1_s hf
      refine backWi (w2 := (wX8 cA a_m m_s m_past m_pasts m_text m_typed m_faceOfSide m_firstSide m_faces m_before r_5.1 r_5.2 r_7.2.1 r_7.2.2.1 r_7.2.2.2.1 r_7.2.2.2.2.1 r_7.2.2.2.2.2.1 r_7.2.2.2.2.2.2.1 r_7.2.2.2.2.2.2.2.1 r_7.2.2.2.2.2.2.2.2.1 r_7.2.2.2.2.2.2.2.2.2.1 r_7.2.2.2.2.2.2.2.2.2.2.1 r_7.2.2.2.2.2.2.2.2.2.2.2.1 r_7.2.2.2.2.2.2.2.2.2.2.2.2.1 r_7.2.2.2.2.2.2.2.2.2.2.2.2.2 m_far m_xs m_ys)) (runVw C (c_X8_planar l D cA a_m m_s m_past m_pasts m_text m_typed m_faceOfSide m_firstSide m_faces m_before r_5.1 r_5.2 m_from m_queue m_ring m_ringSize m_ringNodes m_rings m_path m_pathSize m_old m_lastRing m_bestNodes m_bestInside m_bestFits m_far m_xs m_ys (((1 : Int32) <<< (((m_s (1 : Int32).toNatClampNeg) + 1) &&& 31)) - 1) _ N r_7 hcr_7) cf_X8_planar km_X8_246 ⟨rfl, rfl, by decide, by decide⟩ ⟨Nat.zero_le _, Nat.zero_le _⟩ (va_recv hK.1 hP (ci := 8) (q0 := 0) rfl rfl) (hP.sub [0, 1, 2, 3, 4, 5, 6, 7, 8, 9, 10, 11, 12, 13, 14, 15, 16, 17, 18] rfl) (hD.sub [0, 1, 2, 3, 4, 5, 6, 7, 8, 9, 10, 11, 12, 13, 14, 15, 16, 17, 18] rfl rfl) hK hl.1 rfl rfl (Nat.le_of_ble_eq_true rfl) dX8_canAdd_44) hP hD hS hA [0, 1, 2, 3, 4, 5, 6, 7, 8, 9, 10, 11, 12, 13, 14, 15, 16, 17, 18] rfl [] rfl rfl (by decide) [0, 1, 2, 3, 4, 5, 6, 7, 8, 9, 10, 11, 12, 13, 14, 15, 16, 17, 18] rfl rfl (fun H locs hP hD hS => ?_)
      refine lv_if_eq (tgt := 54) hx hb dX8_canAdd_47 (by decide) (fun c_8 => ?_) (fun c_8 => ?_)
      · have hf := ite_t c_8 hf
        refine lv_iconst (v := 0) hx hb dX8_canAdd_54 (by decide) ?_
        have eR := some_i hf
        exact W.iret hx hb hr (fun t ht hW => ⟨⟨0, (), rfl, fst_e eR, by rw [← eR, ht]; exact hP, by rw [← eR]; exact hD⟩, hS.F ht⟩) hS.2.2 dX8_canAdd_55 (hlocks := hlk)
      · have hf := ite_f c_8 hf
        refine lv_iconst (v := 1) hx hb dX8_canAdd_50 (by decide) ?_
        refine lv_goto (tgt := 55) hx hb dX8_canAdd_51 (by decide) ?_
        have eR := some_i hf
        exact W.iret hx hb hr (fun t ht hW => ⟨⟨1, (), rfl, fst_e eR, by rw [← eR, ht]; exact hP, by rw [← eR]; exact hD⟩, hS.F ht⟩) hS.2.2 dX8_canAdd_55 (hlocks := hlk)
    · have hf := ite_f c_4 hf
      refine lv_bipush (v := (-2)) hx hb dX8_canAdd_22 (by decide) ?_
      have eR := some_i hf
      exact W.iret hx hb hr (fun t ht hW => ⟨⟨(-2), (), rfl, fst_e eR, by rw [← eR, ht]; exact hP, by rw [← eR]; exact hD⟩, hS.F ht⟩) hS.2.2 dX8_canAdd_24 (hlocks := hlk)
  · have hf := ite_fn c_2 hf
    refine lv_iconst (v := (-1)) hx hb dX8_canAdd_9 (by decide) ?_
    have eR := some_i hf
    exact W.iret hx hb hr (fun t ht hW => ⟨⟨(-1), (), rfl, fst_e eR, by rw [← eR, ht]; exact hP, by rw [← eR]; exact hD⟩, hS.F ht⟩) hS.2.2 dX8_canAdd_10 (hlocks := hlk)
set_option maxRecDepth 100000 in
set_option maxHeartbeats 4000000 in
theorem c_X8_clearText (l : Launch) (D : va_G) (cA : Nat → ClassId) (a_m : Nat → Nat) (m_s : Nat → Int32) (m_past : Nat → Int32) (m_pasts : Int32) (m_text : Nat → Int32) (m_typed : Int32) (m_faceOfSide : Nat → Int32) (m_firstSide : Nat → Int32) (m_faces : Int32) (m_before : Nat → Int32) (m_endA : Nat → Int32) (m_endB : Nat → Int32) (m_from : Nat → Int32) (m_queue : Nat → Int32) (m_ring : Nat → Int32) (m_ringSize : Nat → Int32) (m_ringNodes : Nat → Int32) (m_rings : Int32) (m_path : Nat → Int32) (m_pathSize : Int32) (m_old : Nat → Int32) (m_lastRing : Int32) (m_bestNodes : Int32) (m_bestInside : Int32) (m_bestFits : Int32) (m_far : Nat → Int32) (m_xs : Nat → UInt32) (m_ys : Nat → UInt32) (sz N : Nat) (ρ : Int32 × Int32) (hf : f_X8_clearText N m_typed = some ρ) : Met l yX8_clearText (Cond.code yX8_clearText cX8_clearText 2 (Option.some Jvm.ClassFile.FieldType.int) :: lw_g) ({ frames := 0, cells := 0, slots := 0, locals := 0 } : Room) (PcW D (tyA cA) (wX8 cA a_m m_s m_past m_pasts m_text m_typed m_faceOfSide m_firstSide m_faces m_before m_endA m_endB m_from m_queue m_ring m_ringSize m_ringNodes m_rings m_path m_pathSize m_old m_lastRing m_bestNodes m_bestInside m_bestFits m_far m_xs m_ys) sz [.ref (a_m 0)]) (va_Qi (fun r (_ : Unit) => r = ρ.1) (fun _ t => va_P D vwCl (wX8 cA a_m m_s m_past m_pasts m_text ρ.2 m_faceOfSide m_firstSide m_faces m_before m_endA m_endB m_from m_queue m_ring m_ringSize m_ringNodes m_rings m_path m_pathSize m_old m_lastRing m_bestNodes m_bestInside m_bestFits m_far m_xs m_ys) t.heap ∧ va_D (va_A (wX8 cA a_m m_s m_past m_pasts m_text m_typed m_faceOfSide m_firstSide m_faces m_before m_endA m_endB m_from m_queue m_ring m_ringSize m_ringNodes m_rings m_path m_pathSize m_old m_lastRing m_bestNodes m_bestInside m_bestFits m_far m_xs m_ys) sz) (wX8 cA a_m m_s m_past m_pasts m_text ρ.2 m_faceOfSide m_firstSide m_faces m_before m_endA m_endB m_from m_queue m_ring m_ringSize m_ringNodes m_rings m_path m_pathSize m_old m_lastRing m_bestNodes m_bestInside m_bestFits m_far m_xs m_ys)) (va_A (wX8 cA a_m m_s m_past m_pasts m_text m_typed m_faceOfSide m_firstSide m_faces m_before m_endA m_endB m_from m_queue m_ring m_ringSize m_ringNodes m_rings m_path m_pathSize m_old m_lastRing m_bestNodes m_bestInside m_bestFits m_far m_xs m_ys) sz)) 0 0 (va_A (wX8 cA a_m m_s m_past m_pasts m_text m_typed m_faceOfSide m_firstSide m_faces m_before m_endA m_endB m_from m_queue m_ring m_ringSize m_ringNodes m_rings m_path m_pathSize m_old m_lastRing m_bestNodes m_bestInside m_bestFits m_far m_xs m_ys) sz) := by
  refine mkW (QQ := fun A => va_Qi (fun r (_ : Unit) => r = ρ.1) (fun _ t => va_P D vwCl (wX8 cA a_m m_s m_past m_pasts m_text ρ.2 m_faceOfSide m_firstSide m_faces m_before m_endA m_endB m_from m_queue m_ring m_ringSize m_ringNodes m_rings m_path m_pathSize m_old m_lastRing m_bestNodes m_bestInside m_bestFits m_far m_xs m_ys) t.heap ∧ va_D A (wX8 cA a_m m_s m_past m_pasts m_text ρ.2 m_faceOfSide m_firstSide m_faces m_before m_endA m_endB m_from m_queue m_ring m_ringSize m_ringNodes m_rings m_path m_pathSize m_old m_lastRing m_bestNodes m_bestInside m_bestFits m_far m_xs m_ys)) A) (by decide) (Nat.le_of_ble_eq_true rfl) fun p e s m below meth c ls A C hl hP hK hD hA hS => ?_
  obtain ⟨hx, hb, hml, hown, hT, hr, hlk⟩ := id C
  have hl : lv_has ls 2 [(0, .ref (a_m 0))] := hl
  refine lv_aload_n hx hb dX8_clearText_0 rfl (lv_at hl 0 rfl) ?_
  refine va_get (D := D) (ci := 8) (C := RX8) (T := TX8) (N := 27) hx hb hT kwX8 hown hK.1 hP 0 rfl rfl 4 (by decide) (hT _ kf_X8_149) (fun _ h9 => h9) rfl dX8_clearText_1 ?_
  refine lv_istore_n (lv' := [(1, .int m_typed), (0, .ref (a_m 0))]) hx hb dX8_clearText_4 rfl hl (by decide) rfl (fun ls hl => ?_)
  refine lv_aload_n hx hb dX8_clearText_5 rfl (lv_at hl 1 rfl) ?_
  refine lv_iconst (v := 0) hx hb dX8_clearText_6 (by decide) ?_
  refine va_put (D := D) (ci := 8) (v := .int 0) (ty := .int) (C := RX8) (T := TX8) (N := 27) hx hb hT kwX8 tyX8 tyX8_ok nmX8 hown hK.1 hP hD hS 0 rfl rfl 4 (by decide) (hT _ kf_X8_149) (fun _ h9 => h9) rfl (by decide +kernel) rfl rfl (Nat.le_of_ble_eq_true rfl) dX8_clearText_7 (fun H locs hP hD hS => ?_)
  have hP : va_P D vwCl (wX8 cA a_m m_s m_past m_pasts m_text 0 m_faceOfSide m_firstSide m_faces m_before m_endA m_endB m_from m_queue m_ring m_ringSize m_ringNodes m_rings m_path m_pathSize m_old m_lastRing m_bestNodes m_bestInside m_bestFits m_far m_xs m_ys) H := hP
  have hD : va_D A (wX8 cA a_m m_s m_past m_pasts m_text 0 m_faceOfSide m_firstSide m_faces m_before m_endA m_endB m_from m_queue m_ring m_ringSize m_ringNodes m_rings m_path m_pathSize m_old m_lastRing m_bestNodes m_bestInside m_bestFits m_far m_xs m_ys) := hD
  refine lv_iload_n hx hb dX8_clearText_10 rfl (lv_at hl 0 rfl) ?_
  have eR := some_i hf
  exact W.iret hx hb hr (fun t ht hW => ⟨⟨m_typed, (), rfl, fst_e eR, by rw [← eR, ht]; exact hP, by rw [← eR]; exact hD⟩, hS.F ht⟩) hS.2.2 dX8_clearText_11 (hlocks := hlk)
set_option maxRecDepth 100000 in
set_option maxHeartbeats 4000000 in
theorem c_X8_commonFace (l : Launch) (D : va_G) (cA : Nat → ClassId) (a_m : Nat → Nat) (m_s : Nat → Int32) (m_past : Nat → Int32) (m_pasts : Int32) (m_text : Nat → Int32) (m_typed : Int32) (m_faceOfSide : Nat → Int32) (m_firstSide : Nat → Int32) (m_faces : Int32) (m_before : Nat → Int32) (m_endA : Nat → Int32) (m_endB : Nat → Int32) (m_from : Nat → Int32) (m_queue : Nat → Int32) (m_ring : Nat → Int32) (m_ringSize : Nat → Int32) (m_ringNodes : Nat → Int32) (m_rings : Int32) (m_path : Nat → Int32) (m_pathSize : Int32) (m_old : Nat → Int32) (m_lastRing : Int32) (m_bestNodes : Int32) (m_bestInside : Int32) (m_bestFits : Int32) (m_far : Nat → Int32) (m_xs : Nat → UInt32) (m_ys : Nat → UInt32) (p1 : Int32) (p2 : Int32) (sz N : Nat) (ρ : Int32 × (Nat → Int32) × (Nat → Int32) × Int32) (hf : f_X8_commonFace N m_s m_faceOfSide m_firstSide m_faces p1 p2 = some ρ) : Met l yX8_commonFace (Cond.code yX8_commonFace cX8_commonFace 4 (Option.some Jvm.ClassFile.FieldType.int) :: lw_g) ({ frames := 4, cells := 0, slots := 0, locals := 91 } : Room) (PcW D (tyA cA) (wX8 cA a_m m_s m_past m_pasts m_text m_typed m_faceOfSide m_firstSide m_faces m_before m_endA m_endB m_from m_queue m_ring m_ringSize m_ringNodes m_rings m_path m_pathSize m_old m_lastRing m_bestNodes m_bestInside m_bestFits m_far m_xs m_ys) sz [.ref (a_m 0), .int p1, .int p2]) (va_Qi (fun r (_ : Unit) => r = ρ.1) (fun _ t => va_P D vwCl (wX8 cA a_m m_s m_past m_pasts m_text m_typed ρ.2.1 ρ.2.2.1 ρ.2.2.2 m_before m_endA m_endB m_from m_queue m_ring m_ringSize m_ringNodes m_rings m_path m_pathSize m_old m_lastRing m_bestNodes m_bestInside m_bestFits m_far m_xs m_ys) t.heap ∧ va_D (va_A (wX8 cA a_m m_s m_past m_pasts m_text m_typed m_faceOfSide m_firstSide m_faces m_before m_endA m_endB m_from m_queue m_ring m_ringSize m_ringNodes m_rings m_path m_pathSize m_old m_lastRing m_bestNodes m_bestInside m_bestFits m_far m_xs m_ys) sz) (wX8 cA a_m m_s m_past m_pasts m_text m_typed ρ.2.1 ρ.2.2.1 ρ.2.2.2 m_before m_endA m_endB m_from m_queue m_ring m_ringSize m_ringNodes m_rings m_path m_pathSize m_old m_lastRing m_bestNodes m_bestInside m_bestFits m_far m_xs m_ys)) (va_A (wX8 cA a_m m_s m_past m_pasts m_text m_typed m_faceOfSide m_firstSide m_faces m_before m_endA m_endB m_from m_queue m_ring m_ringSize m_ringNodes m_rings m_path m_pathSize m_old m_lastRing m_bestNodes m_bestInside m_bestFits m_far m_xs m_ys) sz)) 0 0 (va_A (wX8 cA a_m m_s m_past m_pasts m_text m_typed m_faceOfSide m_firstSide m_faces m_before m_endA m_endB m_from m_queue m_ring m_ringSize m_ringNodes m_rings m_path m_pathSize m_old m_lastRing m_bestNodes m_bestInside m_bestFits m_far m_xs m_ys) sz) := by
  refine mkW (QQ := fun A => va_Qi (fun r (_ : Unit) => r = ρ.1) (fun _ t => va_P D vwCl (wX8 cA a_m m_s m_past m_pasts m_text m_typed ρ.2.1 ρ.2.2.1 ρ.2.2.2 m_before m_endA m_endB m_from m_queue m_ring m_ringSize m_ringNodes m_rings m_path m_pathSize m_old m_lastRing m_bestNodes m_bestInside m_bestFits m_far m_xs m_ys) t.heap ∧ va_D A (wX8 cA a_m m_s m_past m_pasts m_text m_typed ρ.2.1 ρ.2.2.1 ρ.2.2.2 m_before m_endA m_endB m_from m_queue m_ring m_ringSize m_ringNodes m_rings m_path m_pathSize m_old m_lastRing m_bestNodes m_bestInside m_bestFits m_far m_xs m_ys)) A) (by decide) (Nat.le_of_ble_eq_true rfl) fun p e s m below meth c ls A C hl hP hK hD hA hS => ?_
  obtain ⟨hx, hb, hml, hown, hT, hr, hlk⟩ := id C
  have hl : lv_has ls 4 [(0, .ref (a_m 0)), (1, .int p1), (2, .int p2)] := hl
  have B17 : ∀ (n17 : Nat), ∀ (x1 : Int32) (x2 : Int32) (x3 : Int32) (m_faceOfSide : Nat → Int32) (m_firstSide : Nat → Int32) (m_faces : Int32) (H : Heap) (locs : List Loc) (ls : Array Slot), lv_has ls 4 [(0, .ref (a_m 0)), (1, .int x1), (2, .int x2), (3, .int x3)] → va_P D vwCl (wX8 cA a_m m_s m_past m_pasts m_text m_typed m_faceOfSide m_firstSide m_faces m_before m_endA m_endB m_from m_queue m_ring m_ringSize m_ringNodes m_rings m_path m_pathSize m_old m_lastRing m_bestNodes m_bestInside m_bestFits m_far m_xs m_ys) H → va_D A (wX8 cA a_m m_s m_past m_pasts m_text m_typed m_faceOfSide m_firstSide m_faces m_before m_endA m_endB m_from m_queue m_ring m_ringSize m_ringNodes m_rings m_path m_pathSize m_old m_lastRing m_bestNodes m_bestInside m_bestFits m_far m_xs m_ys) → va_S A s.heap H locs → f_X8_commonFace_b17 N m_s n17 x1 x2 x3 m_faceOfSide m_firstSide m_faces = some ρ → W p l e ({ frames := 4, cells := 0, slots := 0, locals := 91 } : Room) s m ([.ref (a_m 0), .int p1, .int p2] : List Value).toArray below meth c H locs 0 0 (MQ below (va_Qi (fun r (_ : Unit) => r = ρ.1) (fun _ t => va_P D vwCl (wX8 cA a_m m_s m_past m_pasts m_text m_typed ρ.2.1 ρ.2.2.1 ρ.2.2.2 m_before m_endA m_endB m_from m_queue m_ring m_ringSize m_ringNodes m_rings m_path m_pathSize m_old m_lastRing m_bestNodes m_bestInside m_bestFits m_far m_xs m_ys) t.heap ∧ va_D A (wX8 cA a_m m_s m_past m_pasts m_text m_typed ρ.2.1 ρ.2.2.1 ρ.2.2.2 m_before m_endA m_endB m_from m_queue m_ring m_ringSize m_ringNodes m_rings m_path m_pathSize m_old m_lastRing m_bestNodes m_bestInside m_bestFits m_far m_xs m_ys)) A) ([.ref (a_m 0), .int p1, .int p2] : List Value).toArray s 0 0 A) (F0 m 17 ls []) := by
    intro n17
    induction n17 with
    | zero =>
      intro x1 x2 x3 m_faceOfSide m_firstSide m_faces H locs ls hl hP hD hS hf
      cases (show (none : Option (Int32 × (Nat → Int32) × (Nat → Int32) × Int32)) = some ρ from hf)
    | succ n17 ih17 =>
      intro x1 x2 x3 m_faceOfSide m_firstSide m_faces H locs ls hl hP hD hS hf
      refine lv_iload_n hx hb dX8_commonFace_17 rfl (lv_at hl 3 rfl) ?_
      refine lv_aload_n hx hb dX8_commonFace_18 rfl (lv_at hl 0 rfl) ?_
      refine va_get (D := D) (ci := 8) (C := RX8) (T := TX8) (N := 27) hx hb hT kwX8 hown hK.1 hP 0 rfl rfl 7 (by decide) (hT _ kf_X8_120) (fun _ h9 => h9) rfl dX8_commonFace_19 ?_
      refine lv_icmp_ge (tgt := 54) hx hb dX8_commonFace_22 (by decide) (fun c_4 => ?_) (fun c_4 => ?_)
      · have hf := ite_t c_4 hf
        refine lv_bipush (v := (-9)) hx hb dX8_commonFace_54 (by decide) ?_
        have eR := some_i hf
        exact W.iret hx hb hr (fun t ht hW => ⟨⟨(-9), (), rfl, fst_e eR, by rw [← eR, ht]; exact hP, by rw [← eR]; exact hD⟩, hS.F ht⟩) hS.2.2 dX8_commonFace_56 (hlocks := hlk)
      · have hf := ite_f c_4 hf
        refine lv_aload_n hx hb dX8_commonFace_25 rfl (lv_at hl 0 rfl) ?_
        refine lv_iload_n hx hb dX8_commonFace_26 rfl (lv_at hl 3 rfl) ?_
        obtain ⟨r_5, hcr_5, hf⟩ := bd1_s hf
        refine backI (runV0 C (c_X8_nodesOn l D cA a_m m_s m_past m_pasts m_text m_typed m_faceOfSide m_firstSide m_faces m_before m_endA m_endB m_from m_queue m_ring m_ringSize m_ringNodes m_rings m_path m_pathSize m_old m_lastRing m_bestNodes m_bestInside m_bestFits m_far m_xs m_ys x3 N r_5 hcr_5) cf_X8_nodesOn km_X8_140 ⟨rfl, rfl, by decide, by decide⟩ ⟨Nat.zero_le _, Nat.zero_le _⟩ (va_recv hK.1 hP (ci := 8) (q0 := 0) rfl rfl) (hP.sub [0, 1, 2, 3, 4, 5, 6, 7, 8, 9, 10, 11, 12, 13, 14, 15, 16, 17, 18] rfl) hK hl.1 rfl rfl (Nat.le_of_ble_eq_true rfl) dX8_commonFace_27) ?_
        refine lv_iload_n hx hb dX8_commonFace_30 rfl (lv_at hl 1 rfl) ?_
        refine lv_ishr hx hb dX8_commonFace_31 ?_
        refine lv_aload_n hx hb dX8_commonFace_32 rfl (lv_at hl 0 rfl) ?_
        refine lv_iload_n hx hb dX8_commonFace_33 rfl (lv_at hl 3 rfl) ?_
        obtain ⟨r_6, hcr_6, hf⟩ := bd1_s hf
        refine backI (runV0 C (c_X8_nodesOn l D cA a_m m_s m_past m_pasts m_text m_typed m_faceOfSide m_firstSide m_faces m_before m_endA m_endB m_from m_queue m_ring m_ringSize m_ringNodes m_rings m_path m_pathSize m_old m_lastRing m_bestNodes m_bestInside m_bestFits m_far m_xs m_ys x3 N r_6 hcr_6) cf_X8_nodesOn km_X8_140 ⟨rfl, rfl, by decide, by decide⟩ ⟨Nat.zero_le _, Nat.zero_le _⟩ (va_recv hK.1 hP (ci := 8) (q0 := 0) rfl rfl) (hP.sub [0, 1, 2, 3, 4, 5, 6, 7, 8, 9, 10, 11, 12, 13, 14, 15, 16, 17, 18] rfl) hK hl.1 rfl rfl (Nat.le_of_ble_eq_true rfl) dX8_commonFace_34) ?_
        refine lv_iload_n hx hb dX8_commonFace_37 rfl (lv_at hl 2 rfl) ?_
        refine lv_ishr hx hb dX8_commonFace_38 ?_
        refine lv_iand hx hb dX8_commonFace_39 ?_
        refine lv_iconst (v := 1) hx hb dX8_commonFace_40 (by decide) ?_
        refine lv_iand hx hb dX8_commonFace_41 ?_
        refine lv_iconst (v := 1) hx hb dX8_commonFace_42 (by decide) ?_
        refine lv_icmp_ne (tgt := 48) hx hb dX8_commonFace_43 (by decide) (fun c_7 => ?_) (fun c_7 => ?_)
        · have hf := ite_t c_7 hf
          refine lv_iinc (v := (x3 + 1)) (lv' := [(3, .int (x3 + 1)), (0, .ref (a_m 0)), (1, .int x1), (2, .int x2)]) hx hb dX8_commonFace_48 hl (k := 3) rfl rfl (by decide) rfl (fun ls hl => ?_)
          refine lv_goto (tgt := 17) hx hb dX8_commonFace_51 (by decide) ?_
          exact ih17 x1 x2 (x3 + 1) m_faceOfSide m_firstSide m_faces _ _ _ (lv_sub hl [1, 2, 3, 0] rfl) hP hD hS hf
        · have hf := ite_fn c_7 hf
          refine lv_iload_n hx hb dX8_commonFace_46 rfl (lv_at hl 3 rfl) ?_
          have eR := some_i hf
          exact W.iret hx hb hr (fun t ht hW => ⟨⟨x3, (), rfl, fst_e eR, by rw [← eR, ht]; exact hP, by rw [← eR]; exact hD⟩, hS.F ht⟩) hS.2.2 dX8_commonFace_47 (hlocks := hlk)
  refine lv_aload_n hx hb dX8_commonFace_0 rfl (lv_at hl 0 rfl) ?_
  refine lv_iload_n hx hb dX8_commonFace_1 rfl (lv_at hl 1 rfl) ?_
  refine lv_iload_n hx hb dX8_commonFace_2 rfl (lv_at hl 2 rfl) ?_
  obtain ⟨r_1, hcr_1, hf⟩ := bd1_s hf
  refine backI (runV0 C (c_X8_areNodes l D cA a_m m_s m_past m_pasts m_text m_typed m_faceOfSide m_firstSide m_faces m_before m_endA m_endB m_from m_queue m_ring m_ringSize m_ringNodes m_rings m_path m_pathSize m_old m_lastRing m_bestNodes m_bestInside m_bestFits m_far m_xs m_ys p1 p2 N r_1 hcr_1) cf_X8_areNodes km_X8_100 ⟨rfl, rfl, by decide, by decide⟩ ⟨Nat.zero_le _, Nat.zero_le _⟩ (va_recv hK.1 hP (ci := 8) (q0 := 0) rfl rfl) (hP.sub [0, 1, 2, 3, 4, 5, 6, 7, 8, 9, 10, 11, 12, 13, 14, 15, 16, 17, 18] rfl) hK hl.1 rfl rfl (Nat.le_of_ble_eq_true rfl) dX8_commonFace_3) ?_
  refine lv_if_ne (tgt := 11) hx hb dX8_commonFace_6 (by decide) (fun c_2 => ?_) (fun c_2 => ?_)
  · have hf := ite_t c_2 hf
    refine lv_aload_n hx hb dX8_commonFace_11 rfl (lv_at hl 0 rfl) ?_
    obtain ⟨r_3, hcr_3, hf⟩ := bd1_s hf
    refine backWv (w2 := (wX8 cA a_m m_s m_past m_pasts m_text m_typed r_3.1 r_3.2.1 r_3.2.2 m_before m_endA m_endB m_from m_queue m_ring m_ringSize m_ringNodes m_rings m_path m_pathSize m_old m_lastRing m_bestNodes m_bestInside m_bestFits m_far m_xs m_ys)) (runVw C (c_X8_walks l D cA a_m m_s m_past m_pasts m_text m_typed m_faceOfSide m_firstSide m_faces m_before m_endA m_endB m_from m_queue m_ring m_ringSize m_ringNodes m_rings m_path m_pathSize m_old m_lastRing m_bestNodes m_bestInside m_bestFits m_far m_xs m_ys _ N r_3 hcr_3) cf_X8_walks km_X8_117 ⟨rfl, rfl, by decide, by decide⟩ ⟨Nat.zero_le _, Nat.zero_le _⟩ (va_recv hK.1 hP (ci := 8) (q0 := 0) rfl rfl) (hP.sub [0, 1, 2, 3, 4, 5, 6, 7, 8, 9, 10, 11, 12, 13, 14, 15, 16, 17, 18] rfl) (hD.sub [0, 1, 2, 3, 4, 5, 6, 7, 8, 9, 10, 11, 12, 13, 14, 15, 16, 17, 18] rfl rfl) hK hl.1 rfl rfl (Nat.le_of_ble_eq_true rfl) dX8_commonFace_12) hP hD hS hA [0, 1, 2, 3, 4, 5, 6, 7, 8, 9, 10, 11, 12, 13, 14, 15, 16, 17, 18] rfl [] rfl rfl (by decide) [0, 1, 2, 3, 4, 5, 6, 7, 8, 9, 10, 11, 12, 13, 14, 15, 16, 17, 18] rfl rfl (fun H locs hP hD hS => ?_)
    refine lv_iconst (v := 0) hx hb dX8_commonFace_15 (by decide) ?_
    refine lv_istore_n (lv' := [(3, .int 0), (0, .ref (a_m 0)), (1, .int p1), (2, .int p2)]) hx hb dX8_commonFace_16 rfl hl (by decide) rfl (fun ls hl => ?_)
    exact B17 N p1 p2 0 r_3.1 r_3.2.1 r_3.2.2 _ _ _ (lv_sub hl [1, 2, 3, 0] rfl) hP hD hS hf
  · have hf := ite_fn c_2 hf
    refine lv_iconst (v := (-1)) hx hb dX8_commonFace_9 (by decide) ?_
    have eR := some_i hf
    exact W.iret hx hb hr (fun t ht hW => ⟨⟨(-1), (), rfl, fst_e eR, by rw [← eR, ht]; exact hP, by rw [← eR]; exact hD⟩, hS.F ht⟩) hS.2.2 dX8_commonFace_10 (hlocks := hlk)
set_option maxRecDepth 100000 in
set_option maxHeartbeats 4000000 in
theorem c_X8_component (l : Launch) (D : va_G) (cA : Nat → ClassId) (a_m : Nat → Nat) (m_s : Nat → Int32) (m_past : Nat → Int32) (m_pasts : Int32) (m_text : Nat → Int32) (m_typed : Int32) (m_faceOfSide : Nat → Int32) (m_firstSide : Nat → Int32) (m_faces : Int32) (m_before : Nat → Int32) (m_endA : Nat → Int32) (m_endB : Nat → Int32) (m_from : Nat → Int32) (m_queue : Nat → Int32) (m_ring : Nat → Int32) (m_ringSize : Nat → Int32) (m_ringNodes : Nat → Int32) (m_rings : Int32) (m_path : Nat → Int32) (m_pathSize : Int32) (m_old : Nat → Int32) (m_lastRing : Int32) (m_bestNodes : Int32) (m_bestInside : Int32) (m_bestFits : Int32) (m_far : Nat → Int32) (m_xs : Nat → UInt32) (m_ys : Nat → UInt32) (p1 : Int32) (N : Nat) (ρ : Int32) (hf : f_X8_component N m_s p1 = some ρ) : Met l yX8_component (Cond.code yX8_component cX8_component 6 (Option.some Jvm.ClassFile.FieldType.int) :: lw_g) ({ frames := 0, cells := 0, slots := 0, locals := 0 } : Room) (PcS D (tyA cA) (wX8 cA a_m m_s m_past m_pasts m_text m_typed m_faceOfSide m_firstSide m_faces m_before m_endA m_endB m_from m_queue m_ring m_ringSize m_ringNodes m_rings m_path m_pathSize m_old m_lastRing m_bestNodes m_bestInside m_bestFits m_far m_xs m_ys) [.ref (a_m 0), .int p1]) (vp_Si (fun r => r = ρ)) 0 0 (fun _ => False) := by
  refine mkS (by decide +kernel) (Nat.le_of_ble_eq_true rfl) fun p e s m below meth c ls C hl hP hK => ?_
  obtain ⟨hx, hb, hml, hown, hT, hr, hlk⟩ := id C
  have hl : lv_has ls 6 [(0, .ref (a_m 0)), (1, .int p1)] := hl
  have B6 : ∀ (n6 : Nat), ∀ (x2 : Int32) (x3 : Int32) (ls : Array Slot), lv_has ls 6 [(0, .ref (a_m 0)), (2, .int x2), (3, .int x3)] → f_X8_component_b6 N m_s n6 x2 x3 = some ρ → W p l e ({ frames := 0, cells := 0, slots := 0, locals := 0 } : Room) s m ([.ref (a_m 0), .int p1] : List Value).toArray below meth c s.heap [] 0 0 (MQ below (vp_Si (fun r => r = ρ)) ([.ref (a_m 0), .int p1] : List Value).toArray s 0 0 (fun _ => False)) (F0 m 6 ls []) := by
    intro n6
    induction n6 with
    | zero =>
      intro x2 x3 ls hl hf
      cases (show (none : Option (Int32)) = some ρ from hf)
    | succ n6 ih6 =>
      have B78 : ∀ (x2 : Int32) (x3 : Int32) (ls : Array Slot), lv_has ls 6 [(0, .ref (a_m 0)), (2, .int x2), (3, .int x3)] → f_X8_component_b78 N m_s (f_X8_component_b6 N m_s n6) x2 x3 = some ρ → W p l e ({ frames := 0, cells := 0, slots := 0, locals := 0 } : Room) s m ([.ref (a_m 0), .int p1] : List Value).toArray below meth c s.heap [] 0 0 (MQ below (vp_Si (fun r => r = ρ)) ([.ref (a_m 0), .int p1] : List Value).toArray s 0 0 (fun _ => False)) (F0 m 78 ls []) := by
        intro x2 x3 ls hl hf
        refine lv_iinc (v := (x3 + 1)) (lv' := [(3, .int (x3 + 1)), (0, .ref (a_m 0)), (2, .int x2)]) hx hb dX8_component_78 hl (k := 2) rfl rfl (by decide) rfl (fun ls hl => ?_)
        refine lv_goto (tgt := 6) hx hb dX8_component_81 (by decide) ?_
        exact ih6 x2 (x3 + 1) _ (lv_sub hl [1, 2, 0] rfl) hf
      have B19 : ∀ (n19 : Nat), ∀ (x2 : Int32) (x3 : Int32) (x4 : Int32) (ls : Array Slot), lv_has ls 6 [(0, .ref (a_m 0)), (2, .int x2), (3, .int x3), (4, .int x4)] → f_X8_component_b19 N m_s (f_X8_component_b6 N m_s n6) n19 x2 x3 x4 = some ρ → W p l e ({ frames := 0, cells := 0, slots := 0, locals := 0 } : Room) s m ([.ref (a_m 0), .int p1] : List Value).toArray below meth c s.heap [] 0 0 (MQ below (vp_Si (fun r => r = ρ)) ([.ref (a_m 0), .int p1] : List Value).toArray s 0 0 (fun _ => False)) (F0 m 19 ls []) := by
        intro n19
        induction n19 with
        | zero =>
          intro x2 x3 x4 ls hl hf
          cases (show (none : Option (Int32)) = some ρ from hf)
        | succ n19 ih19 =>
          have B70 : ∀ (x3 : Int32) (x4 : Int32) (y0 : Int32) (y1 : Int32) (ls : Array Slot), lv_has ls 6 [(0, .ref (a_m 0)), (3, .int x3), (4, .int x4)] → f_X8_component_b70 N m_s (f_X8_component_b6 N m_s n6) (f_X8_component_b19 N m_s (f_X8_component_b6 N m_s n6) n19) x3 x4 y0 y1 = some ρ → W p l e ({ frames := 0, cells := 0, slots := 0, locals := 0 } : Room) s m ([.ref (a_m 0), .int p1] : List Value).toArray below meth c s.heap [] 0 0 (MQ below (vp_Si (fun r => r = ρ)) ([.ref (a_m 0), .int p1] : List Value).toArray s 0 0 (fun _ => False)) (F0 m 70 ls [.int y1, .int y0]) := by
            intro x3 x4 y0 y1 ls hl hf
            refine lv_ior hx hb dX8_component_70 ?_
            refine lv_topi (fun x2_10 ex2_10 => ?_)
            have hf := nm_t ex2_10 hf
            refine lv_istore_n (lv' := [(2, .int x2_10), (0, .ref (a_m 0)), (3, .int x3), (4, .int x4)]) hx hb dX8_component_71 rfl hl (by decide) rfl (fun ls hl => ?_)
            refine lv_iinc (v := (x4 + 1)) (lv' := [(4, .int (x4 + 1)), (2, .int x2_10), (0, .ref (a_m 0)), (3, .int x3)]) hx hb dX8_component_72 hl (k := 3) rfl rfl (by decide) rfl (fun ls hl => ?_)
            refine lv_goto (tgt := 19) hx hb dX8_component_75 (by decide) ?_
            exact ih19 x2_10 x3 (x4 + 1) _ (lv_sub hl [2, 1, 3, 0] rfl) hf
          intro x2 x3 x4 ls hl hf
          refine lv_iload hx hb dX8_component_19 (lv_at hl 3 rfl) ?_
          refine lv_aload_n hx hb dX8_component_21 rfl (lv_at hl 0 rfl) ?_
          refine va_get (D := D) (ci := 8) (C := RX8) (T := TX8) (N := 27) hx hb hT kwX8 hown hK.1 hP 0 rfl rfl 0 (by decide) (hT _ kf_X8_7) (fun _ h9 => h9) rfl dX8_component_22 ?_
          refine lv_iconst (v := 1) hx hb dX8_component_25 (by decide) ?_
          obtain ⟨h_4, hf⟩ := chk_s hf
          refine va_iald hx hb hK.1 hP 1 0 rfl rfl (inb_in h_4) dX8_component_26 ?_
          refine lv_icmp_ge (tgt := 78) hx hb dX8_component_27 (by decide) (fun c_5 => ?_) (fun c_5 => ?_)
          · have hf := ite_t c_5 hf
            exact B78 x2 x3 _ (lv_sub hl [0, 1, 2] rfl) hf
          · have hf := ite_f c_5 hf
            refine lv_iconst (v := 1) hx hb dX8_component_30 (by decide) ?_
            refine lv_aload_n hx hb dX8_component_31 rfl (lv_at hl 0 rfl) ?_
            refine va_get (D := D) (ci := 8) (C := RX8) (T := TX8) (N := 27) hx hb hT kwX8 hown hK.1 hP 0 rfl rfl 0 (by decide) (hT _ kf_X8_7) (fun _ h9 => h9) rfl dX8_component_32 ?_
            refine lv_iconst (v := 3) hx hb dX8_component_35 (by decide) ?_
            refine lv_iload hx hb dX8_component_36 (lv_at hl 3 rfl) ?_
            refine lv_iadd hx hb dX8_component_38 ?_
            obtain ⟨h_6, hf⟩ := chk_s hf
            refine va_iald hx hb hK.1 hP 1 0 rfl rfl (inb_in h_6) dX8_component_39 ?_
            refine lv_ishl hx hb dX8_component_40 ?_
            refine lv_iconst (v := 1) hx hb dX8_component_41 (by decide) ?_
            refine lv_aload_n hx hb dX8_component_42 rfl (lv_at hl 0 rfl) ?_
            refine va_get (D := D) (ci := 8) (C := RX8) (T := TX8) (N := 27) hx hb hT kwX8 hown hK.1 hP 0 rfl rfl 0 (by decide) (hT _ kf_X8_7) (fun _ h9 => h9) rfl dX8_component_43 ?_
            refine lv_bipush (v := 23) hx hb dX8_component_46 (by decide) ?_
            refine lv_iload hx hb dX8_component_48 (lv_at hl 3 rfl) ?_
            refine lv_iadd hx hb dX8_component_50 ?_
            obtain ⟨h_7, hf⟩ := chk_s hf
            refine va_iald hx hb hK.1 hP 1 0 rfl rfl (inb_in h_7) dX8_component_51 ?_
            refine lv_ishl hx hb dX8_component_52 ?_
            refine lv_ior hx hb dX8_component_53 ?_
            refine lv_topi (fun x5_8 ex5_8 => ?_)
            have hf := nm_t ex5_8 hf
            refine lv_istore (lv' := [(5, .int x5_8), (0, .ref (a_m 0)), (2, .int x2), (3, .int x3), (4, .int x4)]) hx hb dX8_component_54 hl (by decide) rfl (fun ls hl => ?_)
            refine lv_iload_n hx hb dX8_component_56 rfl (lv_at hl 2 rfl) ?_
            refine lv_iload_n hx hb dX8_component_57 rfl (lv_at hl 2 rfl) ?_
            refine lv_iload hx hb dX8_component_58 (lv_at hl 0 rfl) ?_
            refine lv_iand hx hb dX8_component_60 ?_
            refine lv_if_eq (tgt := 69) hx hb dX8_component_61 (by decide) (fun c_9 => ?_) (fun c_9 => ?_)
            · have hf := ite_t c_9 hf
              refine lv_iconst (v := 0) hx hb dX8_component_69 (by decide) ?_
              exact B70 x3 x4 x2 0 _ (lv_sub hl [1, 3, 4] rfl) hf
            · have hf := ite_f c_9 hf
              refine lv_iload hx hb dX8_component_64 (lv_at hl 0 rfl) ?_
              refine lv_goto (tgt := 70) hx hb dX8_component_66 (by decide) ?_
              exact B70 x3 x4 x2 x5_8 _ (lv_sub hl [1, 3, 4] rfl) hf
      intro x2 x3 ls hl hf
      refine lv_iload_n hx hb dX8_component_6 rfl (lv_at hl 2 rfl) ?_
      refine lv_aload_n hx hb dX8_component_7 rfl (lv_at hl 0 rfl) ?_
      refine va_get (D := D) (ci := 8) (C := RX8) (T := TX8) (N := 27) hx hb hT kwX8 hown hK.1 hP 0 rfl rfl 0 (by decide) (hT _ kf_X8_7) (fun _ h9 => h9) rfl dX8_component_8 ?_
      refine lv_iconst (v := 0) hx hb dX8_component_11 (by decide) ?_
      obtain ⟨h_2, hf⟩ := chk_s hf
      refine va_iald hx hb hK.1 hP 1 0 rfl rfl (inb_in h_2) dX8_component_12 ?_
      refine lv_icmp_ge (tgt := 84) hx hb dX8_component_13 (by decide) (fun c_3 => ?_) (fun c_3 => ?_)
      · have hf := ite_t c_3 hf
        refine lv_iload_n hx hb dX8_component_84 rfl (lv_at hl 1 rfl) ?_
        exact W.iret hx hb hr (fun t ht hW => ⟨_, rfl, some_i hf, ht⟩) (fun _ h => by cases h) dX8_component_85 (hlocks := hlk)
      · have hf := ite_f c_3 hf
        refine lv_iconst (v := 0) hx hb dX8_component_16 (by decide) ?_
        refine lv_istore (lv' := [(4, .int 0), (0, .ref (a_m 0)), (2, .int x2), (3, .int x3)]) hx hb dX8_component_17 hl (by decide) rfl (fun ls hl => ?_)
        exact B19 N x2 x3 0 _ (lv_sub hl [1, 2, 3, 0] rfl) hf
  refine lv_iconst (v := 1) hx hb dX8_component_0 (by decide) ?_
  refine lv_iload_n hx hb dX8_component_1 rfl (lv_at hl 1 rfl) ?_
  refine lv_ishl hx hb dX8_component_2 ?_
  refine lv_topi (fun x2_1 ex2_1 => ?_)
  have hf := nm_t ex2_1 hf
  refine lv_istore_n (lv' := [(2, .int x2_1), (0, .ref (a_m 0)), (1, .int p1)]) hx hb dX8_component_3 rfl hl (by decide) rfl (fun ls hl => ?_)
  refine lv_iconst (v := 0) hx hb dX8_component_4 (by decide) ?_
  refine lv_istore_n (lv' := [(3, .int 0), (2, .int x2_1), (0, .ref (a_m 0)), (1, .int p1)]) hx hb dX8_component_5 rfl hl (by decide) rfl (fun ls hl => ?_)
  exact B6 N x2_1 0 _ (lv_sub hl [2, 1, 0] rfl) hf
set_option maxRecDepth 100000 in
set_option maxHeartbeats 4000000 in
theorem c_X8_components (l : Launch) (D : va_G) (cA : Nat → ClassId) (a_m : Nat → Nat) (m_s : Nat → Int32) (m_past : Nat → Int32) (m_pasts : Int32) (m_text : Nat → Int32) (m_typed : Int32) (m_faceOfSide : Nat → Int32) (m_firstSide : Nat → Int32) (m_faces : Int32) (m_before : Nat → Int32) (m_endA : Nat → Int32) (m_endB : Nat → Int32) (m_from : Nat → Int32) (m_queue : Nat → Int32) (m_ring : Nat → Int32) (m_ringSize : Nat → Int32) (m_ringNodes : Nat → Int32) (m_rings : Int32) (m_path : Nat → Int32) (m_pathSize : Int32) (m_old : Nat → Int32) (m_lastRing : Int32) (m_bestNodes : Int32) (m_bestInside : Int32) (m_bestFits : Int32) (m_far : Nat → Int32) (m_xs : Nat → UInt32) (m_ys : Nat → UInt32) (N : Nat) (ρ : Int32) (hf : f_X8_components N m_s = some ρ) : Met l yX8_components (Cond.code yX8_components cX8_components 3 (Option.some Jvm.ClassFile.FieldType.int) :: lw_g) ({ frames := 1, cells := 0, slots := 0, locals := 25 } : Room) (PcS D (tyA cA) (wX8 cA a_m m_s m_past m_pasts m_text m_typed m_faceOfSide m_firstSide m_faces m_before m_endA m_endB m_from m_queue m_ring m_ringSize m_ringNodes m_rings m_path m_pathSize m_old m_lastRing m_bestNodes m_bestInside m_bestFits m_far m_xs m_ys) [.ref (a_m 0)]) (vp_Si (fun r => r = ρ)) 0 0 (fun _ => False) := by
  refine mkS (by decide +kernel) (Nat.le_of_ble_eq_true rfl) fun p e s m below meth c ls C hl hP hK => ?_
  obtain ⟨hx, hb, hml, hown, hT, hr, hlk⟩ := id C
  have hl : lv_has ls 3 [(0, .ref (a_m 0))] := hl
  have B4 : ∀ (n4 : Nat), ∀ (x1 : Int32) (x2 : Int32) (ls : Array Slot), lv_has ls 3 [(0, .ref (a_m 0)), (1, .int x1), (2, .int x2)] → f_X8_components_b4 N m_s n4 x1 x2 = some ρ → W p l e ({ frames := 1, cells := 0, slots := 0, locals := 25 } : Room) s m ([.ref (a_m 0)] : List Value).toArray below meth c s.heap [] 0 0 (MQ below (vp_Si (fun r => r = ρ)) ([.ref (a_m 0)] : List Value).toArray s 0 0 (fun _ => False)) (F0 m 4 ls []) := by
    intro n4
    induction n4 with
    | zero =>
      intro x1 x2 ls hl hf
      cases (show (none : Option (Int32)) = some ρ from hf)
    | succ n4 ih4 =>
      have B34 : ∀ (x2 : Int32) (y0 : Int32) (y1 : Int32) (ls : Array Slot), lv_has ls 3 [(0, .ref (a_m 0)), (2, .int x2)] → f_X8_components_b34 N m_s (f_X8_components_b4 N m_s n4) x2 y0 y1 = some ρ → W p l e ({ frames := 1, cells := 0, slots := 0, locals := 25 } : Room) s m ([.ref (a_m 0)] : List Value).toArray below meth c s.heap [] 0 0 (MQ below (vp_Si (fun r => r = ρ)) ([.ref (a_m 0)] : List Value).toArray s 0 0 (fun _ => False)) (F0 m 34 ls [.int y1, .int y0]) := by
        intro x2 y0 y1 ls hl hf
        refine lv_iadd hx hb dX8_components_34 ?_
        refine lv_topi (fun x1_5 ex1_5 => ?_)
        have hf := nm_t ex1_5 hf
        refine lv_istore_n (lv' := [(1, .int x1_5), (0, .ref (a_m 0)), (2, .int x2)]) hx hb dX8_components_35 rfl hl (by decide) rfl (fun ls hl => ?_)
        refine lv_iinc (v := (x2 + 1)) (lv' := [(2, .int (x2 + 1)), (1, .int x1_5), (0, .ref (a_m 0))]) hx hb dX8_components_36 hl (k := 2) rfl rfl (by decide) rfl (fun ls hl => ?_)
        refine lv_goto (tgt := 4) hx hb dX8_components_39 (by decide) ?_
        exact ih4 x1_5 (x2 + 1) _ (lv_sub hl [2, 1, 0] rfl) hf
      intro x1 x2 ls hl hf
      refine lv_iload_n hx hb dX8_components_4 rfl (lv_at hl 2 rfl) ?_
      refine lv_aload_n hx hb dX8_components_5 rfl (lv_at hl 0 rfl) ?_
      refine va_get (D := D) (ci := 8) (C := RX8) (T := TX8) (N := 27) hx hb hT kwX8 hown hK.1 hP 0 rfl rfl 0 (by decide) (hT _ kf_X8_7) (fun _ h9 => h9) rfl dX8_components_6 ?_
      refine lv_iconst (v := 0) hx hb dX8_components_9 (by decide) ?_
      obtain ⟨h_1, hf⟩ := chk_s hf
      refine va_iald hx hb hK.1 hP 1 0 rfl rfl (inb_in h_1) dX8_components_10 ?_
      refine lv_icmp_ge (tgt := 42) hx hb dX8_components_11 (by decide) (fun c_2 => ?_) (fun c_2 => ?_)
      · have hf := ite_t c_2 hf
        refine lv_iload_n hx hb dX8_components_42 rfl (lv_at hl 1 rfl) ?_
        exact W.iret hx hb hr (fun t ht hW => ⟨_, rfl, some_i hf, ht⟩) (fun _ h => by cases h) dX8_components_43 (hlocks := hlk)
      · have hf := ite_f c_2 hf
        refine lv_iload_n hx hb dX8_components_14 rfl (lv_at hl 1 rfl) ?_
        refine lv_aload_n hx hb dX8_components_15 rfl (lv_at hl 0 rfl) ?_
        refine lv_iload_n hx hb dX8_components_16 rfl (lv_at hl 2 rfl) ?_
        obtain ⟨r_3, hcr_3, hf⟩ := bd1_s hf
        refine backI (runV0 C (c_X8_component l D cA a_m m_s m_past m_pasts m_text m_typed m_faceOfSide m_firstSide m_faces m_before m_endA m_endB m_from m_queue m_ring m_ringSize m_ringNodes m_rings m_path m_pathSize m_old m_lastRing m_bestNodes m_bestInside m_bestFits m_far m_xs m_ys x2 N r_3 hcr_3) cf_X8_component km_X8_133 ⟨rfl, rfl, by decide, by decide⟩ ⟨Nat.zero_le _, Nat.zero_le _⟩ (va_recv hK.1 hP (ci := 8) (q0 := 0) rfl rfl) (hP.sub [0, 1, 2, 3, 4, 5, 6, 7, 8, 9, 10, 11, 12, 13, 14, 15, 16, 17, 18] rfl) hK hl.1 rfl rfl (Nat.le_of_ble_eq_true rfl) dX8_components_17) ?_
        refine lv_iconst (v := 1) hx hb dX8_components_20 (by decide) ?_
        refine lv_iload_n hx hb dX8_components_21 rfl (lv_at hl 2 rfl) ?_
        refine lv_ishl hx hb dX8_components_22 ?_
        refine lv_iconst (v := 1) hx hb dX8_components_23 (by decide) ?_
        refine lv_isub hx hb dX8_components_24 ?_
        refine lv_iand hx hb dX8_components_25 ?_
        refine lv_if_ne (tgt := 33) hx hb dX8_components_26 (by decide) (fun c_4 => ?_) (fun c_4 => ?_)
        · have hf := ite_t c_4 hf
          refine lv_iconst (v := 0) hx hb dX8_components_33 (by decide) ?_
          exact B34 x2 x1 0 _ (lv_sub hl [0, 2] rfl) hf
        · have hf := ite_fn c_4 hf
          refine lv_iconst (v := 1) hx hb dX8_components_29 (by decide) ?_
          refine lv_goto (tgt := 34) hx hb dX8_components_30 (by decide) ?_
          exact B34 x2 x1 1 _ (lv_sub hl [0, 2] rfl) hf
  refine lv_iconst (v := 0) hx hb dX8_components_0 (by decide) ?_
  refine lv_istore_n (lv' := [(1, .int 0), (0, .ref (a_m 0))]) hx hb dX8_components_1 rfl hl (by decide) rfl (fun ls hl => ?_)
  refine lv_iconst (v := 0) hx hb dX8_components_2 (by decide) ?_
  refine lv_istore_n (lv' := [(2, .int 0), (1, .int 0), (0, .ref (a_m 0))]) hx hb dX8_components_3 rfl hl (by decide) rfl (fun ls hl => ?_)
  exact B4 N 0 0 _ (lv_sub hl [2, 1, 0] rfl) hf
set_option maxRecDepth 100000 in
set_option maxHeartbeats 4000000 in
theorem c_X8_looks (l : Launch) (D : va_G) (cA : Nat → ClassId) (a_m : Nat → Nat) (m_s : Nat → Int32) (m_past : Nat → Int32) (m_pasts : Int32) (m_text : Nat → Int32) (m_typed : Int32) (m_faceOfSide : Nat → Int32) (m_firstSide : Nat → Int32) (m_faces : Int32) (m_before : Nat → Int32) (m_endA : Nat → Int32) (m_endB : Nat → Int32) (m_from : Nat → Int32) (m_queue : Nat → Int32) (m_ring : Nat → Int32) (m_ringSize : Nat → Int32) (m_ringNodes : Nat → Int32) (m_rings : Int32) (m_path : Nat → Int32) (m_pathSize : Int32) (m_old : Nat → Int32) (m_lastRing : Int32) (m_bestNodes : Int32) (m_bestInside : Int32) (m_bestFits : Int32) (m_far : Nat → Int32) (m_xs : Nat → UInt32) (m_ys : Nat → UInt32) (p1 : Int32) (sz N : Nat) (ρ : (Nat → Int32)) (hf : f_X8_looks N m_s m_faceOfSide m_faces m_far p1 = some ρ) : Met l yX8_looks (Cond.code yX8_looks cX8_looks 6 (Option.none : Option Jvm.ClassFile.FieldType) :: lw_g) ({ frames := 2, cells := 0, slots := 0, locals := 44 } : Room) (PcW D (tyA cA) (wX8 cA a_m m_s m_past m_pasts m_text m_typed m_faceOfSide m_firstSide m_faces m_before m_endA m_endB m_from m_queue m_ring m_ringSize m_ringNodes m_rings m_path m_pathSize m_old m_lastRing m_bestNodes m_bestInside m_bestFits m_far m_xs m_ys) sz [.ref (a_m 0), .int p1]) (va_Qv (fun (_ : Unit) => True) (fun _ t => va_P D vwCl (wX8 cA a_m m_s m_past m_pasts m_text m_typed m_faceOfSide m_firstSide m_faces m_before m_endA m_endB m_from m_queue m_ring m_ringSize m_ringNodes m_rings m_path m_pathSize m_old m_lastRing m_bestNodes m_bestInside m_bestFits ρ m_xs m_ys) t.heap ∧ va_D (va_A (wX8 cA a_m m_s m_past m_pasts m_text m_typed m_faceOfSide m_firstSide m_faces m_before m_endA m_endB m_from m_queue m_ring m_ringSize m_ringNodes m_rings m_path m_pathSize m_old m_lastRing m_bestNodes m_bestInside m_bestFits m_far m_xs m_ys) sz) (wX8 cA a_m m_s m_past m_pasts m_text m_typed m_faceOfSide m_firstSide m_faces m_before m_endA m_endB m_from m_queue m_ring m_ringSize m_ringNodes m_rings m_path m_pathSize m_old m_lastRing m_bestNodes m_bestInside m_bestFits ρ m_xs m_ys)) (va_A (wX8 cA a_m m_s m_past m_pasts m_text m_typed m_faceOfSide m_firstSide m_faces m_before m_endA m_endB m_from m_queue m_ring m_ringSize m_ringNodes m_rings m_path m_pathSize m_old m_lastRing m_bestNodes m_bestInside m_bestFits m_far m_xs m_ys) sz)) 0 0 (va_A (wX8 cA a_m m_s m_past m_pasts m_text m_typed m_faceOfSide m_firstSide m_faces m_before m_endA m_endB m_from m_queue m_ring m_ringSize m_ringNodes m_rings m_path m_pathSize m_old m_lastRing m_bestNodes m_bestInside m_bestFits m_far m_xs m_ys) sz) := by
  refine mkW (QQ := fun A => va_Qv (fun (_ : Unit) => True) (fun _ t => va_P D vwCl (wX8 cA a_m m_s m_past m_pasts m_text m_typed m_faceOfSide m_firstSide m_faces m_before m_endA m_endB m_from m_queue m_ring m_ringSize m_ringNodes m_rings m_path m_pathSize m_old m_lastRing m_bestNodes m_bestInside m_bestFits ρ m_xs m_ys) t.heap ∧ va_D A (wX8 cA a_m m_s m_past m_pasts m_text m_typed m_faceOfSide m_firstSide m_faces m_before m_endA m_endB m_from m_queue m_ring m_ringSize m_ringNodes m_rings m_path m_pathSize m_old m_lastRing m_bestNodes m_bestInside m_bestFits ρ m_xs m_ys)) A) (by decide) (Nat.le_of_ble_eq_true rfl) fun p e s m below meth c ls A C hl hP hK hD hA hS => ?_
  obtain ⟨hx, hb, hml, hown, hT, hr, hlk⟩ := id C
  have hl : lv_has ls 6 [(0, .ref (a_m 0)), (1, .int p1)] := hl
  have B43 : ∀ (n43 : Nat), ∀ (x2 : Int32) (m_far : Nat → Int32) (H : Heap) (locs : List Loc) (ls : Array Slot), lv_has ls 6 [(0, .ref (a_m 0)), (2, .int x2)] → va_P D vwCl (wX8 cA a_m m_s m_past m_pasts m_text m_typed m_faceOfSide m_firstSide m_faces m_before m_endA m_endB m_from m_queue m_ring m_ringSize m_ringNodes m_rings m_path m_pathSize m_old m_lastRing m_bestNodes m_bestInside m_bestFits m_far m_xs m_ys) H → va_D A (wX8 cA a_m m_s m_past m_pasts m_text m_typed m_faceOfSide m_firstSide m_faces m_before m_endA m_endB m_from m_queue m_ring m_ringSize m_ringNodes m_rings m_path m_pathSize m_old m_lastRing m_bestNodes m_bestInside m_bestFits m_far m_xs m_ys) → va_S A s.heap H locs → f_X8_looks_b43 N m_s m_faceOfSide m_faces n43 x2 m_far = some ρ → W p l e ({ frames := 2, cells := 0, slots := 0, locals := 44 } : Room) s m ([.ref (a_m 0), .int p1] : List Value).toArray below meth c H locs 0 0 (MQ below (va_Qv (fun (_ : Unit) => True) (fun _ t => va_P D vwCl (wX8 cA a_m m_s m_past m_pasts m_text m_typed m_faceOfSide m_firstSide m_faces m_before m_endA m_endB m_from m_queue m_ring m_ringSize m_ringNodes m_rings m_path m_pathSize m_old m_lastRing m_bestNodes m_bestInside m_bestFits ρ m_xs m_ys) t.heap ∧ va_D A (wX8 cA a_m m_s m_past m_pasts m_text m_typed m_faceOfSide m_firstSide m_faces m_before m_endA m_endB m_from m_queue m_ring m_ringSize m_ringNodes m_rings m_path m_pathSize m_old m_lastRing m_bestNodes m_bestInside m_bestFits ρ m_xs m_ys)) A) ([.ref (a_m 0), .int p1] : List Value).toArray s 0 0 A) (F0 m 43 ls []) := by
    intro n43
    induction n43 with
    | zero =>
      intro x2 m_far H locs ls hl hP hD hS hf
      cases (show (none : Option ((Nat → Int32))) = some ρ from hf)
    | succ n43 ih43 =>
      have B134 : ∀ (x2 : Int32) (m_far : Nat → Int32) (H : Heap) (locs : List Loc) (ls : Array Slot), lv_has ls 6 [(0, .ref (a_m 0)), (2, .int x2)] → va_P D vwCl (wX8 cA a_m m_s m_past m_pasts m_text m_typed m_faceOfSide m_firstSide m_faces m_before m_endA m_endB m_from m_queue m_ring m_ringSize m_ringNodes m_rings m_path m_pathSize m_old m_lastRing m_bestNodes m_bestInside m_bestFits m_far m_xs m_ys) H → va_D A (wX8 cA a_m m_s m_past m_pasts m_text m_typed m_faceOfSide m_firstSide m_faces m_before m_endA m_endB m_from m_queue m_ring m_ringSize m_ringNodes m_rings m_path m_pathSize m_old m_lastRing m_bestNodes m_bestInside m_bestFits m_far m_xs m_ys) → va_S A s.heap H locs → f_X8_looks_b134 N m_s m_faceOfSide m_faces (f_X8_looks_b43 N m_s m_faceOfSide m_faces n43) x2 m_far = some ρ → W p l e ({ frames := 2, cells := 0, slots := 0, locals := 44 } : Room) s m ([.ref (a_m 0), .int p1] : List Value).toArray below meth c H locs 0 0 (MQ below (va_Qv (fun (_ : Unit) => True) (fun _ t => va_P D vwCl (wX8 cA a_m m_s m_past m_pasts m_text m_typed m_faceOfSide m_firstSide m_faces m_before m_endA m_endB m_from m_queue m_ring m_ringSize m_ringNodes m_rings m_path m_pathSize m_old m_lastRing m_bestNodes m_bestInside m_bestFits ρ m_xs m_ys) t.heap ∧ va_D A (wX8 cA a_m m_s m_past m_pasts m_text m_typed m_faceOfSide m_firstSide m_faces m_before m_endA m_endB m_from m_queue m_ring m_ringSize m_ringNodes m_rings m_path m_pathSize m_old m_lastRing m_bestNodes m_bestInside m_bestFits ρ m_xs m_ys)) A) ([.ref (a_m 0), .int p1] : List Value).toArray s 0 0 A) (F0 m 134 ls []) := by
        intro x2 m_far H locs ls hl hP hD hS hf
        refine lv_iinc (v := (x2 + 1)) (lv' := [(2, .int (x2 + 1)), (0, .ref (a_m 0))]) hx hb dX8_looks_134 hl (k := 1) rfl rfl (by decide) rfl (fun ls hl => ?_)
        refine lv_goto (tgt := 43) hx hb dX8_looks_137 (by decide) ?_
        exact ih43 (x2 + 1) m_far _ _ _ (lv_sub hl [1, 0] rfl) hP hD hS hf
      have B53 : ∀ (n53 : Nat), ∀ (x2 : Int32) (x3 : Int32) (m_far : Nat → Int32) (H : Heap) (locs : List Loc) (ls : Array Slot), lv_has ls 6 [(0, .ref (a_m 0)), (2, .int x2), (3, .int x3)] → va_P D vwCl (wX8 cA a_m m_s m_past m_pasts m_text m_typed m_faceOfSide m_firstSide m_faces m_before m_endA m_endB m_from m_queue m_ring m_ringSize m_ringNodes m_rings m_path m_pathSize m_old m_lastRing m_bestNodes m_bestInside m_bestFits m_far m_xs m_ys) H → va_D A (wX8 cA a_m m_s m_past m_pasts m_text m_typed m_faceOfSide m_firstSide m_faces m_before m_endA m_endB m_from m_queue m_ring m_ringSize m_ringNodes m_rings m_path m_pathSize m_old m_lastRing m_bestNodes m_bestInside m_bestFits m_far m_xs m_ys) → va_S A s.heap H locs → f_X8_looks_b53 N m_s m_faceOfSide m_faces (f_X8_looks_b43 N m_s m_faceOfSide m_faces n43) n53 x2 x3 m_far = some ρ → W p l e ({ frames := 2, cells := 0, slots := 0, locals := 44 } : Room) s m ([.ref (a_m 0), .int p1] : List Value).toArray below meth c H locs 0 0 (MQ below (va_Qv (fun (_ : Unit) => True) (fun _ t => va_P D vwCl (wX8 cA a_m m_s m_past m_pasts m_text m_typed m_faceOfSide m_firstSide m_faces m_before m_endA m_endB m_from m_queue m_ring m_ringSize m_ringNodes m_rings m_path m_pathSize m_old m_lastRing m_bestNodes m_bestInside m_bestFits ρ m_xs m_ys) t.heap ∧ va_D A (wX8 cA a_m m_s m_past m_pasts m_text m_typed m_faceOfSide m_firstSide m_faces m_before m_endA m_endB m_from m_queue m_ring m_ringSize m_ringNodes m_rings m_path m_pathSize m_old m_lastRing m_bestNodes m_bestInside m_bestFits ρ m_xs m_ys)) A) ([.ref (a_m 0), .int p1] : List Value).toArray s 0 0 A) (F0 m 53 ls []) := by
        intro n53
        induction n53 with
        | zero =>
          intro x2 x3 m_far H locs ls hl hP hD hS hf
          cases (show (none : Option ((Nat → Int32))) = some ρ from hf)
        | succ n53 ih53 =>
          have B127 : ∀ (x2 : Int32) (x3 : Int32) (y1 : Int32) (y2 : Int32) (m_far : Nat → Int32) (H : Heap) (locs : List Loc) (ls : Array Slot), lv_has ls 6 [(0, .ref (a_m 0)), (2, .int x2), (3, .int x3)] → va_P D vwCl (wX8 cA a_m m_s m_past m_pasts m_text m_typed m_faceOfSide m_firstSide m_faces m_before m_endA m_endB m_from m_queue m_ring m_ringSize m_ringNodes m_rings m_path m_pathSize m_old m_lastRing m_bestNodes m_bestInside m_bestFits m_far m_xs m_ys) H → va_D A (wX8 cA a_m m_s m_past m_pasts m_text m_typed m_faceOfSide m_firstSide m_faces m_before m_endA m_endB m_from m_queue m_ring m_ringSize m_ringNodes m_rings m_path m_pathSize m_old m_lastRing m_bestNodes m_bestInside m_bestFits m_far m_xs m_ys) → va_S A s.heap H locs → f_X8_looks_b127 N m_s m_faceOfSide m_faces (f_X8_looks_b43 N m_s m_faceOfSide m_faces n43) (f_X8_looks_b53 N m_s m_faceOfSide m_faces (f_X8_looks_b43 N m_s m_faceOfSide m_faces n43) n53) x2 x3 y1 y2 m_far = some ρ → W p l e ({ frames := 2, cells := 0, slots := 0, locals := 44 } : Room) s m ([.ref (a_m 0), .int p1] : List Value).toArray below meth c H locs 0 0 (MQ below (va_Qv (fun (_ : Unit) => True) (fun _ t => va_P D vwCl (wX8 cA a_m m_s m_past m_pasts m_text m_typed m_faceOfSide m_firstSide m_faces m_before m_endA m_endB m_from m_queue m_ring m_ringSize m_ringNodes m_rings m_path m_pathSize m_old m_lastRing m_bestNodes m_bestInside m_bestFits ρ m_xs m_ys) t.heap ∧ va_D A (wX8 cA a_m m_s m_past m_pasts m_text m_typed m_faceOfSide m_firstSide m_faces m_before m_endA m_endB m_from m_queue m_ring m_ringSize m_ringNodes m_rings m_path m_pathSize m_old m_lastRing m_bestNodes m_bestInside m_bestFits ρ m_xs m_ys)) A) ([.ref (a_m 0), .int p1] : List Value).toArray s 0 0 A) (F0 m 127 ls [.int y2, .int y1, .ref (a_m 16)]) := by
            intro x2 x3 y1 y2 m_far H locs ls hl hP hD hS hf
            obtain ⟨h_18, hf⟩ := chk_s hf
            refine va_iast hx hb hK.1 hP hD hS 16 0 rfl rfl (inb_in h_18) dX8_looks_127 (fun H locs hP hD hS => ?_)
            have hP : va_P D vwCl (wX8 cA a_m m_s m_past m_pasts m_text m_typed m_faceOfSide m_firstSide m_faces m_before m_endA m_endB m_from m_queue m_ring m_ringSize m_ringNodes m_rings m_path m_pathSize m_old m_lastRing m_bestNodes m_bestInside m_bestFits (upd m_far y1.toNatClampNeg y2) m_xs m_ys) H := hP
            have hD : va_D A (wX8 cA a_m m_s m_past m_pasts m_text m_typed m_faceOfSide m_firstSide m_faces m_before m_endA m_endB m_from m_queue m_ring m_ringSize m_ringNodes m_rings m_path m_pathSize m_old m_lastRing m_bestNodes m_bestInside m_bestFits (upd m_far y1.toNatClampNeg y2) m_xs m_ys) := hD
            refine lv_iinc (v := (x3 + 1)) (lv' := [(3, .int (x3 + 1)), (0, .ref (a_m 0)), (2, .int x2)]) hx hb dX8_looks_128 hl (k := 2) rfl rfl (by decide) rfl (fun ls hl => ?_)
            refine lv_goto (tgt := 53) hx hb dX8_looks_131 (by decide) ?_
            exact ih53 x2 (x3 + 1) (upd m_far y1.toNatClampNeg y2) _ _ _ (lv_sub hl [1, 2, 0] rfl) hP hD hS hf
          intro x2 x3 m_far H locs ls hl hP hD hS hf
          refine lv_iload_n hx hb dX8_looks_53 rfl (lv_at hl 2 rfl) ?_
          refine lv_iconst (v := 2) hx hb dX8_looks_54 (by decide) ?_
          refine lv_aload_n hx hb dX8_looks_55 rfl (lv_at hl 0 rfl) ?_
          refine va_get (D := D) (ci := 8) (C := RX8) (T := TX8) (N := 27) hx hb hT kwX8 hown hK.1 hP 0 rfl rfl 0 (by decide) (hT _ kf_X8_7) (fun _ h9 => h9) rfl dX8_looks_56 ?_
          refine lv_iconst (v := 1) hx hb dX8_looks_59 (by decide) ?_
          obtain ⟨h_7, hf⟩ := chk_s hf
          refine va_iald hx hb hK.1 hP 1 0 rfl rfl (inb_in h_7) dX8_looks_60 ?_
          refine lv_imul hx hb dX8_looks_61 ?_
          refine lv_icmp_ge (tgt := 134) hx hb dX8_looks_62 (by decide) (fun c_8 => ?_) (fun c_8 => ?_)
          · have hf := ite_t c_8 hf
            exact B134 x2 m_far _ _ _ (lv_sub hl [0, 1] rfl) hP hD hS hf
          · have hf := ite_f c_8 hf
            refine lv_aload_n hx hb dX8_looks_65 rfl (lv_at hl 0 rfl) ?_
            refine va_get (D := D) (ci := 8) (C := RX8) (T := TX8) (N := 27) hx hb hT kwX8 hown hK.1 hP 0 rfl rfl 5 (by decide) (hT _ kf_X8_20) (fun _ h9 => h9) rfl dX8_looks_66 ?_
            refine lv_iload_n hx hb dX8_looks_69 rfl (lv_at hl 2 rfl) ?_
            obtain ⟨h_9, hf⟩ := chk_s hf
            refine va_iald hx hb hK.1 hP 4 0 rfl rfl (inb_in h_9) dX8_looks_70 ?_
            refine lv_topi (fun x4_10 ex4_10 => ?_)
            have hf := nm_t ex4_10 hf
            refine lv_istore (lv' := [(4, .int x4_10), (0, .ref (a_m 0)), (2, .int x2), (3, .int x3)]) hx hb dX8_looks_71 hl (by decide) rfl (fun ls hl => ?_)
            refine lv_aload_n hx hb dX8_looks_73 rfl (lv_at hl 1 rfl) ?_
            refine va_get (D := D) (ci := 8) (C := RX8) (T := TX8) (N := 27) hx hb hT kwX8 hown hK.1 hP 0 rfl rfl 5 (by decide) (hT _ kf_X8_20) (fun _ h9 => h9) rfl dX8_looks_74 ?_
            refine lv_iload_n hx hb dX8_looks_77 rfl (lv_at hl 3 rfl) ?_
            refine lv_iconst (v := 1) hx hb dX8_looks_78 (by decide) ?_
            refine lv_ixor hx hb dX8_looks_79 ?_
            obtain ⟨h_11, hf⟩ := chk_s hf
            refine va_iald hx hb hK.1 hP 4 0 rfl rfl (inb_in h_11) dX8_looks_80 ?_
            refine lv_topi (fun x5_12 ex5_12 => ?_)
            have hf := nm_t ex5_12 hf
            refine lv_istore (lv' := [(5, .int x5_12), (4, .int x4_10), (0, .ref (a_m 0)), (2, .int x2), (3, .int x3)]) hx hb dX8_looks_81 hl (by decide) rfl (fun ls hl => ?_)
            refine lv_aload_n hx hb dX8_looks_83 rfl (lv_at hl 2 rfl) ?_
            refine va_get (D := D) (ci := 8) (C := RX8) (T := TX8) (N := 27) hx hb hT kwX8 hown hK.1 hP 0 rfl rfl 24 (by decide) (hT _ kf_X8_56) (fun _ h9 => h9) rfl dX8_looks_84 ?_
            refine lv_iload hx hb dX8_looks_87 (lv_at hl 1 rfl) ?_
            refine lv_aload_n hx hb dX8_looks_89 rfl (lv_at hl 2 rfl) ?_
            refine va_get (D := D) (ci := 8) (C := RX8) (T := TX8) (N := 27) hx hb hT kwX8 hown hK.1 hP 0 rfl rfl 24 (by decide) (hT _ kf_X8_56) (fun _ h9 => h9) rfl dX8_looks_90 ?_
            refine lv_iload hx hb dX8_looks_93 (lv_at hl 0 rfl) ?_
            obtain ⟨h_13, hf⟩ := chk_s hf
            refine va_iald hx hb hK.1 hP 16 0 rfl rfl (inb_in h_13) dX8_looks_95 ?_
            refine lv_iconst (v := 1) hx hb dX8_looks_96 (by decide) ?_
            refine lv_iadd hx hb dX8_looks_97 ?_
            refine lv_aload_n hx hb dX8_looks_98 rfl (lv_at hl 2 rfl) ?_
            refine va_get (D := D) (ci := 8) (C := RX8) (T := TX8) (N := 27) hx hb hT kwX8 hown hK.1 hP 0 rfl rfl 24 (by decide) (hT _ kf_X8_56) (fun _ h9 => h9) rfl dX8_looks_99 ?_
            refine lv_iload hx hb dX8_looks_102 (lv_at hl 1 rfl) ?_
            obtain ⟨h_14, hf⟩ := chk_s hf
            refine va_iald hx hb hK.1 hP 16 0 rfl rfl (inb_in h_14) dX8_looks_104 ?_
            refine lv_icmp_ge (tgt := 120) hx hb dX8_looks_105 (by decide) (fun c_15 => ?_) (fun c_15 => ?_)
            · have hf := ite_t c_15 hf
              refine lv_aload_n hx hb dX8_looks_120 rfl (lv_at hl 2 rfl) ?_
              refine va_get (D := D) (ci := 8) (C := RX8) (T := TX8) (N := 27) hx hb hT kwX8 hown hK.1 hP 0 rfl rfl 24 (by decide) (hT _ kf_X8_56) (fun _ h9 => h9) rfl dX8_looks_121 ?_
              refine lv_iload hx hb dX8_looks_124 (lv_at hl 1 rfl) ?_
              obtain ⟨h_16, hf⟩ := chk_s hf
              refine va_iald hx hb hK.1 hP 16 0 rfl rfl (inb_in h_16) dX8_looks_126 ?_
              exact B127 x2 x3 x4_10 (m_far x4_10.toNatClampNeg) m_far _ _ _ (lv_sub hl [2, 3, 4] rfl) hP hD hS hf
            · have hf := ite_f c_15 hf
              refine lv_aload_n hx hb dX8_looks_108 rfl (lv_at hl 2 rfl) ?_
              refine va_get (D := D) (ci := 8) (C := RX8) (T := TX8) (N := 27) hx hb hT kwX8 hown hK.1 hP 0 rfl rfl 24 (by decide) (hT _ kf_X8_56) (fun _ h9 => h9) rfl dX8_looks_109 ?_
              refine lv_iload hx hb dX8_looks_112 (lv_at hl 0 rfl) ?_
              obtain ⟨h_17, hf⟩ := chk_s hf
              refine va_iald hx hb hK.1 hP 16 0 rfl rfl (inb_in h_17) dX8_looks_114 ?_
              refine lv_iconst (v := 1) hx hb dX8_looks_115 (by decide) ?_
              refine lv_iadd hx hb dX8_looks_116 ?_
              refine lv_goto (tgt := 127) hx hb dX8_looks_117 (by decide) ?_
              exact B127 x2 x3 x4_10 ((m_far x5_12.toNatClampNeg) + 1) m_far _ _ _ (lv_sub hl [2, 3, 4] rfl) hP hD hS hf
      intro x2 m_far H locs ls hl hP hD hS hf
      refine lv_iload_n hx hb dX8_looks_43 rfl (lv_at hl 1 rfl) ?_
      refine lv_aload_n hx hb dX8_looks_44 rfl (lv_at hl 0 rfl) ?_
      refine va_get (D := D) (ci := 8) (C := RX8) (T := TX8) (N := 27) hx hb hT kwX8 hown hK.1 hP 0 rfl rfl 7 (by decide) (hT _ kf_X8_120) (fun _ h9 => h9) rfl dX8_looks_45 ?_
      refine lv_icmp_ge (tgt := 140) hx hb dX8_looks_48 (by decide) (fun c_6 => ?_) (fun c_6 => ?_)
      · have hf := ite_t c_6 hf
        have eR := some_i hf
        exact W.vret hx hb hr (fun t ht hW => ⟨⟨(), rfl, trivial, by rw [← eR, ht]; exact hP, by rw [← eR]; exact hD⟩, hS.F ht⟩) hS.2.2 dX8_looks_140 (hlocks := hlk)
      · have hf := ite_f c_6 hf
        refine lv_iconst (v := 0) hx hb dX8_looks_51 (by decide) ?_
        refine lv_istore_n (lv' := [(3, .int 0), (0, .ref (a_m 0)), (2, .int x2)]) hx hb dX8_looks_52 rfl hl (by decide) rfl (fun ls hl => ?_)
        exact B53 N x2 0 m_far _ _ _ (lv_sub hl [1, 2, 0] rfl) hP hD hS hf
  have B41 : ∀ (m_far : Nat → Int32) (H : Heap) (locs : List Loc) (ls : Array Slot), lv_has ls 6 [(0, .ref (a_m 0))] → va_P D vwCl (wX8 cA a_m m_s m_past m_pasts m_text m_typed m_faceOfSide m_firstSide m_faces m_before m_endA m_endB m_from m_queue m_ring m_ringSize m_ringNodes m_rings m_path m_pathSize m_old m_lastRing m_bestNodes m_bestInside m_bestFits m_far m_xs m_ys) H → va_D A (wX8 cA a_m m_s m_past m_pasts m_text m_typed m_faceOfSide m_firstSide m_faces m_before m_endA m_endB m_from m_queue m_ring m_ringSize m_ringNodes m_rings m_path m_pathSize m_old m_lastRing m_bestNodes m_bestInside m_bestFits m_far m_xs m_ys) → va_S A s.heap H locs → f_X8_looks_b41 N m_s m_faceOfSide m_faces m_far = some ρ → W p l e ({ frames := 2, cells := 0, slots := 0, locals := 44 } : Room) s m ([.ref (a_m 0), .int p1] : List Value).toArray below meth c H locs 0 0 (MQ below (va_Qv (fun (_ : Unit) => True) (fun _ t => va_P D vwCl (wX8 cA a_m m_s m_past m_pasts m_text m_typed m_faceOfSide m_firstSide m_faces m_before m_endA m_endB m_from m_queue m_ring m_ringSize m_ringNodes m_rings m_path m_pathSize m_old m_lastRing m_bestNodes m_bestInside m_bestFits ρ m_xs m_ys) t.heap ∧ va_D A (wX8 cA a_m m_s m_past m_pasts m_text m_typed m_faceOfSide m_firstSide m_faces m_before m_endA m_endB m_from m_queue m_ring m_ringSize m_ringNodes m_rings m_path m_pathSize m_old m_lastRing m_bestNodes m_bestInside m_bestFits ρ m_xs m_ys)) A) ([.ref (a_m 0), .int p1] : List Value).toArray s 0 0 A) (F0 m 41 ls []) := by
    intro m_far H locs ls hl hP hD hS hf
    refine lv_iconst (v := 0) hx hb dX8_looks_41 (by decide) ?_
    refine lv_istore_n (lv' := [(2, .int 0), (0, .ref (a_m 0))]) hx hb dX8_looks_42 rfl hl (by decide) rfl (fun ls hl => ?_)
    exact B43 N 0 m_far _ _ _ (lv_sub hl [1, 0] rfl) hP hD hS hf
  have B2 : ∀ (n2 : Nat), ∀ (x1 : Int32) (x2 : Int32) (m_far : Nat → Int32) (H : Heap) (locs : List Loc) (ls : Array Slot), lv_has ls 6 [(0, .ref (a_m 0)), (1, .int x1), (2, .int x2)] → va_P D vwCl (wX8 cA a_m m_s m_past m_pasts m_text m_typed m_faceOfSide m_firstSide m_faces m_before m_endA m_endB m_from m_queue m_ring m_ringSize m_ringNodes m_rings m_path m_pathSize m_old m_lastRing m_bestNodes m_bestInside m_bestFits m_far m_xs m_ys) H → va_D A (wX8 cA a_m m_s m_past m_pasts m_text m_typed m_faceOfSide m_firstSide m_faces m_before m_endA m_endB m_from m_queue m_ring m_ringSize m_ringNodes m_rings m_path m_pathSize m_old m_lastRing m_bestNodes m_bestInside m_bestFits m_far m_xs m_ys) → va_S A s.heap H locs → f_X8_looks_b2 N m_s m_faceOfSide m_faces n2 x1 x2 m_far = some ρ → W p l e ({ frames := 2, cells := 0, slots := 0, locals := 44 } : Room) s m ([.ref (a_m 0), .int p1] : List Value).toArray below meth c H locs 0 0 (MQ below (va_Qv (fun (_ : Unit) => True) (fun _ t => va_P D vwCl (wX8 cA a_m m_s m_past m_pasts m_text m_typed m_faceOfSide m_firstSide m_faces m_before m_endA m_endB m_from m_queue m_ring m_ringSize m_ringNodes m_rings m_path m_pathSize m_old m_lastRing m_bestNodes m_bestInside m_bestFits ρ m_xs m_ys) t.heap ∧ va_D A (wX8 cA a_m m_s m_past m_pasts m_text m_typed m_faceOfSide m_firstSide m_faces m_before m_endA m_endB m_from m_queue m_ring m_ringSize m_ringNodes m_rings m_path m_pathSize m_old m_lastRing m_bestNodes m_bestInside m_bestFits ρ m_xs m_ys)) A) ([.ref (a_m 0), .int p1] : List Value).toArray s 0 0 A) (F0 m 2 ls []) := by
    intro n2
    induction n2 with
    | zero =>
      intro x1 x2 m_far H locs ls hl hP hD hS hf
      cases (show (none : Option ((Nat → Int32))) = some ρ from hf)
    | succ n2 ih2 =>
      have B34 : ∀ (x1 : Int32) (x2 : Int32) (y1 : Int32) (y2 : Int32) (m_far : Nat → Int32) (H : Heap) (locs : List Loc) (ls : Array Slot), lv_has ls 6 [(0, .ref (a_m 0)), (1, .int x1), (2, .int x2)] → va_P D vwCl (wX8 cA a_m m_s m_past m_pasts m_text m_typed m_faceOfSide m_firstSide m_faces m_before m_endA m_endB m_from m_queue m_ring m_ringSize m_ringNodes m_rings m_path m_pathSize m_old m_lastRing m_bestNodes m_bestInside m_bestFits m_far m_xs m_ys) H → va_D A (wX8 cA a_m m_s m_past m_pasts m_text m_typed m_faceOfSide m_firstSide m_faces m_before m_endA m_endB m_from m_queue m_ring m_ringSize m_ringNodes m_rings m_path m_pathSize m_old m_lastRing m_bestNodes m_bestInside m_bestFits m_far m_xs m_ys) → va_S A s.heap H locs → f_X8_looks_b34 N m_s m_faceOfSide m_faces (f_X8_looks_b2 N m_s m_faceOfSide m_faces n2) x1 x2 y1 y2 m_far = some ρ → W p l e ({ frames := 2, cells := 0, slots := 0, locals := 44 } : Room) s m ([.ref (a_m 0), .int p1] : List Value).toArray below meth c H locs 0 0 (MQ below (va_Qv (fun (_ : Unit) => True) (fun _ t => va_P D vwCl (wX8 cA a_m m_s m_past m_pasts m_text m_typed m_faceOfSide m_firstSide m_faces m_before m_endA m_endB m_from m_queue m_ring m_ringSize m_ringNodes m_rings m_path m_pathSize m_old m_lastRing m_bestNodes m_bestInside m_bestFits ρ m_xs m_ys) t.heap ∧ va_D A (wX8 cA a_m m_s m_past m_pasts m_text m_typed m_faceOfSide m_firstSide m_faces m_before m_endA m_endB m_from m_queue m_ring m_ringSize m_ringNodes m_rings m_path m_pathSize m_old m_lastRing m_bestNodes m_bestInside m_bestFits ρ m_xs m_ys)) A) ([.ref (a_m 0), .int p1] : List Value).toArray s 0 0 A) (F0 m 34 ls [.int y2, .int y1, .ref (a_m 16)]) := by
        intro x1 x2 y1 y2 m_far H locs ls hl hP hD hS hf
        obtain ⟨h_5, hf⟩ := chk_s hf
        refine va_iast hx hb hK.1 hP hD hS 16 0 rfl rfl (inb_in h_5) dX8_looks_34 (fun H locs hP hD hS => ?_)
        have hP : va_P D vwCl (wX8 cA a_m m_s m_past m_pasts m_text m_typed m_faceOfSide m_firstSide m_faces m_before m_endA m_endB m_from m_queue m_ring m_ringSize m_ringNodes m_rings m_path m_pathSize m_old m_lastRing m_bestNodes m_bestInside m_bestFits (upd m_far y1.toNatClampNeg y2) m_xs m_ys) H := hP
        have hD : va_D A (wX8 cA a_m m_s m_past m_pasts m_text m_typed m_faceOfSide m_firstSide m_faces m_before m_endA m_endB m_from m_queue m_ring m_ringSize m_ringNodes m_rings m_path m_pathSize m_old m_lastRing m_bestNodes m_bestInside m_bestFits (upd m_far y1.toNatClampNeg y2) m_xs m_ys) := hD
        refine lv_iinc (v := (x2 + 1)) (lv' := [(2, .int (x2 + 1)), (0, .ref (a_m 0)), (1, .int x1)]) hx hb dX8_looks_35 hl (k := 2) rfl rfl (by decide) rfl (fun ls hl => ?_)
        refine lv_goto (tgt := 2) hx hb dX8_looks_38 (by decide) ?_
        exact ih2 x1 (x2 + 1) (upd m_far y1.toNatClampNeg y2) _ _ _ (lv_sub hl [1, 2, 0] rfl) hP hD hS hf
      intro x1 x2 m_far H locs ls hl hP hD hS hf
      refine lv_iload_n hx hb dX8_looks_2 rfl (lv_at hl 2 rfl) ?_
      refine lv_aload_n hx hb dX8_looks_3 rfl (lv_at hl 0 rfl) ?_
      refine va_get (D := D) (ci := 8) (C := RX8) (T := TX8) (N := 27) hx hb hT kwX8 hown hK.1 hP 0 rfl rfl 7 (by decide) (hT _ kf_X8_120) (fun _ h9 => h9) rfl dX8_looks_4 ?_
      refine lv_icmp_ge (tgt := 41) hx hb dX8_looks_7 (by decide) (fun c_1 => ?_) (fun c_1 => ?_)
      · have hf := ite_t c_1 hf
        exact B41 m_far _ _ _ (lv_sub hl [0] rfl) hP hD hS hf
      · have hf := ite_f c_1 hf
        refine lv_aload_n hx hb dX8_looks_10 rfl (lv_at hl 0 rfl) ?_
        refine va_get (D := D) (ci := 8) (C := RX8) (T := TX8) (N := 27) hx hb hT kwX8 hown hK.1 hP 0 rfl rfl 24 (by decide) (hT _ kf_X8_56) (fun _ h9 => h9) rfl dX8_looks_11 ?_
        refine lv_iload_n hx hb dX8_looks_14 rfl (lv_at hl 2 rfl) ?_
        refine lv_aload_n hx hb dX8_looks_15 rfl (lv_at hl 0 rfl) ?_
        refine lv_iload_n hx hb dX8_looks_16 rfl (lv_at hl 2 rfl) ?_
        obtain ⟨r_2, hcr_2, hf⟩ := bd1_s hf
        refine backI (runV0 C (c_X8_nodesOn l D cA a_m m_s m_past m_pasts m_text m_typed m_faceOfSide m_firstSide m_faces m_before m_endA m_endB m_from m_queue m_ring m_ringSize m_ringNodes m_rings m_path m_pathSize m_old m_lastRing m_bestNodes m_bestInside m_bestFits m_far m_xs m_ys x2 N r_2 hcr_2) cf_X8_nodesOn km_X8_140 ⟨rfl, rfl, by decide, by decide⟩ ⟨Nat.zero_le _, Nat.zero_le _⟩ (va_recv hK.1 hP (ci := 8) (q0 := 0) rfl rfl) (hP.sub [0, 1, 2, 3, 4, 5, 6, 7, 8, 9, 10, 11, 12, 13, 14, 15, 16, 17, 18] rfl) hK hl.1 rfl rfl (Nat.le_of_ble_eq_true rfl) dX8_looks_17) ?_
        refine lv_iload_n hx hb dX8_looks_20 rfl (lv_at hl 1 rfl) ?_
        obtain ⟨r_3, hcr_3, hf⟩ := bd1_s hf
        refine backI (runS0 C (c_X8_has l D cA r_2 x1 N r_3 hcr_3) cf_X8_has km_X8_166 ⟨rfl, rfl, by decide, by decide⟩ ⟨Nat.zero_le _, Nat.zero_le _⟩ (hP.sub [] rfl) hK hl.1 rfl rfl (Nat.le_of_ble_eq_true rfl) dX8_looks_21) ?_
        refine lv_if_eq (tgt := 31) hx hb dX8_looks_24 (by decide) (fun c_4 => ?_) (fun c_4 => ?_)
        · have hf := ite_t c_4 hf
          refine lv_sipush (v := 1000) hx hb dX8_looks_31 (by decide) ?_
          exact B34 x1 x2 x2 1000 m_far _ _ _ (lv_sub hl [0, 1, 2] rfl) hP hD hS hf
        · have hf := ite_f c_4 hf
          refine lv_iconst (v := 0) hx hb dX8_looks_27 (by decide) ?_
          refine lv_goto (tgt := 34) hx hb dX8_looks_28 (by decide) ?_
          exact B34 x1 x2 x2 0 m_far _ _ _ (lv_sub hl [0, 1, 2] rfl) hP hD hS hf
  refine lv_iconst (v := 0) hx hb dX8_looks_0 (by decide) ?_
  refine lv_istore_n (lv' := [(2, .int 0), (0, .ref (a_m 0)), (1, .int p1)]) hx hb dX8_looks_1 rfl hl (by decide) rfl (fun ls hl => ?_)
  exact B2 N p1 0 m_far _ _ _ (lv_sub hl [1, 2, 0] rfl) hP hD hS hf
set_option maxRecDepth 100000 in
set_option maxHeartbeats 4000000 in
theorem c_X8_costOf (l : Launch) (D : va_G) (cA : Nat → ClassId) (a_m : Nat → Nat) (m_s : Nat → Int32) (m_past : Nat → Int32) (m_pasts : Int32) (m_text : Nat → Int32) (m_typed : Int32) (m_faceOfSide : Nat → Int32) (m_firstSide : Nat → Int32) (m_faces : Int32) (m_before : Nat → Int32) (m_endA : Nat → Int32) (m_endB : Nat → Int32) (m_from : Nat → Int32) (m_queue : Nat → Int32) (m_ring : Nat → Int32) (m_ringSize : Nat → Int32) (m_ringNodes : Nat → Int32) (m_rings : Int32) (m_path : Nat → Int32) (m_pathSize : Int32) (m_old : Nat → Int32) (m_lastRing : Int32) (m_bestNodes : Int32) (m_bestInside : Int32) (m_bestFits : Int32) (m_far : Nat → Int32) (m_xs : Nat → UInt32) (m_ys : Nat → UInt32) (p1 : Int32) (p2 : Int32) (sz N : Nat) (ρ : Int32 × (Nat → Int32)) (hf : f_X8_costOf N m_s m_faceOfSide m_faces m_far p1 p2 = some ρ) : Met l yX8_costOf (Cond.code yX8_costOf cX8_costOf 5 (Option.some Jvm.ClassFile.FieldType.int) :: lw_g) ({ frames := 3, cells := 0, slots := 0, locals := 69 } : Room) (PcW D (tyA cA) (wX8 cA a_m m_s m_past m_pasts m_text m_typed m_faceOfSide m_firstSide m_faces m_before m_endA m_endB m_from m_queue m_ring m_ringSize m_ringNodes m_rings m_path m_pathSize m_old m_lastRing m_bestNodes m_bestInside m_bestFits m_far m_xs m_ys) sz [.ref (a_m 0), .int p1, .int p2]) (va_Qi (fun r (_ : Unit) => r = ρ.1) (fun _ t => va_P D vwCl (wX8 cA a_m m_s m_past m_pasts m_text m_typed m_faceOfSide m_firstSide m_faces m_before m_endA m_endB m_from m_queue m_ring m_ringSize m_ringNodes m_rings m_path m_pathSize m_old m_lastRing m_bestNodes m_bestInside m_bestFits ρ.2 m_xs m_ys) t.heap ∧ va_D (va_A (wX8 cA a_m m_s m_past m_pasts m_text m_typed m_faceOfSide m_firstSide m_faces m_before m_endA m_endB m_from m_queue m_ring m_ringSize m_ringNodes m_rings m_path m_pathSize m_old m_lastRing m_bestNodes m_bestInside m_bestFits m_far m_xs m_ys) sz) (wX8 cA a_m m_s m_past m_pasts m_text m_typed m_faceOfSide m_firstSide m_faces m_before m_endA m_endB m_from m_queue m_ring m_ringSize m_ringNodes m_rings m_path m_pathSize m_old m_lastRing m_bestNodes m_bestInside m_bestFits ρ.2 m_xs m_ys)) (va_A (wX8 cA a_m m_s m_past m_pasts m_text m_typed m_faceOfSide m_firstSide m_faces m_before m_endA m_endB m_from m_queue m_ring m_ringSize m_ringNodes m_rings m_path m_pathSize m_old m_lastRing m_bestNodes m_bestInside m_bestFits m_far m_xs m_ys) sz)) 0 0 (va_A (wX8 cA a_m m_s m_past m_pasts m_text m_typed m_faceOfSide m_firstSide m_faces m_before m_endA m_endB m_from m_queue m_ring m_ringSize m_ringNodes m_rings m_path m_pathSize m_old m_lastRing m_bestNodes m_bestInside m_bestFits m_far m_xs m_ys) sz) := by
  refine mkW (QQ := fun A => va_Qi (fun r (_ : Unit) => r = ρ.1) (fun _ t => va_P D vwCl (wX8 cA a_m m_s m_past m_pasts m_text m_typed m_faceOfSide m_firstSide m_faces m_before m_endA m_endB m_from m_queue m_ring m_ringSize m_ringNodes m_rings m_path m_pathSize m_old m_lastRing m_bestNodes m_bestInside m_bestFits ρ.2 m_xs m_ys) t.heap ∧ va_D A (wX8 cA a_m m_s m_past m_pasts m_text m_typed m_faceOfSide m_firstSide m_faces m_before m_endA m_endB m_from m_queue m_ring m_ringSize m_ringNodes m_rings m_path m_pathSize m_old m_lastRing m_bestNodes m_bestInside m_bestFits ρ.2 m_xs m_ys)) A) (by decide) (Nat.le_of_ble_eq_true rfl) fun p e s m below meth c ls A C hl hP hK hD hA hS => ?_
  obtain ⟨hx, hb, hml, hown, hT, hr, hlk⟩ := id C
  have hl : lv_has ls 5 [(0, .ref (a_m 0)), (1, .int p1), (2, .int p2)] := hl
  have B26 : ∀ (n26 : Nat), ∀ (x1 : Int32) (x3 : Int32) (x4 : Int32) (m_far : Nat → Int32) (H : Heap) (locs : List Loc) (ls : Array Slot), lv_has ls 5 [(0, .ref (a_m 0)), (1, .int x1), (3, .int x3), (4, .int x4)] → va_P D vwCl (wX8 cA a_m m_s m_past m_pasts m_text m_typed m_faceOfSide m_firstSide m_faces m_before m_endA m_endB m_from m_queue m_ring m_ringSize m_ringNodes m_rings m_path m_pathSize m_old m_lastRing m_bestNodes m_bestInside m_bestFits m_far m_xs m_ys) H → va_D A (wX8 cA a_m m_s m_past m_pasts m_text m_typed m_faceOfSide m_firstSide m_faces m_before m_endA m_endB m_from m_queue m_ring m_ringSize m_ringNodes m_rings m_path m_pathSize m_old m_lastRing m_bestNodes m_bestInside m_bestFits m_far m_xs m_ys) → va_S A s.heap H locs → f_X8_costOf_b26 N m_s m_faceOfSide m_faces n26 x1 x3 x4 m_far = some ρ → W p l e ({ frames := 3, cells := 0, slots := 0, locals := 69 } : Room) s m ([.ref (a_m 0), .int p1, .int p2] : List Value).toArray below meth c H locs 0 0 (MQ below (va_Qi (fun r (_ : Unit) => r = ρ.1) (fun _ t => va_P D vwCl (wX8 cA a_m m_s m_past m_pasts m_text m_typed m_faceOfSide m_firstSide m_faces m_before m_endA m_endB m_from m_queue m_ring m_ringSize m_ringNodes m_rings m_path m_pathSize m_old m_lastRing m_bestNodes m_bestInside m_bestFits ρ.2 m_xs m_ys) t.heap ∧ va_D A (wX8 cA a_m m_s m_past m_pasts m_text m_typed m_faceOfSide m_firstSide m_faces m_before m_endA m_endB m_from m_queue m_ring m_ringSize m_ringNodes m_rings m_path m_pathSize m_old m_lastRing m_bestNodes m_bestInside m_bestFits ρ.2 m_xs m_ys)) A) ([.ref (a_m 0), .int p1, .int p2] : List Value).toArray s 0 0 A) (F0 m 26 ls []) := by
    intro n26
    induction n26 with
    | zero =>
      intro x1 x3 x4 m_far H locs ls hl hP hD hS hf
      cases (show (none : Option (Int32 × (Nat → Int32))) = some ρ from hf)
    | succ n26 ih26 =>
      have B70 : ∀ (x1 : Int32) (x4 : Int32) (y0 : Int32) (m_far : Nat → Int32) (H : Heap) (locs : List Loc) (ls : Array Slot), lv_has ls 5 [(0, .ref (a_m 0)), (1, .int x1), (4, .int x4)] → va_P D vwCl (wX8 cA a_m m_s m_past m_pasts m_text m_typed m_faceOfSide m_firstSide m_faces m_before m_endA m_endB m_from m_queue m_ring m_ringSize m_ringNodes m_rings m_path m_pathSize m_old m_lastRing m_bestNodes m_bestInside m_bestFits m_far m_xs m_ys) H → va_D A (wX8 cA a_m m_s m_past m_pasts m_text m_typed m_faceOfSide m_firstSide m_faces m_before m_endA m_endB m_from m_queue m_ring m_ringSize m_ringNodes m_rings m_path m_pathSize m_old m_lastRing m_bestNodes m_bestInside m_bestFits m_far m_xs m_ys) → va_S A s.heap H locs → f_X8_costOf_b70 N m_s m_faceOfSide m_faces (f_X8_costOf_b26 N m_s m_faceOfSide m_faces n26) x1 x4 y0 m_far = some ρ → W p l e ({ frames := 3, cells := 0, slots := 0, locals := 69 } : Room) s m ([.ref (a_m 0), .int p1, .int p2] : List Value).toArray below meth c H locs 0 0 (MQ below (va_Qi (fun r (_ : Unit) => r = ρ.1) (fun _ t => va_P D vwCl (wX8 cA a_m m_s m_past m_pasts m_text m_typed m_faceOfSide m_firstSide m_faces m_before m_endA m_endB m_from m_queue m_ring m_ringSize m_ringNodes m_rings m_path m_pathSize m_old m_lastRing m_bestNodes m_bestInside m_bestFits ρ.2 m_xs m_ys) t.heap ∧ va_D A (wX8 cA a_m m_s m_past m_pasts m_text m_typed m_faceOfSide m_firstSide m_faces m_before m_endA m_endB m_from m_queue m_ring m_ringSize m_ringNodes m_rings m_path m_pathSize m_old m_lastRing m_bestNodes m_bestInside m_bestFits ρ.2 m_xs m_ys)) A) ([.ref (a_m 0), .int p1, .int p2] : List Value).toArray s 0 0 A) (F0 m 70 ls [.int y0]) := by
        intro x1 x4 y0 m_far H locs ls hl hP hD hS hf
        refine lv_istore_n (lv' := [(3, .int y0), (0, .ref (a_m 0)), (1, .int x1), (4, .int x4)]) hx hb dX8_costOf_70 rfl hl (by decide) rfl (fun ls hl => ?_)
        refine lv_iinc (v := (x4 + 1)) (lv' := [(4, .int (x4 + 1)), (3, .int y0), (0, .ref (a_m 0)), (1, .int x1)]) hx hb dX8_costOf_71 hl (k := 3) rfl rfl (by decide) rfl (fun ls hl => ?_)
        refine lv_goto (tgt := 26) hx hb dX8_costOf_74 (by decide) ?_
        exact ih26 x1 y0 (x4 + 1) m_far _ _ _ (lv_sub hl [2, 3, 1, 0] rfl) hP hD hS hf
      have B69 : ∀ (x1 : Int32) (x3 : Int32) (x4 : Int32) (m_far : Nat → Int32) (H : Heap) (locs : List Loc) (ls : Array Slot), lv_has ls 5 [(0, .ref (a_m 0)), (1, .int x1), (3, .int x3), (4, .int x4)] → va_P D vwCl (wX8 cA a_m m_s m_past m_pasts m_text m_typed m_faceOfSide m_firstSide m_faces m_before m_endA m_endB m_from m_queue m_ring m_ringSize m_ringNodes m_rings m_path m_pathSize m_old m_lastRing m_bestNodes m_bestInside m_bestFits m_far m_xs m_ys) H → va_D A (wX8 cA a_m m_s m_past m_pasts m_text m_typed m_faceOfSide m_firstSide m_faces m_before m_endA m_endB m_from m_queue m_ring m_ringSize m_ringNodes m_rings m_path m_pathSize m_old m_lastRing m_bestNodes m_bestInside m_bestFits m_far m_xs m_ys) → va_S A s.heap H locs → f_X8_costOf_b69 N m_s m_faceOfSide m_faces (f_X8_costOf_b26 N m_s m_faceOfSide m_faces n26) x1 x3 x4 m_far = some ρ → W p l e ({ frames := 3, cells := 0, slots := 0, locals := 69 } : Room) s m ([.ref (a_m 0), .int p1, .int p2] : List Value).toArray below meth c H locs 0 0 (MQ below (va_Qi (fun r (_ : Unit) => r = ρ.1) (fun _ t => va_P D vwCl (wX8 cA a_m m_s m_past m_pasts m_text m_typed m_faceOfSide m_firstSide m_faces m_before m_endA m_endB m_from m_queue m_ring m_ringSize m_ringNodes m_rings m_path m_pathSize m_old m_lastRing m_bestNodes m_bestInside m_bestFits ρ.2 m_xs m_ys) t.heap ∧ va_D A (wX8 cA a_m m_s m_past m_pasts m_text m_typed m_faceOfSide m_firstSide m_faces m_before m_endA m_endB m_from m_queue m_ring m_ringSize m_ringNodes m_rings m_path m_pathSize m_old m_lastRing m_bestNodes m_bestInside m_bestFits ρ.2 m_xs m_ys)) A) ([.ref (a_m 0), .int p1, .int p2] : List Value).toArray s 0 0 A) (F0 m 69 ls []) := by
        intro x1 x3 x4 m_far H locs ls hl hP hD hS hf
        refine lv_iload_n hx hb dX8_costOf_69 rfl (lv_at hl 2 rfl) ?_
        exact B70 x1 x4 x3 m_far _ _ _ (lv_sub hl [0, 1, 3] rfl) hP hD hS hf
      intro x1 x3 x4 m_far H locs ls hl hP hD hS hf
      refine lv_iload hx hb dX8_costOf_26 (lv_at hl 3 rfl) ?_
      refine lv_aload_n hx hb dX8_costOf_28 rfl (lv_at hl 0 rfl) ?_
      refine va_get (D := D) (ci := 8) (C := RX8) (T := TX8) (N := 27) hx hb hT kwX8 hown hK.1 hP 0 rfl rfl 7 (by decide) (hT _ kf_X8_120) (fun _ h9 => h9) rfl dX8_costOf_29 ?_
      refine lv_icmp_ge (tgt := 77) hx hb dX8_costOf_32 (by decide) (fun c_5 => ?_) (fun c_5 => ?_)
      · have hf := ite_t c_5 hf
        refine lv_iload_n hx hb dX8_costOf_77 rfl (lv_at hl 2 rfl) ?_
        have eR := some_i hf
        exact W.iret hx hb hr (fun t ht hW => ⟨⟨x3, (), rfl, fst_e eR, by rw [← eR, ht]; exact hP, by rw [← eR]; exact hD⟩, hS.F ht⟩) hS.2.2 dX8_costOf_78 (hlocks := hlk)
      · have hf := ite_f c_5 hf
        refine lv_aload_n hx hb dX8_costOf_35 rfl (lv_at hl 0 rfl) ?_
        refine lv_iload hx hb dX8_costOf_36 (lv_at hl 3 rfl) ?_
        obtain ⟨r_6, hcr_6, hf⟩ := bd1_s hf
        refine backI (runV0 C (c_X8_nodesOn l D cA a_m m_s m_past m_pasts m_text m_typed m_faceOfSide m_firstSide m_faces m_before m_endA m_endB m_from m_queue m_ring m_ringSize m_ringNodes m_rings m_path m_pathSize m_old m_lastRing m_bestNodes m_bestInside m_bestFits m_far m_xs m_ys x4 N r_6 hcr_6) cf_X8_nodesOn km_X8_140 ⟨rfl, rfl, by decide, by decide⟩ ⟨Nat.zero_le _, Nat.zero_le _⟩ (va_recv hK.1 hP (ci := 8) (q0 := 0) rfl rfl) (hP.sub [0, 1, 2, 3, 4, 5, 6, 7, 8, 9, 10, 11, 12, 13, 14, 15, 16, 17, 18] rfl) hK hl.1 rfl rfl (Nat.le_of_ble_eq_true rfl) dX8_costOf_38) ?_
        refine lv_iload_n hx hb dX8_costOf_41 rfl (lv_at hl 1 rfl) ?_
        obtain ⟨r_7, hcr_7, hf⟩ := bd1_s hf
        refine backI (runS0 C (c_X8_has l D cA r_6 x1 N r_7 hcr_7) cf_X8_has km_X8_166 ⟨rfl, rfl, by decide, by decide⟩ ⟨Nat.zero_le _, Nat.zero_le _⟩ (hP.sub [] rfl) hK hl.1 rfl rfl (Nat.le_of_ble_eq_true rfl) dX8_costOf_42) ?_
        refine lv_if_eq (tgt := 69) hx hb dX8_costOf_45 (by decide) (fun c_8 => ?_) (fun c_8 => ?_)
        · have hf := ite_t c_8 hf
          exact B69 x1 x3 x4 m_far _ _ _ (lv_sub hl [0, 1, 2, 3] rfl) hP hD hS hf
        · have hf := ite_f c_8 hf
          refine lv_aload_n hx hb dX8_costOf_48 rfl (lv_at hl 0 rfl) ?_
          refine va_get (D := D) (ci := 8) (C := RX8) (T := TX8) (N := 27) hx hb hT kwX8 hown hK.1 hP 0 rfl rfl 24 (by decide) (hT _ kf_X8_56) (fun _ h9 => h9) rfl dX8_costOf_49 ?_
          refine lv_iload hx hb dX8_costOf_52 (lv_at hl 3 rfl) ?_
          obtain ⟨h_9, hf⟩ := chk_s hf
          refine va_iald hx hb hK.1 hP 16 0 rfl rfl (inb_in h_9) dX8_costOf_54 ?_
          refine lv_iload_n hx hb dX8_costOf_55 rfl (lv_at hl 2 rfl) ?_
          refine lv_icmp_ge (tgt := 69) hx hb dX8_costOf_56 (by decide) (fun c_10 => ?_) (fun c_10 => ?_)
          · have hf := ite_t c_10 hf
            exact B69 x1 x3 x4 m_far _ _ _ (lv_sub hl [0, 1, 2, 3] rfl) hP hD hS hf
          · have hf := ite_f c_10 hf
            refine lv_aload_n hx hb dX8_costOf_59 rfl (lv_at hl 0 rfl) ?_
            refine va_get (D := D) (ci := 8) (C := RX8) (T := TX8) (N := 27) hx hb hT kwX8 hown hK.1 hP 0 rfl rfl 24 (by decide) (hT _ kf_X8_56) (fun _ h9 => h9) rfl dX8_costOf_60 ?_
            refine lv_iload hx hb dX8_costOf_63 (lv_at hl 3 rfl) ?_
            obtain ⟨h_11, hf⟩ := chk_s hf
            refine va_iald hx hb hK.1 hP 16 0 rfl rfl (inb_in h_11) dX8_costOf_65 ?_
            refine lv_goto (tgt := 70) hx hb dX8_costOf_66 (by decide) ?_
            exact B70 x1 x4 (m_far x4.toNatClampNeg) m_far _ _ _ (lv_sub hl [0, 1, 3] rfl) hP hD hS hf
  refine lv_aload_n hx hb dX8_costOf_0 rfl (lv_at hl 0 rfl) ?_
  refine lv_iload_n hx hb dX8_costOf_1 rfl (lv_at hl 1 rfl) ?_
  obtain ⟨r_1, hcr_1, hf⟩ := bd1_s hf
  refine backI (runV0 C (c_X8_component l D cA a_m m_s m_past m_pasts m_text m_typed m_faceOfSide m_firstSide m_faces m_before m_endA m_endB m_from m_queue m_ring m_ringSize m_ringNodes m_rings m_path m_pathSize m_old m_lastRing m_bestNodes m_bestInside m_bestFits m_far m_xs m_ys p1 N r_1 hcr_1) cf_X8_component km_X8_133 ⟨rfl, rfl, by decide, by decide⟩ ⟨Nat.zero_le _, Nat.zero_le _⟩ (va_recv hK.1 hP (ci := 8) (q0 := 0) rfl rfl) (hP.sub [0, 1, 2, 3, 4, 5, 6, 7, 8, 9, 10, 11, 12, 13, 14, 15, 16, 17, 18] rfl) hK hl.1 rfl rfl (Nat.le_of_ble_eq_true rfl) dX8_costOf_2) ?_
  refine lv_iload_n hx hb dX8_costOf_5 rfl (lv_at hl 2 rfl) ?_
  obtain ⟨r_2, hcr_2, hf⟩ := bd1_s hf
  refine backI (runS0 C (c_X8_has l D cA r_1 p2 N r_2 hcr_2) cf_X8_has km_X8_166 ⟨rfl, rfl, by decide, by decide⟩ ⟨Nat.zero_le _, Nat.zero_le _⟩ (hP.sub [] rfl) hK hl.1 rfl rfl (Nat.le_of_ble_eq_true rfl) dX8_costOf_6) ?_
  refine lv_if_ne (tgt := 14) hx hb dX8_costOf_9 (by decide) (fun c_3 => ?_) (fun c_3 => ?_)
  · have hf := ite_t c_3 hf
    refine lv_aload_n hx hb dX8_costOf_14 rfl (lv_at hl 0 rfl) ?_
    refine lv_iload_n hx hb dX8_costOf_15 rfl (lv_at hl 2 rfl) ?_
    obtain ⟨r_4, hcr_4, hf⟩ := bd1_s hf
    refine backWv (w2 := (wX8 cA a_m m_s m_past m_pasts m_text m_typed m_faceOfSide m_firstSide m_faces m_before m_endA m_endB m_from m_queue m_ring m_ringSize m_ringNodes m_rings m_path m_pathSize m_old m_lastRing m_bestNodes m_bestInside m_bestFits r_4 m_xs m_ys)) (runVw C (c_X8_looks l D cA a_m m_s m_past m_pasts m_text m_typed m_faceOfSide m_firstSide m_faces m_before m_endA m_endB m_from m_queue m_ring m_ringSize m_ringNodes m_rings m_path m_pathSize m_old m_lastRing m_bestNodes m_bestInside m_bestFits m_far m_xs m_ys p2 _ N r_4 hcr_4) cf_X8_looks km_X8_252 ⟨rfl, rfl, by decide, by decide⟩ ⟨Nat.zero_le _, Nat.zero_le _⟩ (va_recv hK.1 hP (ci := 8) (q0 := 0) rfl rfl) (hP.sub [0, 1, 2, 3, 4, 5, 6, 7, 8, 9, 10, 11, 12, 13, 14, 15, 16, 17, 18] rfl) (hD.sub [0, 1, 2, 3, 4, 5, 6, 7, 8, 9, 10, 11, 12, 13, 14, 15, 16, 17, 18] rfl rfl) hK hl.1 rfl rfl (Nat.le_of_ble_eq_true rfl) dX8_costOf_16) hP hD hS hA [0, 1, 2, 3, 4, 5, 6, 7, 8, 9, 10, 11, 12, 13, 14, 15, 16, 17, 18] rfl [] rfl rfl (by decide) [0, 1, 2, 3, 4, 5, 6, 7, 8, 9, 10, 11, 12, 13, 14, 15, 16, 17, 18] rfl rfl (fun H locs hP hD hS => ?_)
    refine lv_sipush (v := 1000) hx hb dX8_costOf_19 (by decide) ?_
    refine lv_istore_n (lv' := [(3, .int 1000), (0, .ref (a_m 0)), (1, .int p1), (2, .int p2)]) hx hb dX8_costOf_22 rfl hl (by decide) rfl (fun ls hl => ?_)
    refine lv_iconst (v := 0) hx hb dX8_costOf_23 (by decide) ?_
    refine lv_istore (lv' := [(4, .int 0), (3, .int 1000), (0, .ref (a_m 0)), (1, .int p1), (2, .int p2)]) hx hb dX8_costOf_24 hl (by decide) rfl (fun ls hl => ?_)
    exact B26 N p1 1000 0 r_4 _ _ _ (lv_sub hl [2, 3, 1, 0] rfl) hP hD hS hf
  · have hf := ite_fn c_3 hf
    refine lv_iconst (v := 0) hx hb dX8_costOf_12 (by decide) ?_
    have eR := some_i hf
    exact W.iret hx hb hr (fun t ht hW => ⟨⟨0, (), rfl, fst_e eR, by rw [← eR, ht]; exact hP, by rw [← eR]; exact hD⟩, hS.F ht⟩) hS.2.2 dX8_costOf_13 (hlocks := hlk)
set_option maxRecDepth 100000 in
set_option maxHeartbeats 4000000 in
theorem c_X8_genus (l : Launch) (D : va_G) (cA : Nat → ClassId) (a_m : Nat → Nat) (m_s : Nat → Int32) (m_past : Nat → Int32) (m_pasts : Int32) (m_text : Nat → Int32) (m_typed : Int32) (m_faceOfSide : Nat → Int32) (m_firstSide : Nat → Int32) (m_faces : Int32) (m_before : Nat → Int32) (m_endA : Nat → Int32) (m_endB : Nat → Int32) (m_from : Nat → Int32) (m_queue : Nat → Int32) (m_ring : Nat → Int32) (m_ringSize : Nat → Int32) (m_ringNodes : Nat → Int32) (m_rings : Int32) (m_path : Nat → Int32) (m_pathSize : Int32) (m_old : Nat → Int32) (m_lastRing : Int32) (m_bestNodes : Int32) (m_bestInside : Int32) (m_bestFits : Int32) (m_far : Nat → Int32) (m_xs : Nat → UInt32) (m_ys : Nat → UInt32) (sz N : Nat) (ρ : Int32 × (Nat → Int32) × (Nat → Int32) × Int32) (hf : f_X8_genus N m_s m_faceOfSide m_firstSide m_faces = some ρ) : Met l yX8_genus (Cond.code yX8_genus cX8_genus 4 (Option.some Jvm.ClassFile.FieldType.int) :: lw_g) ({ frames := 4, cells := 0, slots := 0, locals := 91 } : Room) (PcW D (tyA cA) (wX8 cA a_m m_s m_past m_pasts m_text m_typed m_faceOfSide m_firstSide m_faces m_before m_endA m_endB m_from m_queue m_ring m_ringSize m_ringNodes m_rings m_path m_pathSize m_old m_lastRing m_bestNodes m_bestInside m_bestFits m_far m_xs m_ys) sz [.ref (a_m 0)]) (va_Qi (fun r (_ : Unit) => r = ρ.1) (fun _ t => va_P D vwCl (wX8 cA a_m m_s m_past m_pasts m_text m_typed ρ.2.1 ρ.2.2.1 ρ.2.2.2 m_before m_endA m_endB m_from m_queue m_ring m_ringSize m_ringNodes m_rings m_path m_pathSize m_old m_lastRing m_bestNodes m_bestInside m_bestFits m_far m_xs m_ys) t.heap ∧ va_D (va_A (wX8 cA a_m m_s m_past m_pasts m_text m_typed m_faceOfSide m_firstSide m_faces m_before m_endA m_endB m_from m_queue m_ring m_ringSize m_ringNodes m_rings m_path m_pathSize m_old m_lastRing m_bestNodes m_bestInside m_bestFits m_far m_xs m_ys) sz) (wX8 cA a_m m_s m_past m_pasts m_text m_typed ρ.2.1 ρ.2.2.1 ρ.2.2.2 m_before m_endA m_endB m_from m_queue m_ring m_ringSize m_ringNodes m_rings m_path m_pathSize m_old m_lastRing m_bestNodes m_bestInside m_bestFits m_far m_xs m_ys)) (va_A (wX8 cA a_m m_s m_past m_pasts m_text m_typed m_faceOfSide m_firstSide m_faces m_before m_endA m_endB m_from m_queue m_ring m_ringSize m_ringNodes m_rings m_path m_pathSize m_old m_lastRing m_bestNodes m_bestInside m_bestFits m_far m_xs m_ys) sz)) 0 0 (va_A (wX8 cA a_m m_s m_past m_pasts m_text m_typed m_faceOfSide m_firstSide m_faces m_before m_endA m_endB m_from m_queue m_ring m_ringSize m_ringNodes m_rings m_path m_pathSize m_old m_lastRing m_bestNodes m_bestInside m_bestFits m_far m_xs m_ys) sz) := by
  refine mkW (QQ := fun A => va_Qi (fun r (_ : Unit) => r = ρ.1) (fun _ t => va_P D vwCl (wX8 cA a_m m_s m_past m_pasts m_text m_typed ρ.2.1 ρ.2.2.1 ρ.2.2.2 m_before m_endA m_endB m_from m_queue m_ring m_ringSize m_ringNodes m_rings m_path m_pathSize m_old m_lastRing m_bestNodes m_bestInside m_bestFits m_far m_xs m_ys) t.heap ∧ va_D A (wX8 cA a_m m_s m_past m_pasts m_text m_typed ρ.2.1 ρ.2.2.1 ρ.2.2.2 m_before m_endA m_endB m_from m_queue m_ring m_ringSize m_ringNodes m_rings m_path m_pathSize m_old m_lastRing m_bestNodes m_bestInside m_bestFits m_far m_xs m_ys)) A) (by decide) (Nat.le_of_ble_eq_true rfl) fun p e s m below meth c ls A C hl hP hK hD hA hS => ?_
  obtain ⟨hx, hb, hml, hown, hT, hr, hlk⟩ := id C
  have hl : lv_has ls 4 [(0, .ref (a_m 0))] := hl
  have B62 : ∀ (x1 : Int32) (m_faceOfSide : Nat → Int32) (m_firstSide : Nat → Int32) (m_faces : Int32) (H : Heap) (locs : List Loc) (ls : Array Slot), lv_has ls 4 [(0, .ref (a_m 0)), (1, .int x1)] → va_P D vwCl (wX8 cA a_m m_s m_past m_pasts m_text m_typed m_faceOfSide m_firstSide m_faces m_before m_endA m_endB m_from m_queue m_ring m_ringSize m_ringNodes m_rings m_path m_pathSize m_old m_lastRing m_bestNodes m_bestInside m_bestFits m_far m_xs m_ys) H → va_D A (wX8 cA a_m m_s m_past m_pasts m_text m_typed m_faceOfSide m_firstSide m_faces m_before m_endA m_endB m_from m_queue m_ring m_ringSize m_ringNodes m_rings m_path m_pathSize m_old m_lastRing m_bestNodes m_bestInside m_bestFits m_far m_xs m_ys) → va_S A s.heap H locs → f_X8_genus_b62 N m_s x1 m_faceOfSide m_firstSide m_faces = some ρ → W p l e ({ frames := 4, cells := 0, slots := 0, locals := 91 } : Room) s m ([.ref (a_m 0)] : List Value).toArray below meth c H locs 0 0 (MQ below (va_Qi (fun r (_ : Unit) => r = ρ.1) (fun _ t => va_P D vwCl (wX8 cA a_m m_s m_past m_pasts m_text m_typed ρ.2.1 ρ.2.2.1 ρ.2.2.2 m_before m_endA m_endB m_from m_queue m_ring m_ringSize m_ringNodes m_rings m_path m_pathSize m_old m_lastRing m_bestNodes m_bestInside m_bestFits m_far m_xs m_ys) t.heap ∧ va_D A (wX8 cA a_m m_s m_past m_pasts m_text m_typed ρ.2.1 ρ.2.2.1 ρ.2.2.2 m_before m_endA m_endB m_from m_queue m_ring m_ringSize m_ringNodes m_rings m_path m_pathSize m_old m_lastRing m_bestNodes m_bestInside m_bestFits m_far m_xs m_ys)) A) ([.ref (a_m 0)] : List Value).toArray s 0 0 A) (F0 m 62 ls []) := by
    intro x1 m_faceOfSide m_firstSide m_faces H locs ls hl hP hD hS hf
    refine lv_iload_n hx hb dX8_genus_62 rfl (lv_at hl 1 rfl) ?_
    refine lv_aload_n hx hb dX8_genus_63 rfl (lv_at hl 0 rfl) ?_
    refine va_get (D := D) (ci := 8) (C := RX8) (T := TX8) (N := 27) hx hb hT kwX8 hown hK.1 hP 0 rfl rfl 0 (by decide) (hT _ kf_X8_7) (fun _ h9 => h9) rfl dX8_genus_64 ?_
    refine lv_iconst (v := 1) hx hb dX8_genus_67 (by decide) ?_
    obtain ⟨h_10, hf⟩ := chk_s hf
    refine va_iald hx hb hK.1 hP 1 0 rfl rfl (inb_in h_10) dX8_genus_68 ?_
    refine lv_iadd hx hb dX8_genus_69 ?_
    refine lv_aload_n hx hb dX8_genus_70 rfl (lv_at hl 0 rfl) ?_
    refine va_get (D := D) (ci := 8) (C := RX8) (T := TX8) (N := 27) hx hb hT kwX8 hown hK.1 hP 0 rfl rfl 7 (by decide) (hT _ kf_X8_120) (fun _ h9 => h9) rfl dX8_genus_71 ?_
    refine lv_isub hx hb dX8_genus_74 ?_
    refine lv_iconst (v := 2) hx hb dX8_genus_75 (by decide) ?_
    refine lv_idiv hx hb dX8_genus_76 (by decide) ?_
    have eR := some_i hf
    exact W.iret hx hb hr (fun t ht hW => ⟨⟨(((x1 + (m_s (1 : Int32).toNatClampNeg)) - m_faces) / 2), (), rfl, fst_e eR, by rw [← eR, ht]; exact hP, by rw [← eR]; exact hD⟩, hS.F ht⟩) hS.2.2 dX8_genus_77 (hlocks := hlk)
  have B8 : ∀ (n8 : Nat), ∀ (x1 : Int32) (x2 : Int32) (m_faceOfSide : Nat → Int32) (m_firstSide : Nat → Int32) (m_faces : Int32) (H : Heap) (locs : List Loc) (ls : Array Slot), lv_has ls 4 [(0, .ref (a_m 0)), (1, .int x1), (2, .int x2)] → va_P D vwCl (wX8 cA a_m m_s m_past m_pasts m_text m_typed m_faceOfSide m_firstSide m_faces m_before m_endA m_endB m_from m_queue m_ring m_ringSize m_ringNodes m_rings m_path m_pathSize m_old m_lastRing m_bestNodes m_bestInside m_bestFits m_far m_xs m_ys) H → va_D A (wX8 cA a_m m_s m_past m_pasts m_text m_typed m_faceOfSide m_firstSide m_faces m_before m_endA m_endB m_from m_queue m_ring m_ringSize m_ringNodes m_rings m_path m_pathSize m_old m_lastRing m_bestNodes m_bestInside m_bestFits m_far m_xs m_ys) → va_S A s.heap H locs → f_X8_genus_b8 N m_s n8 x1 x2 m_faceOfSide m_firstSide m_faces = some ρ → W p l e ({ frames := 4, cells := 0, slots := 0, locals := 91 } : Room) s m ([.ref (a_m 0)] : List Value).toArray below meth c H locs 0 0 (MQ below (va_Qi (fun r (_ : Unit) => r = ρ.1) (fun _ t => va_P D vwCl (wX8 cA a_m m_s m_past m_pasts m_text m_typed ρ.2.1 ρ.2.2.1 ρ.2.2.2 m_before m_endA m_endB m_from m_queue m_ring m_ringSize m_ringNodes m_rings m_path m_pathSize m_old m_lastRing m_bestNodes m_bestInside m_bestFits m_far m_xs m_ys) t.heap ∧ va_D A (wX8 cA a_m m_s m_past m_pasts m_text m_typed ρ.2.1 ρ.2.2.1 ρ.2.2.2 m_before m_endA m_endB m_from m_queue m_ring m_ringSize m_ringNodes m_rings m_path m_pathSize m_old m_lastRing m_bestNodes m_bestInside m_bestFits m_far m_xs m_ys)) A) ([.ref (a_m 0)] : List Value).toArray s 0 0 A) (F0 m 8 ls []) := by
    intro n8
    induction n8 with
    | zero =>
      intro x1 x2 m_faceOfSide m_firstSide m_faces H locs ls hl hP hD hS hf
      cases (show (none : Option (Int32 × (Nat → Int32) × (Nat → Int32) × Int32)) = some ρ from hf)
    | succ n8 ih8 =>
      have B56 : ∀ (x1 : Int32) (x2 : Int32) (m_faceOfSide : Nat → Int32) (m_firstSide : Nat → Int32) (m_faces : Int32) (H : Heap) (locs : List Loc) (ls : Array Slot), lv_has ls 4 [(0, .ref (a_m 0)), (1, .int x1), (2, .int x2)] → va_P D vwCl (wX8 cA a_m m_s m_past m_pasts m_text m_typed m_faceOfSide m_firstSide m_faces m_before m_endA m_endB m_from m_queue m_ring m_ringSize m_ringNodes m_rings m_path m_pathSize m_old m_lastRing m_bestNodes m_bestInside m_bestFits m_far m_xs m_ys) H → va_D A (wX8 cA a_m m_s m_past m_pasts m_text m_typed m_faceOfSide m_firstSide m_faces m_before m_endA m_endB m_from m_queue m_ring m_ringSize m_ringNodes m_rings m_path m_pathSize m_old m_lastRing m_bestNodes m_bestInside m_bestFits m_far m_xs m_ys) → va_S A s.heap H locs → f_X8_genus_b56 N m_s (f_X8_genus_b8 N m_s n8) x1 x2 m_faceOfSide m_firstSide m_faces = some ρ → W p l e ({ frames := 4, cells := 0, slots := 0, locals := 91 } : Room) s m ([.ref (a_m 0)] : List Value).toArray below meth c H locs 0 0 (MQ below (va_Qi (fun r (_ : Unit) => r = ρ.1) (fun _ t => va_P D vwCl (wX8 cA a_m m_s m_past m_pasts m_text m_typed ρ.2.1 ρ.2.2.1 ρ.2.2.2 m_before m_endA m_endB m_from m_queue m_ring m_ringSize m_ringNodes m_rings m_path m_pathSize m_old m_lastRing m_bestNodes m_bestInside m_bestFits m_far m_xs m_ys) t.heap ∧ va_D A (wX8 cA a_m m_s m_past m_pasts m_text m_typed ρ.2.1 ρ.2.2.1 ρ.2.2.2 m_before m_endA m_endB m_from m_queue m_ring m_ringSize m_ringNodes m_rings m_path m_pathSize m_old m_lastRing m_bestNodes m_bestInside m_bestFits m_far m_xs m_ys)) A) ([.ref (a_m 0)] : List Value).toArray s 0 0 A) (F0 m 56 ls []) := by
        intro x1 x2 m_faceOfSide m_firstSide m_faces H locs ls hl hP hD hS hf
        refine lv_iinc (v := (x2 + 1)) (lv' := [(2, .int (x2 + 1)), (0, .ref (a_m 0)), (1, .int x1)]) hx hb dX8_genus_56 hl (k := 2) rfl rfl (by decide) rfl (fun ls hl => ?_)
        refine lv_goto (tgt := 8) hx hb dX8_genus_59 (by decide) ?_
        exact ih8 x1 (x2 + 1) m_faceOfSide m_firstSide m_faces _ _ _ (lv_sub hl [1, 2, 0] rfl) hP hD hS hf
      intro x1 x2 m_faceOfSide m_firstSide m_faces H locs ls hl hP hD hS hf
      refine lv_iload_n hx hb dX8_genus_8 rfl (lv_at hl 2 rfl) ?_
      refine lv_aload_n hx hb dX8_genus_9 rfl (lv_at hl 0 rfl) ?_
      refine va_get (D := D) (ci := 8) (C := RX8) (T := TX8) (N := 27) hx hb hT kwX8 hown hK.1 hP 0 rfl rfl 0 (by decide) (hT _ kf_X8_7) (fun _ h9 => h9) rfl dX8_genus_10 ?_
      refine lv_iconst (v := 0) hx hb dX8_genus_13 (by decide) ?_
      obtain ⟨h_2, hf⟩ := chk_s hf
      refine va_iald hx hb hK.1 hP 1 0 rfl rfl (inb_in h_2) dX8_genus_14 ?_
      refine lv_icmp_ge (tgt := 62) hx hb dX8_genus_15 (by decide) (fun c_3 => ?_) (fun c_3 => ?_)
      · have hf := ite_t c_3 hf
        exact B62 x1 m_faceOfSide m_firstSide m_faces _ _ _ (lv_sub hl [0, 1] rfl) hP hD hS hf
      · have hf := ite_f c_3 hf
        refine lv_aload_n hx hb dX8_genus_18 rfl (lv_at hl 0 rfl) ?_
        refine lv_iload_n hx hb dX8_genus_19 rfl (lv_at hl 2 rfl) ?_
        obtain ⟨r_4, hcr_4, hf⟩ := bd1_s hf
        refine backI (runV0 C (c_X8_component l D cA a_m m_s m_past m_pasts m_text m_typed m_faceOfSide m_firstSide m_faces m_before m_endA m_endB m_from m_queue m_ring m_ringSize m_ringNodes m_rings m_path m_pathSize m_old m_lastRing m_bestNodes m_bestInside m_bestFits m_far m_xs m_ys x2 N r_4 hcr_4) cf_X8_component km_X8_133 ⟨rfl, rfl, by decide, by decide⟩ ⟨Nat.zero_le _, Nat.zero_le _⟩ (va_recv hK.1 hP (ci := 8) (q0 := 0) rfl rfl) (hP.sub [0, 1, 2, 3, 4, 5, 6, 7, 8, 9, 10, 11, 12, 13, 14, 15, 16, 17, 18] rfl) hK hl.1 rfl rfl (Nat.le_of_ble_eq_true rfl) dX8_genus_20) ?_
        refine lv_istore_n (lv' := [(3, .int r_4), (0, .ref (a_m 0)), (1, .int x1), (2, .int x2)]) hx hb dX8_genus_23 rfl hl (by decide) rfl (fun ls hl => ?_)
        refine lv_iload_n hx hb dX8_genus_24 rfl (lv_at hl 0 rfl) ?_
        refine lv_iconst (v := 1) hx hb dX8_genus_25 (by decide) ?_
        refine lv_iload_n hx hb dX8_genus_26 rfl (lv_at hl 3 rfl) ?_
        refine lv_ishl hx hb dX8_genus_27 ?_
        refine lv_iconst (v := 1) hx hb dX8_genus_28 (by decide) ?_
        refine lv_isub hx hb dX8_genus_29 ?_
        refine lv_iand hx hb dX8_genus_30 ?_
        refine lv_if_ne (tgt := 56) hx hb dX8_genus_31 (by decide) (fun c_5 => ?_) (fun c_5 => ?_)
        · have hf := ite_t c_5 hf
          exact B56 x1 x2 m_faceOfSide m_firstSide m_faces _ _ _ (lv_sub hl [1, 2, 3] rfl) hP hD hS hf
        · have hf := ite_fn c_5 hf
          refine lv_aload_n hx hb dX8_genus_34 rfl (lv_at hl 1 rfl) ?_
          refine va_get (D := D) (ci := 8) (C := RX8) (T := TX8) (N := 27) hx hb hT kwX8 hown hK.1 hP 0 rfl rfl 0 (by decide) (hT _ kf_X8_7) (fun _ h9 => h9) rfl dX8_genus_35 ?_
          refine lv_bipush (v := 43) hx hb dX8_genus_38 (by decide) ?_
          refine lv_iload_n hx hb dX8_genus_40 rfl (lv_at hl 3 rfl) ?_
          refine lv_iadd hx hb dX8_genus_41 ?_
          obtain ⟨h_6, hf⟩ := chk_s hf
          refine va_iald hx hb hK.1 hP 1 0 rfl rfl (inb_in h_6) dX8_genus_42 ?_
          refine lv_if_le (tgt := 56) hx hb dX8_genus_43 (by decide) (fun c_7 => ?_) (fun c_7 => ?_)
          · have hf := ite_t c_7 hf
            exact B56 x1 x2 m_faceOfSide m_firstSide m_faces _ _ _ (lv_sub hl [1, 2, 3] rfl) hP hD hS hf
          · have hf := ite_f c_7 hf
            refine lv_iload_n hx hb dX8_genus_46 rfl (lv_at hl 2 rfl) ?_
            refine lv_iconst (v := 2) hx hb dX8_genus_47 (by decide) ?_
            refine lv_iload_n hx hb dX8_genus_48 rfl (lv_at hl 0 rfl) ?_
            refine lv_i2l (v := (r_4 : Int32).toInt64) hx hb dX8_genus_49 rfl ?_
            obtain ⟨r_8, hcr_8, hf⟩ := bd1_s hf
            refine backI (runS0 C (c_X8_bits l D cA ((r_4 : Int32).toInt64) N r_8 hcr_8) cf_X8_bits km_X8_136 ⟨rfl, rfl, by decide, by decide⟩ ⟨Nat.zero_le _, Nat.zero_le _⟩ (hP.sub [] rfl) hK hl.1 rfl rfl (Nat.le_of_ble_eq_true rfl) dX8_genus_50) ?_
            refine lv_isub hx hb dX8_genus_53 ?_
            refine lv_iadd hx hb dX8_genus_54 ?_
            refine lv_topi (fun x1_9 ex1_9 => ?_)
            have hf := nm_t ex1_9 hf
            refine lv_istore_n (lv' := [(1, .int x1_9), (3, .int r_4), (0, .ref (a_m 0)), (2, .int x2)]) hx hb dX8_genus_55 rfl hl (by decide) rfl (fun ls hl => ?_)
            exact B56 x1_9 x2 m_faceOfSide m_firstSide m_faces _ _ _ (lv_sub hl [2, 0, 3] rfl) hP hD hS hf
  refine lv_aload_n hx hb dX8_genus_0 rfl (lv_at hl 0 rfl) ?_
  obtain ⟨r_1, hcr_1, hf⟩ := bd1_s hf
  refine backWv (w2 := (wX8 cA a_m m_s m_past m_pasts m_text m_typed r_1.1 r_1.2.1 r_1.2.2 m_before m_endA m_endB m_from m_queue m_ring m_ringSize m_ringNodes m_rings m_path m_pathSize m_old m_lastRing m_bestNodes m_bestInside m_bestFits m_far m_xs m_ys)) (runVw C (c_X8_walks l D cA a_m m_s m_past m_pasts m_text m_typed m_faceOfSide m_firstSide m_faces m_before m_endA m_endB m_from m_queue m_ring m_ringSize m_ringNodes m_rings m_path m_pathSize m_old m_lastRing m_bestNodes m_bestInside m_bestFits m_far m_xs m_ys _ N r_1 hcr_1) cf_X8_walks km_X8_117 ⟨rfl, rfl, by decide, by decide⟩ ⟨Nat.zero_le _, Nat.zero_le _⟩ (va_recv hK.1 hP (ci := 8) (q0 := 0) rfl rfl) (hP.sub [0, 1, 2, 3, 4, 5, 6, 7, 8, 9, 10, 11, 12, 13, 14, 15, 16, 17, 18] rfl) (hD.sub [0, 1, 2, 3, 4, 5, 6, 7, 8, 9, 10, 11, 12, 13, 14, 15, 16, 17, 18] rfl rfl) hK hl.1 rfl rfl (Nat.le_of_ble_eq_true rfl) dX8_genus_1) hP hD hS hA [0, 1, 2, 3, 4, 5, 6, 7, 8, 9, 10, 11, 12, 13, 14, 15, 16, 17, 18] rfl [] rfl rfl (by decide) [0, 1, 2, 3, 4, 5, 6, 7, 8, 9, 10, 11, 12, 13, 14, 15, 16, 17, 18] rfl rfl (fun H locs hP hD hS => ?_)
  refine lv_iconst (v := 0) hx hb dX8_genus_4 (by decide) ?_
  refine lv_istore_n (lv' := [(1, .int 0), (0, .ref (a_m 0))]) hx hb dX8_genus_5 rfl hl (by decide) rfl (fun ls hl => ?_)
  refine lv_iconst (v := 0) hx hb dX8_genus_6 (by decide) ?_
  refine lv_istore_n (lv' := [(2, .int 0), (1, .int 0), (0, .ref (a_m 0))]) hx hb dX8_genus_7 rfl hl (by decide) rfl (fun ls hl => ?_)
  exact B8 N 0 0 r_1.1 r_1.2.1 r_1.2.2 _ _ _ (lv_sub hl [2, 1, 0] rfl) hP hD hS hf
set_option maxRecDepth 100000 in
set_option maxHeartbeats 4000000 in
theorem c_X8_count (l : Launch) (D : va_G) (cA : Nat → ClassId) (a_m : Nat → Nat) (m_s : Nat → Int32) (m_past : Nat → Int32) (m_pasts : Int32) (m_text : Nat → Int32) (m_typed : Int32) (m_faceOfSide : Nat → Int32) (m_firstSide : Nat → Int32) (m_faces : Int32) (m_before : Nat → Int32) (m_endA : Nat → Int32) (m_endB : Nat → Int32) (m_from : Nat → Int32) (m_queue : Nat → Int32) (m_ring : Nat → Int32) (m_ringSize : Nat → Int32) (m_ringNodes : Nat → Int32) (m_rings : Int32) (m_path : Nat → Int32) (m_pathSize : Int32) (m_old : Nat → Int32) (m_lastRing : Int32) (m_bestNodes : Int32) (m_bestInside : Int32) (m_bestFits : Int32) (m_far : Nat → Int32) (m_xs : Nat → UInt32) (m_ys : Nat → UInt32) (p1 : Int32) (sz N : Nat) (ρ : Int32 × (Nat → Int32) × (Nat → Int32) × Int32) (hf : f_X8_count N m_s m_pasts m_typed m_faceOfSide m_firstSide m_faces p1 = some ρ) : Met l yX8_count (Cond.code yX8_count cX8_count 2 (Option.some Jvm.ClassFile.FieldType.int) :: lw_g) ({ frames := 5, cells := 0, slots := 0, locals := 114 } : Room) (PcW D (tyA cA) (wX8 cA a_m m_s m_past m_pasts m_text m_typed m_faceOfSide m_firstSide m_faces m_before m_endA m_endB m_from m_queue m_ring m_ringSize m_ringNodes m_rings m_path m_pathSize m_old m_lastRing m_bestNodes m_bestInside m_bestFits m_far m_xs m_ys) sz [.ref (a_m 0), .int p1]) (va_Qi (fun r (_ : Unit) => r = ρ.1) (fun _ t => va_P D vwCl (wX8 cA a_m m_s m_past m_pasts m_text m_typed ρ.2.1 ρ.2.2.1 ρ.2.2.2 m_before m_endA m_endB m_from m_queue m_ring m_ringSize m_ringNodes m_rings m_path m_pathSize m_old m_lastRing m_bestNodes m_bestInside m_bestFits m_far m_xs m_ys) t.heap ∧ va_D (va_A (wX8 cA a_m m_s m_past m_pasts m_text m_typed m_faceOfSide m_firstSide m_faces m_before m_endA m_endB m_from m_queue m_ring m_ringSize m_ringNodes m_rings m_path m_pathSize m_old m_lastRing m_bestNodes m_bestInside m_bestFits m_far m_xs m_ys) sz) (wX8 cA a_m m_s m_past m_pasts m_text m_typed ρ.2.1 ρ.2.2.1 ρ.2.2.2 m_before m_endA m_endB m_from m_queue m_ring m_ringSize m_ringNodes m_rings m_path m_pathSize m_old m_lastRing m_bestNodes m_bestInside m_bestFits m_far m_xs m_ys)) (va_A (wX8 cA a_m m_s m_past m_pasts m_text m_typed m_faceOfSide m_firstSide m_faces m_before m_endA m_endB m_from m_queue m_ring m_ringSize m_ringNodes m_rings m_path m_pathSize m_old m_lastRing m_bestNodes m_bestInside m_bestFits m_far m_xs m_ys) sz)) 0 0 (va_A (wX8 cA a_m m_s m_past m_pasts m_text m_typed m_faceOfSide m_firstSide m_faces m_before m_endA m_endB m_from m_queue m_ring m_ringSize m_ringNodes m_rings m_path m_pathSize m_old m_lastRing m_bestNodes m_bestInside m_bestFits m_far m_xs m_ys) sz) := by
  refine mkW (QQ := fun A => va_Qi (fun r (_ : Unit) => r = ρ.1) (fun _ t => va_P D vwCl (wX8 cA a_m m_s m_past m_pasts m_text m_typed ρ.2.1 ρ.2.2.1 ρ.2.2.2 m_before m_endA m_endB m_from m_queue m_ring m_ringSize m_ringNodes m_rings m_path m_pathSize m_old m_lastRing m_bestNodes m_bestInside m_bestFits m_far m_xs m_ys) t.heap ∧ va_D A (wX8 cA a_m m_s m_past m_pasts m_text m_typed ρ.2.1 ρ.2.2.1 ρ.2.2.2 m_before m_endA m_endB m_from m_queue m_ring m_ringSize m_ringNodes m_rings m_path m_pathSize m_old m_lastRing m_bestNodes m_bestInside m_bestFits m_far m_xs m_ys)) A) (by decide) (Nat.le_of_ble_eq_true rfl) fun p e s m below meth c ls A C hl hP hK hD hA hS => ?_
  obtain ⟨hx, hb, hml, hown, hT, hr, hlk⟩ := id C
  have hl : lv_has ls 2 [(0, .ref (a_m 0)), (1, .int p1)] := hl
  refine lv_iload_n hx hb dX8_count_0 rfl (lv_at hl 1 rfl) ?_
  by_cases c_1 : p1 = 0
  · have hf := ite_t c_1 hf
    refine lv_tableIn (off := 47) (tgt := 48) hx hb dX8_count_1 (by rw [c_1]; decide) (by rw [c_1]; decide) (by rw [c_1]; rfl) (by decide) ?_
    refine lv_aload_n hx hb dX8_count_48 rfl (lv_at hl 0 rfl) ?_
    refine va_get (D := D) (ci := 8) (C := RX8) (T := TX8) (N := 27) hx hb hT kwX8 hown hK.1 hP 0 rfl rfl 0 (by decide) (hT _ kf_X8_7) (fun _ h9 => h9) rfl dX8_count_49 ?_
    refine lv_iconst (v := 0) hx hb dX8_count_52 (by decide) ?_
    obtain ⟨h_2, hf⟩ := chk_s hf
    refine va_iald hx hb hK.1 hP 1 0 rfl rfl (inb_in h_2) dX8_count_53 ?_
    have eR := some_i hf
    exact W.iret hx hb hr (fun t ht hW => ⟨⟨(m_s (0 : Int32).toNatClampNeg), (), rfl, fst_e eR, by rw [← eR, ht]; exact hP, by rw [← eR]; exact hD⟩, hS.F ht⟩) hS.2.2 dX8_count_54 (hlocks := hlk)
  · have hf := ite_f c_1 hf
    by_cases c_3 : p1 = 1
    · have hf := ite_t c_3 hf
      refine lv_tableIn (off := 54) (tgt := 55) hx hb dX8_count_1 (by rw [c_3]; decide) (by rw [c_3]; decide) (by rw [c_3]; rfl) (by decide) ?_
      refine lv_aload_n hx hb dX8_count_55 rfl (lv_at hl 0 rfl) ?_
      refine va_get (D := D) (ci := 8) (C := RX8) (T := TX8) (N := 27) hx hb hT kwX8 hown hK.1 hP 0 rfl rfl 0 (by decide) (hT _ kf_X8_7) (fun _ h9 => h9) rfl dX8_count_56 ?_
      refine lv_iconst (v := 1) hx hb dX8_count_59 (by decide) ?_
      obtain ⟨h_4, hf⟩ := chk_s hf
      refine va_iald hx hb hK.1 hP 1 0 rfl rfl (inb_in h_4) dX8_count_60 ?_
      have eR := some_i hf
      exact W.iret hx hb hr (fun t ht hW => ⟨⟨(m_s (1 : Int32).toNatClampNeg), (), rfl, fst_e eR, by rw [← eR, ht]; exact hP, by rw [← eR]; exact hD⟩, hS.F ht⟩) hS.2.2 dX8_count_61 (hlocks := hlk)
    · have hf := ite_f c_3 hf
      by_cases c_5 : p1 = 2
      · have hf := ite_t c_5 hf
        refine lv_tableIn (off := 61) (tgt := 62) hx hb dX8_count_1 (by rw [c_5]; decide) (by rw [c_5]; decide) (by rw [c_5]; rfl) (by decide) ?_
        refine lv_aload_n hx hb dX8_count_62 rfl (lv_at hl 0 rfl) ?_
        obtain ⟨r_6, hcr_6, hf⟩ := bd1_s hf
        refine backI (runV0 C (c_X8_components l D cA a_m m_s m_past m_pasts m_text m_typed m_faceOfSide m_firstSide m_faces m_before m_endA m_endB m_from m_queue m_ring m_ringSize m_ringNodes m_rings m_path m_pathSize m_old m_lastRing m_bestNodes m_bestInside m_bestFits m_far m_xs m_ys N r_6 hcr_6) cf_X8_components km_X8_146 ⟨rfl, rfl, by decide, by decide⟩ ⟨Nat.zero_le _, Nat.zero_le _⟩ (va_recv hK.1 hP (ci := 8) (q0 := 0) rfl rfl) (hP.sub [0, 1, 2, 3, 4, 5, 6, 7, 8, 9, 10, 11, 12, 13, 14, 15, 16, 17, 18] rfl) hK hl.1 rfl rfl (Nat.le_of_ble_eq_true rfl) dX8_count_63) ?_
        have eR := some_i hf
        exact W.iret hx hb hr (fun t ht hW => ⟨⟨r_6, (), rfl, fst_e eR, by rw [← eR, ht]; exact hP, by rw [← eR]; exact hD⟩, hS.F ht⟩) hS.2.2 dX8_count_66 (hlocks := hlk)
      · have hf := ite_f c_5 hf
        by_cases c_7 : p1 = 3
        · have hf := ite_t c_7 hf
          refine lv_tableIn (off := 66) (tgt := 67) hx hb dX8_count_1 (by rw [c_7]; decide) (by rw [c_7]; decide) (by rw [c_7]; rfl) (by decide) ?_
          refine lv_aload_n hx hb dX8_count_67 rfl (lv_at hl 0 rfl) ?_
          obtain ⟨r_8, hcr_8, hf⟩ := bd1_s hf
          refine backWv (w2 := (wX8 cA a_m m_s m_past m_pasts m_text m_typed r_8.1 r_8.2.1 r_8.2.2 m_before m_endA m_endB m_from m_queue m_ring m_ringSize m_ringNodes m_rings m_path m_pathSize m_old m_lastRing m_bestNodes m_bestInside m_bestFits m_far m_xs m_ys)) (runVw C (c_X8_walks l D cA a_m m_s m_past m_pasts m_text m_typed m_faceOfSide m_firstSide m_faces m_before m_endA m_endB m_from m_queue m_ring m_ringSize m_ringNodes m_rings m_path m_pathSize m_old m_lastRing m_bestNodes m_bestInside m_bestFits m_far m_xs m_ys _ N r_8 hcr_8) cf_X8_walks km_X8_117 ⟨rfl, rfl, by decide, by decide⟩ ⟨Nat.zero_le _, Nat.zero_le _⟩ (va_recv hK.1 hP (ci := 8) (q0 := 0) rfl rfl) (hP.sub [0, 1, 2, 3, 4, 5, 6, 7, 8, 9, 10, 11, 12, 13, 14, 15, 16, 17, 18] rfl) (hD.sub [0, 1, 2, 3, 4, 5, 6, 7, 8, 9, 10, 11, 12, 13, 14, 15, 16, 17, 18] rfl rfl) hK hl.1 rfl rfl (Nat.le_of_ble_eq_true rfl) dX8_count_68) hP hD hS hA [0, 1, 2, 3, 4, 5, 6, 7, 8, 9, 10, 11, 12, 13, 14, 15, 16, 17, 18] rfl [] rfl rfl (by decide) [0, 1, 2, 3, 4, 5, 6, 7, 8, 9, 10, 11, 12, 13, 14, 15, 16, 17, 18] rfl rfl (fun H locs hP hD hS => ?_)
          refine lv_aload_n hx hb dX8_count_71 rfl (lv_at hl 0 rfl) ?_
          refine va_get (D := D) (ci := 8) (C := RX8) (T := TX8) (N := 27) hx hb hT kwX8 hown hK.1 hP 0 rfl rfl 7 (by decide) (hT _ kf_X8_120) (fun _ h9 => h9) rfl dX8_count_72 ?_
          have eR := some_i hf
          exact W.iret hx hb hr (fun t ht hW => ⟨⟨r_8.2.2, (), rfl, fst_e eR, by rw [← eR, ht]; exact hP, by rw [← eR]; exact hD⟩, hS.F ht⟩) hS.2.2 dX8_count_75 (hlocks := hlk)
        · have hf := ite_f c_7 hf
          by_cases c_9 : p1 = 4
          · have hf := ite_t c_9 hf
            refine lv_tableIn (off := 75) (tgt := 76) hx hb dX8_count_1 (by rw [c_9]; decide) (by rw [c_9]; decide) (by rw [c_9]; rfl) (by decide) ?_
            refine lv_aload_n hx hb dX8_count_76 rfl (lv_at hl 0 rfl) ?_
            obtain ⟨r_10, hcr_10, hf⟩ := bd1_s hf
            refine backWi (w2 := (wX8 cA a_m m_s m_past m_pasts m_text m_typed r_10.2.1 r_10.2.2.1 r_10.2.2.2 m_before m_endA m_endB m_from m_queue m_ring m_ringSize m_ringNodes m_rings m_path m_pathSize m_old m_lastRing m_bestNodes m_bestInside m_bestFits m_far m_xs m_ys)) (runVw C (c_X8_genus l D cA a_m m_s m_past m_pasts m_text m_typed m_faceOfSide m_firstSide m_faces m_before m_endA m_endB m_from m_queue m_ring m_ringSize m_ringNodes m_rings m_path m_pathSize m_old m_lastRing m_bestNodes m_bestInside m_bestFits m_far m_xs m_ys _ N r_10 hcr_10) cf_X8_genus km_X8_113 ⟨rfl, rfl, by decide, by decide⟩ ⟨Nat.zero_le _, Nat.zero_le _⟩ (va_recv hK.1 hP (ci := 8) (q0 := 0) rfl rfl) (hP.sub [0, 1, 2, 3, 4, 5, 6, 7, 8, 9, 10, 11, 12, 13, 14, 15, 16, 17, 18] rfl) (hD.sub [0, 1, 2, 3, 4, 5, 6, 7, 8, 9, 10, 11, 12, 13, 14, 15, 16, 17, 18] rfl rfl) hK hl.1 rfl rfl (Nat.le_of_ble_eq_true rfl) dX8_count_77) hP hD hS hA [0, 1, 2, 3, 4, 5, 6, 7, 8, 9, 10, 11, 12, 13, 14, 15, 16, 17, 18] rfl [] rfl rfl (by decide) [0, 1, 2, 3, 4, 5, 6, 7, 8, 9, 10, 11, 12, 13, 14, 15, 16, 17, 18] rfl rfl (fun H locs hP hD hS => ?_)
            have eR := some_i hf
            exact W.iret hx hb hr (fun t ht hW => ⟨⟨r_10.1, (), rfl, fst_e eR, by rw [← eR, ht]; exact hP, by rw [← eR]; exact hD⟩, hS.F ht⟩) hS.2.2 dX8_count_80 (hlocks := hlk)
          · have hf := ite_f c_9 hf
            by_cases c_11 : p1 = 5
            · have hf := ite_t c_11 hf
              refine lv_tableIn (off := 80) (tgt := 81) hx hb dX8_count_1 (by rw [c_11]; decide) (by rw [c_11]; decide) (by rw [c_11]; rfl) (by decide) ?_
              refine lv_aload_n hx hb dX8_count_81 rfl (lv_at hl 0 rfl) ?_
              refine va_get (D := D) (ci := 8) (C := RX8) (T := TX8) (N := 27) hx hb hT kwX8 hown hK.1 hP 0 rfl rfl 0 (by decide) (hT _ kf_X8_7) (fun _ h9 => h9) rfl dX8_count_82 ?_
              refine lv_iconst (v := 2) hx hb dX8_count_85 (by decide) ?_
              obtain ⟨h_12, hf⟩ := chk_s hf
              refine va_iald hx hb hK.1 hP 1 0 rfl rfl (inb_in h_12) dX8_count_86 ?_
              have eR := some_i hf
              exact W.iret hx hb hr (fun t ht hW => ⟨⟨(m_s (2 : Int32).toNatClampNeg), (), rfl, fst_e eR, by rw [← eR, ht]; exact hP, by rw [← eR]; exact hD⟩, hS.F ht⟩) hS.2.2 dX8_count_87 (hlocks := hlk)
            · have hf := ite_f c_11 hf
              by_cases c_13 : p1 = 6
              · have hf := ite_t c_13 hf
                refine lv_tableIn (off := 87) (tgt := 88) hx hb dX8_count_1 (by rw [c_13]; decide) (by rw [c_13]; decide) (by rw [c_13]; rfl) (by decide) ?_
                refine lv_aload_n hx hb dX8_count_88 rfl (lv_at hl 0 rfl) ?_
                refine va_get (D := D) (ci := 8) (C := RX8) (T := TX8) (N := 27) hx hb hT kwX8 hown hK.1 hP 0 rfl rfl 4 (by decide) (hT _ kf_X8_149) (fun _ h9 => h9) rfl dX8_count_89 ?_
                have eR := some_i hf
                exact W.iret hx hb hr (fun t ht hW => ⟨⟨m_typed, (), rfl, fst_e eR, by rw [← eR, ht]; exact hP, by rw [← eR]; exact hD⟩, hS.F ht⟩) hS.2.2 dX8_count_92 (hlocks := hlk)
              · have hf := ite_f c_13 hf
                by_cases c_14 : p1 = 7
                · have hf := ite_t c_14 hf
                  refine lv_tableIn (off := 92) (tgt := 93) hx hb dX8_count_1 (by rw [c_14]; decide) (by rw [c_14]; decide) (by rw [c_14]; rfl) (by decide) ?_
                  refine lv_aload_n hx hb dX8_count_93 rfl (lv_at hl 0 rfl) ?_
                  refine va_get (D := D) (ci := 8) (C := RX8) (T := TX8) (N := 27) hx hb hT kwX8 hown hK.1 hP 0 rfl rfl 2 (by decide) (hT _ kf_X8_66) (fun _ h9 => h9) rfl dX8_count_94 ?_
                  have eR := some_i hf
                  exact W.iret hx hb hr (fun t ht hW => ⟨⟨m_pasts, (), rfl, fst_e eR, by rw [← eR, ht]; exact hP, by rw [← eR]; exact hD⟩, hS.F ht⟩) hS.2.2 dX8_count_97 (hlocks := hlk)
                · have hf := ite_f c_14 hf
                  refine lv_tableOut (tgt := 98) hx hb dX8_count_1 (tbl_out8 c_1 c_3 c_5 c_7 c_9 c_11 c_13 c_14) (by decide) ?_
                  refine lv_iconst (v := (-1)) hx hb dX8_count_98 (by decide) ?_
                  have eR := some_i hf
                  exact W.iret hx hb hr (fun t ht hW => ⟨⟨(-1), (), rfl, fst_e eR, by rw [← eR, ht]; exact hP, by rw [← eR]; exact hD⟩, hS.F ht⟩) hS.2.2 dX8_count_99 (hlocks := hlk)
set_option maxRecDepth 100000 in
set_option maxHeartbeats 4000000 in
theorem c_X8_isRefused (l : Launch) (D : va_G) (cA : Nat → ClassId) (a_m : Nat → Nat) (m_s : Nat → Int32) (m_past : Nat → Int32) (m_pasts : Int32) (m_text : Nat → Int32) (m_typed : Int32) (m_faceOfSide : Nat → Int32) (m_firstSide : Nat → Int32) (m_faces : Int32) (m_before : Nat → Int32) (m_endA : Nat → Int32) (m_endB : Nat → Int32) (m_from : Nat → Int32) (m_queue : Nat → Int32) (m_ring : Nat → Int32) (m_ringSize : Nat → Int32) (m_ringNodes : Nat → Int32) (m_rings : Int32) (m_path : Nat → Int32) (m_pathSize : Int32) (m_old : Nat → Int32) (m_lastRing : Int32) (m_bestNodes : Int32) (m_bestInside : Int32) (m_bestFits : Int32) (m_far : Nat → Int32) (m_xs : Nat → UInt32) (m_ys : Nat → UInt32) (p1 : Int32) (p2 : Int32) (sz N : Nat) (ρ : Int32 × (Nat → Int32) × (Nat → Int32) × Int32) (hf : f_X8_isRefused N m_s m_faceOfSide m_firstSide m_faces p1 p2 = some ρ) : Met l yX8_isRefused (Cond.code yX8_isRefused cX8_isRefused 3 (Option.some Jvm.ClassFile.FieldType.boolean) :: lw_g) ({ frames := 5, cells := 0, slots := 0, locals := 114 } : Room) (PcW D (tyA cA) (wX8 cA a_m m_s m_past m_pasts m_text m_typed m_faceOfSide m_firstSide m_faces m_before m_endA m_endB m_from m_queue m_ring m_ringSize m_ringNodes m_rings m_path m_pathSize m_old m_lastRing m_bestNodes m_bestInside m_bestFits m_far m_xs m_ys) sz [.ref (a_m 0), .int p1, .int p2]) (va_Qi (fun r (_ : Unit) => r = ρ.1) (fun _ t => va_P D vwCl (wX8 cA a_m m_s m_past m_pasts m_text m_typed ρ.2.1 ρ.2.2.1 ρ.2.2.2 m_before m_endA m_endB m_from m_queue m_ring m_ringSize m_ringNodes m_rings m_path m_pathSize m_old m_lastRing m_bestNodes m_bestInside m_bestFits m_far m_xs m_ys) t.heap ∧ va_D (va_A (wX8 cA a_m m_s m_past m_pasts m_text m_typed m_faceOfSide m_firstSide m_faces m_before m_endA m_endB m_from m_queue m_ring m_ringSize m_ringNodes m_rings m_path m_pathSize m_old m_lastRing m_bestNodes m_bestInside m_bestFits m_far m_xs m_ys) sz) (wX8 cA a_m m_s m_past m_pasts m_text m_typed ρ.2.1 ρ.2.2.1 ρ.2.2.2 m_before m_endA m_endB m_from m_queue m_ring m_ringSize m_ringNodes m_rings m_path m_pathSize m_old m_lastRing m_bestNodes m_bestInside m_bestFits m_far m_xs m_ys)) (va_A (wX8 cA a_m m_s m_past m_pasts m_text m_typed m_faceOfSide m_firstSide m_faces m_before m_endA m_endB m_from m_queue m_ring m_ringSize m_ringNodes m_rings m_path m_pathSize m_old m_lastRing m_bestNodes m_bestInside m_bestFits m_far m_xs m_ys) sz)) 0 0 (va_A (wX8 cA a_m m_s m_past m_pasts m_text m_typed m_faceOfSide m_firstSide m_faces m_before m_endA m_endB m_from m_queue m_ring m_ringSize m_ringNodes m_rings m_path m_pathSize m_old m_lastRing m_bestNodes m_bestInside m_bestFits m_far m_xs m_ys) sz) := by
  refine mkW (QQ := fun A => va_Qi (fun r (_ : Unit) => r = ρ.1) (fun _ t => va_P D vwCl (wX8 cA a_m m_s m_past m_pasts m_text m_typed ρ.2.1 ρ.2.2.1 ρ.2.2.2 m_before m_endA m_endB m_from m_queue m_ring m_ringSize m_ringNodes m_rings m_path m_pathSize m_old m_lastRing m_bestNodes m_bestInside m_bestFits m_far m_xs m_ys) t.heap ∧ va_D A (wX8 cA a_m m_s m_past m_pasts m_text m_typed ρ.2.1 ρ.2.2.1 ρ.2.2.2 m_before m_endA m_endB m_from m_queue m_ring m_ringSize m_ringNodes m_rings m_path m_pathSize m_old m_lastRing m_bestNodes m_bestInside m_bestFits m_far m_xs m_ys)) A) (by decide) (Nat.le_of_ble_eq_true rfl) fun p e s m below meth c ls A C hl hP hK hD hA hS => ?_
  obtain ⟨hx, hb, hml, hown, hT, hr, hlk⟩ := id C
  have hl : lv_has ls 3 [(0, .ref (a_m 0)), (1, .int p1), (2, .int p2)] := hl
  have B18 : ∀ (m_faceOfSide : Nat → Int32) (m_firstSide : Nat → Int32) (m_faces : Int32) (H : Heap) (locs : List Loc) (ls : Array Slot), lv_has ls 3 [] → va_P D vwCl (wX8 cA a_m m_s m_past m_pasts m_text m_typed m_faceOfSide m_firstSide m_faces m_before m_endA m_endB m_from m_queue m_ring m_ringSize m_ringNodes m_rings m_path m_pathSize m_old m_lastRing m_bestNodes m_bestInside m_bestFits m_far m_xs m_ys) H → va_D A (wX8 cA a_m m_s m_past m_pasts m_text m_typed m_faceOfSide m_firstSide m_faces m_before m_endA m_endB m_from m_queue m_ring m_ringSize m_ringNodes m_rings m_path m_pathSize m_old m_lastRing m_bestNodes m_bestInside m_bestFits m_far m_xs m_ys) → va_S A s.heap H locs → f_X8_isRefused_b18 N m_s m_faceOfSide m_firstSide m_faces = some ρ → W p l e ({ frames := 5, cells := 0, slots := 0, locals := 114 } : Room) s m ([.ref (a_m 0), .int p1, .int p2] : List Value).toArray below meth c H locs 0 0 (MQ below (va_Qi (fun r (_ : Unit) => r = ρ.1) (fun _ t => va_P D vwCl (wX8 cA a_m m_s m_past m_pasts m_text m_typed ρ.2.1 ρ.2.2.1 ρ.2.2.2 m_before m_endA m_endB m_from m_queue m_ring m_ringSize m_ringNodes m_rings m_path m_pathSize m_old m_lastRing m_bestNodes m_bestInside m_bestFits m_far m_xs m_ys) t.heap ∧ va_D A (wX8 cA a_m m_s m_past m_pasts m_text m_typed ρ.2.1 ρ.2.2.1 ρ.2.2.2 m_before m_endA m_endB m_from m_queue m_ring m_ringSize m_ringNodes m_rings m_path m_pathSize m_old m_lastRing m_bestNodes m_bestInside m_bestFits m_far m_xs m_ys)) A) ([.ref (a_m 0), .int p1, .int p2] : List Value).toArray s 0 0 A) (F0 m 18 ls []) := by
    intro m_faceOfSide m_firstSide m_faces H locs ls hl hP hD hS hf
    refine lv_iconst (v := 1) hx hb dX8_isRefused_18 (by decide) ?_
    refine lv_goto (tgt := 23) hx hb dX8_isRefused_19 (by decide) ?_
    have eR := some_i hf
    exact W.zret hx hb hr (by decide) (fun t ht hW => ⟨⟨1, (), rfl, fst_e eR, by rw [← eR, ht]; exact hP, by rw [← eR]; exact hD⟩, hS.F ht⟩) hS.2.2 dX8_isRefused_23 (hlocks := hlk)
  refine lv_aload_n hx hb dX8_isRefused_0 rfl (lv_at hl 0 rfl) ?_
  obtain ⟨r_1, hcr_1, hf⟩ := bd1_s hf
  refine backWi (w2 := (wX8 cA a_m m_s m_past m_pasts m_text m_typed r_1.2.1 r_1.2.2.1 r_1.2.2.2 m_before m_endA m_endB m_from m_queue m_ring m_ringSize m_ringNodes m_rings m_path m_pathSize m_old m_lastRing m_bestNodes m_bestInside m_bestFits m_far m_xs m_ys)) (runVw C (c_X8_genus l D cA a_m m_s m_past m_pasts m_text m_typed m_faceOfSide m_firstSide m_faces m_before m_endA m_endB m_from m_queue m_ring m_ringSize m_ringNodes m_rings m_path m_pathSize m_old m_lastRing m_bestNodes m_bestInside m_bestFits m_far m_xs m_ys _ N r_1 hcr_1) cf_X8_genus km_X8_113 ⟨rfl, rfl, by decide, by decide⟩ ⟨Nat.zero_le _, Nat.zero_le _⟩ (va_recv hK.1 hP (ci := 8) (q0 := 0) rfl rfl) (hP.sub [0, 1, 2, 3, 4, 5, 6, 7, 8, 9, 10, 11, 12, 13, 14, 15, 16, 17, 18] rfl) (hD.sub [0, 1, 2, 3, 4, 5, 6, 7, 8, 9, 10, 11, 12, 13, 14, 15, 16, 17, 18] rfl rfl) hK hl.1 rfl rfl (Nat.le_of_ble_eq_true rfl) dX8_isRefused_1) hP hD hS hA [0, 1, 2, 3, 4, 5, 6, 7, 8, 9, 10, 11, 12, 13, 14, 15, 16, 17, 18] rfl [] rfl rfl (by decide) [0, 1, 2, 3, 4, 5, 6, 7, 8, 9, 10, 11, 12, 13, 14, 15, 16, 17, 18] rfl rfl (fun H locs hP hD hS => ?_)
  refine lv_if_ne (tgt := 18) hx hb dX8_isRefused_4 (by decide) (fun c_2 => ?_) (fun c_2 => ?_)
  · have hf := ite_t c_2 hf
    exact B18 r_1.2.1 r_1.2.2.1 r_1.2.2.2 _ _ _ (lv_sub hl [] rfl) hP hD hS hf
  · have hf := ite_fn c_2 hf
    refine lv_aload_n hx hb dX8_isRefused_7 rfl (lv_at hl 0 rfl) ?_
    refine lv_iload_n hx hb dX8_isRefused_8 rfl (lv_at hl 1 rfl) ?_
    refine lv_iload_n hx hb dX8_isRefused_9 rfl (lv_at hl 2 rfl) ?_
    obtain ⟨r_3, hcr_3, hf⟩ := bd1_s hf
    refine backI (runV0 C (c_X8_between l D cA a_m m_s m_past m_pasts m_text m_typed r_1.2.1 r_1.2.2.1 r_1.2.2.2 m_before m_endA m_endB m_from m_queue m_ring m_ringSize m_ringNodes m_rings m_path m_pathSize m_old m_lastRing m_bestNodes m_bestInside m_bestFits m_far m_xs m_ys p1 p2 N r_3 hcr_3) cf_X8_between km_X8_103 ⟨rfl, rfl, by decide, by decide⟩ ⟨Nat.zero_le _, Nat.zero_le _⟩ (va_recv hK.1 hP (ci := 8) (q0 := 0) rfl rfl) (hP.sub [0, 1, 2, 3, 4, 5, 6, 7, 8, 9, 10, 11, 12, 13, 14, 15, 16, 17, 18] rfl) hK hl.1 rfl rfl (Nat.le_of_ble_eq_true rfl) dX8_isRefused_10) ?_
    refine lv_bipush (v := (-9)) hx hb dX8_isRefused_13 (by decide) ?_
    refine lv_icmp_eq (tgt := 22) hx hb dX8_isRefused_15 (by decide) (fun c_4 => ?_) (fun c_4 => ?_)
    · have hf := ite_t c_4 hf
      refine lv_iconst (v := 0) hx hb dX8_isRefused_22 (by decide) ?_
      have eR := some_i hf
      exact W.zret hx hb hr (by decide) (fun t ht hW => ⟨⟨0, (), rfl, fst_e eR, by rw [← eR, ht]; exact hP, by rw [← eR]; exact hD⟩, hS.F ht⟩) hS.2.2 dX8_isRefused_23 (hlocks := hlk)
    · have hf := ite_f c_4 hf
      exact B18 r_1.2.1 r_1.2.2.1 r_1.2.2.2 _ _ _ (lv_sub hl [] rfl) hP hD hS hf
