set_option maxRecDepth 100000 in
set_option maxHeartbeats 4000000 in
theorem c_X8_laysEnds (l : Launch) (D : va_G) (cA : Nat → ClassId) (a_m : Nat → Nat) (m_s : Nat → Int32) (m_past : Nat → Int32) (m_pasts : Int32) (m_text : Nat → Int32) (m_typed : Int32) (m_faceOfSide : Nat → Int32) (m_firstSide : Nat → Int32) (m_faces : Int32) (m_before : Nat → Int32) (m_endA : Nat → Int32) (m_endB : Nat → Int32) (m_from : Nat → Int32) (m_queue : Nat → Int32) (m_ring : Nat → Int32) (m_ringSize : Nat → Int32) (m_ringNodes : Nat → Int32) (m_rings : Int32) (m_path : Nat → Int32) (m_pathSize : Int32) (m_old : Nat → Int32) (m_lastRing : Int32) (m_bestNodes : Int32) (m_bestInside : Int32) (m_bestFits : Int32) (m_far : Nat → Int32) (m_xs : Nat → UInt32) (m_ys : Nat → UInt32) (p1 : Int32) (p2 : Int32) (sz N : Nat) (ρ : (Nat → Int32) × (Nat → Int32)) (hf : f_X8_laysEnds N m_s m_endA m_endB p1 p2 = some ρ) : Met l yX8_laysEnds (Cond.code yX8_laysEnds cX8_laysEnds 4 (Option.none : Option Jvm.ClassFile.FieldType) :: lw_g) ({ frames := 0, cells := 0, slots := 0, locals := 0 } : Room) (PcW D (tyA cA) (wX8 cA a_m m_s m_past m_pasts m_text m_typed m_faceOfSide m_firstSide m_faces m_before m_endA m_endB m_from m_queue m_ring m_ringSize m_ringNodes m_rings m_path m_pathSize m_old m_lastRing m_bestNodes m_bestInside m_bestFits m_far m_xs m_ys) sz [.ref (a_m 0), .int p1, .int p2]) (va_Qv (fun (_ : Unit) => True) (fun _ t => va_P D vwCl (wX8 cA a_m m_s m_past m_pasts m_text m_typed m_faceOfSide m_firstSide m_faces m_before ρ.1 ρ.2 m_from m_queue m_ring m_ringSize m_ringNodes m_rings m_path m_pathSize m_old m_lastRing m_bestNodes m_bestInside m_bestFits m_far m_xs m_ys) t.heap ∧ va_D (va_A (wX8 cA a_m m_s m_past m_pasts m_text m_typed m_faceOfSide m_firstSide m_faces m_before m_endA m_endB m_from m_queue m_ring m_ringSize m_ringNodes m_rings m_path m_pathSize m_old m_lastRing m_bestNodes m_bestInside m_bestFits m_far m_xs m_ys) sz) (wX8 cA a_m m_s m_past m_pasts m_text m_typed m_faceOfSide m_firstSide m_faces m_before ρ.1 ρ.2 m_from m_queue m_ring m_ringSize m_ringNodes m_rings m_path m_pathSize m_old m_lastRing m_bestNodes m_bestInside m_bestFits m_far m_xs m_ys)) (va_A (wX8 cA a_m m_s m_past m_pasts m_text m_typed m_faceOfSide m_firstSide m_faces m_before m_endA m_endB m_from m_queue m_ring m_ringSize m_ringNodes m_rings m_path m_pathSize m_old m_lastRing m_bestNodes m_bestInside m_bestFits m_far m_xs m_ys) sz)) 0 0 (va_A (wX8 cA a_m m_s m_past m_pasts m_text m_typed m_faceOfSide m_firstSide m_faces m_before m_endA m_endB m_from m_queue m_ring m_ringSize m_ringNodes m_rings m_path m_pathSize m_old m_lastRing m_bestNodes m_bestInside m_bestFits m_far m_xs m_ys) sz) := by
  refine mkW (QQ := fun A => va_Qv (fun (_ : Unit) => True) (fun _ t => va_P D vwCl (wX8 cA a_m m_s m_past m_pasts m_text m_typed m_faceOfSide m_firstSide m_faces m_before ρ.1 ρ.2 m_from m_queue m_ring m_ringSize m_ringNodes m_rings m_path m_pathSize m_old m_lastRing m_bestNodes m_bestInside m_bestFits m_far m_xs m_ys) t.heap ∧ va_D A (wX8 cA a_m m_s m_past m_pasts m_text m_typed m_faceOfSide m_firstSide m_faces m_before ρ.1 ρ.2 m_from m_queue m_ring m_ringSize m_ringNodes m_rings m_path m_pathSize m_old m_lastRing m_bestNodes m_bestInside m_bestFits m_far m_xs m_ys)) A) (by decide) (Nat.le_of_ble_eq_true rfl) fun p e s m below meth c ls A C hl hP hK hD hA hS => ?_
  obtain ⟨hx, hb, hml, hown, hT, hr, hlk⟩ := id C
  have hl : lv_has ls 4 [(0, .ref (a_m 0)), (1, .int p1), (2, .int p2)] := hl
  have B47 : ∀ (x1 : Int32) (x2 : Int32) (m_endA : Nat → Int32) (m_endB : Nat → Int32) (H : Heap) (locs : List Loc) (ls : Array Slot), lv_has ls 4 [(0, .ref (a_m 0)), (1, .int x1), (2, .int x2)] → va_P D vwCl (wX8 cA a_m m_s m_past m_pasts m_text m_typed m_faceOfSide m_firstSide m_faces m_before m_endA m_endB m_from m_queue m_ring m_ringSize m_ringNodes m_rings m_path m_pathSize m_old m_lastRing m_bestNodes m_bestInside m_bestFits m_far m_xs m_ys) H → va_D A (wX8 cA a_m m_s m_past m_pasts m_text m_typed m_faceOfSide m_firstSide m_faces m_before m_endA m_endB m_from m_queue m_ring m_ringSize m_ringNodes m_rings m_path m_pathSize m_old m_lastRing m_bestNodes m_bestInside m_bestFits m_far m_xs m_ys) → va_S A s.heap H locs → f_X8_laysEnds_b47 N m_s x1 x2 m_endA m_endB = some ρ → W p l e ({ frames := 0, cells := 0, slots := 0, locals := 0 } : Room) s m ([.ref (a_m 0), .int p1, .int p2] : List Value).toArray below meth c H locs 0 0 (MQ below (va_Qv (fun (_ : Unit) => True) (fun _ t => va_P D vwCl (wX8 cA a_m m_s m_past m_pasts m_text m_typed m_faceOfSide m_firstSide m_faces m_before ρ.1 ρ.2 m_from m_queue m_ring m_ringSize m_ringNodes m_rings m_path m_pathSize m_old m_lastRing m_bestNodes m_bestInside m_bestFits m_far m_xs m_ys) t.heap ∧ va_D A (wX8 cA a_m m_s m_past m_pasts m_text m_typed m_faceOfSide m_firstSide m_faces m_before ρ.1 ρ.2 m_from m_queue m_ring m_ringSize m_ringNodes m_rings m_path m_pathSize m_old m_lastRing m_bestNodes m_bestInside m_bestFits m_far m_xs m_ys)) A) ([.ref (a_m 0), .int p1, .int p2] : List Value).toArray s 0 0 A) (F0 m 47 ls []) := by
    intro x1 x2 m_endA m_endB H locs ls hl hP hD hS hf
    refine lv_aload_n hx hb dX8_laysEnds_47 rfl (lv_at hl 0 rfl) ?_
    refine va_get (D := D) (ci := 8) (C := RX8) (T := TX8) (N := 27) hx hb hT kwX8 hown hK.1 hP 0 rfl rfl 9 (by decide) (hT _ kf_X8_29) (fun _ h9 => h9) rfl dX8_laysEnds_48 ?_
    refine lv_aload_n hx hb dX8_laysEnds_51 rfl (lv_at hl 0 rfl) ?_
    refine va_get (D := D) (ci := 8) (C := RX8) (T := TX8) (N := 27) hx hb hT kwX8 hown hK.1 hP 0 rfl rfl 0 (by decide) (hT _ kf_X8_7) (fun _ h9 => h9) rfl dX8_laysEnds_52 ?_
    refine lv_iconst (v := 1) hx hb dX8_laysEnds_55 (by decide) ?_
    obtain ⟨h_7, hf⟩ := chk_s hf
    refine va_iald hx hb hK.1 hP 1 0 rfl rfl (inb_in h_7) dX8_laysEnds_56 ?_
    refine lv_iload_n hx hb dX8_laysEnds_57 rfl (lv_at hl 1 rfl) ?_
    obtain ⟨h_8, hf⟩ := chk_s hf
    refine va_iast hx hb hK.1 hP hD hS 7 0 rfl rfl (inb_in h_8) dX8_laysEnds_58 (fun H locs hP hD hS => ?_)
    have hP : va_P D vwCl (wX8 cA a_m m_s m_past m_pasts m_text m_typed m_faceOfSide m_firstSide m_faces m_before (upd m_endA (m_s (1 : Int32).toNatClampNeg).toNatClampNeg x1) m_endB m_from m_queue m_ring m_ringSize m_ringNodes m_rings m_path m_pathSize m_old m_lastRing m_bestNodes m_bestInside m_bestFits m_far m_xs m_ys) H := hP
    have hD : va_D A (wX8 cA a_m m_s m_past m_pasts m_text m_typed m_faceOfSide m_firstSide m_faces m_before (upd m_endA (m_s (1 : Int32).toNatClampNeg).toNatClampNeg x1) m_endB m_from m_queue m_ring m_ringSize m_ringNodes m_rings m_path m_pathSize m_old m_lastRing m_bestNodes m_bestInside m_bestFits m_far m_xs m_ys) := hD
    refine lv_aload_n hx hb dX8_laysEnds_59 rfl (lv_at hl 0 rfl) ?_
    refine va_get (D := D) (ci := 8) (C := RX8) (T := TX8) (N := 27) hx hb hT kwX8 hown hK.1 hP 0 rfl rfl 10 (by decide) (hT _ kf_X8_32) (fun _ h9 => h9) rfl dX8_laysEnds_60 ?_
    refine lv_aload_n hx hb dX8_laysEnds_63 rfl (lv_at hl 0 rfl) ?_
    refine va_get (D := D) (ci := 8) (C := RX8) (T := TX8) (N := 27) hx hb hT kwX8 hown hK.1 hP 0 rfl rfl 0 (by decide) (hT _ kf_X8_7) (fun _ h9 => h9) rfl dX8_laysEnds_64 ?_
    refine lv_iconst (v := 1) hx hb dX8_laysEnds_67 (by decide) ?_
    obtain ⟨h_9, hf⟩ := chk_s hf
    refine va_iald hx hb hK.1 hP 1 0 rfl rfl (inb_in h_9) dX8_laysEnds_68 ?_
    refine lv_iload_n hx hb dX8_laysEnds_69 rfl (lv_at hl 2 rfl) ?_
    obtain ⟨h_10, hf⟩ := chk_s hf
    refine va_iast hx hb hK.1 hP hD hS 8 0 rfl rfl (inb_in h_10) dX8_laysEnds_70 (fun H locs hP hD hS => ?_)
    have hP : va_P D vwCl (wX8 cA a_m m_s m_past m_pasts m_text m_typed m_faceOfSide m_firstSide m_faces m_before (upd m_endA (m_s (1 : Int32).toNatClampNeg).toNatClampNeg x1) (upd m_endB (m_s (1 : Int32).toNatClampNeg).toNatClampNeg x2) m_from m_queue m_ring m_ringSize m_ringNodes m_rings m_path m_pathSize m_old m_lastRing m_bestNodes m_bestInside m_bestFits m_far m_xs m_ys) H := hP
    have hD : va_D A (wX8 cA a_m m_s m_past m_pasts m_text m_typed m_faceOfSide m_firstSide m_faces m_before (upd m_endA (m_s (1 : Int32).toNatClampNeg).toNatClampNeg x1) (upd m_endB (m_s (1 : Int32).toNatClampNeg).toNatClampNeg x2) m_from m_queue m_ring m_ringSize m_ringNodes m_rings m_path m_pathSize m_old m_lastRing m_bestNodes m_bestInside m_bestFits m_far m_xs m_ys) := hD
    have eR := some_i hf
    exact W.vret hx hb hr (fun t ht hW => ⟨⟨(), rfl, trivial, by rw [← eR, ht]; exact hP, by rw [← eR]; exact hD⟩, hS.F ht⟩) hS.2.2 dX8_laysEnds_71 (hlocks := hlk)
  have B2 : ∀ (n2 : Nat), ∀ (x1 : Int32) (x2 : Int32) (x3 : Int32) (m_endA : Nat → Int32) (m_endB : Nat → Int32) (H : Heap) (locs : List Loc) (ls : Array Slot), lv_has ls 4 [(0, .ref (a_m 0)), (1, .int x1), (2, .int x2), (3, .int x3)] → va_P D vwCl (wX8 cA a_m m_s m_past m_pasts m_text m_typed m_faceOfSide m_firstSide m_faces m_before m_endA m_endB m_from m_queue m_ring m_ringSize m_ringNodes m_rings m_path m_pathSize m_old m_lastRing m_bestNodes m_bestInside m_bestFits m_far m_xs m_ys) H → va_D A (wX8 cA a_m m_s m_past m_pasts m_text m_typed m_faceOfSide m_firstSide m_faces m_before m_endA m_endB m_from m_queue m_ring m_ringSize m_ringNodes m_rings m_path m_pathSize m_old m_lastRing m_bestNodes m_bestInside m_bestFits m_far m_xs m_ys) → va_S A s.heap H locs → f_X8_laysEnds_b2 N m_s n2 x1 x2 x3 m_endA m_endB = some ρ → W p l e ({ frames := 0, cells := 0, slots := 0, locals := 0 } : Room) s m ([.ref (a_m 0), .int p1, .int p2] : List Value).toArray below meth c H locs 0 0 (MQ below (va_Qv (fun (_ : Unit) => True) (fun _ t => va_P D vwCl (wX8 cA a_m m_s m_past m_pasts m_text m_typed m_faceOfSide m_firstSide m_faces m_before ρ.1 ρ.2 m_from m_queue m_ring m_ringSize m_ringNodes m_rings m_path m_pathSize m_old m_lastRing m_bestNodes m_bestInside m_bestFits m_far m_xs m_ys) t.heap ∧ va_D A (wX8 cA a_m m_s m_past m_pasts m_text m_typed m_faceOfSide m_firstSide m_faces m_before ρ.1 ρ.2 m_from m_queue m_ring m_ringSize m_ringNodes m_rings m_path m_pathSize m_old m_lastRing m_bestNodes m_bestInside m_bestFits m_far m_xs m_ys)) A) ([.ref (a_m 0), .int p1, .int p2] : List Value).toArray s 0 0 A) (F0 m 2 ls []) := by
    intro n2
    induction n2 with
    | zero =>
      intro x1 x2 x3 m_endA m_endB H locs ls hl hP hD hS hf
      cases (show (none : Option ((Nat → Int32) × (Nat → Int32))) = some ρ from hf)
    | succ n2 ih2 =>
      intro x1 x2 x3 m_endA m_endB H locs ls hl hP hD hS hf
      refine lv_iload_n hx hb dX8_laysEnds_2 rfl (lv_at hl 3 rfl) ?_
      refine lv_aload_n hx hb dX8_laysEnds_3 rfl (lv_at hl 0 rfl) ?_
      refine va_get (D := D) (ci := 8) (C := RX8) (T := TX8) (N := 27) hx hb hT kwX8 hown hK.1 hP 0 rfl rfl 0 (by decide) (hT _ kf_X8_7) (fun _ h9 => h9) rfl dX8_laysEnds_4 ?_
      refine lv_iconst (v := 1) hx hb dX8_laysEnds_7 (by decide) ?_
      obtain ⟨h_1, hf⟩ := chk_s hf
      refine va_iald hx hb hK.1 hP 1 0 rfl rfl (inb_in h_1) dX8_laysEnds_8 ?_
      refine lv_icmp_ge (tgt := 47) hx hb dX8_laysEnds_9 (by decide) (fun c_2 => ?_) (fun c_2 => ?_)
      · have hf := ite_t c_2 hf
        exact B47 x1 x2 m_endA m_endB _ _ _ (lv_sub hl [0, 1, 2] rfl) hP hD hS hf
      · have hf := ite_f c_2 hf
        refine lv_aload_n hx hb dX8_laysEnds_12 rfl (lv_at hl 0 rfl) ?_
        refine va_get (D := D) (ci := 8) (C := RX8) (T := TX8) (N := 27) hx hb hT kwX8 hown hK.1 hP 0 rfl rfl 9 (by decide) (hT _ kf_X8_29) (fun _ h9 => h9) rfl dX8_laysEnds_13 ?_
        refine lv_iload_n hx hb dX8_laysEnds_16 rfl (lv_at hl 3 rfl) ?_
        refine lv_aload_n hx hb dX8_laysEnds_17 rfl (lv_at hl 0 rfl) ?_
        refine va_get (D := D) (ci := 8) (C := RX8) (T := TX8) (N := 27) hx hb hT kwX8 hown hK.1 hP 0 rfl rfl 0 (by decide) (hT _ kf_X8_7) (fun _ h9 => h9) rfl dX8_laysEnds_18 ?_
        refine lv_iconst (v := 3) hx hb dX8_laysEnds_21 (by decide) ?_
        refine lv_iload_n hx hb dX8_laysEnds_22 rfl (lv_at hl 3 rfl) ?_
        refine lv_iadd hx hb dX8_laysEnds_23 ?_
        obtain ⟨h_3, hf⟩ := chk_s hf
        refine va_iald hx hb hK.1 hP 1 0 rfl rfl (inb_in h_3) dX8_laysEnds_24 ?_
        obtain ⟨h_4, hf⟩ := chk_s hf
        refine va_iast hx hb hK.1 hP hD hS 7 0 rfl rfl (inb_in h_4) dX8_laysEnds_25 (fun H locs hP hD hS => ?_)
        have hP : va_P D vwCl (wX8 cA a_m m_s m_past m_pasts m_text m_typed m_faceOfSide m_firstSide m_faces m_before (upd m_endA x3.toNatClampNeg (m_s (3 + x3).toNatClampNeg)) m_endB m_from m_queue m_ring m_ringSize m_ringNodes m_rings m_path m_pathSize m_old m_lastRing m_bestNodes m_bestInside m_bestFits m_far m_xs m_ys) H := hP
        have hD : va_D A (wX8 cA a_m m_s m_past m_pasts m_text m_typed m_faceOfSide m_firstSide m_faces m_before (upd m_endA x3.toNatClampNeg (m_s (3 + x3).toNatClampNeg)) m_endB m_from m_queue m_ring m_ringSize m_ringNodes m_rings m_path m_pathSize m_old m_lastRing m_bestNodes m_bestInside m_bestFits m_far m_xs m_ys) := hD
        refine lv_aload_n hx hb dX8_laysEnds_26 rfl (lv_at hl 0 rfl) ?_
        refine va_get (D := D) (ci := 8) (C := RX8) (T := TX8) (N := 27) hx hb hT kwX8 hown hK.1 hP 0 rfl rfl 10 (by decide) (hT _ kf_X8_32) (fun _ h9 => h9) rfl dX8_laysEnds_27 ?_
        refine lv_iload_n hx hb dX8_laysEnds_30 rfl (lv_at hl 3 rfl) ?_
        refine lv_aload_n hx hb dX8_laysEnds_31 rfl (lv_at hl 0 rfl) ?_
        refine va_get (D := D) (ci := 8) (C := RX8) (T := TX8) (N := 27) hx hb hT kwX8 hown hK.1 hP 0 rfl rfl 0 (by decide) (hT _ kf_X8_7) (fun _ h9 => h9) rfl dX8_laysEnds_32 ?_
        refine lv_bipush (v := 23) hx hb dX8_laysEnds_35 (by decide) ?_
        refine lv_iload_n hx hb dX8_laysEnds_37 rfl (lv_at hl 3 rfl) ?_
        refine lv_iadd hx hb dX8_laysEnds_38 ?_
        obtain ⟨h_5, hf⟩ := chk_s hf
        refine va_iald hx hb hK.1 hP 1 0 rfl rfl (inb_in h_5) dX8_laysEnds_39 ?_
        obtain ⟨h_6, hf⟩ := chk_s hf
        refine va_iast hx hb hK.1 hP hD hS 8 0 rfl rfl (inb_in h_6) dX8_laysEnds_40 (fun H locs hP hD hS => ?_)
        have hP : va_P D vwCl (wX8 cA a_m m_s m_past m_pasts m_text m_typed m_faceOfSide m_firstSide m_faces m_before (upd m_endA x3.toNatClampNeg (m_s (3 + x3).toNatClampNeg)) (upd m_endB x3.toNatClampNeg (m_s (23 + x3).toNatClampNeg)) m_from m_queue m_ring m_ringSize m_ringNodes m_rings m_path m_pathSize m_old m_lastRing m_bestNodes m_bestInside m_bestFits m_far m_xs m_ys) H := hP
        have hD : va_D A (wX8 cA a_m m_s m_past m_pasts m_text m_typed m_faceOfSide m_firstSide m_faces m_before (upd m_endA x3.toNatClampNeg (m_s (3 + x3).toNatClampNeg)) (upd m_endB x3.toNatClampNeg (m_s (23 + x3).toNatClampNeg)) m_from m_queue m_ring m_ringSize m_ringNodes m_rings m_path m_pathSize m_old m_lastRing m_bestNodes m_bestInside m_bestFits m_far m_xs m_ys) := hD
        refine lv_iinc (v := (x3 + 1)) (lv' := [(3, .int (x3 + 1)), (0, .ref (a_m 0)), (1, .int x1), (2, .int x2)]) hx hb dX8_laysEnds_41 hl (k := 3) rfl rfl (by decide) rfl (fun ls hl => ?_)
        refine lv_goto (tgt := 2) hx hb dX8_laysEnds_44 (by decide) ?_
        exact ih2 x1 x2 (x3 + 1) (upd m_endA x3.toNatClampNeg (m_s (3 + x3).toNatClampNeg)) (upd m_endB x3.toNatClampNeg (m_s (23 + x3).toNatClampNeg)) _ _ _ (lv_sub hl [1, 2, 3, 0] rfl) hP hD hS hf
  refine lv_iconst (v := 0) hx hb dX8_laysEnds_0 (by decide) ?_
  refine lv_istore_n (lv' := [(3, .int 0), (0, .ref (a_m 0)), (1, .int p1), (2, .int p2)]) hx hb dX8_laysEnds_1 rfl hl (by decide) rfl (fun ls hl => ?_)
  exact B2 N p1 p2 0 m_endA m_endB _ _ _ (lv_sub hl [1, 2, 3, 0] rfl) hP hD hS hf
set_option maxRecDepth 100000 in
set_option maxHeartbeats 4000000 in
theorem c_X8_allEdges (l : Launch) (D : va_G) (cA : Nat → ClassId) (a_m : Nat → Nat) (m_s : Nat → Int32) (m_past : Nat → Int32) (m_pasts : Int32) (m_text : Nat → Int32) (m_typed : Int32) (m_faceOfSide : Nat → Int32) (m_firstSide : Nat → Int32) (m_faces : Int32) (m_before : Nat → Int32) (m_endA : Nat → Int32) (m_endB : Nat → Int32) (m_from : Nat → Int32) (m_queue : Nat → Int32) (m_ring : Nat → Int32) (m_ringSize : Nat → Int32) (m_ringNodes : Nat → Int32) (m_rings : Int32) (m_path : Nat → Int32) (m_pathSize : Int32) (m_old : Nat → Int32) (m_lastRing : Int32) (m_bestNodes : Int32) (m_bestInside : Int32) (m_bestFits : Int32) (m_far : Nat → Int32) (m_xs : Nat → UInt32) (m_ys : Nat → UInt32) (sz N : Nat) (ρ : Int32 × (Nat → Int32) × (Nat → Int32)) (hf : f_X8_allEdges N m_s m_endA m_endB = some ρ) : Met l yX8_allEdges (Cond.code yX8_allEdges cX8_allEdges 1 (Option.some Jvm.ClassFile.FieldType.int) :: lw_g) ({ frames := 1, cells := 0, slots := 0, locals := 23 } : Room) (PcW D (tyA cA) (wX8 cA a_m m_s m_past m_pasts m_text m_typed m_faceOfSide m_firstSide m_faces m_before m_endA m_endB m_from m_queue m_ring m_ringSize m_ringNodes m_rings m_path m_pathSize m_old m_lastRing m_bestNodes m_bestInside m_bestFits m_far m_xs m_ys) sz [.ref (a_m 0)]) (va_Qi (fun r (_ : Unit) => r = ρ.1) (fun _ t => va_P D vwCl (wX8 cA a_m m_s m_past m_pasts m_text m_typed m_faceOfSide m_firstSide m_faces m_before ρ.2.1 ρ.2.2 m_from m_queue m_ring m_ringSize m_ringNodes m_rings m_path m_pathSize m_old m_lastRing m_bestNodes m_bestInside m_bestFits m_far m_xs m_ys) t.heap ∧ va_D (va_A (wX8 cA a_m m_s m_past m_pasts m_text m_typed m_faceOfSide m_firstSide m_faces m_before m_endA m_endB m_from m_queue m_ring m_ringSize m_ringNodes m_rings m_path m_pathSize m_old m_lastRing m_bestNodes m_bestInside m_bestFits m_far m_xs m_ys) sz) (wX8 cA a_m m_s m_past m_pasts m_text m_typed m_faceOfSide m_firstSide m_faces m_before ρ.2.1 ρ.2.2 m_from m_queue m_ring m_ringSize m_ringNodes m_rings m_path m_pathSize m_old m_lastRing m_bestNodes m_bestInside m_bestFits m_far m_xs m_ys)) (va_A (wX8 cA a_m m_s m_past m_pasts m_text m_typed m_faceOfSide m_firstSide m_faces m_before m_endA m_endB m_from m_queue m_ring m_ringSize m_ringNodes m_rings m_path m_pathSize m_old m_lastRing m_bestNodes m_bestInside m_bestFits m_far m_xs m_ys) sz)) 0 0 (va_A (wX8 cA a_m m_s m_past m_pasts m_text m_typed m_faceOfSide m_firstSide m_faces m_before m_endA m_endB m_from m_queue m_ring m_ringSize m_ringNodes m_rings m_path m_pathSize m_old m_lastRing m_bestNodes m_bestInside m_bestFits m_far m_xs m_ys) sz) := by
  refine mkW (QQ := fun A => va_Qi (fun r (_ : Unit) => r = ρ.1) (fun _ t => va_P D vwCl (wX8 cA a_m m_s m_past m_pasts m_text m_typed m_faceOfSide m_firstSide m_faces m_before ρ.2.1 ρ.2.2 m_from m_queue m_ring m_ringSize m_ringNodes m_rings m_path m_pathSize m_old m_lastRing m_bestNodes m_bestInside m_bestFits m_far m_xs m_ys) t.heap ∧ va_D A (wX8 cA a_m m_s m_past m_pasts m_text m_typed m_faceOfSide m_firstSide m_faces m_before ρ.2.1 ρ.2.2 m_from m_queue m_ring m_ringSize m_ringNodes m_rings m_path m_pathSize m_old m_lastRing m_bestNodes m_bestInside m_bestFits m_far m_xs m_ys)) A) (by decide) (Nat.le_of_ble_eq_true rfl) fun p e s m below meth c ls A C hl hP hK hD hA hS => ?_
  obtain ⟨hx, hb, hml, hown, hT, hr, hlk⟩ := id C
  have hl : lv_has ls 1 [(0, .ref (a_m 0))] := hl
  refine lv_aload_n hx hb dX8_allEdges_0 rfl (lv_at hl 0 rfl) ?_
  refine lv_iconst (v := 0) hx hb dX8_allEdges_1 (by decide) ?_
  refine lv_iconst (v := 0) hx hb dX8_allEdges_2 (by decide) ?_
  obtain ⟨r_1, hcr_1, hf⟩ := bd1_s hf
  refine backWv (w2 := (wX8 cA a_m m_s m_past m_pasts m_text m_typed m_faceOfSide m_firstSide m_faces m_before r_1.1 r_1.2 m_from m_queue m_ring m_ringSize m_ringNodes m_rings m_path m_pathSize m_old m_lastRing m_bestNodes m_bestInside m_bestFits m_far m_xs m_ys)) (runVw C (c_X8_laysEnds l D cA a_m m_s m_past m_pasts m_text m_typed m_faceOfSide m_firstSide m_faces m_before m_endA m_endB m_from m_queue m_ring m_ringSize m_ringNodes m_rings m_path m_pathSize m_old m_lastRing m_bestNodes m_bestInside m_bestFits m_far m_xs m_ys 0 0 _ N r_1 hcr_1) cf_X8_laysEnds km_X8_240 ⟨rfl, rfl, by decide, by decide⟩ ⟨Nat.zero_le _, Nat.zero_le _⟩ (va_recv hK.1 hP (ci := 8) (q0 := 0) rfl rfl) (hP.sub [0, 1, 2, 3, 4, 5, 6, 7, 8, 9, 10, 11, 12, 13, 14, 15, 16, 17, 18] rfl) (hD.sub [0, 1, 2, 3, 4, 5, 6, 7, 8, 9, 10, 11, 12, 13, 14, 15, 16, 17, 18] rfl rfl) hK hl.1 rfl rfl (Nat.le_of_ble_eq_true rfl) dX8_allEdges_3) hP hD hS hA [0, 1, 2, 3, 4, 5, 6, 7, 8, 9, 10, 11, 12, 13, 14, 15, 16, 17, 18] rfl [] rfl rfl (by decide) [0, 1, 2, 3, 4, 5, 6, 7, 8, 9, 10, 11, 12, 13, 14, 15, 16, 17, 18] rfl rfl (fun H locs hP hD hS => ?_)
  refine lv_iconst (v := 1) hx hb dX8_allEdges_6 (by decide) ?_
  refine lv_aload_n hx hb dX8_allEdges_7 rfl (lv_at hl 0 rfl) ?_
  refine va_get (D := D) (ci := 8) (C := RX8) (T := TX8) (N := 27) hx hb hT kwX8 hown hK.1 hP 0 rfl rfl 0 (by decide) (hT _ kf_X8_7) (fun _ h9 => h9) rfl dX8_allEdges_8 ?_
  refine lv_iconst (v := 1) hx hb dX8_allEdges_11 (by decide) ?_
  obtain ⟨h_2, hf⟩ := chk_s hf
  refine va_iald hx hb hK.1 hP 1 0 rfl rfl (inb_in h_2) dX8_allEdges_12 ?_
  refine lv_ishl hx hb dX8_allEdges_13 ?_
  refine lv_iconst (v := 1) hx hb dX8_allEdges_14 (by decide) ?_
  refine lv_isub hx hb dX8_allEdges_15 ?_
  have eR := some_i hf
  exact W.iret hx hb hr (fun t ht hW => ⟨⟨(((1 : Int32) <<< ((m_s (1 : Int32).toNatClampNeg) &&& 31)) - 1), (), rfl, fst_e eR, by rw [← eR, ht]; exact hP, by rw [← eR]; exact hD⟩, hS.F ht⟩) hS.2.2 dX8_allEdges_16 (hlocks := hlk)
set_option maxRecDepth 100000 in
set_option maxHeartbeats 4000000 in
theorem c_X8_appendCharacter (l : Launch) (D : va_G) (cA : Nat → ClassId) (a_m : Nat → Nat) (m_s : Nat → Int32) (m_past : Nat → Int32) (m_pasts : Int32) (m_text : Nat → Int32) (m_typed : Int32) (m_faceOfSide : Nat → Int32) (m_firstSide : Nat → Int32) (m_faces : Int32) (m_before : Nat → Int32) (m_endA : Nat → Int32) (m_endB : Nat → Int32) (m_from : Nat → Int32) (m_queue : Nat → Int32) (m_ring : Nat → Int32) (m_ringSize : Nat → Int32) (m_ringNodes : Nat → Int32) (m_rings : Int32) (m_path : Nat → Int32) (m_pathSize : Int32) (m_old : Nat → Int32) (m_lastRing : Int32) (m_bestNodes : Int32) (m_bestInside : Int32) (m_bestFits : Int32) (m_far : Nat → Int32) (m_xs : Nat → UInt32) (m_ys : Nat → UInt32) (p1 : Int32) (sz N : Nat) (ρ : Int32 × (Nat → Int32) × Int32) (hf : f_X8_appendCharacter N m_text m_typed p1 = some ρ) : Met l yX8_appendCharacter (Cond.code yX8_appendCharacter cX8_appendCharacter 2 (Option.some Jvm.ClassFile.FieldType.int) :: lw_g) ({ frames := 1, cells := 0, slots := 0, locals := 22 } : Room) (PcW D (tyA cA) (wX8 cA a_m m_s m_past m_pasts m_text m_typed m_faceOfSide m_firstSide m_faces m_before m_endA m_endB m_from m_queue m_ring m_ringSize m_ringNodes m_rings m_path m_pathSize m_old m_lastRing m_bestNodes m_bestInside m_bestFits m_far m_xs m_ys) sz [.ref (a_m 0), .int p1]) (va_Qi (fun r (_ : Unit) => r = ρ.1) (fun _ t => va_P D vwCl (wX8 cA a_m m_s m_past m_pasts ρ.2.1 ρ.2.2 m_faceOfSide m_firstSide m_faces m_before m_endA m_endB m_from m_queue m_ring m_ringSize m_ringNodes m_rings m_path m_pathSize m_old m_lastRing m_bestNodes m_bestInside m_bestFits m_far m_xs m_ys) t.heap ∧ va_D (va_A (wX8 cA a_m m_s m_past m_pasts m_text m_typed m_faceOfSide m_firstSide m_faces m_before m_endA m_endB m_from m_queue m_ring m_ringSize m_ringNodes m_rings m_path m_pathSize m_old m_lastRing m_bestNodes m_bestInside m_bestFits m_far m_xs m_ys) sz) (wX8 cA a_m m_s m_past m_pasts ρ.2.1 ρ.2.2 m_faceOfSide m_firstSide m_faces m_before m_endA m_endB m_from m_queue m_ring m_ringSize m_ringNodes m_rings m_path m_pathSize m_old m_lastRing m_bestNodes m_bestInside m_bestFits m_far m_xs m_ys)) (va_A (wX8 cA a_m m_s m_past m_pasts m_text m_typed m_faceOfSide m_firstSide m_faces m_before m_endA m_endB m_from m_queue m_ring m_ringSize m_ringNodes m_rings m_path m_pathSize m_old m_lastRing m_bestNodes m_bestInside m_bestFits m_far m_xs m_ys) sz)) 0 0 (va_A (wX8 cA a_m m_s m_past m_pasts m_text m_typed m_faceOfSide m_firstSide m_faces m_before m_endA m_endB m_from m_queue m_ring m_ringSize m_ringNodes m_rings m_path m_pathSize m_old m_lastRing m_bestNodes m_bestInside m_bestFits m_far m_xs m_ys) sz) := by
  refine mkW (QQ := fun A => va_Qi (fun r (_ : Unit) => r = ρ.1) (fun _ t => va_P D vwCl (wX8 cA a_m m_s m_past m_pasts ρ.2.1 ρ.2.2 m_faceOfSide m_firstSide m_faces m_before m_endA m_endB m_from m_queue m_ring m_ringSize m_ringNodes m_rings m_path m_pathSize m_old m_lastRing m_bestNodes m_bestInside m_bestFits m_far m_xs m_ys) t.heap ∧ va_D A (wX8 cA a_m m_s m_past m_pasts ρ.2.1 ρ.2.2 m_faceOfSide m_firstSide m_faces m_before m_endA m_endB m_from m_queue m_ring m_ringSize m_ringNodes m_rings m_path m_pathSize m_old m_lastRing m_bestNodes m_bestInside m_bestFits m_far m_xs m_ys)) A) (by decide) (Nat.le_of_ble_eq_true rfl) fun p e s m below meth c ls A C hl hP hK hD hA hS => ?_
  obtain ⟨hx, hb, hml, hown, hT, hr, hlk⟩ := id C
  have hl : lv_has ls 2 [(0, .ref (a_m 0)), (1, .int p1)] := hl
  refine lv_iload_n hx hb dX8_appendCharacter_0 rfl (lv_at hl 1 rfl) ?_
  refine lv_iconst (v := 0) hx hb dX8_appendCharacter_1 (by decide) ?_
  refine lv_sipush (v := 255) hx hb dX8_appendCharacter_2 (by decide) ?_
  obtain ⟨r_1, hcr_1, hf⟩ := bd1_s hf
  refine backI (runS0 C (c_X8_in l D cA p1 0 255 N r_1 hcr_1) cf_X8_in km_X8_70 ⟨rfl, rfl, by decide, by decide⟩ ⟨Nat.zero_le _, Nat.zero_le _⟩ (hP.sub [] rfl) hK hl.1 rfl rfl (Nat.le_of_ble_eq_true rfl) dX8_appendCharacter_5) ?_
  refine lv_if_ne (tgt := 13) hx hb dX8_appendCharacter_8 (by decide) (fun c_2 => ?_) (fun c_2 => ?_)
  · have hf := ite_t c_2 hf
    refine lv_aload_n hx hb dX8_appendCharacter_13 rfl (lv_at hl 0 rfl) ?_
    refine va_get (D := D) (ci := 8) (C := RX8) (T := TX8) (N := 27) hx hb hT kwX8 hown hK.1 hP 0 rfl rfl 4 (by decide) (hT _ kf_X8_149) (fun _ h9 => h9) rfl dX8_appendCharacter_14 ?_
    refine lv_bipush (v := 100) hx hb dX8_appendCharacter_17 (by decide) ?_
    refine lv_icmp_ne (tgt := 25) hx hb dX8_appendCharacter_19 (by decide) (fun c_3 => ?_) (fun c_3 => ?_)
    · have hf := ite_t c_3 hf
      refine lv_aload_n hx hb dX8_appendCharacter_25 rfl (lv_at hl 0 rfl) ?_
      refine va_get (D := D) (ci := 8) (C := RX8) (T := TX8) (N := 27) hx hb hT kwX8 hown hK.1 hP 0 rfl rfl 3 (by decide) (hT _ kf_X8_16) (fun _ h9 => h9) rfl dX8_appendCharacter_26 ?_
      refine lv_aload_n hx hb dX8_appendCharacter_29 rfl (lv_at hl 0 rfl) ?_
      refine va_get (D := D) (ci := 8) (C := RX8) (T := TX8) (N := 27) hx hb hT kwX8 hown hK.1 hP 0 rfl rfl 4 (by decide) (hT _ kf_X8_149) (fun _ h9 => h9) rfl dX8_appendCharacter_30 ?_
      refine lv_iload_n hx hb dX8_appendCharacter_33 rfl (lv_at hl 1 rfl) ?_
      refine lv_i2b (v := (p1 : Int32).toInt8.toInt32) hx hb dX8_appendCharacter_34 rfl ?_
      obtain ⟨h_4, hf⟩ := chk_s hf
      refine va_bast hx hb hK.1 hP hD hS 3 2 rfl rfl (inb_in h_4) dX8_appendCharacter_35 (fun H locs hP hD hS => ?_)
      have hP : va_P D vwCl (wX8 cA a_m m_s m_past m_pasts (upd m_text m_typed.toNatClampNeg (vp_nar .byte ((p1 : Int32).toInt8.toInt32))) m_typed m_faceOfSide m_firstSide m_faces m_before m_endA m_endB m_from m_queue m_ring m_ringSize m_ringNodes m_rings m_path m_pathSize m_old m_lastRing m_bestNodes m_bestInside m_bestFits m_far m_xs m_ys) H := hP
      have hD : va_D A (wX8 cA a_m m_s m_past m_pasts (upd m_text m_typed.toNatClampNeg (vp_nar .byte ((p1 : Int32).toInt8.toInt32))) m_typed m_faceOfSide m_firstSide m_faces m_before m_endA m_endB m_from m_queue m_ring m_ringSize m_ringNodes m_rings m_path m_pathSize m_old m_lastRing m_bestNodes m_bestInside m_bestFits m_far m_xs m_ys) := hD
      refine lv_aload_n hx hb dX8_appendCharacter_36 rfl (lv_at hl 0 rfl) ?_
      refine lv_dup hx hb dX8_appendCharacter_37 rfl ?_
      refine va_get (D := D) (ci := 8) (C := RX8) (T := TX8) (N := 27) hx hb hT kwX8 hown hK.1 hP 0 rfl rfl 4 (by decide) (hT _ kf_X8_149) (fun _ h9 => h9) rfl dX8_appendCharacter_38 ?_
      refine lv_iconst (v := 1) hx hb dX8_appendCharacter_41 (by decide) ?_
      refine lv_iadd hx hb dX8_appendCharacter_42 ?_
      refine va_put (D := D) (ci := 8) (v := .int (m_typed + 1)) (ty := .int) (C := RX8) (T := TX8) (N := 27) hx hb hT kwX8 tyX8 tyX8_ok nmX8 hown hK.1 hP hD hS 0 rfl rfl 4 (by decide) (hT _ kf_X8_149) (fun _ h9 => h9) rfl (by decide +kernel) rfl rfl (Nat.le_of_ble_eq_true rfl) dX8_appendCharacter_43 (fun H locs hP hD hS => ?_)
      have hP : va_P D vwCl (wX8 cA a_m m_s m_past m_pasts (upd m_text m_typed.toNatClampNeg (vp_nar .byte ((p1 : Int32).toInt8.toInt32))) (m_typed + 1) m_faceOfSide m_firstSide m_faces m_before m_endA m_endB m_from m_queue m_ring m_ringSize m_ringNodes m_rings m_path m_pathSize m_old m_lastRing m_bestNodes m_bestInside m_bestFits m_far m_xs m_ys) H := hP
      have hD : va_D A (wX8 cA a_m m_s m_past m_pasts (upd m_text m_typed.toNatClampNeg (vp_nar .byte ((p1 : Int32).toInt8.toInt32))) (m_typed + 1) m_faceOfSide m_firstSide m_faces m_before m_endA m_endB m_from m_queue m_ring m_ringSize m_ringNodes m_rings m_path m_pathSize m_old m_lastRing m_bestNodes m_bestInside m_bestFits m_far m_xs m_ys) := hD
      refine lv_aload_n hx hb dX8_appendCharacter_46 rfl (lv_at hl 0 rfl) ?_
      refine va_get (D := D) (ci := 8) (C := RX8) (T := TX8) (N := 27) hx hb hT kwX8 hown hK.1 hP 0 rfl rfl 4 (by decide) (hT _ kf_X8_149) (fun _ h9 => h9) rfl dX8_appendCharacter_47 ?_
      have eR := some_i hf
      exact W.iret hx hb hr (fun t ht hW => ⟨⟨(m_typed + 1), (), rfl, fst_e eR, by rw [← eR, ht]; exact hP, by rw [← eR]; exact hD⟩, hS.F ht⟩) hS.2.2 dX8_appendCharacter_50 (hlocks := hlk)
    · have hf := ite_fn c_3 hf
      refine lv_bipush (v := (-3)) hx hb dX8_appendCharacter_22 (by decide) ?_
      have eR := some_i hf
      exact W.iret hx hb hr (fun t ht hW => ⟨⟨(-3), (), rfl, fst_e eR, by rw [← eR, ht]; exact hP, by rw [← eR]; exact hD⟩, hS.F ht⟩) hS.2.2 dX8_appendCharacter_24 (hlocks := hlk)
  · have hf := ite_fn c_2 hf
    refine lv_iconst (v := (-1)) hx hb dX8_appendCharacter_11 (by decide) ?_
    have eR := some_i hf
    exact W.iret hx hb hr (fun t ht hW => ⟨⟨(-1), (), rfl, fst_e eR, by rw [← eR, ht]; exact hP, by rw [← eR]; exact hD⟩, hS.F ht⟩) hS.2.2 dX8_appendCharacter_12 (hlocks := hlk)
set_option maxRecDepth 100000 in
set_option maxHeartbeats 4000000 in
theorem c_X8_turnOf (l : Launch) (D : va_G) (cA : Nat → ClassId) (a_m : Nat → Nat) (m_s : Nat → Int32) (m_past : Nat → Int32) (m_pasts : Int32) (m_text : Nat → Int32) (m_typed : Int32) (m_faceOfSide : Nat → Int32) (m_firstSide : Nat → Int32) (m_faces : Int32) (m_before : Nat → Int32) (m_endA : Nat → Int32) (m_endB : Nat → Int32) (m_from : Nat → Int32) (m_queue : Nat → Int32) (m_ring : Nat → Int32) (m_ringSize : Nat → Int32) (m_ringNodes : Nat → Int32) (m_rings : Int32) (m_path : Nat → Int32) (m_pathSize : Int32) (m_old : Nat → Int32) (m_lastRing : Int32) (m_bestNodes : Int32) (m_bestInside : Int32) (m_bestFits : Int32) (m_far : Nat → Int32) (m_xs : Nat → UInt32) (m_ys : Nat → UInt32) (p1 : Int32) (p2 : Int32) (p3 : Int32) (N : Nat) (ρ : UInt32) (hf : f_X8_turnOf N m_xs m_ys p1 p2 p3 = some ρ) : Met l yX8_turnOf (Cond.code yX8_turnOf cX8_turnOf 4 (Option.some Jvm.ClassFile.FieldType.float) :: lw_g) ({ frames := 0, cells := 0, slots := 0, locals := 0 } : Room) (PcS D (tyA cA) (wX8 cA a_m m_s m_past m_pasts m_text m_typed m_faceOfSide m_firstSide m_faces m_before m_endA m_endB m_from m_queue m_ring m_ringSize m_ringNodes m_rings m_path m_pathSize m_old m_lastRing m_bestNodes m_bestInside m_bestFits m_far m_xs m_ys) [.ref (a_m 0), .int p1, .int p2, .int p3]) (vp_Sf (fun r => r = ρ)) 0 0 (fun _ => False) := by
  refine mkS (by decide +kernel) (Nat.le_of_ble_eq_true rfl) fun p e s m below meth c ls C hl hP hK => ?_
  obtain ⟨hx, hb, hml, hown, hT, hr, hlk⟩ := id C
  have hl : lv_has ls 4 [(0, .ref (a_m 0)), (1, .int p1), (2, .int p2), (3, .int p3)] := hl
  refine lv_aload_n hx hb dX8_turnOf_0 rfl (lv_at hl 0 rfl) ?_
  refine va_get (D := D) (ci := 8) (C := RX8) (T := TX8) (N := 27) hx hb hT kwX8 hown hK.1 hP 0 rfl rfl 25 (by decide) (hT _ kf_X8_59) (fun _ h9 => h9) rfl dX8_turnOf_1 ?_
  refine lv_iload_n hx hb dX8_turnOf_4 rfl (lv_at hl 2 rfl) ?_
  obtain ⟨h_1, hf⟩ := chk_s hf
  refine va_fald hx hb hK.1 hP 17 1 rfl rfl (inb_in h_1) dX8_turnOf_5 ?_
  refine lv_aload_n hx hb dX8_turnOf_6 rfl (lv_at hl 0 rfl) ?_
  refine va_get (D := D) (ci := 8) (C := RX8) (T := TX8) (N := 27) hx hb hT kwX8 hown hK.1 hP 0 rfl rfl 25 (by decide) (hT _ kf_X8_59) (fun _ h9 => h9) rfl dX8_turnOf_7 ?_
  refine lv_iload_n hx hb dX8_turnOf_10 rfl (lv_at hl 1 rfl) ?_
  obtain ⟨h_2, hf⟩ := chk_s hf
  refine va_fald hx hb hK.1 hP 17 1 rfl rfl (inb_in h_2) dX8_turnOf_11 ?_
  obtain ⟨h_3, hf⟩ := chk_s hf
  refine lv_fsub hx hb dX8_turnOf_12 (nn_n h_3) ?_
  refine lv_aload_n hx hb dX8_turnOf_13 rfl (lv_at hl 0 rfl) ?_
  refine va_get (D := D) (ci := 8) (C := RX8) (T := TX8) (N := 27) hx hb hT kwX8 hown hK.1 hP 0 rfl rfl 26 (by decide) (hT _ kf_X8_63) (fun _ h9 => h9) rfl dX8_turnOf_14 ?_
  refine lv_iload_n hx hb dX8_turnOf_17 rfl (lv_at hl 3 rfl) ?_
  obtain ⟨h_4, hf⟩ := chk_s hf
  refine va_fald hx hb hK.1 hP 18 1 rfl rfl (inb_in h_4) dX8_turnOf_18 ?_
  refine lv_aload_n hx hb dX8_turnOf_19 rfl (lv_at hl 0 rfl) ?_
  refine va_get (D := D) (ci := 8) (C := RX8) (T := TX8) (N := 27) hx hb hT kwX8 hown hK.1 hP 0 rfl rfl 26 (by decide) (hT _ kf_X8_63) (fun _ h9 => h9) rfl dX8_turnOf_20 ?_
  refine lv_iload_n hx hb dX8_turnOf_23 rfl (lv_at hl 1 rfl) ?_
  obtain ⟨h_5, hf⟩ := chk_s hf
  refine va_fald hx hb hK.1 hP 18 1 rfl rfl (inb_in h_5) dX8_turnOf_24 ?_
  obtain ⟨h_6, hf⟩ := chk_s hf
  refine lv_fsub hx hb dX8_turnOf_25 (nn_n h_6) ?_
  obtain ⟨h_7, hf⟩ := chk_s hf
  refine lv_fmul hx hb dX8_turnOf_26 (nn_n h_7) ?_
  refine lv_aload_n hx hb dX8_turnOf_27 rfl (lv_at hl 0 rfl) ?_
  refine va_get (D := D) (ci := 8) (C := RX8) (T := TX8) (N := 27) hx hb hT kwX8 hown hK.1 hP 0 rfl rfl 26 (by decide) (hT _ kf_X8_63) (fun _ h9 => h9) rfl dX8_turnOf_28 ?_
  refine lv_iload_n hx hb dX8_turnOf_31 rfl (lv_at hl 2 rfl) ?_
  obtain ⟨h_8, hf⟩ := chk_s hf
  refine va_fald hx hb hK.1 hP 18 1 rfl rfl (inb_in h_8) dX8_turnOf_32 ?_
  refine lv_aload_n hx hb dX8_turnOf_33 rfl (lv_at hl 0 rfl) ?_
  refine va_get (D := D) (ci := 8) (C := RX8) (T := TX8) (N := 27) hx hb hT kwX8 hown hK.1 hP 0 rfl rfl 26 (by decide) (hT _ kf_X8_63) (fun _ h9 => h9) rfl dX8_turnOf_34 ?_
  refine lv_iload_n hx hb dX8_turnOf_37 rfl (lv_at hl 1 rfl) ?_
  obtain ⟨h_9, hf⟩ := chk_s hf
  refine va_fald hx hb hK.1 hP 18 1 rfl rfl (inb_in h_9) dX8_turnOf_38 ?_
  obtain ⟨h_10, hf⟩ := chk_s hf
  refine lv_fsub hx hb dX8_turnOf_39 (nn_n h_10) ?_
  refine lv_aload_n hx hb dX8_turnOf_40 rfl (lv_at hl 0 rfl) ?_
  refine va_get (D := D) (ci := 8) (C := RX8) (T := TX8) (N := 27) hx hb hT kwX8 hown hK.1 hP 0 rfl rfl 25 (by decide) (hT _ kf_X8_59) (fun _ h9 => h9) rfl dX8_turnOf_41 ?_
  refine lv_iload_n hx hb dX8_turnOf_44 rfl (lv_at hl 3 rfl) ?_
  obtain ⟨h_11, hf⟩ := chk_s hf
  refine va_fald hx hb hK.1 hP 17 1 rfl rfl (inb_in h_11) dX8_turnOf_45 ?_
  refine lv_aload_n hx hb dX8_turnOf_46 rfl (lv_at hl 0 rfl) ?_
  refine va_get (D := D) (ci := 8) (C := RX8) (T := TX8) (N := 27) hx hb hT kwX8 hown hK.1 hP 0 rfl rfl 25 (by decide) (hT _ kf_X8_59) (fun _ h9 => h9) rfl dX8_turnOf_47 ?_
  refine lv_iload_n hx hb dX8_turnOf_50 rfl (lv_at hl 1 rfl) ?_
  obtain ⟨h_12, hf⟩ := chk_s hf
  refine va_fald hx hb hK.1 hP 17 1 rfl rfl (inb_in h_12) dX8_turnOf_51 ?_
  obtain ⟨h_13, hf⟩ := chk_s hf
  refine lv_fsub hx hb dX8_turnOf_52 (nn_n h_13) ?_
  obtain ⟨h_14, hf⟩ := chk_s hf
  refine lv_fmul hx hb dX8_turnOf_53 (nn_n h_14) ?_
  obtain ⟨h_15, hf⟩ := chk_s hf
  refine lv_fsub hx hb dX8_turnOf_54 (nn_n h_15) ?_
  exact W.fret hx hb hr (fun t ht hW => ⟨_, rfl, some_i hf, ht⟩) (fun _ h => by cases h) dX8_turnOf_55 (hlocks := hlk)
set_option maxRecDepth 100000 in
set_option maxHeartbeats 4000000 in
theorem c_X8_areApart (l : Launch) (D : va_G) (cA : Nat → ClassId) (a_m : Nat → Nat) (m_s : Nat → Int32) (m_past : Nat → Int32) (m_pasts : Int32) (m_text : Nat → Int32) (m_typed : Int32) (m_faceOfSide : Nat → Int32) (m_firstSide : Nat → Int32) (m_faces : Int32) (m_before : Nat → Int32) (m_endA : Nat → Int32) (m_endB : Nat → Int32) (m_from : Nat → Int32) (m_queue : Nat → Int32) (m_ring : Nat → Int32) (m_ringSize : Nat → Int32) (m_ringNodes : Nat → Int32) (m_rings : Int32) (m_path : Nat → Int32) (m_pathSize : Int32) (m_old : Nat → Int32) (m_lastRing : Int32) (m_bestNodes : Int32) (m_bestInside : Int32) (m_bestFits : Int32) (m_far : Nat → Int32) (m_xs : Nat → UInt32) (m_ys : Nat → UInt32) (p1 : Int32) (p2 : Int32) (p3 : Int32) (N : Nat) (ρ : Int32) (hf : f_X8_areApart N m_s m_xs m_ys p1 p2 p3 = some ρ) : Met l yX8_areApart (Cond.code yX8_areApart cX8_areApart 6 (Option.some Jvm.ClassFile.FieldType.boolean) :: lw_g) ({ frames := 1, cells := 0, slots := 0, locals := 23 } : Room) (PcS D (tyA cA) (wX8 cA a_m m_s m_past m_pasts m_text m_typed m_faceOfSide m_firstSide m_faces m_before m_endA m_endB m_from m_queue m_ring m_ringSize m_ringNodes m_rings m_path m_pathSize m_old m_lastRing m_bestNodes m_bestInside m_bestFits m_far m_xs m_ys) [.ref (a_m 0), .int p1, .int p2, .int p3]) (vp_Si (fun r => r = ρ)) 0 0 (fun _ => False) := by
  refine mkS (by decide +kernel) (Nat.le_of_ble_eq_true rfl) fun p e s m below meth c ls C hl hP hK => ?_
  obtain ⟨hx, hb, hml, hown, hT, hr, hlk⟩ := id C
  have hl : lv_has ls 6 [(0, .ref (a_m 0)), (1, .int p1), (2, .int p2), (3, .int p3)] := hl
  have B76 : ∀ (ls : Array Slot), lv_has ls 6 [] → f_X8_areApart_b76 N m_s m_xs m_ys = some ρ → W p l e ({ frames := 1, cells := 0, slots := 0, locals := 23 } : Room) s m ([.ref (a_m 0), .int p1, .int p2, .int p3] : List Value).toArray below meth c s.heap [] 0 0 (MQ below (vp_Si (fun r => r = ρ)) ([.ref (a_m 0), .int p1, .int p2, .int p3] : List Value).toArray s 0 0 (fun _ => False)) (F0 m 76 ls []) := by
    intro  ls hl hf
    refine lv_iconst (v := 1) hx hb dX8_areApart_76 (by decide) ?_
    refine lv_goto (tgt := 81) hx hb dX8_areApart_77 (by decide) ?_
    exact W.zret hx hb hr (by decide) (fun t ht hW => ⟨_, rfl, some_i hf, ht⟩) (fun _ h => by cases h) dX8_areApart_81 (hlocks := hlk)
  have B62 : ∀ (x4 : UInt32) (x5 : UInt32) (ls : Array Slot), lv_has ls 6 [(4, .float x4), (5, .float x5)] → f_X8_areApart_b62 N m_s m_xs m_ys x4 x5 = some ρ → W p l e ({ frames := 1, cells := 0, slots := 0, locals := 23 } : Room) s m ([.ref (a_m 0), .int p1, .int p2, .int p3] : List Value).toArray below meth c s.heap [] 0 0 (MQ below (vp_Si (fun r => r = ρ)) ([.ref (a_m 0), .int p1, .int p2, .int p3] : List Value).toArray s 0 0 (fun _ => False)) (F0 m 62 ls []) := by
    intro x4 x5 ls hl hf
    refine lv_fload hx hb dX8_areApart_62 (lv_at hl 0 rfl) ?_
    refine lv_fconst0 hx hb dX8_areApart_64 ?_
    refine lv_fcmp hx hb dX8_areApart_65 ?_
    refine lv_if_ge (tgt := 80) hx hb dX8_areApart_66 (by decide) (fun c_9 => ?_) (fun c_9 => ?_)
    · have hf := ite_t c_9 hf
      refine lv_iconst (v := 0) hx hb dX8_areApart_80 (by decide) ?_
      exact W.zret hx hb hr (by decide) (fun t ht hW => ⟨_, rfl, some_i hf, ht⟩) (fun _ h => by cases h) dX8_areApart_81 (hlocks := hlk)
    · have hf := ite_f c_9 hf
      refine lv_fload hx hb dX8_areApart_69 (lv_at hl 1 rfl) ?_
      refine lv_fconst0 hx hb dX8_areApart_71 ?_
      refine lv_fcmp hx hb dX8_areApart_72 ?_
      refine lv_if_le (tgt := 80) hx hb dX8_areApart_73 (by decide) (fun c_10 => ?_) (fun c_10 => ?_)
      · have hf := ite_t c_10 hf
        refine lv_iconst (v := 0) hx hb dX8_areApart_80 (by decide) ?_
        exact W.zret hx hb hr (by decide) (fun t ht hW => ⟨_, rfl, some_i hf, ht⟩) (fun _ h => by cases h) dX8_areApart_81 (hlocks := hlk)
      · have hf := ite_f c_10 hf
        exact B76  _ (lv_sub hl [] rfl) hf
  refine lv_aload_n hx hb dX8_areApart_0 rfl (lv_at hl 0 rfl) ?_
  refine lv_aload_n hx hb dX8_areApart_1 rfl (lv_at hl 0 rfl) ?_
  refine va_get (D := D) (ci := 8) (C := RX8) (T := TX8) (N := 27) hx hb hT kwX8 hown hK.1 hP 0 rfl rfl 0 (by decide) (hT _ kf_X8_7) (fun _ h9 => h9) rfl dX8_areApart_2 ?_
  refine lv_iconst (v := 3) hx hb dX8_areApart_5 (by decide) ?_
  refine lv_iload_n hx hb dX8_areApart_6 rfl (lv_at hl 1 rfl) ?_
  refine lv_iadd hx hb dX8_areApart_7 ?_
  obtain ⟨h_1, hf⟩ := chk_s hf
  refine va_iald hx hb hK.1 hP 1 0 rfl rfl (inb_in h_1) dX8_areApart_8 ?_
  refine lv_aload_n hx hb dX8_areApart_9 rfl (lv_at hl 0 rfl) ?_
  refine va_get (D := D) (ci := 8) (C := RX8) (T := TX8) (N := 27) hx hb hT kwX8 hown hK.1 hP 0 rfl rfl 0 (by decide) (hT _ kf_X8_7) (fun _ h9 => h9) rfl dX8_areApart_10 ?_
  refine lv_bipush (v := 23) hx hb dX8_areApart_13 (by decide) ?_
  refine lv_iload_n hx hb dX8_areApart_15 rfl (lv_at hl 1 rfl) ?_
  refine lv_iadd hx hb dX8_areApart_16 ?_
  obtain ⟨h_2, hf⟩ := chk_s hf
  refine va_iald hx hb hK.1 hP 1 0 rfl rfl (inb_in h_2) dX8_areApart_17 ?_
  refine lv_iload_n hx hb dX8_areApart_18 rfl (lv_at hl 2 rfl) ?_
  obtain ⟨r_3, hcr_3, hf⟩ := bd1_s hf
  refine backF (runV0 C (c_X8_turnOf l D cA a_m m_s m_past m_pasts m_text m_typed m_faceOfSide m_firstSide m_faces m_before m_endA m_endB m_from m_queue m_ring m_ringSize m_ringNodes m_rings m_path m_pathSize m_old m_lastRing m_bestNodes m_bestInside m_bestFits m_far m_xs m_ys (m_s (3 + p1).toNatClampNeg) (m_s (23 + p1).toNatClampNeg) p2 N r_3 hcr_3) cf_X8_turnOf km_X8_270 ⟨rfl, rfl, by decide, by decide⟩ ⟨Nat.zero_le _, Nat.zero_le _⟩ (va_recv hK.1 hP (ci := 8) (q0 := 0) rfl rfl) (hP.sub [0, 1, 2, 3, 4, 5, 6, 7, 8, 9, 10, 11, 12, 13, 14, 15, 16, 17, 18] rfl) hK hl.1 rfl rfl (Nat.le_of_ble_eq_true rfl) dX8_areApart_19) ?_
  refine lv_fstore (lv' := [(4, .float r_3), (0, .ref (a_m 0)), (1, .int p1), (2, .int p2), (3, .int p3)]) hx hb dX8_areApart_22 hl (by decide) rfl (fun ls hl => ?_)
  refine lv_aload_n hx hb dX8_areApart_24 rfl (lv_at hl 1 rfl) ?_
  refine lv_aload_n hx hb dX8_areApart_25 rfl (lv_at hl 1 rfl) ?_
  refine va_get (D := D) (ci := 8) (C := RX8) (T := TX8) (N := 27) hx hb hT kwX8 hown hK.1 hP 0 rfl rfl 0 (by decide) (hT _ kf_X8_7) (fun _ h9 => h9) rfl dX8_areApart_26 ?_
  refine lv_iconst (v := 3) hx hb dX8_areApart_29 (by decide) ?_
  refine lv_iload_n hx hb dX8_areApart_30 rfl (lv_at hl 2 rfl) ?_
  refine lv_iadd hx hb dX8_areApart_31 ?_
  obtain ⟨h_4, hf⟩ := chk_s hf
  refine va_iald hx hb hK.1 hP 1 0 rfl rfl (inb_in h_4) dX8_areApart_32 ?_
  refine lv_aload_n hx hb dX8_areApart_33 rfl (lv_at hl 1 rfl) ?_
  refine va_get (D := D) (ci := 8) (C := RX8) (T := TX8) (N := 27) hx hb hT kwX8 hown hK.1 hP 0 rfl rfl 0 (by decide) (hT _ kf_X8_7) (fun _ h9 => h9) rfl dX8_areApart_34 ?_
  refine lv_bipush (v := 23) hx hb dX8_areApart_37 (by decide) ?_
  refine lv_iload_n hx hb dX8_areApart_39 rfl (lv_at hl 2 rfl) ?_
  refine lv_iadd hx hb dX8_areApart_40 ?_
  obtain ⟨h_5, hf⟩ := chk_s hf
  refine va_iald hx hb hK.1 hP 1 0 rfl rfl (inb_in h_5) dX8_areApart_41 ?_
  refine lv_iload_n hx hb dX8_areApart_42 rfl (lv_at hl 4 rfl) ?_
  obtain ⟨r_6, hcr_6, hf⟩ := bd1_s hf
  refine backF (runV0 C (c_X8_turnOf l D cA a_m m_s m_past m_pasts m_text m_typed m_faceOfSide m_firstSide m_faces m_before m_endA m_endB m_from m_queue m_ring m_ringSize m_ringNodes m_rings m_path m_pathSize m_old m_lastRing m_bestNodes m_bestInside m_bestFits m_far m_xs m_ys (m_s (3 + p1).toNatClampNeg) (m_s (23 + p1).toNatClampNeg) p3 N r_6 hcr_6) cf_X8_turnOf km_X8_270 ⟨rfl, rfl, by decide, by decide⟩ ⟨Nat.zero_le _, Nat.zero_le _⟩ (va_recv hK.1 hP (ci := 8) (q0 := 0) rfl rfl) (hP.sub [0, 1, 2, 3, 4, 5, 6, 7, 8, 9, 10, 11, 12, 13, 14, 15, 16, 17, 18] rfl) hK hl.1 rfl rfl (Nat.le_of_ble_eq_true rfl) dX8_areApart_43) ?_
  refine lv_fstore (lv' := [(5, .float r_6), (4, .float r_3), (0, .ref (a_m 0)), (1, .int p1), (2, .int p2), (3, .int p3)]) hx hb dX8_areApart_46 hl (by decide) rfl (fun ls hl => ?_)
  refine lv_fload hx hb dX8_areApart_48 (lv_at hl 1 rfl) ?_
  refine lv_fconst0 hx hb dX8_areApart_50 ?_
  refine lv_fcmp hx hb dX8_areApart_51 ?_
  refine lv_if_le (tgt := 62) hx hb dX8_areApart_52 (by decide) (fun c_7 => ?_) (fun c_7 => ?_)
  · have hf := ite_t c_7 hf
    exact B62 r_3 r_6 _ (lv_sub hl [1, 0] rfl) hf
  · have hf := ite_f c_7 hf
    refine lv_fload hx hb dX8_areApart_55 (lv_at hl 0 rfl) ?_
    refine lv_fconst0 hx hb dX8_areApart_57 ?_
    refine lv_fcmp hx hb dX8_areApart_58 ?_
    refine lv_if_lt (tgt := 76) hx hb dX8_areApart_59 (by decide) (fun c_8 => ?_) (fun c_8 => ?_)
    · have hf := ite_t c_8 hf
      exact B76  _ (lv_sub hl [] rfl) hf
    · have hf := ite_f c_8 hf
      exact B62 r_3 r_6 _ (lv_sub hl [1, 0] rfl) hf
set_option maxRecDepth 100000 in
set_option maxHeartbeats 4000000 in
theorem c_X8_has (l : Launch) (D : va_G) (cA : Nat → ClassId) (p0 : Int32) (p1 : Int32) (N : Nat) (ρ : Int32) (hf : f_X8_has N p0 p1 = some ρ) : Met l yX8_has (Cond.code yX8_has cX8_has 2 (Option.some Jvm.ClassFile.FieldType.boolean) :: lw_g) ({ frames := 0, cells := 0, slots := 0, locals := 0 } : Room) (PcS D (tyA cA) ([] : va_W) [.int p0, .int p1]) (vp_Si (fun r => r = ρ)) 0 0 (fun _ => False) := by
  refine mkS (by decide +kernel) (Nat.le_of_ble_eq_true rfl) fun p e s m below meth c ls C hl hP hK => ?_
  obtain ⟨hx, hb, hml, hown, hT, hr, hlk⟩ := id C
  have hl : lv_has ls 2 [(0, .int p0), (1, .int p1)] := hl
  refine lv_iload_n hx hb dX8_has_0 rfl (lv_at hl 0 rfl) ?_
  refine lv_iload_n hx hb dX8_has_1 rfl (lv_at hl 1 rfl) ?_
  refine lv_ishr hx hb dX8_has_2 ?_
  refine lv_iconst (v := 1) hx hb dX8_has_3 (by decide) ?_
  refine lv_iand hx hb dX8_has_4 ?_
  refine lv_iconst (v := 1) hx hb dX8_has_5 (by decide) ?_
  refine lv_icmp_ne (tgt := 13) hx hb dX8_has_6 (by decide) (fun c_1 => ?_) (fun c_1 => ?_)
  · have hf := ite_t c_1 hf
    refine lv_iconst (v := 0) hx hb dX8_has_13 (by decide) ?_
    exact W.zret hx hb hr (by decide) (fun t ht hW => ⟨_, rfl, some_i hf, ht⟩) (fun _ h => by cases h) dX8_has_14 (hlocks := hlk)
  · have hf := ite_fn c_1 hf
    refine lv_iconst (v := 1) hx hb dX8_has_9 (by decide) ?_
    refine lv_goto (tgt := 14) hx hb dX8_has_10 (by decide) ?_
    exact W.zret hx hb hr (by decide) (fun t ht hW => ⟨_, rfl, some_i hf, ht⟩) (fun _ h => by cases h) dX8_has_14 (hlocks := hlk)
set_option maxRecDepth 100000 in
set_option maxHeartbeats 4000000 in
theorem c_X8_reached (l : Launch) (D : va_G) (cA : Nat → ClassId) (a_m : Nat → Nat) (m_s : Nat → Int32) (m_past : Nat → Int32) (m_pasts : Int32) (m_text : Nat → Int32) (m_typed : Int32) (m_faceOfSide : Nat → Int32) (m_firstSide : Nat → Int32) (m_faces : Int32) (m_before : Nat → Int32) (m_endA : Nat → Int32) (m_endB : Nat → Int32) (m_from : Nat → Int32) (m_queue : Nat → Int32) (m_ring : Nat → Int32) (m_ringSize : Nat → Int32) (m_ringNodes : Nat → Int32) (m_rings : Int32) (m_path : Nat → Int32) (m_pathSize : Int32) (m_old : Nat → Int32) (m_lastRing : Int32) (m_bestNodes : Int32) (m_bestInside : Int32) (m_bestFits : Int32) (m_far : Nat → Int32) (m_xs : Nat → UInt32) (m_ys : Nat → UInt32) (p1 : Int32) (p2 : Int32) (p3 : Int32) (N : Nat) (ρ : Int32) (hf : f_X8_reached N m_endA m_endB p1 p2 p3 = some ρ) : Met l yX8_reached (Cond.code yX8_reached cX8_reached 9 (Option.some Jvm.ClassFile.FieldType.int) :: lw_g) ({ frames := 1, cells := 0, slots := 0, locals := 21 } : Room) (PcS D (tyA cA) (wX8 cA a_m m_s m_past m_pasts m_text m_typed m_faceOfSide m_firstSide m_faces m_before m_endA m_endB m_from m_queue m_ring m_ringSize m_ringNodes m_rings m_path m_pathSize m_old m_lastRing m_bestNodes m_bestInside m_bestFits m_far m_xs m_ys) [.ref (a_m 0), .int p1, .int p2, .int p3]) (vp_Si (fun r => r = ρ)) 0 0 (fun _ => False) := by
  refine mkS (by decide +kernel) (Nat.le_of_ble_eq_true rfl) fun p e s m below meth c ls C hl hP hK => ?_
  obtain ⟨hx, hb, hml, hown, hT, hr, hlk⟩ := id C
  have hl : lv_has ls 9 [(0, .ref (a_m 0)), (1, .int p1), (2, .int p2), (3, .int p3)] := hl
  have B6 : ∀ (n6 : Nat), ∀ (x2 : Int32) (x3 : Int32) (x4 : Int32) (x5 : Int32) (ls : Array Slot), lv_has ls 9 [(0, .ref (a_m 0)), (2, .int x2), (3, .int x3), (4, .int x4), (5, .int x5)] → f_X8_reached_b6 N m_endA m_endB n6 x2 x3 x4 x5 = some ρ → W p l e ({ frames := 1, cells := 0, slots := 0, locals := 21 } : Room) s m ([.ref (a_m 0), .int p1, .int p2, .int p3] : List Value).toArray below meth c s.heap [] 0 0 (MQ below (vp_Si (fun r => r = ρ)) ([.ref (a_m 0), .int p1, .int p2, .int p3] : List Value).toArray s 0 0 (fun _ => False)) (F0 m 6 ls []) := by
    intro n6
    induction n6 with
    | zero =>
      intro x2 x3 x4 x5 ls hl hf
      cases (show (none : Option (Int32)) = some ρ from hf)
    | succ n6 ih6 =>
      have B103 : ∀ (x2 : Int32) (x3 : Int32) (x4 : Int32) (y0 : Int32) (ls : Array Slot), lv_has ls 9 [(0, .ref (a_m 0)), (2, .int x2), (3, .int x3), (4, .int x4)] → f_X8_reached_b103 N m_endA m_endB (f_X8_reached_b6 N m_endA m_endB n6) x2 x3 x4 y0 = some ρ → W p l e ({ frames := 1, cells := 0, slots := 0, locals := 21 } : Room) s m ([.ref (a_m 0), .int p1, .int p2, .int p3] : List Value).toArray below meth c s.heap [] 0 0 (MQ below (vp_Si (fun r => r = ρ)) ([.ref (a_m 0), .int p1, .int p2, .int p3] : List Value).toArray s 0 0 (fun _ => False)) (F0 m 103 ls [.int y0]) := by
        intro x2 x3 x4 y0 ls hl hf
        refine lv_istore (lv' := [(5, .int y0), (0, .ref (a_m 0)), (2, .int x2), (3, .int x3), (4, .int x4)]) hx hb dX8_reached_103 hl (by decide) rfl (fun ls hl => ?_)
        refine lv_goto (tgt := 6) hx hb dX8_reached_105 (by decide) ?_
        exact ih6 x2 x3 x4 y0 _ (lv_sub hl [1, 2, 3, 4, 0] rfl) hf
      have B91 : ∀ (x2 : Int32) (x3 : Int32) (x4 : Int32) (x6 : Int32) (ls : Array Slot), lv_has ls 9 [(0, .ref (a_m 0)), (2, .int x2), (3, .int x3), (4, .int x4), (6, .int x6)] → f_X8_reached_b91 N m_endA m_endB (f_X8_reached_b6 N m_endA m_endB n6) x2 x3 x4 x6 = some ρ → W p l e ({ frames := 1, cells := 0, slots := 0, locals := 21 } : Room) s m ([.ref (a_m 0), .int p1, .int p2, .int p3] : List Value).toArray below meth c s.heap [] 0 0 (MQ below (vp_Si (fun r => r = ρ)) ([.ref (a_m 0), .int p1, .int p2, .int p3] : List Value).toArray s 0 0 (fun _ => False)) (F0 m 91 ls []) := by
        intro x2 x3 x4 x6 ls hl hf
        refine lv_iload hx hb dX8_reached_91 (lv_at hl 3 rfl) ?_
        refine lv_iload hx hb dX8_reached_93 (lv_at hl 4 rfl) ?_
        refine lv_icmp_eq (tgt := 102) hx hb dX8_reached_95 (by decide) (fun c_10 => ?_) (fun c_10 => ?_)
        · have hf := ite_t c_10 hf
          refine lv_iconst (v := 0) hx hb dX8_reached_102 (by decide) ?_
          exact B103 x2 x3 x4 0 _ (lv_sub hl [0, 1, 2, 3] rfl) hf
        · have hf := ite_f c_10 hf
          refine lv_iconst (v := 1) hx hb dX8_reached_98 (by decide) ?_
          refine lv_goto (tgt := 103) hx hb dX8_reached_99 (by decide) ?_
          exact B103 x2 x3 x4 1 _ (lv_sub hl [0, 1, 2, 3] rfl) hf
      have B18 : ∀ (n18 : Nat), ∀ (x2 : Int32) (x3 : Int32) (x4 : Int32) (x6 : Int32) (x7 : Int32) (ls : Array Slot), lv_has ls 9 [(0, .ref (a_m 0)), (2, .int x2), (3, .int x3), (4, .int x4), (6, .int x6), (7, .int x7)] → f_X8_reached_b18 N m_endA m_endB (f_X8_reached_b6 N m_endA m_endB n6) n18 x2 x3 x4 x6 x7 = some ρ → W p l e ({ frames := 1, cells := 0, slots := 0, locals := 21 } : Room) s m ([.ref (a_m 0), .int p1, .int p2, .int p3] : List Value).toArray below meth c s.heap [] 0 0 (MQ below (vp_Si (fun r => r = ρ)) ([.ref (a_m 0), .int p1, .int p2, .int p3] : List Value).toArray s 0 0 (fun _ => False)) (F0 m 18 ls []) := by
        intro n18
        induction n18 with
        | zero =>
          intro x2 x3 x4 x6 x7 ls hl hf
          cases (show (none : Option (Int32)) = some ρ from hf)
        | succ n18 ih18 =>
          have B82 : ∀ (x2 : Int32) (x3 : Int32) (x6 : Int32) (x7 : Int32) (y0 : Int32) (y1 : Int32) (ls : Array Slot), lv_has ls 9 [(0, .ref (a_m 0)), (2, .int x2), (3, .int x3), (6, .int x6), (7, .int x7)] → f_X8_reached_b82 N m_endA m_endB (f_X8_reached_b6 N m_endA m_endB n6) (f_X8_reached_b18 N m_endA m_endB (f_X8_reached_b6 N m_endA m_endB n6) n18) x2 x3 x6 x7 y0 y1 = some ρ → W p l e ({ frames := 1, cells := 0, slots := 0, locals := 21 } : Room) s m ([.ref (a_m 0), .int p1, .int p2, .int p3] : List Value).toArray below meth c s.heap [] 0 0 (MQ below (vp_Si (fun r => r = ρ)) ([.ref (a_m 0), .int p1, .int p2, .int p3] : List Value).toArray s 0 0 (fun _ => False)) (F0 m 82 ls [.int y1, .int y0]) := by
            intro x2 x3 x6 x7 y0 y1 ls hl hf
            refine lv_ior hx hb dX8_reached_82 ?_
            refine lv_topi (fun x4_9 ex4_9 => ?_)
            have hf := nm_t ex4_9 hf
            refine lv_istore (lv' := [(4, .int x4_9), (0, .ref (a_m 0)), (2, .int x2), (3, .int x3), (6, .int x6), (7, .int x7)]) hx hb dX8_reached_83 hl (by decide) rfl (fun ls hl => ?_)
            refine lv_iinc (v := (x7 + 1)) (lv' := [(7, .int (x7 + 1)), (4, .int x4_9), (0, .ref (a_m 0)), (2, .int x2), (3, .int x3), (6, .int x6)]) hx hb dX8_reached_85 hl (k := 5) rfl rfl (by decide) rfl (fun ls hl => ?_)
            refine lv_goto (tgt := 18) hx hb dX8_reached_88 (by decide) ?_
            exact ih18 x2 x3 x4_9 x6 (x7 + 1) _ (lv_sub hl [2, 3, 4, 1, 5, 0] rfl) hf
          have B81 : ∀ (x2 : Int32) (x3 : Int32) (x6 : Int32) (x7 : Int32) (y0 : Int32) (ls : Array Slot), lv_has ls 9 [(0, .ref (a_m 0)), (2, .int x2), (3, .int x3), (6, .int x6), (7, .int x7)] → f_X8_reached_b81 N m_endA m_endB (f_X8_reached_b6 N m_endA m_endB n6) (f_X8_reached_b18 N m_endA m_endB (f_X8_reached_b6 N m_endA m_endB n6) n18) x2 x3 x6 x7 y0 = some ρ → W p l e ({ frames := 1, cells := 0, slots := 0, locals := 21 } : Room) s m ([.ref (a_m 0), .int p1, .int p2, .int p3] : List Value).toArray below meth c s.heap [] 0 0 (MQ below (vp_Si (fun r => r = ρ)) ([.ref (a_m 0), .int p1, .int p2, .int p3] : List Value).toArray s 0 0 (fun _ => False)) (F0 m 81 ls [.int y0]) := by
            intro x2 x3 x6 x7 y0 ls hl hf
            refine lv_iconst (v := 0) hx hb dX8_reached_81 (by decide) ?_
            exact B82 x2 x3 x6 x7 y0 0 _ (lv_sub hl [0, 1, 2, 3, 4] rfl) hf
          have B57 : ∀ (x2 : Int32) (x3 : Int32) (x4 : Int32) (x6 : Int32) (x7 : Int32) (y0 : Int32) (ls : Array Slot), lv_has ls 9 [(0, .ref (a_m 0)), (2, .int x2), (3, .int x3), (4, .int x4), (6, .int x6), (7, .int x7)] → f_X8_reached_b57 N m_endA m_endB (f_X8_reached_b6 N m_endA m_endB n6) (f_X8_reached_b18 N m_endA m_endB (f_X8_reached_b6 N m_endA m_endB n6) n18) x2 x3 x4 x6 x7 y0 = some ρ → W p l e ({ frames := 1, cells := 0, slots := 0, locals := 21 } : Room) s m ([.ref (a_m 0), .int p1, .int p2, .int p3] : List Value).toArray below meth c s.heap [] 0 0 (MQ below (vp_Si (fun r => r = ρ)) ([.ref (a_m 0), .int p1, .int p2, .int p3] : List Value).toArray s 0 0 (fun _ => False)) (F0 m 57 ls [.int y0]) := by
            intro x2 x3 x4 x6 x7 y0 ls hl hf
            refine lv_istore (lv' := [(8, .int y0), (0, .ref (a_m 0)), (2, .int x2), (3, .int x3), (4, .int x4), (6, .int x6), (7, .int x7)]) hx hb dX8_reached_57 hl (by decide) rfl (fun ls hl => ?_)
            refine lv_iload hx hb dX8_reached_59 (lv_at hl 4 rfl) ?_
            refine lv_iload hx hb dX8_reached_61 (lv_at hl 0 rfl) ?_
            refine lv_iload hx hb dX8_reached_63 (lv_at hl 4 rfl) ?_
            refine lv_iand hx hb dX8_reached_65 ?_
            refine lv_if_eq (tgt := 81) hx hb dX8_reached_66 (by decide) (fun c_7 => ?_) (fun c_7 => ?_)
            · have hf := ite_t c_7 hf
              exact B81 x2 x3 x6 x7 x4 _ (lv_sub hl [1, 2, 3, 5, 6] rfl) hf
            · have hf := ite_f c_7 hf
              refine lv_iload hx hb dX8_reached_69 (lv_at hl 0 rfl) ?_
              refine lv_iload_n hx hb dX8_reached_71 rfl (lv_at hl 3 rfl) ?_
              refine lv_iand hx hb dX8_reached_72 ?_
              refine lv_if_ne (tgt := 81) hx hb dX8_reached_73 (by decide) (fun c_8 => ?_) (fun c_8 => ?_)
              · have hf := ite_t c_8 hf
                exact B81 x2 x3 x6 x7 x4 _ (lv_sub hl [1, 2, 3, 5, 6] rfl) hf
              · have hf := ite_fn c_8 hf
                refine lv_iload hx hb dX8_reached_76 (lv_at hl 0 rfl) ?_
                refine lv_goto (tgt := 82) hx hb dX8_reached_78 (by decide) ?_
                exact B82 x2 x3 x6 x7 x4 y0 _ (lv_sub hl [1, 2, 3, 5, 6] rfl) hf
          intro x2 x3 x4 x6 x7 ls hl hf
          refine lv_iload hx hb dX8_reached_18 (lv_at hl 5 rfl) ?_
          refine lv_bipush (v := 21) hx hb dX8_reached_20 (by decide) ?_
          refine lv_icmp_ge (tgt := 91) hx hb dX8_reached_22 (by decide) (fun c_2 => ?_) (fun c_2 => ?_)
          · have hf := ite_t c_2 hf
            exact B91 x2 x3 x4 x6 _ (lv_sub hl [0, 1, 2, 3, 4] rfl) hf
          · have hf := ite_f c_2 hf
            refine lv_iload_n hx hb dX8_reached_25 rfl (lv_at hl 1 rfl) ?_
            refine lv_iload hx hb dX8_reached_26 (lv_at hl 5 rfl) ?_
            obtain ⟨r_3, hcr_3, hf⟩ := bd1_s hf
            refine backI (runS0 C (c_X8_has l D cA x2 x7 N r_3 hcr_3) cf_X8_has km_X8_166 ⟨rfl, rfl, by decide, by decide⟩ ⟨Nat.zero_le _, Nat.zero_le _⟩ (hP.sub [] rfl) hK hl.1 rfl rfl (Nat.le_of_ble_eq_true rfl) dX8_reached_28) ?_
            refine lv_if_eq (tgt := 56) hx hb dX8_reached_31 (by decide) (fun c_4 => ?_) (fun c_4 => ?_)
            · have hf := ite_t c_4 hf
              refine lv_iconst (v := 0) hx hb dX8_reached_56 (by decide) ?_
              exact B57 x2 x3 x4 x6 x7 0 _ (lv_sub hl [0, 1, 2, 3, 4, 5] rfl) hf
            · have hf := ite_f c_4 hf
              refine lv_iconst (v := 1) hx hb dX8_reached_34 (by decide) ?_
              refine lv_aload_n hx hb dX8_reached_35 rfl (lv_at hl 0 rfl) ?_
              refine va_get (D := D) (ci := 8) (C := RX8) (T := TX8) (N := 27) hx hb hT kwX8 hown hK.1 hP 0 rfl rfl 9 (by decide) (hT _ kf_X8_29) (fun _ h9 => h9) rfl dX8_reached_36 ?_
              refine lv_iload hx hb dX8_reached_39 (lv_at hl 5 rfl) ?_
              obtain ⟨h_5, hf⟩ := chk_s hf
              refine va_iald hx hb hK.1 hP 7 0 rfl rfl (inb_in h_5) dX8_reached_41 ?_
              refine lv_ishl hx hb dX8_reached_42 ?_
              refine lv_iconst (v := 1) hx hb dX8_reached_43 (by decide) ?_
              refine lv_aload_n hx hb dX8_reached_44 rfl (lv_at hl 0 rfl) ?_
              refine va_get (D := D) (ci := 8) (C := RX8) (T := TX8) (N := 27) hx hb hT kwX8 hown hK.1 hP 0 rfl rfl 10 (by decide) (hT _ kf_X8_32) (fun _ h9 => h9) rfl dX8_reached_45 ?_
              refine lv_iload hx hb dX8_reached_48 (lv_at hl 5 rfl) ?_
              obtain ⟨h_6, hf⟩ := chk_s hf
              refine va_iald hx hb hK.1 hP 8 0 rfl rfl (inb_in h_6) dX8_reached_50 ?_
              refine lv_ishl hx hb dX8_reached_51 ?_
              refine lv_ior hx hb dX8_reached_52 ?_
              refine lv_goto (tgt := 57) hx hb dX8_reached_53 (by decide) ?_
              exact B57 x2 x3 x4 x6 x7 (((1 : Int32) <<< ((m_endA x7.toNatClampNeg) &&& 31)) ||| ((1 : Int32) <<< ((m_endB x7.toNatClampNeg) &&& 31))) _ (lv_sub hl [0, 1, 2, 3, 4, 5] rfl) hf
      intro x2 x3 x4 x5 ls hl hf
      refine lv_iload hx hb dX8_reached_6 (lv_at hl 4 rfl) ?_
      refine lv_if_eq (tgt := 108) hx hb dX8_reached_8 (by decide) (fun c_1 => ?_) (fun c_1 => ?_)
      · have hf := ite_t c_1 hf
        refine lv_iload hx hb dX8_reached_108 (lv_at hl 3 rfl) ?_
        exact W.iret hx hb hr (fun t ht hW => ⟨_, rfl, some_i hf, ht⟩) (fun _ h => by cases h) dX8_reached_110 (hlocks := hlk)
      · have hf := ite_f c_1 hf
        refine lv_iload hx hb dX8_reached_11 (lv_at hl 3 rfl) ?_
        refine lv_istore (lv' := [(6, .int x4), (0, .ref (a_m 0)), (2, .int x2), (3, .int x3), (4, .int x4), (5, .int x5)]) hx hb dX8_reached_13 hl (by decide) rfl (fun ls hl => ?_)
        refine lv_iconst (v := 0) hx hb dX8_reached_15 (by decide) ?_
        refine lv_istore (lv' := [(7, .int 0), (6, .int x4), (0, .ref (a_m 0)), (2, .int x2), (3, .int x3), (4, .int x4), (5, .int x5)]) hx hb dX8_reached_16 hl (by decide) rfl (fun ls hl => ?_)
        exact B18 N x2 x3 x4 x4 0 _ (lv_sub hl [2, 3, 4, 5, 1, 0] rfl) hf
  refine lv_iload_n hx hb dX8_reached_0 rfl (lv_at hl 1 rfl) ?_
  refine lv_istore (lv' := [(4, .int p1), (0, .ref (a_m 0)), (1, .int p1), (2, .int p2), (3, .int p3)]) hx hb dX8_reached_1 hl (by decide) rfl (fun ls hl => ?_)
  refine lv_iconst (v := 1) hx hb dX8_reached_3 (by decide) ?_
  refine lv_istore (lv' := [(5, .int 1), (4, .int p1), (0, .ref (a_m 0)), (1, .int p1), (2, .int p2), (3, .int p3)]) hx hb dX8_reached_4 hl (by decide) rfl (fun ls hl => ?_)
  exact B6 N p2 p3 p1 1 _ (lv_sub hl [2, 4, 5, 1, 0] rfl) hf
set_option maxRecDepth 100000 in
set_option maxHeartbeats 4000000 in
theorem c_X8_areInOne (l : Launch) (D : va_G) (cA : Nat → ClassId) (a_m : Nat → Nat) (m_s : Nat → Int32) (m_past : Nat → Int32) (m_pasts : Int32) (m_text : Nat → Int32) (m_typed : Int32) (m_faceOfSide : Nat → Int32) (m_firstSide : Nat → Int32) (m_faces : Int32) (m_before : Nat → Int32) (m_endA : Nat → Int32) (m_endB : Nat → Int32) (m_from : Nat → Int32) (m_queue : Nat → Int32) (m_ring : Nat → Int32) (m_ringSize : Nat → Int32) (m_ringNodes : Nat → Int32) (m_rings : Int32) (m_path : Nat → Int32) (m_pathSize : Int32) (m_old : Nat → Int32) (m_lastRing : Int32) (m_bestNodes : Int32) (m_bestInside : Int32) (m_bestFits : Int32) (m_far : Nat → Int32) (m_xs : Nat → UInt32) (m_ys : Nat → UInt32) (p1 : Int32) (p2 : Int32) (p3 : Int32) (N : Nat) (ρ : Int32) (hf : f_X8_areInOne N m_endA m_endB p1 p2 p3 = some ρ) : Met l yX8_areInOne (Cond.code yX8_areInOne cX8_areInOne 7 (Option.some Jvm.ClassFile.FieldType.boolean) :: lw_g) ({ frames := 2, cells := 0, slots := 0, locals := 49 } : Room) (PcS D (tyA cA) (wX8 cA a_m m_s m_past m_pasts m_text m_typed m_faceOfSide m_firstSide m_faces m_before m_endA m_endB m_from m_queue m_ring m_ringSize m_ringNodes m_rings m_path m_pathSize m_old m_lastRing m_bestNodes m_bestInside m_bestFits m_far m_xs m_ys) [.ref (a_m 0), .int p1, .int p2, .int p3]) (vp_Si (fun r => r = ρ)) 0 0 (fun _ => False) := by
  refine mkS (by decide +kernel) (Nat.le_of_ble_eq_true rfl) fun p e s m below meth c ls C hl hP hK => ?_
  obtain ⟨hx, hb, hml, hown, hT, hr, hlk⟩ := id C
  have hl : lv_has ls 7 [(0, .ref (a_m 0)), (1, .int p1), (2, .int p2), (3, .int p3)] := hl
  refine lv_iconst (v := 1) hx hb dX8_areInOne_0 (by decide) ?_
  refine lv_aload_n hx hb dX8_areInOne_1 rfl (lv_at hl 0 rfl) ?_
  refine va_get (D := D) (ci := 8) (C := RX8) (T := TX8) (N := 27) hx hb hT kwX8 hown hK.1 hP 0 rfl rfl 9 (by decide) (hT _ kf_X8_29) (fun _ h9 => h9) rfl dX8_areInOne_2 ?_
  refine lv_iload_n hx hb dX8_areInOne_5 rfl (lv_at hl 2 rfl) ?_
  obtain ⟨h_1, hf⟩ := chk_s hf
  refine va_iald hx hb hK.1 hP 7 0 rfl rfl (inb_in h_1) dX8_areInOne_6 ?_
  refine lv_ishl hx hb dX8_areInOne_7 ?_
  refine lv_iconst (v := 1) hx hb dX8_areInOne_8 (by decide) ?_
  refine lv_aload_n hx hb dX8_areInOne_9 rfl (lv_at hl 0 rfl) ?_
  refine va_get (D := D) (ci := 8) (C := RX8) (T := TX8) (N := 27) hx hb hT kwX8 hown hK.1 hP 0 rfl rfl 10 (by decide) (hT _ kf_X8_32) (fun _ h9 => h9) rfl dX8_areInOne_10 ?_
  refine lv_iload_n hx hb dX8_areInOne_13 rfl (lv_at hl 2 rfl) ?_
  obtain ⟨h_2, hf⟩ := chk_s hf
  refine va_iald hx hb hK.1 hP 8 0 rfl rfl (inb_in h_2) dX8_areInOne_14 ?_
  refine lv_ishl hx hb dX8_areInOne_15 ?_
  refine lv_ior hx hb dX8_areInOne_16 ?_
  refine lv_iconst (v := 1) hx hb dX8_areInOne_17 (by decide) ?_
  refine lv_aload_n hx hb dX8_areInOne_18 rfl (lv_at hl 0 rfl) ?_
  refine va_get (D := D) (ci := 8) (C := RX8) (T := TX8) (N := 27) hx hb hT kwX8 hown hK.1 hP 0 rfl rfl 9 (by decide) (hT _ kf_X8_29) (fun _ h9 => h9) rfl dX8_areInOne_19 ?_
  refine lv_iload_n hx hb dX8_areInOne_22 rfl (lv_at hl 3 rfl) ?_
  obtain ⟨h_3, hf⟩ := chk_s hf
  refine va_iald hx hb hK.1 hP 7 0 rfl rfl (inb_in h_3) dX8_areInOne_23 ?_
  refine lv_ishl hx hb dX8_areInOne_24 ?_
  refine lv_iconst (v := 1) hx hb dX8_areInOne_25 (by decide) ?_
  refine lv_aload_n hx hb dX8_areInOne_26 rfl (lv_at hl 0 rfl) ?_
  refine va_get (D := D) (ci := 8) (C := RX8) (T := TX8) (N := 27) hx hb hT kwX8 hown hK.1 hP 0 rfl rfl 10 (by decide) (hT _ kf_X8_32) (fun _ h9 => h9) rfl dX8_areInOne_27 ?_
  refine lv_iload_n hx hb dX8_areInOne_30 rfl (lv_at hl 3 rfl) ?_
  obtain ⟨h_4, hf⟩ := chk_s hf
  refine va_iald hx hb hK.1 hP 8 0 rfl rfl (inb_in h_4) dX8_areInOne_31 ?_
  refine lv_ishl hx hb dX8_areInOne_32 ?_
  refine lv_ior hx hb dX8_areInOne_33 ?_
  refine lv_iand hx hb dX8_areInOne_34 ?_
  refine lv_topi (fun x4_5 ex4_5 => ?_)
  have hf := nm_t ex4_5 hf
  refine lv_istore (lv' := [(4, .int x4_5), (0, .ref (a_m 0)), (1, .int p1), (2, .int p2), (3, .int p3)]) hx hb dX8_areInOne_35 hl (by decide) rfl (fun ls hl => ?_)
  refine lv_iload hx hb dX8_areInOne_37 (lv_at hl 0 rfl) ?_
  refine lv_if_ne (tgt := 44) hx hb dX8_areInOne_39 (by decide) (fun c_6 => ?_) (fun c_6 => ?_)
  · have hf := ite_t c_6 hf
    refine lv_iconst (v := 1) hx hb dX8_areInOne_44 (by decide) ?_
    refine lv_aload_n hx hb dX8_areInOne_45 rfl (lv_at hl 1 rfl) ?_
    refine va_get (D := D) (ci := 8) (C := RX8) (T := TX8) (N := 27) hx hb hT kwX8 hown hK.1 hP 0 rfl rfl 9 (by decide) (hT _ kf_X8_29) (fun _ h9 => h9) rfl dX8_areInOne_46 ?_
    refine lv_iload_n hx hb dX8_areInOne_49 rfl (lv_at hl 3 rfl) ?_
    obtain ⟨h_7, hf⟩ := chk_s hf
    refine va_iald hx hb hK.1 hP 7 0 rfl rfl (inb_in h_7) dX8_areInOne_50 ?_
    refine lv_ishl hx hb dX8_areInOne_51 ?_
    refine lv_iconst (v := 1) hx hb dX8_areInOne_52 (by decide) ?_
    refine lv_aload_n hx hb dX8_areInOne_53 rfl (lv_at hl 1 rfl) ?_
    refine va_get (D := D) (ci := 8) (C := RX8) (T := TX8) (N := 27) hx hb hT kwX8 hown hK.1 hP 0 rfl rfl 10 (by decide) (hT _ kf_X8_32) (fun _ h9 => h9) rfl dX8_areInOne_54 ?_
    refine lv_iload_n hx hb dX8_areInOne_57 rfl (lv_at hl 3 rfl) ?_
    obtain ⟨h_8, hf⟩ := chk_s hf
    refine va_iald hx hb hK.1 hP 8 0 rfl rfl (inb_in h_8) dX8_areInOne_58 ?_
    refine lv_ishl hx hb dX8_areInOne_59 ?_
    refine lv_ior hx hb dX8_areInOne_60 ?_
    refine lv_iload hx hb dX8_areInOne_61 (lv_at hl 0 rfl) ?_
    refine lv_iconst (v := (-1)) hx hb dX8_areInOne_63 (by decide) ?_
    refine lv_ixor hx hb dX8_areInOne_64 ?_
    refine lv_iand hx hb dX8_areInOne_65 ?_
    refine lv_topi (fun x5_9 ex5_9 => ?_)
    have hf := nm_t ex5_9 hf
    refine lv_istore (lv' := [(5, .int x5_9), (4, .int x4_5), (0, .ref (a_m 0)), (1, .int p1), (2, .int p2), (3, .int p3)]) hx hb dX8_areInOne_66 hl (by decide) rfl (fun ls hl => ?_)
    refine lv_iconst (v := 1) hx hb dX8_areInOne_68 (by decide) ?_
    refine lv_aload_n hx hb dX8_areInOne_69 rfl (lv_at hl 2 rfl) ?_
    refine va_get (D := D) (ci := 8) (C := RX8) (T := TX8) (N := 27) hx hb hT kwX8 hown hK.1 hP 0 rfl rfl 9 (by decide) (hT _ kf_X8_29) (fun _ h9 => h9) rfl dX8_areInOne_70 ?_
    refine lv_iload_n hx hb dX8_areInOne_73 rfl (lv_at hl 5 rfl) ?_
    obtain ⟨h_10, hf⟩ := chk_s hf
    refine va_iald hx hb hK.1 hP 7 0 rfl rfl (inb_in h_10) dX8_areInOne_74 ?_
    refine lv_ishl hx hb dX8_areInOne_75 ?_
    refine lv_iconst (v := 1) hx hb dX8_areInOne_76 (by decide) ?_
    refine lv_aload_n hx hb dX8_areInOne_77 rfl (lv_at hl 2 rfl) ?_
    refine va_get (D := D) (ci := 8) (C := RX8) (T := TX8) (N := 27) hx hb hT kwX8 hown hK.1 hP 0 rfl rfl 10 (by decide) (hT _ kf_X8_32) (fun _ h9 => h9) rfl dX8_areInOne_78 ?_
    refine lv_iload_n hx hb dX8_areInOne_81 rfl (lv_at hl 5 rfl) ?_
    obtain ⟨h_11, hf⟩ := chk_s hf
    refine va_iald hx hb hK.1 hP 8 0 rfl rfl (inb_in h_11) dX8_areInOne_82 ?_
    refine lv_ishl hx hb dX8_areInOne_83 ?_
    refine lv_ior hx hb dX8_areInOne_84 ?_
    refine lv_iload hx hb dX8_areInOne_85 (lv_at hl 1 rfl) ?_
    refine lv_iconst (v := (-1)) hx hb dX8_areInOne_87 (by decide) ?_
    refine lv_ixor hx hb dX8_areInOne_88 ?_
    refine lv_iand hx hb dX8_areInOne_89 ?_
    refine lv_topi (fun x6_12 ex6_12 => ?_)
    have hf := nm_t ex6_12 hf
    refine lv_istore (lv' := [(6, .int x6_12), (5, .int x5_9), (4, .int x4_5), (0, .ref (a_m 0)), (1, .int p1), (2, .int p2), (3, .int p3)]) hx hb dX8_areInOne_90 hl (by decide) rfl (fun ls hl => ?_)
    refine lv_aload_n hx hb dX8_areInOne_92 rfl (lv_at hl 3 rfl) ?_
    refine lv_iload hx hb dX8_areInOne_93 (lv_at hl 1 rfl) ?_
    refine lv_iload_n hx hb dX8_areInOne_95 rfl (lv_at hl 4 rfl) ?_
    refine lv_iload hx hb dX8_areInOne_96 (lv_at hl 2 rfl) ?_
    obtain ⟨r_13, hcr_13, hf⟩ := bd1_s hf
    refine backI (runV0 C (c_X8_reached l D cA a_m m_s m_past m_pasts m_text m_typed m_faceOfSide m_firstSide m_faces m_before m_endA m_endB m_from m_queue m_ring m_ringSize m_ringNodes m_rings m_path m_pathSize m_old m_lastRing m_bestNodes m_bestInside m_bestFits m_far m_xs m_ys x5_9 p1 x4_5 N r_13 hcr_13) cf_X8_reached km_X8_172 ⟨rfl, rfl, by decide, by decide⟩ ⟨Nat.zero_le _, Nat.zero_le _⟩ (va_recv hK.1 hP (ci := 8) (q0 := 0) rfl rfl) (hP.sub [0, 1, 2, 3, 4, 5, 6, 7, 8, 9, 10, 11, 12, 13, 14, 15, 16, 17, 18] rfl) hK hl.1 rfl rfl (Nat.le_of_ble_eq_true rfl) dX8_areInOne_98) ?_
    refine lv_iload hx hb dX8_areInOne_101 (lv_at hl 0 rfl) ?_
    refine lv_iand hx hb dX8_areInOne_103 ?_
    refine lv_if_eq (tgt := 111) hx hb dX8_areInOne_104 (by decide) (fun c_14 => ?_) (fun c_14 => ?_)
    · have hf := ite_t c_14 hf
      refine lv_iconst (v := 0) hx hb dX8_areInOne_111 (by decide) ?_
      exact W.zret hx hb hr (by decide) (fun t ht hW => ⟨_, rfl, some_i hf, ht⟩) (fun _ h => by cases h) dX8_areInOne_112 (hlocks := hlk)
    · have hf := ite_f c_14 hf
      refine lv_iconst (v := 1) hx hb dX8_areInOne_107 (by decide) ?_
      refine lv_goto (tgt := 112) hx hb dX8_areInOne_108 (by decide) ?_
      exact W.zret hx hb hr (by decide) (fun t ht hW => ⟨_, rfl, some_i hf, ht⟩) (fun _ h => by cases h) dX8_areInOne_112 (hlocks := hlk)
  · have hf := ite_fn c_6 hf
    refine lv_iconst (v := 0) hx hb dX8_areInOne_42 (by decide) ?_
    exact W.zret hx hb hr (by decide) (fun t ht hW => ⟨_, rfl, some_i hf, ht⟩) (fun _ h => by cases h) dX8_areInOne_43 (hlocks := hlk)
set_option maxRecDepth 100000 in
set_option maxHeartbeats 4000000 in
theorem c_X8_begins (l : Launch) (D : va_G) (cA : Nat → ClassId) (a_m : Nat → Nat) (m_s : Nat → Int32) (m_past : Nat → Int32) (m_pasts : Int32) (m_text : Nat → Int32) (m_typed : Int32) (m_faceOfSide : Nat → Int32) (m_firstSide : Nat → Int32) (m_faces : Int32) (m_before : Nat → Int32) (m_endA : Nat → Int32) (m_endB : Nat → Int32) (m_from : Nat → Int32) (m_queue : Nat → Int32) (m_ring : Nat → Int32) (m_ringSize : Nat → Int32) (m_ringNodes : Nat → Int32) (m_rings : Int32) (m_path : Nat → Int32) (m_pathSize : Int32) (m_old : Nat → Int32) (m_lastRing : Int32) (m_bestNodes : Int32) (m_bestInside : Int32) (m_bestFits : Int32) (m_far : Nat → Int32) (m_xs : Nat → UInt32) (m_ys : Nat → UInt32) (p1 : Int32) (sz N : Nat) (ρ : (Nat → Int32) × (Nat → Int32)) (hf : f_X8_begins N m_ringSize m_ringNodes p1 = some ρ) : Met l yX8_begins (Cond.code yX8_begins cX8_begins 2 (Option.none : Option Jvm.ClassFile.FieldType) :: lw_g) ({ frames := 0, cells := 0, slots := 0, locals := 0 } : Room) (PcW D (tyA cA) (wX8 cA a_m m_s m_past m_pasts m_text m_typed m_faceOfSide m_firstSide m_faces m_before m_endA m_endB m_from m_queue m_ring m_ringSize m_ringNodes m_rings m_path m_pathSize m_old m_lastRing m_bestNodes m_bestInside m_bestFits m_far m_xs m_ys) sz [.ref (a_m 0), .int p1]) (va_Qv (fun (_ : Unit) => True) (fun _ t => va_P D vwCl (wX8 cA a_m m_s m_past m_pasts m_text m_typed m_faceOfSide m_firstSide m_faces m_before m_endA m_endB m_from m_queue m_ring ρ.1 ρ.2 m_rings m_path m_pathSize m_old m_lastRing m_bestNodes m_bestInside m_bestFits m_far m_xs m_ys) t.heap ∧ va_D (va_A (wX8 cA a_m m_s m_past m_pasts m_text m_typed m_faceOfSide m_firstSide m_faces m_before m_endA m_endB m_from m_queue m_ring m_ringSize m_ringNodes m_rings m_path m_pathSize m_old m_lastRing m_bestNodes m_bestInside m_bestFits m_far m_xs m_ys) sz) (wX8 cA a_m m_s m_past m_pasts m_text m_typed m_faceOfSide m_firstSide m_faces m_before m_endA m_endB m_from m_queue m_ring ρ.1 ρ.2 m_rings m_path m_pathSize m_old m_lastRing m_bestNodes m_bestInside m_bestFits m_far m_xs m_ys)) (va_A (wX8 cA a_m m_s m_past m_pasts m_text m_typed m_faceOfSide m_firstSide m_faces m_before m_endA m_endB m_from m_queue m_ring m_ringSize m_ringNodes m_rings m_path m_pathSize m_old m_lastRing m_bestNodes m_bestInside m_bestFits m_far m_xs m_ys) sz)) 0 0 (va_A (wX8 cA a_m m_s m_past m_pasts m_text m_typed m_faceOfSide m_firstSide m_faces m_before m_endA m_endB m_from m_queue m_ring m_ringSize m_ringNodes m_rings m_path m_pathSize m_old m_lastRing m_bestNodes m_bestInside m_bestFits m_far m_xs m_ys) sz) := by
  refine mkW (QQ := fun A => va_Qv (fun (_ : Unit) => True) (fun _ t => va_P D vwCl (wX8 cA a_m m_s m_past m_pasts m_text m_typed m_faceOfSide m_firstSide m_faces m_before m_endA m_endB m_from m_queue m_ring ρ.1 ρ.2 m_rings m_path m_pathSize m_old m_lastRing m_bestNodes m_bestInside m_bestFits m_far m_xs m_ys) t.heap ∧ va_D A (wX8 cA a_m m_s m_past m_pasts m_text m_typed m_faceOfSide m_firstSide m_faces m_before m_endA m_endB m_from m_queue m_ring ρ.1 ρ.2 m_rings m_path m_pathSize m_old m_lastRing m_bestNodes m_bestInside m_bestFits m_far m_xs m_ys)) A) (by decide) (Nat.le_of_ble_eq_true rfl) fun p e s m below meth c ls A C hl hP hK hD hA hS => ?_
  obtain ⟨hx, hb, hml, hown, hT, hr, hlk⟩ := id C
  have hl : lv_has ls 2 [(0, .ref (a_m 0)), (1, .int p1)] := hl
  refine lv_aload_n hx hb dX8_begins_0 rfl (lv_at hl 0 rfl) ?_
  refine va_get (D := D) (ci := 8) (C := RX8) (T := TX8) (N := 27) hx hb hT kwX8 hown hK.1 hP 0 rfl rfl 14 (by decide) (hT _ kf_X8_44) (fun _ h9 => h9) rfl dX8_begins_1 ?_
  refine lv_iload_n hx hb dX8_begins_4 rfl (lv_at hl 1 rfl) ?_
  refine lv_iconst (v := 0) hx hb dX8_begins_5 (by decide) ?_
  obtain ⟨h_1, hf⟩ := chk_s hf
  refine va_iast hx hb hK.1 hP hD hS 12 0 rfl rfl (inb_in h_1) dX8_begins_6 (fun H locs hP hD hS => ?_)
  have hP : va_P D vwCl (wX8 cA a_m m_s m_past m_pasts m_text m_typed m_faceOfSide m_firstSide m_faces m_before m_endA m_endB m_from m_queue m_ring (upd m_ringSize p1.toNatClampNeg 0) m_ringNodes m_rings m_path m_pathSize m_old m_lastRing m_bestNodes m_bestInside m_bestFits m_far m_xs m_ys) H := hP
  have hD : va_D A (wX8 cA a_m m_s m_past m_pasts m_text m_typed m_faceOfSide m_firstSide m_faces m_before m_endA m_endB m_from m_queue m_ring (upd m_ringSize p1.toNatClampNeg 0) m_ringNodes m_rings m_path m_pathSize m_old m_lastRing m_bestNodes m_bestInside m_bestFits m_far m_xs m_ys) := hD
  refine lv_aload_n hx hb dX8_begins_7 rfl (lv_at hl 0 rfl) ?_
  refine va_get (D := D) (ci := 8) (C := RX8) (T := TX8) (N := 27) hx hb hT kwX8 hown hK.1 hP 0 rfl rfl 15 (by decide) (hT _ kf_X8_47) (fun _ h9 => h9) rfl dX8_begins_8 ?_
  refine lv_iload_n hx hb dX8_begins_11 rfl (lv_at hl 1 rfl) ?_
  refine lv_iconst (v := 0) hx hb dX8_begins_12 (by decide) ?_
  obtain ⟨h_2, hf⟩ := chk_s hf
  refine va_iast hx hb hK.1 hP hD hS 13 0 rfl rfl (inb_in h_2) dX8_begins_13 (fun H locs hP hD hS => ?_)
  have hP : va_P D vwCl (wX8 cA a_m m_s m_past m_pasts m_text m_typed m_faceOfSide m_firstSide m_faces m_before m_endA m_endB m_from m_queue m_ring (upd m_ringSize p1.toNatClampNeg 0) (upd m_ringNodes p1.toNatClampNeg 0) m_rings m_path m_pathSize m_old m_lastRing m_bestNodes m_bestInside m_bestFits m_far m_xs m_ys) H := hP
  have hD : va_D A (wX8 cA a_m m_s m_past m_pasts m_text m_typed m_faceOfSide m_firstSide m_faces m_before m_endA m_endB m_from m_queue m_ring (upd m_ringSize p1.toNatClampNeg 0) (upd m_ringNodes p1.toNatClampNeg 0) m_rings m_path m_pathSize m_old m_lastRing m_bestNodes m_bestInside m_bestFits m_far m_xs m_ys) := hD
  have eR := some_i hf
  exact W.vret hx hb hr (fun t ht hW => ⟨⟨(), rfl, trivial, by rw [← eR, ht]; exact hP, by rw [← eR]; exact hD⟩, hS.F ht⟩) hS.2.2 dX8_begins_14 (hlocks := hlk)
set_option maxRecDepth 100000 in
set_option maxHeartbeats 4000000 in
theorem c_X8_bits (l : Launch) (D : va_G) (cA : Nat → ClassId) (p0 : Int64) (N : Nat) (ρ : Int32) (hf : f_X8_bits N p0 = some ρ) : Met l yX8_bits (Cond.code yX8_bits cX8_bits 4 (Option.some Jvm.ClassFile.FieldType.int) :: lw_g) ({ frames := 0, cells := 0, slots := 0, locals := 0 } : Room) (PcS D (tyA cA) ([] : va_W) [.long p0]) (vp_Si (fun r => r = ρ)) 0 0 (fun _ => False) := by
  refine mkS (by decide +kernel) (Nat.le_of_ble_eq_true rfl) fun p e s m below meth c ls C hl hP hK => ?_
  obtain ⟨hx, hb, hml, hown, hT, hr, hlk⟩ := id C
  have hl : lv_has ls 4 [(0, .long p0)] := hl
  have B4 : ∀ (n4 : Nat), ∀ (x0 : Int64) (x2 : Int32) (x3 : Int32) (ls : Array Slot), lv_has ls 4 [(0, .long x0), (2, .int x2), (3, .int x3)] → f_X8_bits_b4 N n4 x0 x2 x3 = some ρ → W p l e ({ frames := 0, cells := 0, slots := 0, locals := 0 } : Room) s m ([.long p0] : List Value).toArray below meth c s.heap [] 0 0 (MQ below (vp_Si (fun r => r = ρ)) ([.long p0] : List Value).toArray s 0 0 (fun _ => False)) (F0 m 4 ls []) := by
    intro n4
    induction n4 with
    | zero =>
      intro x0 x2 x3 ls hl hf
      cases (show (none : Option (Int32)) = some ρ from hf)
    | succ n4 ih4 =>
      intro x0 x2 x3 ls hl hf
      refine lv_iload_n hx hb dX8_bits_4 rfl (lv_at hl 2 rfl) ?_
      refine lv_bipush (v := 40) hx hb dX8_bits_5 (by decide) ?_
      refine lv_icmp_ge (tgt := 25) hx hb dX8_bits_7 (by decide) (fun c_1 => ?_) (fun c_1 => ?_)
      · have hf := ite_t c_1 hf
        refine lv_iload_n hx hb dX8_bits_25 rfl (lv_at hl 1 rfl) ?_
        exact W.iret hx hb hr (fun t ht hW => ⟨_, rfl, some_i hf, ht⟩) (fun _ h => by cases h) dX8_bits_26 (hlocks := hlk)
      · have hf := ite_f c_1 hf
        refine lv_iload_n hx hb dX8_bits_10 rfl (lv_at hl 1 rfl) ?_
        refine lv_lload_n hx hb dX8_bits_11 rfl (lv_at hl 0 rfl) ?_
        refine lv_iload_n hx hb dX8_bits_12 rfl (lv_at hl 2 rfl) ?_
        refine lv_lshr (v := x0 >>> ((x3 : Int32).toInt64 &&& 63)) hx hb dX8_bits_13 rfl ?_
        refine lv_lconst (v := 1) hx hb dX8_bits_14 (by decide) ?_
        refine lv_land hx hb dX8_bits_15 ?_
        refine lv_l2i (v := (((x0 >>> ((x3 : Int32).toInt64 &&& 63)) &&& (1 : Int64)) : Int64).toInt32) hx hb dX8_bits_16 rfl ?_
        refine lv_iadd hx hb dX8_bits_17 ?_
        refine lv_topi (fun x2_2 ex2_2 => ?_)
        have hf := nm_t ex2_2 hf
        refine lv_istore_n (lv' := [(2, .int x2_2), (0, .long x0), (3, .int x3)]) hx hb dX8_bits_18 rfl hl (by decide) rfl (fun ls hl => ?_)
        refine lv_iinc (v := (x3 + 1)) (lv' := [(3, .int (x3 + 1)), (2, .int x2_2), (0, .long x0)]) hx hb dX8_bits_19 hl (k := 2) rfl rfl (by decide) rfl (fun ls hl => ?_)
        refine lv_goto (tgt := 4) hx hb dX8_bits_22 (by decide) ?_
        exact ih4 x0 x2_2 (x3 + 1) _ (lv_sub hl [2, 1, 0] rfl) hf
  refine lv_iconst (v := 0) hx hb dX8_bits_0 (by decide) ?_
  refine lv_istore_n (lv' := [(2, .int 0), (0, .long p0)]) hx hb dX8_bits_1 rfl hl (by decide) rfl (fun ls hl => ?_)
  refine lv_iconst (v := 0) hx hb dX8_bits_2 (by decide) ?_
  refine lv_istore_n (lv' := [(3, .int 0), (2, .int 0), (0, .long p0)]) hx hb dX8_bits_3 rfl hl (by decide) rfl (fun ls hl => ?_)
  exact B4 N p0 0 0 _ (lv_sub hl [2, 1, 0] rfl) hf
set_option maxRecDepth 100000 in
set_option maxHeartbeats 4000000 in
theorem c_X8_besides (l : Launch) (D : va_G) (cA : Nat → ClassId) (a_m : Nat → Nat) (m_s : Nat → Int32) (m_past : Nat → Int32) (m_pasts : Int32) (m_text : Nat → Int32) (m_typed : Int32) (m_faceOfSide : Nat → Int32) (m_firstSide : Nat → Int32) (m_faces : Int32) (m_before : Nat → Int32) (m_endA : Nat → Int32) (m_endB : Nat → Int32) (m_from : Nat → Int32) (m_queue : Nat → Int32) (m_ring : Nat → Int32) (m_ringSize : Nat → Int32) (m_ringNodes : Nat → Int32) (m_rings : Int32) (m_path : Nat → Int32) (m_pathSize : Int32) (m_old : Nat → Int32) (m_lastRing : Int32) (m_bestNodes : Int32) (m_bestInside : Int32) (m_bestFits : Int32) (m_far : Nat → Int32) (m_xs : Nat → UInt32) (m_ys : Nat → UInt32) (p1 : Int32) (N : Nat) (ρ : Int32) (hf : f_X8_besides N m_s m_faceOfSide p1 = some ρ) : Met l yX8_besides (Cond.code yX8_besides cX8_besides 5 (Option.some Jvm.ClassFile.FieldType.int) :: lw_g) ({ frames := 1, cells := 0, slots := 0, locals := 23 } : Room) (PcS D (tyA cA) (wX8 cA a_m m_s m_past m_pasts m_text m_typed m_faceOfSide m_firstSide m_faces m_before m_endA m_endB m_from m_queue m_ring m_ringSize m_ringNodes m_rings m_path m_pathSize m_old m_lastRing m_bestNodes m_bestInside m_bestFits m_far m_xs m_ys) [.ref (a_m 0), .int p1]) (vp_Si (fun r => r = ρ)) 0 0 (fun _ => False) := by
  refine mkS (by decide +kernel) (Nat.le_of_ble_eq_true rfl) fun p e s m below meth c ls C hl hP hK => ?_
  obtain ⟨hx, hb, hml, hown, hT, hr, hlk⟩ := id C
  have hl : lv_has ls 5 [(0, .ref (a_m 0)), (1, .int p1)] := hl
  have B53 : ∀ (x1 : Int32) (x2 : Int64) (ls : Array Slot), lv_has ls 5 [(1, .int x1), (2, .long x2)] → f_X8_besides_b53 N m_s m_faceOfSide x1 x2 = some ρ → W p l e ({ frames := 1, cells := 0, slots := 0, locals := 23 } : Room) s m ([.ref (a_m 0), .int p1] : List Value).toArray below meth c s.heap [] 0 0 (MQ below (vp_Si (fun r => r = ρ)) ([.ref (a_m 0), .int p1] : List Value).toArray s 0 0 (fun _ => False)) (F0 m 53 ls []) := by
    intro x1 x2 ls hl hf
    refine lv_lload_n hx hb dX8_besides_53 rfl (lv_at hl 1 rfl) ?_
    refine lv_lconst (v := 1) hx hb dX8_besides_54 (by decide) ?_
    refine lv_iload_n hx hb dX8_besides_55 rfl (lv_at hl 0 rfl) ?_
    refine lv_lshl (v := (1 : Int64) <<< ((x1 : Int32).toInt64 &&& 63)) hx hb dX8_besides_56 rfl ?_
    refine lv_ldc2 hx hb hown (hT _ ko_5_21) dX8_besides_57 ?_
    refine lv_lxor hx hb dX8_besides_60 ?_
    refine lv_land hx hb dX8_besides_61 ?_
    obtain ⟨r_8, hcr_8, hf⟩ := bd1_s hf
    refine backI (runS0 C (c_X8_bits l D cA (x2 &&& (((1 : Int64) <<< ((x1 : Int32).toInt64 &&& 63)) ^^^ (-1 : Int64))) N r_8 hcr_8) cf_X8_bits km_X8_136 ⟨rfl, rfl, by decide, by decide⟩ ⟨Nat.zero_le _, Nat.zero_le _⟩ (hP.sub [] rfl) hK hl.1 rfl rfl (Nat.le_of_ble_eq_true rfl) dX8_besides_62) ?_
    exact W.iret hx hb hr (fun t ht hW => ⟨_, rfl, some_i hf, ht⟩) (fun _ h => by cases h) dX8_besides_65 (hlocks := hlk)
  have B5 : ∀ (n5 : Nat), ∀ (x1 : Int32) (x2 : Int64) (x4 : Int32) (ls : Array Slot), lv_has ls 5 [(0, .ref (a_m 0)), (1, .int x1), (2, .long x2), (4, .int x4)] → f_X8_besides_b5 N m_s m_faceOfSide n5 x1 x2 x4 = some ρ → W p l e ({ frames := 1, cells := 0, slots := 0, locals := 23 } : Room) s m ([.ref (a_m 0), .int p1] : List Value).toArray below meth c s.heap [] 0 0 (MQ below (vp_Si (fun r => r = ρ)) ([.ref (a_m 0), .int p1] : List Value).toArray s 0 0 (fun _ => False)) (F0 m 5 ls []) := by
    intro n5
    induction n5 with
    | zero =>
      intro x1 x2 x4 ls hl hf
      cases (show (none : Option (Int32)) = some ρ from hf)
    | succ n5 ih5 =>
      have B45 : ∀ (x1 : Int32) (x4 : Int32) (y0 : Int64) (y1 : Int64) (ls : Array Slot), lv_has ls 5 [(0, .ref (a_m 0)), (1, .int x1), (4, .int x4)] → f_X8_besides_b45 N m_s m_faceOfSide (f_X8_besides_b5 N m_s m_faceOfSide n5) x1 x4 y0 y1 = some ρ → W p l e ({ frames := 1, cells := 0, slots := 0, locals := 23 } : Room) s m ([.ref (a_m 0), .int p1] : List Value).toArray below meth c s.heap [] 0 0 (MQ below (vp_Si (fun r => r = ρ)) ([.ref (a_m 0), .int p1] : List Value).toArray s 0 0 (fun _ => False)) (F0 m 45 ls [.long y1, .long y0]) := by
        intro x1 x4 y0 y1 ls hl hf
        refine lv_lor hx hb dX8_besides_45 ?_
        refine lv_topl (fun x2_7 ex2_7 => ?_)
        have hf := nm_t ex2_7 hf
        refine lv_lstore_n (lv' := [(2, .long x2_7), (0, .ref (a_m 0)), (1, .int x1), (4, .int x4)]) hx hb dX8_besides_46 rfl hl (by decide) rfl (fun ls hl => ?_)
        refine lv_iinc (v := (x4 + 1)) (lv' := [(4, .int (x4 + 1)), (2, .long x2_7), (0, .ref (a_m 0)), (1, .int x1)]) hx hb dX8_besides_47 hl (k := 3) rfl rfl (by decide) rfl (fun ls hl => ?_)
        refine lv_goto (tgt := 5) hx hb dX8_besides_50 (by decide) ?_
        exact ih5 x1 x2_7 (x4 + 1) _ (lv_sub hl [2, 3, 1, 0] rfl) hf
      intro x1 x2 x4 ls hl hf
      refine lv_iload hx hb dX8_besides_5 (lv_at hl 3 rfl) ?_
      refine lv_iconst (v := 2) hx hb dX8_besides_7 (by decide) ?_
      refine lv_aload_n hx hb dX8_besides_8 rfl (lv_at hl 0 rfl) ?_
      refine va_get (D := D) (ci := 8) (C := RX8) (T := TX8) (N := 27) hx hb hT kwX8 hown hK.1 hP 0 rfl rfl 0 (by decide) (hT _ kf_X8_7) (fun _ h9 => h9) rfl dX8_besides_9 ?_
      refine lv_iconst (v := 1) hx hb dX8_besides_12 (by decide) ?_
      obtain ⟨h_2, hf⟩ := chk_s hf
      refine va_iald hx hb hK.1 hP 1 0 rfl rfl (inb_in h_2) dX8_besides_13 ?_
      refine lv_imul hx hb dX8_besides_14 ?_
      refine lv_icmp_ge (tgt := 53) hx hb dX8_besides_15 (by decide) (fun c_3 => ?_) (fun c_3 => ?_)
      · have hf := ite_t c_3 hf
        exact B53 x1 x2 _ (lv_sub hl [1, 2] rfl) hf
      · have hf := ite_f c_3 hf
        refine lv_lload_n hx hb dX8_besides_18 rfl (lv_at hl 2 rfl) ?_
        refine lv_aload_n hx hb dX8_besides_19 rfl (lv_at hl 0 rfl) ?_
        refine va_get (D := D) (ci := 8) (C := RX8) (T := TX8) (N := 27) hx hb hT kwX8 hown hK.1 hP 0 rfl rfl 5 (by decide) (hT _ kf_X8_20) (fun _ h9 => h9) rfl dX8_besides_20 ?_
        refine lv_iload hx hb dX8_besides_23 (lv_at hl 3 rfl) ?_
        obtain ⟨h_4, hf⟩ := chk_s hf
        refine va_iald hx hb hK.1 hP 4 0 rfl rfl (inb_in h_4) dX8_besides_25 ?_
        refine lv_iload_n hx hb dX8_besides_26 rfl (lv_at hl 1 rfl) ?_
        refine lv_icmp_ne (tgt := 44) hx hb dX8_besides_27 (by decide) (fun c_5 => ?_) (fun c_5 => ?_)
        · have hf := ite_t c_5 hf
          refine lv_lconst (v := 0) hx hb dX8_besides_44 (by decide) ?_
          exact B45 x1 x4 x2 (0 : Int64) _ (lv_sub hl [0, 1, 3] rfl) hf
        · have hf := ite_fn c_5 hf
          refine lv_lconst (v := 1) hx hb dX8_besides_30 (by decide) ?_
          refine lv_aload_n hx hb dX8_besides_31 rfl (lv_at hl 0 rfl) ?_
          refine va_get (D := D) (ci := 8) (C := RX8) (T := TX8) (N := 27) hx hb hT kwX8 hown hK.1 hP 0 rfl rfl 5 (by decide) (hT _ kf_X8_20) (fun _ h9 => h9) rfl dX8_besides_32 ?_
          refine lv_iload hx hb dX8_besides_35 (lv_at hl 3 rfl) ?_
          refine lv_iconst (v := 1) hx hb dX8_besides_37 (by decide) ?_
          refine lv_ixor hx hb dX8_besides_38 ?_
          obtain ⟨h_6, hf⟩ := chk_s hf
          refine va_iald hx hb hK.1 hP 4 0 rfl rfl (inb_in h_6) dX8_besides_39 ?_
          refine lv_lshl (v := (1 : Int64) <<< (((m_faceOfSide (x4 ^^^ 1).toNatClampNeg) : Int32).toInt64 &&& 63)) hx hb dX8_besides_40 rfl ?_
          refine lv_goto (tgt := 45) hx hb dX8_besides_41 (by decide) ?_
          exact B45 x1 x4 x2 ((1 : Int64) <<< (((m_faceOfSide (x4 ^^^ 1).toNatClampNeg) : Int32).toInt64 &&& 63)) _ (lv_sub hl [0, 1, 3] rfl) hf
  refine lv_lconst (v := 0) hx hb dX8_besides_0 (by decide) ?_
  refine lv_topl (fun x2_1 ex2_1 => ?_)
  have hf := nm_t ex2_1 hf
  refine lv_lstore_n (lv' := [(2, .long x2_1), (0, .ref (a_m 0)), (1, .int p1)]) hx hb dX8_besides_1 rfl hl (by decide) rfl (fun ls hl => ?_)
  refine lv_iconst (v := 0) hx hb dX8_besides_2 (by decide) ?_
  refine lv_istore (lv' := [(4, .int 0), (2, .long x2_1), (0, .ref (a_m 0)), (1, .int p1)]) hx hb dX8_besides_3 hl (by decide) rfl (fun ls hl => ?_)
  exact B5 N p1 x2_1 0 _ (lv_sub hl [2, 3, 1, 0] rfl) hf
set_option maxRecDepth 100000 in
set_option maxHeartbeats 4000000 in
theorem c_X8_block (l : Launch) (D : va_G) (cA : Nat → ClassId) (a_m : Nat → Nat) (m_s : Nat → Int32) (m_past : Nat → Int32) (m_pasts : Int32) (m_text : Nat → Int32) (m_typed : Int32) (m_faceOfSide : Nat → Int32) (m_firstSide : Nat → Int32) (m_faces : Int32) (m_before : Nat → Int32) (m_endA : Nat → Int32) (m_endB : Nat → Int32) (m_from : Nat → Int32) (m_queue : Nat → Int32) (m_ring : Nat → Int32) (m_ringSize : Nat → Int32) (m_ringNodes : Nat → Int32) (m_rings : Int32) (m_path : Nat → Int32) (m_pathSize : Int32) (m_old : Nat → Int32) (m_lastRing : Int32) (m_bestNodes : Int32) (m_bestInside : Int32) (m_bestFits : Int32) (m_far : Nat → Int32) (m_xs : Nat → UInt32) (m_ys : Nat → UInt32) (p1 : Int32) (p2 : Int32) (N : Nat) (ρ : Int32) (hf : f_X8_block N m_endA m_endB p1 p2 = some ρ) : Met l yX8_block (Cond.code yX8_block cX8_block 8 (Option.some Jvm.ClassFile.FieldType.int) :: lw_g) ({ frames := 3, cells := 0, slots := 0, locals := 75 } : Room) (PcS D (tyA cA) (wX8 cA a_m m_s m_past m_pasts m_text m_typed m_faceOfSide m_firstSide m_faces m_before m_endA m_endB m_from m_queue m_ring m_ringSize m_ringNodes m_rings m_path m_pathSize m_old m_lastRing m_bestNodes m_bestInside m_bestFits m_far m_xs m_ys) [.ref (a_m 0), .int p1, .int p2]) (vp_Si (fun r => r = ρ)) 0 0 (fun _ => False) := by
  refine mkS (by decide +kernel) (Nat.le_of_ble_eq_true rfl) fun p e s m below meth c ls C hl hP hK => ?_
  obtain ⟨hx, hb, hml, hown, hT, hr, hlk⟩ := id C
  have hl : lv_has ls 8 [(0, .ref (a_m 0)), (1, .int p1), (2, .int p2)] := hl
  have B7 : ∀ (n7 : Nat), ∀ (x1 : Int32) (x3 : Int32) (x4 : Int32) (ls : Array Slot), lv_has ls 8 [(0, .ref (a_m 0)), (1, .int x1), (3, .int x3), (4, .int x4)] → f_X8_block_b7 N m_endA m_endB n7 x1 x3 x4 = some ρ → W p l e ({ frames := 3, cells := 0, slots := 0, locals := 75 } : Room) s m ([.ref (a_m 0), .int p1, .int p2] : List Value).toArray below meth c s.heap [] 0 0 (MQ below (vp_Si (fun r => r = ρ)) ([.ref (a_m 0), .int p1, .int p2] : List Value).toArray s 0 0 (fun _ => False)) (F0 m 7 ls []) := by
    intro n7
    induction n7 with
    | zero =>
      intro x1 x3 x4 ls hl hf
      cases (show (none : Option (Int32)) = some ρ from hf)
    | succ n7 ih7 =>
      have B108 : ∀ (x1 : Int32) (x3 : Int32) (y0 : Int32) (ls : Array Slot), lv_has ls 8 [(0, .ref (a_m 0)), (1, .int x1), (3, .int x3)] → f_X8_block_b108 N m_endA m_endB (f_X8_block_b7 N m_endA m_endB n7) x1 x3 y0 = some ρ → W p l e ({ frames := 3, cells := 0, slots := 0, locals := 75 } : Room) s m ([.ref (a_m 0), .int p1, .int p2] : List Value).toArray below meth c s.heap [] 0 0 (MQ below (vp_Si (fun r => r = ρ)) ([.ref (a_m 0), .int p1, .int p2] : List Value).toArray s 0 0 (fun _ => False)) (F0 m 108 ls [.int y0]) := by
        intro x1 x3 y0 ls hl hf
        refine lv_istore (lv' := [(4, .int y0), (0, .ref (a_m 0)), (1, .int x1), (3, .int x3)]) hx hb dX8_block_108 hl (by decide) rfl (fun ls hl => ?_)
        refine lv_goto (tgt := 7) hx hb dX8_block_110 (by decide) ?_
        exact ih7 x1 x3 y0 _ (lv_sub hl [1, 2, 3, 0] rfl) hf
      have B97 : ∀ (x1 : Int32) (x3 : Int32) (x5 : Int32) (ls : Array Slot), lv_has ls 8 [(0, .ref (a_m 0)), (1, .int x1), (3, .int x3), (5, .int x5)] → f_X8_block_b97 N m_endA m_endB (f_X8_block_b7 N m_endA m_endB n7) x1 x3 x5 = some ρ → W p l e ({ frames := 3, cells := 0, slots := 0, locals := 75 } : Room) s m ([.ref (a_m 0), .int p1, .int p2] : List Value).toArray below meth c s.heap [] 0 0 (MQ below (vp_Si (fun r => r = ρ)) ([.ref (a_m 0), .int p1, .int p2] : List Value).toArray s 0 0 (fun _ => False)) (F0 m 97 ls []) := by
        intro x1 x3 x5 ls hl hf
        refine lv_iload_n hx hb dX8_block_97 rfl (lv_at hl 2 rfl) ?_
        refine lv_iload hx hb dX8_block_98 (lv_at hl 3 rfl) ?_
        refine lv_icmp_eq (tgt := 107) hx hb dX8_block_100 (by decide) (fun c_14 => ?_) (fun c_14 => ?_)
        · have hf := ite_t c_14 hf
          refine lv_iconst (v := 0) hx hb dX8_block_107 (by decide) ?_
          exact B108 x1 x3 0 _ (lv_sub hl [0, 1, 2] rfl) hf
        · have hf := ite_f c_14 hf
          refine lv_iconst (v := 1) hx hb dX8_block_103 (by decide) ?_
          refine lv_goto (tgt := 108) hx hb dX8_block_104 (by decide) ?_
          exact B108 x1 x3 1 _ (lv_sub hl [0, 1, 2] rfl) hf
      have B18 : ∀ (n18 : Nat), ∀ (x1 : Int32) (x3 : Int32) (x5 : Int32) (x6 : Int32) (ls : Array Slot), lv_has ls 8 [(0, .ref (a_m 0)), (1, .int x1), (3, .int x3), (5, .int x5), (6, .int x6)] → f_X8_block_b18 N m_endA m_endB (f_X8_block_b7 N m_endA m_endB n7) n18 x1 x3 x5 x6 = some ρ → W p l e ({ frames := 3, cells := 0, slots := 0, locals := 75 } : Room) s m ([.ref (a_m 0), .int p1, .int p2] : List Value).toArray below meth c s.heap [] 0 0 (MQ below (vp_Si (fun r => r = ρ)) ([.ref (a_m 0), .int p1, .int p2] : List Value).toArray s 0 0 (fun _ => False)) (F0 m 18 ls []) := by
        intro n18
        induction n18 with
        | zero =>
          intro x1 x3 x5 x6 ls hl hf
          cases (show (none : Option (Int32)) = some ρ from hf)
        | succ n18 ih18 =>
          have B91 : ∀ (x1 : Int32) (x3 : Int32) (x5 : Int32) (x6 : Int32) (ls : Array Slot), lv_has ls 8 [(0, .ref (a_m 0)), (1, .int x1), (3, .int x3), (5, .int x5), (6, .int x6)] → f_X8_block_b91 N m_endA m_endB (f_X8_block_b7 N m_endA m_endB n7) (f_X8_block_b18 N m_endA m_endB (f_X8_block_b7 N m_endA m_endB n7) n18) x1 x3 x5 x6 = some ρ → W p l e ({ frames := 3, cells := 0, slots := 0, locals := 75 } : Room) s m ([.ref (a_m 0), .int p1, .int p2] : List Value).toArray below meth c s.heap [] 0 0 (MQ below (vp_Si (fun r => r = ρ)) ([.ref (a_m 0), .int p1, .int p2] : List Value).toArray s 0 0 (fun _ => False)) (F0 m 91 ls []) := by
            intro x1 x3 x5 x6 ls hl hf
            refine lv_iinc (v := (x6 + 1)) (lv' := [(6, .int (x6 + 1)), (0, .ref (a_m 0)), (1, .int x1), (3, .int x3), (5, .int x5)]) hx hb dX8_block_91 hl (k := 4) rfl rfl (by decide) rfl (fun ls hl => ?_)
            refine lv_goto (tgt := 18) hx hb dX8_block_94 (by decide) ?_
            exact ih18 x1 x3 x5 (x6 + 1) _ (lv_sub hl [1, 2, 3, 4, 0] rfl) hf
          have B28 : ∀ (n28 : Nat), ∀ (x1 : Int32) (x3 : Int32) (x5 : Int32) (x6 : Int32) (x7 : Int32) (ls : Array Slot), lv_has ls 8 [(0, .ref (a_m 0)), (1, .int x1), (3, .int x3), (5, .int x5), (6, .int x6), (7, .int x7)] → f_X8_block_b28 N m_endA m_endB (f_X8_block_b7 N m_endA m_endB n7) (f_X8_block_b18 N m_endA m_endB (f_X8_block_b7 N m_endA m_endB n7) n18) n28 x1 x3 x5 x6 x7 = some ρ → W p l e ({ frames := 3, cells := 0, slots := 0, locals := 75 } : Room) s m ([.ref (a_m 0), .int p1, .int p2] : List Value).toArray below meth c s.heap [] 0 0 (MQ below (vp_Si (fun r => r = ρ)) ([.ref (a_m 0), .int p1, .int p2] : List Value).toArray s 0 0 (fun _ => False)) (F0 m 28 ls []) := by
            intro n28
            induction n28 with
            | zero =>
              intro x1 x3 x5 x6 x7 ls hl hf
              cases (show (none : Option (Int32)) = some ρ from hf)
            | succ n28 ih28 =>
              have B83 : ∀ (x1 : Int32) (x5 : Int32) (x6 : Int32) (x7 : Int32) (y0 : Int32) (y1 : Int32) (ls : Array Slot), lv_has ls 8 [(0, .ref (a_m 0)), (1, .int x1), (5, .int x5), (6, .int x6), (7, .int x7)] → f_X8_block_b83 N m_endA m_endB (f_X8_block_b7 N m_endA m_endB n7) (f_X8_block_b18 N m_endA m_endB (f_X8_block_b7 N m_endA m_endB n7) n18) (f_X8_block_b28 N m_endA m_endB (f_X8_block_b7 N m_endA m_endB n7) (f_X8_block_b18 N m_endA m_endB (f_X8_block_b7 N m_endA m_endB n7) n18) n28) x1 x5 x6 x7 y0 y1 = some ρ → W p l e ({ frames := 3, cells := 0, slots := 0, locals := 75 } : Room) s m ([.ref (a_m 0), .int p1, .int p2] : List Value).toArray below meth c s.heap [] 0 0 (MQ below (vp_Si (fun r => r = ρ)) ([.ref (a_m 0), .int p1, .int p2] : List Value).toArray s 0 0 (fun _ => False)) (F0 m 83 ls [.int y1, .int y0]) := by
                intro x1 x5 x6 x7 y0 y1 ls hl hf
                refine lv_ior hx hb dX8_block_83 ?_
                refine lv_topi (fun x3_13 ex3_13 => ?_)
                have hf := nm_t ex3_13 hf
                refine lv_istore_n (lv' := [(3, .int x3_13), (0, .ref (a_m 0)), (1, .int x1), (5, .int x5), (6, .int x6), (7, .int x7)]) hx hb dX8_block_84 rfl hl (by decide) rfl (fun ls hl => ?_)
                refine lv_iinc (v := (x7 + 1)) (lv' := [(7, .int (x7 + 1)), (3, .int x3_13), (0, .ref (a_m 0)), (1, .int x1), (5, .int x5), (6, .int x6)]) hx hb dX8_block_85 hl (k := 5) rfl rfl (by decide) rfl (fun ls hl => ?_)
                refine lv_goto (tgt := 28) hx hb dX8_block_88 (by decide) ?_
                exact ih28 x1 x3_13 x5 x6 (x7 + 1) _ (lv_sub hl [2, 3, 1, 4, 5, 0] rfl) hf
              have B82 : ∀ (x1 : Int32) (x5 : Int32) (x6 : Int32) (x7 : Int32) (y0 : Int32) (ls : Array Slot), lv_has ls 8 [(0, .ref (a_m 0)), (1, .int x1), (5, .int x5), (6, .int x6), (7, .int x7)] → f_X8_block_b82 N m_endA m_endB (f_X8_block_b7 N m_endA m_endB n7) (f_X8_block_b18 N m_endA m_endB (f_X8_block_b7 N m_endA m_endB n7) n18) (f_X8_block_b28 N m_endA m_endB (f_X8_block_b7 N m_endA m_endB n7) (f_X8_block_b18 N m_endA m_endB (f_X8_block_b7 N m_endA m_endB n7) n18) n28) x1 x5 x6 x7 y0 = some ρ → W p l e ({ frames := 3, cells := 0, slots := 0, locals := 75 } : Room) s m ([.ref (a_m 0), .int p1, .int p2] : List Value).toArray below meth c s.heap [] 0 0 (MQ below (vp_Si (fun r => r = ρ)) ([.ref (a_m 0), .int p1, .int p2] : List Value).toArray s 0 0 (fun _ => False)) (F0 m 82 ls [.int y0]) := by
                intro x1 x5 x6 x7 y0 ls hl hf
                refine lv_iconst (v := 0) hx hb dX8_block_82 (by decide) ?_
                exact B83 x1 x5 x6 x7 y0 0 _ (lv_sub hl [0, 1, 2, 3, 4] rfl) hf
              intro x1 x3 x5 x6 x7 ls hl hf
              refine lv_iload hx hb dX8_block_28 (lv_at hl 5 rfl) ?_
              refine lv_bipush (v := 21) hx hb dX8_block_30 (by decide) ?_
              refine lv_icmp_ge (tgt := 91) hx hb dX8_block_32 (by decide) (fun c_4 => ?_) (fun c_4 => ?_)
              · have hf := ite_t c_4 hf
                exact B91 x1 x3 x5 x6 _ (lv_sub hl [0, 1, 2, 3, 4] rfl) hf
              · have hf := ite_f c_4 hf
                refine lv_iload_n hx hb dX8_block_35 rfl (lv_at hl 2 rfl) ?_
                refine lv_iload hx hb dX8_block_36 (lv_at hl 4 rfl) ?_
                obtain ⟨r_5, hcr_5, hf⟩ := bd1_s hf
                refine backI (runS0 C (c_X8_has l D cA x3 x6 N r_5 hcr_5) cf_X8_has km_X8_166 ⟨rfl, rfl, by decide, by decide⟩ ⟨Nat.zero_le _, Nat.zero_le _⟩ (hP.sub [] rfl) hK hl.1 rfl rfl (Nat.le_of_ble_eq_true rfl) dX8_block_38) ?_
                refine lv_if_eq (tgt := 91) hx hb dX8_block_41 (by decide) (fun c_6 => ?_) (fun c_6 => ?_)
                · have hf := ite_t c_6 hf
                  exact B91 x1 x3 x5 x6 _ (lv_sub hl [0, 1, 2, 3, 4] rfl) hf
                · have hf := ite_f c_6 hf
                  refine lv_iload_n hx hb dX8_block_44 rfl (lv_at hl 2 rfl) ?_
                  refine lv_iload_n hx hb dX8_block_45 rfl (lv_at hl 1 rfl) ?_
                  refine lv_iload hx hb dX8_block_46 (lv_at hl 5 rfl) ?_
                  obtain ⟨r_7, hcr_7, hf⟩ := bd1_s hf
                  refine backI (runS0 C (c_X8_has l D cA x1 x7 N r_7 hcr_7) cf_X8_has km_X8_166 ⟨rfl, rfl, by decide, by decide⟩ ⟨Nat.zero_le _, Nat.zero_le _⟩ (hP.sub [] rfl) hK hl.1 rfl rfl (Nat.le_of_ble_eq_true rfl) dX8_block_48) ?_
                  refine lv_if_eq (tgt := 82) hx hb dX8_block_51 (by decide) (fun c_8 => ?_) (fun c_8 => ?_)
                  · have hf := ite_t c_8 hf
                    exact B82 x1 x5 x6 x7 x3 _ (lv_sub hl [0, 1, 3, 4, 5] rfl) hf
                  · have hf := ite_f c_8 hf
                    refine lv_iload_n hx hb dX8_block_54 rfl (lv_at hl 2 rfl) ?_
                    refine lv_iload hx hb dX8_block_55 (lv_at hl 5 rfl) ?_
                    obtain ⟨r_9, hcr_9, hf⟩ := bd1_s hf
                    refine backI (runS0 C (c_X8_has l D cA x3 x7 N r_9 hcr_9) cf_X8_has km_X8_166 ⟨rfl, rfl, by decide, by decide⟩ ⟨Nat.zero_le _, Nat.zero_le _⟩ (hP.sub [] rfl) hK hl.1 rfl rfl (Nat.le_of_ble_eq_true rfl) dX8_block_57) ?_
                    refine lv_if_ne (tgt := 82) hx hb dX8_block_60 (by decide) (fun c_10 => ?_) (fun c_10 => ?_)
                    · have hf := ite_t c_10 hf
                      exact B82 x1 x5 x6 x7 x3 _ (lv_sub hl [0, 1, 3, 4, 5] rfl) hf
                    · have hf := ite_fn c_10 hf
                      refine lv_aload_n hx hb dX8_block_63 rfl (lv_at hl 0 rfl) ?_
                      refine lv_iload_n hx hb dX8_block_64 rfl (lv_at hl 1 rfl) ?_
                      refine lv_iload hx hb dX8_block_65 (lv_at hl 4 rfl) ?_
                      refine lv_iload hx hb dX8_block_67 (lv_at hl 5 rfl) ?_
                      obtain ⟨r_11, hcr_11, hf⟩ := bd1_s hf
                      refine backI (runV0 C (c_X8_areInOne l D cA a_m m_s m_past m_pasts m_text m_typed m_faceOfSide m_firstSide m_faces m_before m_endA m_endB m_from m_queue m_ring m_ringSize m_ringNodes m_rings m_path m_pathSize m_old m_lastRing m_bestNodes m_bestInside m_bestFits m_far m_xs m_ys x1 x6 x7 N r_11 hcr_11) cf_X8_areInOne km_X8_169 ⟨rfl, rfl, by decide, by decide⟩ ⟨Nat.zero_le _, Nat.zero_le _⟩ (va_recv hK.1 hP (ci := 8) (q0 := 0) rfl rfl) (hP.sub [0, 1, 2, 3, 4, 5, 6, 7, 8, 9, 10, 11, 12, 13, 14, 15, 16, 17, 18] rfl) hK hl.1 rfl rfl (Nat.le_of_ble_eq_true rfl) dX8_block_69) ?_
                      refine lv_if_eq (tgt := 82) hx hb dX8_block_72 (by decide) (fun c_12 => ?_) (fun c_12 => ?_)
                      · have hf := ite_t c_12 hf
                        exact B82 x1 x5 x6 x7 x3 _ (lv_sub hl [0, 1, 3, 4, 5] rfl) hf
                      · have hf := ite_f c_12 hf
                        refine lv_iconst (v := 1) hx hb dX8_block_75 (by decide) ?_
                        refine lv_iload hx hb dX8_block_76 (lv_at hl 5 rfl) ?_
                        refine lv_ishl hx hb dX8_block_78 ?_
                        refine lv_goto (tgt := 83) hx hb dX8_block_79 (by decide) ?_
                        exact B83 x1 x5 x6 x7 x3 ((1 : Int32) <<< (x7 &&& 31)) _ (lv_sub hl [0, 1, 3, 4, 5] rfl) hf
          intro x1 x3 x5 x6 ls hl hf
          refine lv_iload hx hb dX8_block_18 (lv_at hl 4 rfl) ?_
          refine lv_bipush (v := 21) hx hb dX8_block_20 (by decide) ?_
          refine lv_icmp_ge (tgt := 97) hx hb dX8_block_22 (by decide) (fun c_3 => ?_) (fun c_3 => ?_)
          · have hf := ite_t c_3 hf
            exact B97 x1 x3 x5 _ (lv_sub hl [0, 1, 2, 3] rfl) hf
          · have hf := ite_f c_3 hf
            refine lv_iconst (v := 0) hx hb dX8_block_25 (by decide) ?_
            refine lv_istore (lv' := [(7, .int 0), (0, .ref (a_m 0)), (1, .int x1), (3, .int x3), (5, .int x5), (6, .int x6)]) hx hb dX8_block_26 hl (by decide) rfl (fun ls hl => ?_)
            exact B28 N x1 x3 x5 x6 0 _ (lv_sub hl [1, 2, 3, 4, 5, 0] rfl) hf
      intro x1 x3 x4 ls hl hf
      refine lv_iload hx hb dX8_block_7 (lv_at hl 3 rfl) ?_
      refine lv_if_eq (tgt := 113) hx hb dX8_block_9 (by decide) (fun c_2 => ?_) (fun c_2 => ?_)
      · have hf := ite_t c_2 hf
        refine lv_iload_n hx hb dX8_block_113 rfl (lv_at hl 2 rfl) ?_
        exact W.iret hx hb hr (fun t ht hW => ⟨_, rfl, some_i hf, ht⟩) (fun _ h => by cases h) dX8_block_114 (hlocks := hlk)
      · have hf := ite_f c_2 hf
        refine lv_iload_n hx hb dX8_block_12 rfl (lv_at hl 2 rfl) ?_
        refine lv_istore (lv' := [(5, .int x3), (0, .ref (a_m 0)), (1, .int x1), (3, .int x3), (4, .int x4)]) hx hb dX8_block_13 hl (by decide) rfl (fun ls hl => ?_)
        refine lv_iconst (v := 0) hx hb dX8_block_15 (by decide) ?_
        refine lv_istore (lv' := [(6, .int 0), (5, .int x3), (0, .ref (a_m 0)), (1, .int x1), (3, .int x3), (4, .int x4)]) hx hb dX8_block_16 hl (by decide) rfl (fun ls hl => ?_)
        exact B18 N x1 x3 x3 0 _ (lv_sub hl [2, 3, 4, 1, 0] rfl) hf
  refine lv_iconst (v := 1) hx hb dX8_block_0 (by decide) ?_
  refine lv_iload_n hx hb dX8_block_1 rfl (lv_at hl 2 rfl) ?_
  refine lv_ishl hx hb dX8_block_2 ?_
  refine lv_topi (fun x3_1 ex3_1 => ?_)
  have hf := nm_t ex3_1 hf
  refine lv_istore_n (lv' := [(3, .int x3_1), (0, .ref (a_m 0)), (1, .int p1), (2, .int p2)]) hx hb dX8_block_3 rfl hl (by decide) rfl (fun ls hl => ?_)
  refine lv_iconst (v := 1) hx hb dX8_block_4 (by decide) ?_
  refine lv_istore (lv' := [(4, .int 1), (3, .int x3_1), (0, .ref (a_m 0)), (1, .int p1), (2, .int p2)]) hx hb dX8_block_5 hl (by decide) rfl (fun ls hl => ?_)
  exact B7 N p1 x3_1 1 _ (lv_sub hl [2, 3, 1, 0] rfl) hf
set_option maxRecDepth 100000 in
set_option maxHeartbeats 4000000 in
theorem c_X8_lowest (l : Launch) (D : va_G) (cA : Nat → ClassId) (p0 : Int32) (N : Nat) (ρ : Int32) (hf : f_X8_lowest N p0 = some ρ) : Met l yX8_lowest (Cond.code yX8_lowest cX8_lowest 2 (Option.some Jvm.ClassFile.FieldType.int) :: lw_g) ({ frames := 1, cells := 0, slots := 0, locals := 21 } : Room) (PcS D (tyA cA) ([] : va_W) [.int p0]) (vp_Si (fun r => r = ρ)) 0 0 (fun _ => False) := by
  refine mkS (by decide +kernel) (Nat.le_of_ble_eq_true rfl) fun p e s m below meth c ls C hl hP hK => ?_
  obtain ⟨hx, hb, hml, hown, hT, hr, hlk⟩ := id C
  have hl : lv_has ls 2 [(0, .int p0)] := hl
  have B2 : ∀ (n2 : Nat), ∀ (x0 : Int32) (x1 : Int32) (ls : Array Slot), lv_has ls 2 [(0, .int x0), (1, .int x1)] → f_X8_lowest_b2 N n2 x0 x1 = some ρ → W p l e ({ frames := 1, cells := 0, slots := 0, locals := 21 } : Room) s m ([.int p0] : List Value).toArray below meth c s.heap [] 0 0 (MQ below (vp_Si (fun r => r = ρ)) ([.int p0] : List Value).toArray s 0 0 (fun _ => False)) (F0 m 2 ls []) := by
    intro n2
    induction n2 with
    | zero =>
      intro x0 x1 ls hl hf
      cases (show (none : Option (Int32)) = some ρ from hf)
    | succ n2 ih2 =>
      intro x0 x1 ls hl hf
      refine lv_iload_n hx hb dX8_lowest_2 rfl (lv_at hl 0 rfl) ?_
      refine lv_iload_n hx hb dX8_lowest_3 rfl (lv_at hl 1 rfl) ?_
      obtain ⟨r_1, hcr_1, hf⟩ := bd1_s hf
      refine backI (runS0 C (c_X8_has l D cA x0 x1 N r_1 hcr_1) cf_X8_has km_X8_166 ⟨rfl, rfl, by decide, by decide⟩ ⟨Nat.zero_le _, Nat.zero_le _⟩ (hP.sub [] rfl) hK hl.1 rfl rfl (Nat.le_of_ble_eq_true rfl) dX8_lowest_4) ?_
      refine lv_if_ne (tgt := 16) hx hb dX8_lowest_7 (by decide) (fun c_2 => ?_) (fun c_2 => ?_)
      · have hf := ite_t c_2 hf
        refine lv_iload_n hx hb dX8_lowest_16 rfl (lv_at hl 1 rfl) ?_
        exact W.iret hx hb hr (fun t ht hW => ⟨_, rfl, some_i hf, ht⟩) (fun _ h => by cases h) dX8_lowest_17 (hlocks := hlk)
      · have hf := ite_fn c_2 hf
        refine lv_iinc (v := (x1 + 1)) (lv' := [(1, .int (x1 + 1)), (0, .int x0)]) hx hb dX8_lowest_10 hl (k := 1) rfl rfl (by decide) rfl (fun ls hl => ?_)
        refine lv_goto (tgt := 2) hx hb dX8_lowest_13 (by decide) ?_
        exact ih2 x0 (x1 + 1) _ (lv_sub hl [1, 0] rfl) hf
  refine lv_iconst (v := 0) hx hb dX8_lowest_0 (by decide) ?_
  refine lv_istore_n (lv' := [(1, .int 0), (0, .int p0)]) hx hb dX8_lowest_1 rfl hl (by decide) rfl (fun ls hl => ?_)
  exact B2 N p0 0 _ (lv_sub hl [1, 0] rfl) hf
set_option maxRecDepth 100000 in
set_option maxHeartbeats 4000000 in
theorem c_X8_finds (l : Launch) (D : va_G) (cA : Nat → ClassId) (a_m : Nat → Nat) (m_s : Nat → Int32) (m_past : Nat → Int32) (m_pasts : Int32) (m_text : Nat → Int32) (m_typed : Int32) (m_faceOfSide : Nat → Int32) (m_firstSide : Nat → Int32) (m_faces : Int32) (m_before : Nat → Int32) (m_endA : Nat → Int32) (m_endB : Nat → Int32) (m_from : Nat → Int32) (m_queue : Nat → Int32) (m_ring : Nat → Int32) (m_ringSize : Nat → Int32) (m_ringNodes : Nat → Int32) (m_rings : Int32) (m_path : Nat → Int32) (m_pathSize : Int32) (m_old : Nat → Int32) (m_lastRing : Int32) (m_bestNodes : Int32) (m_bestInside : Int32) (m_bestFits : Int32) (m_far : Nat → Int32) (m_xs : Nat → UInt32) (m_ys : Nat → UInt32) (p1 : Int32) (p2 : Int32) (p3 : Int32) (p4 : Int32) (sz N : Nat) (ρ : Int32 × (Nat → Int32) × (Nat → Int32)) (hf : f_X8_finds N m_endA m_endB m_from m_queue p1 p2 p3 p4 = some ρ) : Met l yX8_finds (Cond.code yX8_finds cX8_finds 11 (Option.some Jvm.ClassFile.FieldType.int) :: lw_g) ({ frames := 1, cells := 0, slots := 0, locals := 21 } : Room) (PcW D (tyA cA) (wX8 cA a_m m_s m_past m_pasts m_text m_typed m_faceOfSide m_firstSide m_faces m_before m_endA m_endB m_from m_queue m_ring m_ringSize m_ringNodes m_rings m_path m_pathSize m_old m_lastRing m_bestNodes m_bestInside m_bestFits m_far m_xs m_ys) sz [.ref (a_m 0), .int p1, .int p2, .int p3, .int p4]) (va_Qi (fun r (_ : Unit) => r = ρ.1) (fun _ t => va_P D vwCl (wX8 cA a_m m_s m_past m_pasts m_text m_typed m_faceOfSide m_firstSide m_faces m_before m_endA m_endB ρ.2.1 ρ.2.2 m_ring m_ringSize m_ringNodes m_rings m_path m_pathSize m_old m_lastRing m_bestNodes m_bestInside m_bestFits m_far m_xs m_ys) t.heap ∧ va_D (va_A (wX8 cA a_m m_s m_past m_pasts m_text m_typed m_faceOfSide m_firstSide m_faces m_before m_endA m_endB m_from m_queue m_ring m_ringSize m_ringNodes m_rings m_path m_pathSize m_old m_lastRing m_bestNodes m_bestInside m_bestFits m_far m_xs m_ys) sz) (wX8 cA a_m m_s m_past m_pasts m_text m_typed m_faceOfSide m_firstSide m_faces m_before m_endA m_endB ρ.2.1 ρ.2.2 m_ring m_ringSize m_ringNodes m_rings m_path m_pathSize m_old m_lastRing m_bestNodes m_bestInside m_bestFits m_far m_xs m_ys)) (va_A (wX8 cA a_m m_s m_past m_pasts m_text m_typed m_faceOfSide m_firstSide m_faces m_before m_endA m_endB m_from m_queue m_ring m_ringSize m_ringNodes m_rings m_path m_pathSize m_old m_lastRing m_bestNodes m_bestInside m_bestFits m_far m_xs m_ys) sz)) 0 0 (va_A (wX8 cA a_m m_s m_past m_pasts m_text m_typed m_faceOfSide m_firstSide m_faces m_before m_endA m_endB m_from m_queue m_ring m_ringSize m_ringNodes m_rings m_path m_pathSize m_old m_lastRing m_bestNodes m_bestInside m_bestFits m_far m_xs m_ys) sz) := by
  refine mkW (QQ := fun A => va_Qi (fun r (_ : Unit) => r = ρ.1) (fun _ t => va_P D vwCl (wX8 cA a_m m_s m_past m_pasts m_text m_typed m_faceOfSide m_firstSide m_faces m_before m_endA m_endB ρ.2.1 ρ.2.2 m_ring m_ringSize m_ringNodes m_rings m_path m_pathSize m_old m_lastRing m_bestNodes m_bestInside m_bestFits m_far m_xs m_ys) t.heap ∧ va_D A (wX8 cA a_m m_s m_past m_pasts m_text m_typed m_faceOfSide m_firstSide m_faces m_before m_endA m_endB ρ.2.1 ρ.2.2 m_ring m_ringSize m_ringNodes m_rings m_path m_pathSize m_old m_lastRing m_bestNodes m_bestInside m_bestFits m_far m_xs m_ys)) A) (by decide) (Nat.le_of_ble_eq_true rfl) fun p e s m below meth c ls A C hl hP hK hD hA hS => ?_
  obtain ⟨hx, hb, hml, hown, hT, hr, hlk⟩ := id C
  have hl : lv_has ls 11 [(0, .ref (a_m 0)), (1, .int p1), (2, .int p2), (3, .int p3), (4, .int p4)] := hl
  have B169 : ∀ (x7 : Int32) (x10 : Int32) (m_from : Nat → Int32) (m_queue : Nat → Int32) (H : Heap) (locs : List Loc) (ls : Array Slot), lv_has ls 11 [(0, .ref (a_m 0)), (7, .int x7), (10, .int x10)] → va_P D vwCl (wX8 cA a_m m_s m_past m_pasts m_text m_typed m_faceOfSide m_firstSide m_faces m_before m_endA m_endB m_from m_queue m_ring m_ringSize m_ringNodes m_rings m_path m_pathSize m_old m_lastRing m_bestNodes m_bestInside m_bestFits m_far m_xs m_ys) H → va_D A (wX8 cA a_m m_s m_past m_pasts m_text m_typed m_faceOfSide m_firstSide m_faces m_before m_endA m_endB m_from m_queue m_ring m_ringSize m_ringNodes m_rings m_path m_pathSize m_old m_lastRing m_bestNodes m_bestInside m_bestFits m_far m_xs m_ys) → va_S A s.heap H locs → f_X8_finds_b169 N m_endA m_endB x7 x10 m_from m_queue = some ρ → W p l e ({ frames := 1, cells := 0, slots := 0, locals := 21 } : Room) s m ([.ref (a_m 0), .int p1, .int p2, .int p3, .int p4] : List Value).toArray below meth c H locs 0 0 (MQ below (va_Qi (fun r (_ : Unit) => r = ρ.1) (fun _ t => va_P D vwCl (wX8 cA a_m m_s m_past m_pasts m_text m_typed m_faceOfSide m_firstSide m_faces m_before m_endA m_endB ρ.2.1 ρ.2.2 m_ring m_ringSize m_ringNodes m_rings m_path m_pathSize m_old m_lastRing m_bestNodes m_bestInside m_bestFits m_far m_xs m_ys) t.heap ∧ va_D A (wX8 cA a_m m_s m_past m_pasts m_text m_typed m_faceOfSide m_firstSide m_faces m_before m_endA m_endB ρ.2.1 ρ.2.2 m_ring m_ringSize m_ringNodes m_rings m_path m_pathSize m_old m_lastRing m_bestNodes m_bestInside m_bestFits m_far m_xs m_ys)) A) ([.ref (a_m 0), .int p1, .int p2, .int p3, .int p4] : List Value).toArray s 0 0 A) (F0 m 169 ls []) := by
    intro x7 x10 m_from m_queue H locs ls hl hP hD hS hf
    refine lv_aload_n hx hb dX8_finds_169 rfl (lv_at hl 0 rfl) ?_
    refine va_get (D := D) (ci := 8) (C := RX8) (T := TX8) (N := 27) hx hb hT kwX8 hown hK.1 hP 0 rfl rfl 11 (by decide) (hT _ kf_X8_35) (fun _ h9 => h9) rfl dX8_finds_170 ?_
    refine lv_iload hx hb dX8_finds_173 (lv_at hl 2 rfl) ?_
    refine lv_iload hx hb dX8_finds_175 (lv_at hl 1 rfl) ?_
    obtain ⟨h_24, hf⟩ := chk_s hf
    refine va_iast hx hb hK.1 hP hD hS 9 0 rfl rfl (inb_in h_24) dX8_finds_177 (fun H locs hP hD hS => ?_)
    have hP : va_P D vwCl (wX8 cA a_m m_s m_past m_pasts m_text m_typed m_faceOfSide m_firstSide m_faces m_before m_endA m_endB (upd m_from x10.toNatClampNeg x7) m_queue m_ring m_ringSize m_ringNodes m_rings m_path m_pathSize m_old m_lastRing m_bestNodes m_bestInside m_bestFits m_far m_xs m_ys) H := hP
    have hD : va_D A (wX8 cA a_m m_s m_past m_pasts m_text m_typed m_faceOfSide m_firstSide m_faces m_before m_endA m_endB (upd m_from x10.toNatClampNeg x7) m_queue m_ring m_ringSize m_ringNodes m_rings m_path m_pathSize m_old m_lastRing m_bestNodes m_bestInside m_bestFits m_far m_xs m_ys) := hD
    refine lv_iload hx hb dX8_finds_178 (lv_at hl 2 rfl) ?_
    have eR := some_i hf
    exact W.iret hx hb hr (fun t ht hW => ⟨⟨x10, (), rfl, fst_e eR, by rw [← eR, ht]; exact hP, by rw [← eR]; exact hD⟩, hS.F ht⟩) hS.2.2 dX8_finds_180 (hlocks := hlk)
  have B45 : ∀ (n45 : Nat), ∀ (x2 : Int32) (x3 : Int32) (x4 : Int32) (x5 : Int32) (x6 : Int32) (m_from : Nat → Int32) (m_queue : Nat → Int32) (H : Heap) (locs : List Loc) (ls : Array Slot), lv_has ls 11 [(0, .ref (a_m 0)), (2, .int x2), (3, .int x3), (4, .int x4), (5, .int x5), (6, .int x6)] → va_P D vwCl (wX8 cA a_m m_s m_past m_pasts m_text m_typed m_faceOfSide m_firstSide m_faces m_before m_endA m_endB m_from m_queue m_ring m_ringSize m_ringNodes m_rings m_path m_pathSize m_old m_lastRing m_bestNodes m_bestInside m_bestFits m_far m_xs m_ys) H → va_D A (wX8 cA a_m m_s m_past m_pasts m_text m_typed m_faceOfSide m_firstSide m_faces m_before m_endA m_endB m_from m_queue m_ring m_ringSize m_ringNodes m_rings m_path m_pathSize m_old m_lastRing m_bestNodes m_bestInside m_bestFits m_far m_xs m_ys) → va_S A s.heap H locs → f_X8_finds_b45 N m_endA m_endB n45 x2 x3 x4 x5 x6 m_from m_queue = some ρ → W p l e ({ frames := 1, cells := 0, slots := 0, locals := 21 } : Room) s m ([.ref (a_m 0), .int p1, .int p2, .int p3, .int p4] : List Value).toArray below meth c H locs 0 0 (MQ below (va_Qi (fun r (_ : Unit) => r = ρ.1) (fun _ t => va_P D vwCl (wX8 cA a_m m_s m_past m_pasts m_text m_typed m_faceOfSide m_firstSide m_faces m_before m_endA m_endB ρ.2.1 ρ.2.2 m_ring m_ringSize m_ringNodes m_rings m_path m_pathSize m_old m_lastRing m_bestNodes m_bestInside m_bestFits m_far m_xs m_ys) t.heap ∧ va_D A (wX8 cA a_m m_s m_past m_pasts m_text m_typed m_faceOfSide m_firstSide m_faces m_before m_endA m_endB ρ.2.1 ρ.2.2 m_ring m_ringSize m_ringNodes m_rings m_path m_pathSize m_old m_lastRing m_bestNodes m_bestInside m_bestFits m_far m_xs m_ys)) A) ([.ref (a_m 0), .int p1, .int p2, .int p3, .int p4] : List Value).toArray s 0 0 A) (F0 m 45 ls []) := by
    intro n45
    induction n45 with
    | zero =>
      intro x2 x3 x4 x5 x6 m_from m_queue H locs ls hl hP hD hS hf
      cases (show (none : Option (Int32 × (Nat → Int32) × (Nat → Int32))) = some ρ from hf)
    | succ n45 ih45 =>
      have B234 : ∀ (x2 : Int32) (x3 : Int32) (x4 : Int32) (x5 : Int32) (x6 : Int32) (m_from : Nat → Int32) (m_queue : Nat → Int32) (H : Heap) (locs : List Loc) (ls : Array Slot), lv_has ls 11 [(0, .ref (a_m 0)), (2, .int x2), (3, .int x3), (4, .int x4), (5, .int x5), (6, .int x6)] → va_P D vwCl (wX8 cA a_m m_s m_past m_pasts m_text m_typed m_faceOfSide m_firstSide m_faces m_before m_endA m_endB m_from m_queue m_ring m_ringSize m_ringNodes m_rings m_path m_pathSize m_old m_lastRing m_bestNodes m_bestInside m_bestFits m_far m_xs m_ys) H → va_D A (wX8 cA a_m m_s m_past m_pasts m_text m_typed m_faceOfSide m_firstSide m_faces m_before m_endA m_endB m_from m_queue m_ring m_ringSize m_ringNodes m_rings m_path m_pathSize m_old m_lastRing m_bestNodes m_bestInside m_bestFits m_far m_xs m_ys) → va_S A s.heap H locs → f_X8_finds_b234 N m_endA m_endB (f_X8_finds_b45 N m_endA m_endB n45) x2 x3 x4 x5 x6 m_from m_queue = some ρ → W p l e ({ frames := 1, cells := 0, slots := 0, locals := 21 } : Room) s m ([.ref (a_m 0), .int p1, .int p2, .int p3, .int p4] : List Value).toArray below meth c H locs 0 0 (MQ below (va_Qi (fun r (_ : Unit) => r = ρ.1) (fun _ t => va_P D vwCl (wX8 cA a_m m_s m_past m_pasts m_text m_typed m_faceOfSide m_firstSide m_faces m_before m_endA m_endB ρ.2.1 ρ.2.2 m_ring m_ringSize m_ringNodes m_rings m_path m_pathSize m_old m_lastRing m_bestNodes m_bestInside m_bestFits m_far m_xs m_ys) t.heap ∧ va_D A (wX8 cA a_m m_s m_past m_pasts m_text m_typed m_faceOfSide m_firstSide m_faces m_before m_endA m_endB ρ.2.1 ρ.2.2 m_ring m_ringSize m_ringNodes m_rings m_path m_pathSize m_old m_lastRing m_bestNodes m_bestInside m_bestFits m_far m_xs m_ys)) A) ([.ref (a_m 0), .int p1, .int p2, .int p3, .int p4] : List Value).toArray s 0 0 A) (F0 m 234 ls []) := by
        intro x2 x3 x4 x5 x6 m_from m_queue H locs ls hl hP hD hS hf
        refine lv_iinc (v := (x6 + 1)) (lv' := [(6, .int (x6 + 1)), (0, .ref (a_m 0)), (2, .int x2), (3, .int x3), (4, .int x4), (5, .int x5)]) hx hb dX8_finds_234 hl (k := 5) rfl rfl (by decide) rfl (fun ls hl => ?_)
        refine lv_goto (tgt := 45) hx hb dX8_finds_237 (by decide) ?_
        exact ih45 x2 x3 x4 x5 (x6 + 1) m_from m_queue _ _ _ (lv_sub hl [1, 2, 3, 4, 5, 0] rfl) hP hD hS hf
      have B64 : ∀ (n64 : Nat), ∀ (x2 : Int32) (x3 : Int32) (x4 : Int32) (x5 : Int32) (x6 : Int32) (x7 : Int32) (x8 : Int32) (m_from : Nat → Int32) (m_queue : Nat → Int32) (H : Heap) (locs : List Loc) (ls : Array Slot), lv_has ls 11 [(0, .ref (a_m 0)), (2, .int x2), (3, .int x3), (4, .int x4), (5, .int x5), (6, .int x6), (7, .int x7), (8, .int x8)] → va_P D vwCl (wX8 cA a_m m_s m_past m_pasts m_text m_typed m_faceOfSide m_firstSide m_faces m_before m_endA m_endB m_from m_queue m_ring m_ringSize m_ringNodes m_rings m_path m_pathSize m_old m_lastRing m_bestNodes m_bestInside m_bestFits m_far m_xs m_ys) H → va_D A (wX8 cA a_m m_s m_past m_pasts m_text m_typed m_faceOfSide m_firstSide m_faces m_before m_endA m_endB m_from m_queue m_ring m_ringSize m_ringNodes m_rings m_path m_pathSize m_old m_lastRing m_bestNodes m_bestInside m_bestFits m_far m_xs m_ys) → va_S A s.heap H locs → f_X8_finds_b64 N m_endA m_endB (f_X8_finds_b45 N m_endA m_endB n45) n64 x2 x3 x4 x5 x6 x7 x8 m_from m_queue = some ρ → W p l e ({ frames := 1, cells := 0, slots := 0, locals := 21 } : Room) s m ([.ref (a_m 0), .int p1, .int p2, .int p3, .int p4] : List Value).toArray below meth c H locs 0 0 (MQ below (va_Qi (fun r (_ : Unit) => r = ρ.1) (fun _ t => va_P D vwCl (wX8 cA a_m m_s m_past m_pasts m_text m_typed m_faceOfSide m_firstSide m_faces m_before m_endA m_endB ρ.2.1 ρ.2.2 m_ring m_ringSize m_ringNodes m_rings m_path m_pathSize m_old m_lastRing m_bestNodes m_bestInside m_bestFits m_far m_xs m_ys) t.heap ∧ va_D A (wX8 cA a_m m_s m_past m_pasts m_text m_typed m_faceOfSide m_firstSide m_faces m_before m_endA m_endB ρ.2.1 ρ.2.2 m_ring m_ringSize m_ringNodes m_rings m_path m_pathSize m_old m_lastRing m_bestNodes m_bestInside m_bestFits m_far m_xs m_ys)) A) ([.ref (a_m 0), .int p1, .int p2, .int p3, .int p4] : List Value).toArray s 0 0 A) (F0 m 64 ls []) := by
        intro n64
        induction n64 with
        | zero =>
          intro x2 x3 x4 x5 x6 x7 x8 m_from m_queue H locs ls hl hP hD hS hf
          cases (show (none : Option (Int32 × (Nat → Int32) × (Nat → Int32))) = some ρ from hf)
        | succ n64 ih64 =>
          have B228 : ∀ (x2 : Int32) (x3 : Int32) (x4 : Int32) (x5 : Int32) (x6 : Int32) (x7 : Int32) (x8 : Int32) (m_from : Nat → Int32) (m_queue : Nat → Int32) (H : Heap) (locs : List Loc) (ls : Array Slot), lv_has ls 11 [(0, .ref (a_m 0)), (2, .int x2), (3, .int x3), (4, .int x4), (5, .int x5), (6, .int x6), (7, .int x7), (8, .int x8)] → va_P D vwCl (wX8 cA a_m m_s m_past m_pasts m_text m_typed m_faceOfSide m_firstSide m_faces m_before m_endA m_endB m_from m_queue m_ring m_ringSize m_ringNodes m_rings m_path m_pathSize m_old m_lastRing m_bestNodes m_bestInside m_bestFits m_far m_xs m_ys) H → va_D A (wX8 cA a_m m_s m_past m_pasts m_text m_typed m_faceOfSide m_firstSide m_faces m_before m_endA m_endB m_from m_queue m_ring m_ringSize m_ringNodes m_rings m_path m_pathSize m_old m_lastRing m_bestNodes m_bestInside m_bestFits m_far m_xs m_ys) → va_S A s.heap H locs → f_X8_finds_b228 N m_endA m_endB (f_X8_finds_b45 N m_endA m_endB n45) (f_X8_finds_b64 N m_endA m_endB (f_X8_finds_b45 N m_endA m_endB n45) n64) x2 x3 x4 x5 x6 x7 x8 m_from m_queue = some ρ → W p l e ({ frames := 1, cells := 0, slots := 0, locals := 21 } : Room) s m ([.ref (a_m 0), .int p1, .int p2, .int p3, .int p4] : List Value).toArray below meth c H locs 0 0 (MQ below (va_Qi (fun r (_ : Unit) => r = ρ.1) (fun _ t => va_P D vwCl (wX8 cA a_m m_s m_past m_pasts m_text m_typed m_faceOfSide m_firstSide m_faces m_before m_endA m_endB ρ.2.1 ρ.2.2 m_ring m_ringSize m_ringNodes m_rings m_path m_pathSize m_old m_lastRing m_bestNodes m_bestInside m_bestFits m_far m_xs m_ys) t.heap ∧ va_D A (wX8 cA a_m m_s m_past m_pasts m_text m_typed m_faceOfSide m_firstSide m_faces m_before m_endA m_endB ρ.2.1 ρ.2.2 m_ring m_ringSize m_ringNodes m_rings m_path m_pathSize m_old m_lastRing m_bestNodes m_bestInside m_bestFits m_far m_xs m_ys)) A) ([.ref (a_m 0), .int p1, .int p2, .int p3, .int p4] : List Value).toArray s 0 0 A) (F0 m 228 ls []) := by
            intro x2 x3 x4 x5 x6 x7 x8 m_from m_queue H locs ls hl hP hD hS hf
            refine lv_iinc (v := (x8 + 1)) (lv' := [(8, .int (x8 + 1)), (0, .ref (a_m 0)), (2, .int x2), (3, .int x3), (4, .int x4), (5, .int x5), (6, .int x6), (7, .int x7)]) hx hb dX8_finds_228 hl (k := 7) rfl rfl (by decide) rfl (fun ls hl => ?_)
            refine lv_goto (tgt := 64) hx hb dX8_finds_231 (by decide) ?_
            exact ih64 x2 x3 x4 x5 x6 x7 (x8 + 1) m_from m_queue _ _ _ (lv_sub hl [1, 2, 3, 4, 5, 6, 7, 0] rfl) hP hD hS hf
          have B181 : ∀ (x2 : Int32) (x3 : Int32) (x4 : Int32) (x5 : Int32) (x6 : Int32) (x7 : Int32) (x8 : Int32) (x9 : Int32) (x10 : Int32) (m_from : Nat → Int32) (m_queue : Nat → Int32) (H : Heap) (locs : List Loc) (ls : Array Slot), lv_has ls 11 [(0, .ref (a_m 0)), (2, .int x2), (3, .int x3), (4, .int x4), (5, .int x5), (6, .int x6), (7, .int x7), (8, .int x8), (9, .int x9), (10, .int x10)] → va_P D vwCl (wX8 cA a_m m_s m_past m_pasts m_text m_typed m_faceOfSide m_firstSide m_faces m_before m_endA m_endB m_from m_queue m_ring m_ringSize m_ringNodes m_rings m_path m_pathSize m_old m_lastRing m_bestNodes m_bestInside m_bestFits m_far m_xs m_ys) H → va_D A (wX8 cA a_m m_s m_past m_pasts m_text m_typed m_faceOfSide m_firstSide m_faces m_before m_endA m_endB m_from m_queue m_ring m_ringSize m_ringNodes m_rings m_path m_pathSize m_old m_lastRing m_bestNodes m_bestInside m_bestFits m_far m_xs m_ys) → va_S A s.heap H locs → f_X8_finds_b181 N m_endA m_endB (f_X8_finds_b45 N m_endA m_endB n45) (f_X8_finds_b64 N m_endA m_endB (f_X8_finds_b45 N m_endA m_endB n45) n64) x2 x3 x4 x5 x6 x7 x8 x9 x10 m_from m_queue = some ρ → W p l e ({ frames := 1, cells := 0, slots := 0, locals := 21 } : Room) s m ([.ref (a_m 0), .int p1, .int p2, .int p3, .int p4] : List Value).toArray below meth c H locs 0 0 (MQ below (va_Qi (fun r (_ : Unit) => r = ρ.1) (fun _ t => va_P D vwCl (wX8 cA a_m m_s m_past m_pasts m_text m_typed m_faceOfSide m_firstSide m_faces m_before m_endA m_endB ρ.2.1 ρ.2.2 m_ring m_ringSize m_ringNodes m_rings m_path m_pathSize m_old m_lastRing m_bestNodes m_bestInside m_bestFits m_far m_xs m_ys) t.heap ∧ va_D A (wX8 cA a_m m_s m_past m_pasts m_text m_typed m_faceOfSide m_firstSide m_faces m_before m_endA m_endB ρ.2.1 ρ.2.2 m_ring m_ringSize m_ringNodes m_rings m_path m_pathSize m_old m_lastRing m_bestNodes m_bestInside m_bestFits m_far m_xs m_ys)) A) ([.ref (a_m 0), .int p1, .int p2, .int p3, .int p4] : List Value).toArray s 0 0 A) (F0 m 181 ls []) := by
            intro x2 x3 x4 x5 x6 x7 x8 x9 x10 m_from m_queue H locs ls hl hP hD hS hf
            refine lv_iload hx hb dX8_finds_181 (lv_at hl 8 rfl) ?_
            refine lv_if_eq (tgt := 228) hx hb dX8_finds_183 (by decide) (fun c_25 => ?_) (fun c_25 => ?_)
            · have hf := ite_t c_25 hf
              exact B228 x2 x3 x4 x5 x6 x7 x8 m_from m_queue _ _ _ (lv_sub hl [0, 1, 2, 3, 4, 5, 6, 7] rfl) hP hD hS hf
            · have hf := ite_f c_25 hf
              refine lv_aload_n hx hb dX8_finds_186 rfl (lv_at hl 0 rfl) ?_
              refine va_get (D := D) (ci := 8) (C := RX8) (T := TX8) (N := 27) hx hb hT kwX8 hown hK.1 hP 0 rfl rfl 11 (by decide) (hT _ kf_X8_35) (fun _ h9 => h9) rfl dX8_finds_187 ?_
              refine lv_iload hx hb dX8_finds_190 (lv_at hl 9 rfl) ?_
              obtain ⟨h_26, hf⟩ := chk_s hf
              refine va_iald hx hb hK.1 hP 9 0 rfl rfl (inb_in h_26) dX8_finds_192 ?_
              refine lv_bipush (v := (-9)) hx hb dX8_finds_193 (by decide) ?_
              refine lv_icmp_ne (tgt := 228) hx hb dX8_finds_195 (by decide) (fun c_27 => ?_) (fun c_27 => ?_)
              · have hf := ite_t c_27 hf
                exact B228 x2 x3 x4 x5 x6 x7 x8 m_from m_queue _ _ _ (lv_sub hl [0, 1, 2, 3, 4, 5, 6, 7] rfl) hP hD hS hf
              · have hf := ite_fn c_27 hf
                refine lv_iload_n hx hb dX8_finds_198 rfl (lv_at hl 2 rfl) ?_
                refine lv_iload hx hb dX8_finds_199 (lv_at hl 9 rfl) ?_
                obtain ⟨r_28, hcr_28, hf⟩ := bd1_s hf
                refine backI (runS0 C (c_X8_has l D cA x3 x10 N r_28 hcr_28) cf_X8_has km_X8_166 ⟨rfl, rfl, by decide, by decide⟩ ⟨Nat.zero_le _, Nat.zero_le _⟩ (hP.sub [] rfl) hK hl.1 rfl rfl (Nat.le_of_ble_eq_true rfl) dX8_finds_201) ?_
                refine lv_if_eq (tgt := 228) hx hb dX8_finds_204 (by decide) (fun c_29 => ?_) (fun c_29 => ?_)
                · have hf := ite_t c_29 hf
                  exact B228 x2 x3 x4 x5 x6 x7 x8 m_from m_queue _ _ _ (lv_sub hl [0, 1, 2, 3, 4, 5, 6, 7] rfl) hP hD hS hf
                · have hf := ite_f c_29 hf
                  refine lv_aload_n hx hb dX8_finds_207 rfl (lv_at hl 0 rfl) ?_
                  refine va_get (D := D) (ci := 8) (C := RX8) (T := TX8) (N := 27) hx hb hT kwX8 hown hK.1 hP 0 rfl rfl 11 (by decide) (hT _ kf_X8_35) (fun _ h9 => h9) rfl dX8_finds_208 ?_
                  refine lv_iload hx hb dX8_finds_211 (lv_at hl 9 rfl) ?_
                  refine lv_iload hx hb dX8_finds_213 (lv_at hl 6 rfl) ?_
                  obtain ⟨h_30, hf⟩ := chk_s hf
                  refine va_iast hx hb hK.1 hP hD hS 9 0 rfl rfl (inb_in h_30) dX8_finds_215 (fun H locs hP hD hS => ?_)
                  have hP : va_P D vwCl (wX8 cA a_m m_s m_past m_pasts m_text m_typed m_faceOfSide m_firstSide m_faces m_before m_endA m_endB (upd m_from x10.toNatClampNeg x7) m_queue m_ring m_ringSize m_ringNodes m_rings m_path m_pathSize m_old m_lastRing m_bestNodes m_bestInside m_bestFits m_far m_xs m_ys) H := hP
                  have hD : va_D A (wX8 cA a_m m_s m_past m_pasts m_text m_typed m_faceOfSide m_firstSide m_faces m_before m_endA m_endB (upd m_from x10.toNatClampNeg x7) m_queue m_ring m_ringSize m_ringNodes m_rings m_path m_pathSize m_old m_lastRing m_bestNodes m_bestInside m_bestFits m_far m_xs m_ys) := hD
                  refine lv_aload_n hx hb dX8_finds_216 rfl (lv_at hl 0 rfl) ?_
                  refine va_get (D := D) (ci := 8) (C := RX8) (T := TX8) (N := 27) hx hb hT kwX8 hown hK.1 hP 0 rfl rfl 12 (by decide) (hT _ kf_X8_38) (fun _ h9 => h9) rfl dX8_finds_217 ?_
                  refine lv_iload hx hb dX8_finds_220 (lv_at hl 4 rfl) ?_
                  refine lv_iload hx hb dX8_finds_222 (lv_at hl 9 rfl) ?_
                  obtain ⟨h_31, hf⟩ := chk_s hf
                  refine va_iast hx hb hK.1 hP hD hS 10 0 rfl rfl (inb_in h_31) dX8_finds_224 (fun H locs hP hD hS => ?_)
                  have hP : va_P D vwCl (wX8 cA a_m m_s m_past m_pasts m_text m_typed m_faceOfSide m_firstSide m_faces m_before m_endA m_endB (upd m_from x10.toNatClampNeg x7) (upd m_queue x5.toNatClampNeg x10) m_ring m_ringSize m_ringNodes m_rings m_path m_pathSize m_old m_lastRing m_bestNodes m_bestInside m_bestFits m_far m_xs m_ys) H := hP
                  have hD : va_D A (wX8 cA a_m m_s m_past m_pasts m_text m_typed m_faceOfSide m_firstSide m_faces m_before m_endA m_endB (upd m_from x10.toNatClampNeg x7) (upd m_queue x5.toNatClampNeg x10) m_ring m_ringSize m_ringNodes m_rings m_path m_pathSize m_old m_lastRing m_bestNodes m_bestInside m_bestFits m_far m_xs m_ys) := hD
                  refine lv_iinc (v := (x5 + 1)) (lv' := [(5, .int (x5 + 1)), (0, .ref (a_m 0)), (2, .int x2), (3, .int x3), (4, .int x4), (6, .int x6), (7, .int x7), (8, .int x8), (9, .int x9), (10, .int x10)]) hx hb dX8_finds_225 hl (k := 4) rfl rfl (by decide) rfl (fun ls hl => ?_)
                  exact B228 x2 x3 x4 (x5 + 1) x6 x7 x8 (upd m_from x10.toNatClampNeg x7) (upd m_queue x5.toNatClampNeg x10) _ _ _ (lv_sub hl [1, 2, 3, 4, 0, 5, 6, 7] rfl) hP hD hS hf
          have B140 : ∀ (x2 : Int32) (x3 : Int32) (x4 : Int32) (x5 : Int32) (x6 : Int32) (x7 : Int32) (x8 : Int32) (x9 : Int32) (y0 : Int32) (m_from : Nat → Int32) (m_queue : Nat → Int32) (H : Heap) (locs : List Loc) (ls : Array Slot), lv_has ls 11 [(0, .ref (a_m 0)), (2, .int x2), (3, .int x3), (4, .int x4), (5, .int x5), (6, .int x6), (7, .int x7), (8, .int x8), (9, .int x9)] → va_P D vwCl (wX8 cA a_m m_s m_past m_pasts m_text m_typed m_faceOfSide m_firstSide m_faces m_before m_endA m_endB m_from m_queue m_ring m_ringSize m_ringNodes m_rings m_path m_pathSize m_old m_lastRing m_bestNodes m_bestInside m_bestFits m_far m_xs m_ys) H → va_D A (wX8 cA a_m m_s m_past m_pasts m_text m_typed m_faceOfSide m_firstSide m_faces m_before m_endA m_endB m_from m_queue m_ring m_ringSize m_ringNodes m_rings m_path m_pathSize m_old m_lastRing m_bestNodes m_bestInside m_bestFits m_far m_xs m_ys) → va_S A s.heap H locs → f_X8_finds_b140 N m_endA m_endB (f_X8_finds_b45 N m_endA m_endB n45) (f_X8_finds_b64 N m_endA m_endB (f_X8_finds_b45 N m_endA m_endB n45) n64) x2 x3 x4 x5 x6 x7 x8 x9 y0 m_from m_queue = some ρ → W p l e ({ frames := 1, cells := 0, slots := 0, locals := 21 } : Room) s m ([.ref (a_m 0), .int p1, .int p2, .int p3, .int p4] : List Value).toArray below meth c H locs 0 0 (MQ below (va_Qi (fun r (_ : Unit) => r = ρ.1) (fun _ t => va_P D vwCl (wX8 cA a_m m_s m_past m_pasts m_text m_typed m_faceOfSide m_firstSide m_faces m_before m_endA m_endB ρ.2.1 ρ.2.2 m_ring m_ringSize m_ringNodes m_rings m_path m_pathSize m_old m_lastRing m_bestNodes m_bestInside m_bestFits m_far m_xs m_ys) t.heap ∧ va_D A (wX8 cA a_m m_s m_past m_pasts m_text m_typed m_faceOfSide m_firstSide m_faces m_before m_endA m_endB ρ.2.1 ρ.2.2 m_ring m_ringSize m_ringNodes m_rings m_path m_pathSize m_old m_lastRing m_bestNodes m_bestInside m_bestFits m_far m_xs m_ys)) A) ([.ref (a_m 0), .int p1, .int p2, .int p3, .int p4] : List Value).toArray s 0 0 A) (F0 m 140 ls [.int y0]) := by
            intro x2 x3 x4 x5 x6 x7 x8 x9 y0 m_from m_queue H locs ls hl hP hD hS hf
            refine lv_istore (lv' := [(10, .int y0), (0, .ref (a_m 0)), (2, .int x2), (3, .int x3), (4, .int x4), (5, .int x5), (6, .int x6), (7, .int x7), (8, .int x8), (9, .int x9)]) hx hb dX8_finds_140 hl (by decide) rfl (fun ls hl => ?_)
            refine lv_iload hx hb dX8_finds_142 (lv_at hl 9 rfl) ?_
            refine lv_if_eq (tgt := 181) hx hb dX8_finds_144 (by decide) (fun c_19 => ?_) (fun c_19 => ?_)
            · have hf := ite_t c_19 hf
              exact B181 x2 x3 x4 x5 x6 x7 x8 x9 y0 m_from m_queue _ _ _ (lv_sub hl [1, 2, 3, 4, 5, 6, 7, 8, 9, 0] rfl) hP hD hS hf
            · have hf := ite_f c_19 hf
              refine lv_aload_n hx hb dX8_finds_147 rfl (lv_at hl 1 rfl) ?_
              refine va_get (D := D) (ci := 8) (C := RX8) (T := TX8) (N := 27) hx hb hT kwX8 hown hK.1 hP 0 rfl rfl 11 (by decide) (hT _ kf_X8_35) (fun _ h9 => h9) rfl dX8_finds_148 ?_
              refine lv_iload hx hb dX8_finds_151 (lv_at hl 0 rfl) ?_
              obtain ⟨h_20, hf⟩ := chk_s hf
              refine va_iald hx hb hK.1 hP 9 0 rfl rfl (inb_in h_20) dX8_finds_153 ?_
              refine lv_bipush (v := (-9)) hx hb dX8_finds_154 (by decide) ?_
              refine lv_icmp_ne (tgt := 181) hx hb dX8_finds_156 (by decide) (fun c_21 => ?_) (fun c_21 => ?_)
              · have hf := ite_t c_21 hf
                exact B181 x2 x3 x4 x5 x6 x7 x8 x9 y0 m_from m_queue _ _ _ (lv_sub hl [1, 2, 3, 4, 5, 6, 7, 8, 9, 0] rfl) hP hD hS hf
              · have hf := ite_fn c_21 hf
                refine lv_iload hx hb dX8_finds_159 (lv_at hl 4 rfl) ?_
                refine lv_iload hx hb dX8_finds_161 (lv_at hl 0 rfl) ?_
                obtain ⟨r_22, hcr_22, hf⟩ := bd1_s hf
                refine backI (runS0 C (c_X8_has l D cA x4 y0 N r_22 hcr_22) cf_X8_has km_X8_166 ⟨rfl, rfl, by decide, by decide⟩ ⟨Nat.zero_le _, Nat.zero_le _⟩ (hP.sub [] rfl) hK hl.1 rfl rfl (Nat.le_of_ble_eq_true rfl) dX8_finds_163) ?_
                refine lv_if_eq (tgt := 181) hx hb dX8_finds_166 (by decide) (fun c_23 => ?_) (fun c_23 => ?_)
                · have hf := ite_t c_23 hf
                  exact B181 x2 x3 x4 x5 x6 x7 x8 x9 y0 m_from m_queue _ _ _ (lv_sub hl [1, 2, 3, 4, 5, 6, 7, 8, 9, 0] rfl) hP hD hS hf
                · have hf := ite_f c_23 hf
                  exact B169 x7 y0 m_from m_queue _ _ _ (lv_sub hl [1, 7, 0] rfl) hP hD hS hf
          have B109 : ∀ (x2 : Int32) (x3 : Int32) (x4 : Int32) (x5 : Int32) (x6 : Int32) (x7 : Int32) (x8 : Int32) (y0 : Int32) (m_from : Nat → Int32) (m_queue : Nat → Int32) (H : Heap) (locs : List Loc) (ls : Array Slot), lv_has ls 11 [(0, .ref (a_m 0)), (2, .int x2), (3, .int x3), (4, .int x4), (5, .int x5), (6, .int x6), (7, .int x7), (8, .int x8)] → va_P D vwCl (wX8 cA a_m m_s m_past m_pasts m_text m_typed m_faceOfSide m_firstSide m_faces m_before m_endA m_endB m_from m_queue m_ring m_ringSize m_ringNodes m_rings m_path m_pathSize m_old m_lastRing m_bestNodes m_bestInside m_bestFits m_far m_xs m_ys) H → va_D A (wX8 cA a_m m_s m_past m_pasts m_text m_typed m_faceOfSide m_firstSide m_faces m_before m_endA m_endB m_from m_queue m_ring m_ringSize m_ringNodes m_rings m_path m_pathSize m_old m_lastRing m_bestNodes m_bestInside m_bestFits m_far m_xs m_ys) → va_S A s.heap H locs → f_X8_finds_b109 N m_endA m_endB (f_X8_finds_b45 N m_endA m_endB n45) (f_X8_finds_b64 N m_endA m_endB (f_X8_finds_b45 N m_endA m_endB n45) n64) x2 x3 x4 x5 x6 x7 x8 y0 m_from m_queue = some ρ → W p l e ({ frames := 1, cells := 0, slots := 0, locals := 21 } : Room) s m ([.ref (a_m 0), .int p1, .int p2, .int p3, .int p4] : List Value).toArray below meth c H locs 0 0 (MQ below (va_Qi (fun r (_ : Unit) => r = ρ.1) (fun _ t => va_P D vwCl (wX8 cA a_m m_s m_past m_pasts m_text m_typed m_faceOfSide m_firstSide m_faces m_before m_endA m_endB ρ.2.1 ρ.2.2 m_ring m_ringSize m_ringNodes m_rings m_path m_pathSize m_old m_lastRing m_bestNodes m_bestInside m_bestFits m_far m_xs m_ys) t.heap ∧ va_D A (wX8 cA a_m m_s m_past m_pasts m_text m_typed m_faceOfSide m_firstSide m_faces m_before m_endA m_endB ρ.2.1 ρ.2.2 m_ring m_ringSize m_ringNodes m_rings m_path m_pathSize m_old m_lastRing m_bestNodes m_bestInside m_bestFits m_far m_xs m_ys)) A) ([.ref (a_m 0), .int p1, .int p2, .int p3, .int p4] : List Value).toArray s 0 0 A) (F0 m 109 ls [.int y0]) := by
            intro x2 x3 x4 x5 x6 x7 x8 y0 m_from m_queue H locs ls hl hP hD hS hf
            refine lv_istore (lv' := [(9, .int y0), (0, .ref (a_m 0)), (2, .int x2), (3, .int x3), (4, .int x4), (5, .int x5), (6, .int x6), (7, .int x7), (8, .int x8)]) hx hb dX8_finds_109 hl (by decide) rfl (fun ls hl => ?_)
            refine lv_aload_n hx hb dX8_finds_111 rfl (lv_at hl 1 rfl) ?_
            refine va_get (D := D) (ci := 8) (C := RX8) (T := TX8) (N := 27) hx hb hT kwX8 hown hK.1 hP 0 rfl rfl 9 (by decide) (hT _ kf_X8_29) (fun _ h9 => h9) rfl dX8_finds_112 ?_
            refine lv_iload hx hb dX8_finds_115 (lv_at hl 8 rfl) ?_
            obtain ⟨h_15, hf⟩ := chk_s hf
            refine va_iald hx hb hK.1 hP 7 0 rfl rfl (inb_in h_15) dX8_finds_117 ?_
            refine lv_iload hx hb dX8_finds_118 (lv_at hl 7 rfl) ?_
            refine lv_icmp_ne (tgt := 133) hx hb dX8_finds_120 (by decide) (fun c_16 => ?_) (fun c_16 => ?_)
            · have hf := ite_t c_16 hf
              refine lv_aload_n hx hb dX8_finds_133 rfl (lv_at hl 1 rfl) ?_
              refine va_get (D := D) (ci := 8) (C := RX8) (T := TX8) (N := 27) hx hb hT kwX8 hown hK.1 hP 0 rfl rfl 9 (by decide) (hT _ kf_X8_29) (fun _ h9 => h9) rfl dX8_finds_134 ?_
              refine lv_iload hx hb dX8_finds_137 (lv_at hl 8 rfl) ?_
              obtain ⟨h_17, hf⟩ := chk_s hf
              refine va_iald hx hb hK.1 hP 7 0 rfl rfl (inb_in h_17) dX8_finds_139 ?_
              exact B140 x2 x3 x4 x5 x6 x7 x8 y0 (m_endA x8.toNatClampNeg) m_from m_queue _ _ _ (lv_sub hl [1, 2, 3, 4, 5, 6, 7, 8, 0] rfl) hP hD hS hf
            · have hf := ite_fn c_16 hf
              refine lv_aload_n hx hb dX8_finds_123 rfl (lv_at hl 1 rfl) ?_
              refine va_get (D := D) (ci := 8) (C := RX8) (T := TX8) (N := 27) hx hb hT kwX8 hown hK.1 hP 0 rfl rfl 10 (by decide) (hT _ kf_X8_32) (fun _ h9 => h9) rfl dX8_finds_124 ?_
              refine lv_iload hx hb dX8_finds_127 (lv_at hl 8 rfl) ?_
              obtain ⟨h_18, hf⟩ := chk_s hf
              refine va_iald hx hb hK.1 hP 8 0 rfl rfl (inb_in h_18) dX8_finds_129 ?_
              refine lv_goto (tgt := 140) hx hb dX8_finds_130 (by decide) ?_
              exact B140 x2 x3 x4 x5 x6 x7 x8 y0 (m_endB x8.toNatClampNeg) m_from m_queue _ _ _ (lv_sub hl [1, 2, 3, 4, 5, 6, 7, 8, 0] rfl) hP hD hS hf
          have B108 : ∀ (x2 : Int32) (x3 : Int32) (x4 : Int32) (x5 : Int32) (x6 : Int32) (x7 : Int32) (x8 : Int32) (m_from : Nat → Int32) (m_queue : Nat → Int32) (H : Heap) (locs : List Loc) (ls : Array Slot), lv_has ls 11 [(0, .ref (a_m 0)), (2, .int x2), (3, .int x3), (4, .int x4), (5, .int x5), (6, .int x6), (7, .int x7), (8, .int x8)] → va_P D vwCl (wX8 cA a_m m_s m_past m_pasts m_text m_typed m_faceOfSide m_firstSide m_faces m_before m_endA m_endB m_from m_queue m_ring m_ringSize m_ringNodes m_rings m_path m_pathSize m_old m_lastRing m_bestNodes m_bestInside m_bestFits m_far m_xs m_ys) H → va_D A (wX8 cA a_m m_s m_past m_pasts m_text m_typed m_faceOfSide m_firstSide m_faces m_before m_endA m_endB m_from m_queue m_ring m_ringSize m_ringNodes m_rings m_path m_pathSize m_old m_lastRing m_bestNodes m_bestInside m_bestFits m_far m_xs m_ys) → va_S A s.heap H locs → f_X8_finds_b108 N m_endA m_endB (f_X8_finds_b45 N m_endA m_endB n45) (f_X8_finds_b64 N m_endA m_endB (f_X8_finds_b45 N m_endA m_endB n45) n64) x2 x3 x4 x5 x6 x7 x8 m_from m_queue = some ρ → W p l e ({ frames := 1, cells := 0, slots := 0, locals := 21 } : Room) s m ([.ref (a_m 0), .int p1, .int p2, .int p3, .int p4] : List Value).toArray below meth c H locs 0 0 (MQ below (va_Qi (fun r (_ : Unit) => r = ρ.1) (fun _ t => va_P D vwCl (wX8 cA a_m m_s m_past m_pasts m_text m_typed m_faceOfSide m_firstSide m_faces m_before m_endA m_endB ρ.2.1 ρ.2.2 m_ring m_ringSize m_ringNodes m_rings m_path m_pathSize m_old m_lastRing m_bestNodes m_bestInside m_bestFits m_far m_xs m_ys) t.heap ∧ va_D A (wX8 cA a_m m_s m_past m_pasts m_text m_typed m_faceOfSide m_firstSide m_faces m_before m_endA m_endB ρ.2.1 ρ.2.2 m_ring m_ringSize m_ringNodes m_rings m_path m_pathSize m_old m_lastRing m_bestNodes m_bestInside m_bestFits m_far m_xs m_ys)) A) ([.ref (a_m 0), .int p1, .int p2, .int p3, .int p4] : List Value).toArray s 0 0 A) (F0 m 108 ls []) := by
            intro x2 x3 x4 x5 x6 x7 x8 m_from m_queue H locs ls hl hP hD hS hf
            refine lv_iconst (v := 0) hx hb dX8_finds_108 (by decide) ?_
            exact B109 x2 x3 x4 x5 x6 x7 x8 0 m_from m_queue _ _ _ (lv_sub hl [0, 1, 2, 3, 4, 5, 6, 7] rfl) hP hD hS hf
          have B104 : ∀ (x2 : Int32) (x3 : Int32) (x4 : Int32) (x5 : Int32) (x6 : Int32) (x7 : Int32) (x8 : Int32) (m_from : Nat → Int32) (m_queue : Nat → Int32) (H : Heap) (locs : List Loc) (ls : Array Slot), lv_has ls 11 [(0, .ref (a_m 0)), (2, .int x2), (3, .int x3), (4, .int x4), (5, .int x5), (6, .int x6), (7, .int x7), (8, .int x8)] → va_P D vwCl (wX8 cA a_m m_s m_past m_pasts m_text m_typed m_faceOfSide m_firstSide m_faces m_before m_endA m_endB m_from m_queue m_ring m_ringSize m_ringNodes m_rings m_path m_pathSize m_old m_lastRing m_bestNodes m_bestInside m_bestFits m_far m_xs m_ys) H → va_D A (wX8 cA a_m m_s m_past m_pasts m_text m_typed m_faceOfSide m_firstSide m_faces m_before m_endA m_endB m_from m_queue m_ring m_ringSize m_ringNodes m_rings m_path m_pathSize m_old m_lastRing m_bestNodes m_bestInside m_bestFits m_far m_xs m_ys) → va_S A s.heap H locs → f_X8_finds_b104 N m_endA m_endB (f_X8_finds_b45 N m_endA m_endB n45) (f_X8_finds_b64 N m_endA m_endB (f_X8_finds_b45 N m_endA m_endB n45) n64) x2 x3 x4 x5 x6 x7 x8 m_from m_queue = some ρ → W p l e ({ frames := 1, cells := 0, slots := 0, locals := 21 } : Room) s m ([.ref (a_m 0), .int p1, .int p2, .int p3, .int p4] : List Value).toArray below meth c H locs 0 0 (MQ below (va_Qi (fun r (_ : Unit) => r = ρ.1) (fun _ t => va_P D vwCl (wX8 cA a_m m_s m_past m_pasts m_text m_typed m_faceOfSide m_firstSide m_faces m_before m_endA m_endB ρ.2.1 ρ.2.2 m_ring m_ringSize m_ringNodes m_rings m_path m_pathSize m_old m_lastRing m_bestNodes m_bestInside m_bestFits m_far m_xs m_ys) t.heap ∧ va_D A (wX8 cA a_m m_s m_past m_pasts m_text m_typed m_faceOfSide m_firstSide m_faces m_before m_endA m_endB ρ.2.1 ρ.2.2 m_ring m_ringSize m_ringNodes m_rings m_path m_pathSize m_old m_lastRing m_bestNodes m_bestInside m_bestFits m_far m_xs m_ys)) A) ([.ref (a_m 0), .int p1, .int p2, .int p3, .int p4] : List Value).toArray s 0 0 A) (F0 m 104 ls []) := by
            intro x2 x3 x4 x5 x6 x7 x8 m_from m_queue H locs ls hl hP hD hS hf
            refine lv_iconst (v := 1) hx hb dX8_finds_104 (by decide) ?_
            refine lv_goto (tgt := 109) hx hb dX8_finds_105 (by decide) ?_
            exact B109 x2 x3 x4 x5 x6 x7 x8 1 m_from m_queue _ _ _ (lv_sub hl [0, 1, 2, 3, 4, 5, 6, 7] rfl) hP hD hS hf
          intro x2 x3 x4 x5 x6 x7 x8 m_from m_queue H locs ls hl hP hD hS hf
          refine lv_iload hx hb dX8_finds_64 (lv_at hl 7 rfl) ?_
          refine lv_bipush (v := 21) hx hb dX8_finds_66 (by decide) ?_
          refine lv_icmp_ge (tgt := 234) hx hb dX8_finds_68 (by decide) (fun c_8 => ?_) (fun c_8 => ?_)
          · have hf := ite_t c_8 hf
            exact B234 x2 x3 x4 x5 x6 m_from m_queue _ _ _ (lv_sub hl [0, 1, 2, 3, 4, 5] rfl) hP hD hS hf
          · have hf := ite_f c_8 hf
            refine lv_iload_n hx hb dX8_finds_71 rfl (lv_at hl 1 rfl) ?_
            refine lv_iload hx hb dX8_finds_72 (lv_at hl 7 rfl) ?_
            obtain ⟨r_9, hcr_9, hf⟩ := bd1_s hf
            refine backI (runS0 C (c_X8_has l D cA x2 x8 N r_9 hcr_9) cf_X8_has km_X8_166 ⟨rfl, rfl, by decide, by decide⟩ ⟨Nat.zero_le _, Nat.zero_le _⟩ (hP.sub [] rfl) hK hl.1 rfl rfl (Nat.le_of_ble_eq_true rfl) dX8_finds_74) ?_
            refine lv_if_eq (tgt := 108) hx hb dX8_finds_77 (by decide) (fun c_10 => ?_) (fun c_10 => ?_)
            · have hf := ite_t c_10 hf
              exact B108 x2 x3 x4 x5 x6 x7 x8 m_from m_queue _ _ _ (lv_sub hl [0, 1, 2, 3, 4, 5, 6, 7] rfl) hP hD hS hf
            · have hf := ite_f c_10 hf
              refine lv_aload_n hx hb dX8_finds_80 rfl (lv_at hl 0 rfl) ?_
              refine va_get (D := D) (ci := 8) (C := RX8) (T := TX8) (N := 27) hx hb hT kwX8 hown hK.1 hP 0 rfl rfl 9 (by decide) (hT _ kf_X8_29) (fun _ h9 => h9) rfl dX8_finds_81 ?_
              refine lv_iload hx hb dX8_finds_84 (lv_at hl 7 rfl) ?_
              obtain ⟨h_11, hf⟩ := chk_s hf
              refine va_iald hx hb hK.1 hP 7 0 rfl rfl (inb_in h_11) dX8_finds_86 ?_
              refine lv_iload hx hb dX8_finds_87 (lv_at hl 6 rfl) ?_
              refine lv_icmp_eq (tgt := 104) hx hb dX8_finds_89 (by decide) (fun c_12 => ?_) (fun c_12 => ?_)
              · have hf := ite_t c_12 hf
                exact B104 x2 x3 x4 x5 x6 x7 x8 m_from m_queue _ _ _ (lv_sub hl [0, 1, 2, 3, 4, 5, 6, 7] rfl) hP hD hS hf
              · have hf := ite_f c_12 hf
                refine lv_aload_n hx hb dX8_finds_92 rfl (lv_at hl 0 rfl) ?_
                refine va_get (D := D) (ci := 8) (C := RX8) (T := TX8) (N := 27) hx hb hT kwX8 hown hK.1 hP 0 rfl rfl 10 (by decide) (hT _ kf_X8_32) (fun _ h9 => h9) rfl dX8_finds_93 ?_
                refine lv_iload hx hb dX8_finds_96 (lv_at hl 7 rfl) ?_
                obtain ⟨h_13, hf⟩ := chk_s hf
                refine va_iald hx hb hK.1 hP 8 0 rfl rfl (inb_in h_13) dX8_finds_98 ?_
                refine lv_iload hx hb dX8_finds_99 (lv_at hl 6 rfl) ?_
                refine lv_icmp_ne (tgt := 108) hx hb dX8_finds_101 (by decide) (fun c_14 => ?_) (fun c_14 => ?_)
                · have hf := ite_t c_14 hf
                  exact B108 x2 x3 x4 x5 x6 x7 x8 m_from m_queue _ _ _ (lv_sub hl [0, 1, 2, 3, 4, 5, 6, 7] rfl) hP hD hS hf
                · have hf := ite_fn c_14 hf
                  exact B104 x2 x3 x4 x5 x6 x7 x8 m_from m_queue _ _ _ (lv_sub hl [0, 1, 2, 3, 4, 5, 6, 7] rfl) hP hD hS hf
      intro x2 x3 x4 x5 x6 m_from m_queue H locs ls hl hP hD hS hf
      refine lv_iload hx hb dX8_finds_45 (lv_at hl 5 rfl) ?_
      refine lv_iload hx hb dX8_finds_47 (lv_at hl 4 rfl) ?_
      refine lv_icmp_ge (tgt := 240) hx hb dX8_finds_49 (by decide) (fun c_5 => ?_) (fun c_5 => ?_)
      · have hf := ite_t c_5 hf
        refine lv_bipush (v := (-9)) hx hb dX8_finds_240 (by decide) ?_
        have eR := some_i hf
        exact W.iret hx hb hr (fun t ht hW => ⟨⟨(-9), (), rfl, fst_e eR, by rw [← eR, ht]; exact hP, by rw [← eR]; exact hD⟩, hS.F ht⟩) hS.2.2 dX8_finds_242 (hlocks := hlk)
      · have hf := ite_f c_5 hf
        refine lv_aload_n hx hb dX8_finds_52 rfl (lv_at hl 0 rfl) ?_
        refine va_get (D := D) (ci := 8) (C := RX8) (T := TX8) (N := 27) hx hb hT kwX8 hown hK.1 hP 0 rfl rfl 12 (by decide) (hT _ kf_X8_38) (fun _ h9 => h9) rfl dX8_finds_53 ?_
        refine lv_iload hx hb dX8_finds_56 (lv_at hl 5 rfl) ?_
        obtain ⟨h_6, hf⟩ := chk_s hf
        refine va_iald hx hb hK.1 hP 10 0 rfl rfl (inb_in h_6) dX8_finds_58 ?_
        refine lv_topi (fun x7_7 ex7_7 => ?_)
        have hf := nm_t ex7_7 hf
        refine lv_istore (lv' := [(7, .int x7_7), (0, .ref (a_m 0)), (2, .int x2), (3, .int x3), (4, .int x4), (5, .int x5), (6, .int x6)]) hx hb dX8_finds_59 hl (by decide) rfl (fun ls hl => ?_)
        refine lv_iconst (v := 0) hx hb dX8_finds_61 (by decide) ?_
        refine lv_istore (lv' := [(8, .int 0), (7, .int x7_7), (0, .ref (a_m 0)), (2, .int x2), (3, .int x3), (4, .int x4), (5, .int x5), (6, .int x6)]) hx hb dX8_finds_62 hl (by decide) rfl (fun ls hl => ?_)
        exact B64 N x2 x3 x4 x5 x6 x7_7 0 m_from m_queue _ _ _ (lv_sub hl [2, 3, 4, 5, 6, 7, 1, 0] rfl) hP hD hS hf
  have B25 : ∀ (x1 : Int32) (x2 : Int32) (x3 : Int32) (x4 : Int32) (m_from : Nat → Int32) (m_queue : Nat → Int32) (H : Heap) (locs : List Loc) (ls : Array Slot), lv_has ls 11 [(0, .ref (a_m 0)), (1, .int x1), (2, .int x2), (3, .int x3), (4, .int x4)] → va_P D vwCl (wX8 cA a_m m_s m_past m_pasts m_text m_typed m_faceOfSide m_firstSide m_faces m_before m_endA m_endB m_from m_queue m_ring m_ringSize m_ringNodes m_rings m_path m_pathSize m_old m_lastRing m_bestNodes m_bestInside m_bestFits m_far m_xs m_ys) H → va_D A (wX8 cA a_m m_s m_past m_pasts m_text m_typed m_faceOfSide m_firstSide m_faces m_before m_endA m_endB m_from m_queue m_ring m_ringSize m_ringNodes m_rings m_path m_pathSize m_old m_lastRing m_bestNodes m_bestInside m_bestFits m_far m_xs m_ys) → va_S A s.heap H locs → f_X8_finds_b25 N m_endA m_endB x1 x2 x3 x4 m_from m_queue = some ρ → W p l e ({ frames := 1, cells := 0, slots := 0, locals := 21 } : Room) s m ([.ref (a_m 0), .int p1, .int p2, .int p3, .int p4] : List Value).toArray below meth c H locs 0 0 (MQ below (va_Qi (fun r (_ : Unit) => r = ρ.1) (fun _ t => va_P D vwCl (wX8 cA a_m m_s m_past m_pasts m_text m_typed m_faceOfSide m_firstSide m_faces m_before m_endA m_endB ρ.2.1 ρ.2.2 m_ring m_ringSize m_ringNodes m_rings m_path m_pathSize m_old m_lastRing m_bestNodes m_bestInside m_bestFits m_far m_xs m_ys) t.heap ∧ va_D A (wX8 cA a_m m_s m_past m_pasts m_text m_typed m_faceOfSide m_firstSide m_faces m_before m_endA m_endB ρ.2.1 ρ.2.2 m_ring m_ringSize m_ringNodes m_rings m_path m_pathSize m_old m_lastRing m_bestNodes m_bestInside m_bestFits m_far m_xs m_ys)) A) ([.ref (a_m 0), .int p1, .int p2, .int p3, .int p4] : List Value).toArray s 0 0 A) (F0 m 25 ls []) := by
    intro x1 x2 x3 x4 m_from m_queue H locs ls hl hP hD hS hf
    refine lv_aload_n hx hb dX8_finds_25 rfl (lv_at hl 0 rfl) ?_
    refine va_get (D := D) (ci := 8) (C := RX8) (T := TX8) (N := 27) hx hb hT kwX8 hown hK.1 hP 0 rfl rfl 11 (by decide) (hT _ kf_X8_35) (fun _ h9 => h9) rfl dX8_finds_26 ?_
    refine lv_iload_n hx hb dX8_finds_29 rfl (lv_at hl 1 rfl) ?_
    refine lv_iload_n hx hb dX8_finds_30 rfl (lv_at hl 1 rfl) ?_
    obtain ⟨h_3, hf⟩ := chk_s hf
    refine va_iast hx hb hK.1 hP hD hS 9 0 rfl rfl (inb_in h_3) dX8_finds_31 (fun H locs hP hD hS => ?_)
    have hP : va_P D vwCl (wX8 cA a_m m_s m_past m_pasts m_text m_typed m_faceOfSide m_firstSide m_faces m_before m_endA m_endB (upd m_from x1.toNatClampNeg x1) m_queue m_ring m_ringSize m_ringNodes m_rings m_path m_pathSize m_old m_lastRing m_bestNodes m_bestInside m_bestFits m_far m_xs m_ys) H := hP
    have hD : va_D A (wX8 cA a_m m_s m_past m_pasts m_text m_typed m_faceOfSide m_firstSide m_faces m_before m_endA m_endB (upd m_from x1.toNatClampNeg x1) m_queue m_ring m_ringSize m_ringNodes m_rings m_path m_pathSize m_old m_lastRing m_bestNodes m_bestInside m_bestFits m_far m_xs m_ys) := hD
    refine lv_aload_n hx hb dX8_finds_32 rfl (lv_at hl 0 rfl) ?_
    refine va_get (D := D) (ci := 8) (C := RX8) (T := TX8) (N := 27) hx hb hT kwX8 hown hK.1 hP 0 rfl rfl 12 (by decide) (hT _ kf_X8_38) (fun _ h9 => h9) rfl dX8_finds_33 ?_
    refine lv_iconst (v := 0) hx hb dX8_finds_36 (by decide) ?_
    refine lv_iload_n hx hb dX8_finds_37 rfl (lv_at hl 1 rfl) ?_
    obtain ⟨h_4, hf⟩ := chk_s hf
    refine va_iast hx hb hK.1 hP hD hS 10 0 rfl rfl (inb_in h_4) dX8_finds_38 (fun H locs hP hD hS => ?_)
    have hP : va_P D vwCl (wX8 cA a_m m_s m_past m_pasts m_text m_typed m_faceOfSide m_firstSide m_faces m_before m_endA m_endB (upd m_from x1.toNatClampNeg x1) (upd m_queue (0 : Int32).toNatClampNeg x1) m_ring m_ringSize m_ringNodes m_rings m_path m_pathSize m_old m_lastRing m_bestNodes m_bestInside m_bestFits m_far m_xs m_ys) H := hP
    have hD : va_D A (wX8 cA a_m m_s m_past m_pasts m_text m_typed m_faceOfSide m_firstSide m_faces m_before m_endA m_endB (upd m_from x1.toNatClampNeg x1) (upd m_queue (0 : Int32).toNatClampNeg x1) m_ring m_ringSize m_ringNodes m_rings m_path m_pathSize m_old m_lastRing m_bestNodes m_bestInside m_bestFits m_far m_xs m_ys) := hD
    refine lv_iconst (v := 1) hx hb dX8_finds_39 (by decide) ?_
    refine lv_istore (lv' := [(5, .int 1), (0, .ref (a_m 0)), (1, .int x1), (2, .int x2), (3, .int x3), (4, .int x4)]) hx hb dX8_finds_40 hl (by decide) rfl (fun ls hl => ?_)
    refine lv_iconst (v := 0) hx hb dX8_finds_42 (by decide) ?_
    refine lv_istore (lv' := [(6, .int 0), (5, .int 1), (0, .ref (a_m 0)), (1, .int x1), (2, .int x2), (3, .int x3), (4, .int x4)]) hx hb dX8_finds_43 hl (by decide) rfl (fun ls hl => ?_)
    exact B45 N x2 x3 x4 1 0 (upd m_from x1.toNatClampNeg x1) (upd m_queue (0 : Int32).toNatClampNeg x1) _ _ _ (lv_sub hl [2, 4, 5, 6, 1, 0] rfl) hP hD hS hf
  have B3 : ∀ (n3 : Nat), ∀ (x1 : Int32) (x2 : Int32) (x3 : Int32) (x4 : Int32) (x5 : Int32) (m_from : Nat → Int32) (m_queue : Nat → Int32) (H : Heap) (locs : List Loc) (ls : Array Slot), lv_has ls 11 [(0, .ref (a_m 0)), (1, .int x1), (2, .int x2), (3, .int x3), (4, .int x4), (5, .int x5)] → va_P D vwCl (wX8 cA a_m m_s m_past m_pasts m_text m_typed m_faceOfSide m_firstSide m_faces m_before m_endA m_endB m_from m_queue m_ring m_ringSize m_ringNodes m_rings m_path m_pathSize m_old m_lastRing m_bestNodes m_bestInside m_bestFits m_far m_xs m_ys) H → va_D A (wX8 cA a_m m_s m_past m_pasts m_text m_typed m_faceOfSide m_firstSide m_faces m_before m_endA m_endB m_from m_queue m_ring m_ringSize m_ringNodes m_rings m_path m_pathSize m_old m_lastRing m_bestNodes m_bestInside m_bestFits m_far m_xs m_ys) → va_S A s.heap H locs → f_X8_finds_b3 N m_endA m_endB n3 x1 x2 x3 x4 x5 m_from m_queue = some ρ → W p l e ({ frames := 1, cells := 0, slots := 0, locals := 21 } : Room) s m ([.ref (a_m 0), .int p1, .int p2, .int p3, .int p4] : List Value).toArray below meth c H locs 0 0 (MQ below (va_Qi (fun r (_ : Unit) => r = ρ.1) (fun _ t => va_P D vwCl (wX8 cA a_m m_s m_past m_pasts m_text m_typed m_faceOfSide m_firstSide m_faces m_before m_endA m_endB ρ.2.1 ρ.2.2 m_ring m_ringSize m_ringNodes m_rings m_path m_pathSize m_old m_lastRing m_bestNodes m_bestInside m_bestFits m_far m_xs m_ys) t.heap ∧ va_D A (wX8 cA a_m m_s m_past m_pasts m_text m_typed m_faceOfSide m_firstSide m_faces m_before m_endA m_endB ρ.2.1 ρ.2.2 m_ring m_ringSize m_ringNodes m_rings m_path m_pathSize m_old m_lastRing m_bestNodes m_bestInside m_bestFits m_far m_xs m_ys)) A) ([.ref (a_m 0), .int p1, .int p2, .int p3, .int p4] : List Value).toArray s 0 0 A) (F0 m 3 ls []) := by
    intro n3
    induction n3 with
    | zero =>
      intro x1 x2 x3 x4 x5 m_from m_queue H locs ls hl hP hD hS hf
      cases (show (none : Option (Int32 × (Nat → Int32) × (Nat → Int32))) = some ρ from hf)
    | succ n3 ih3 =>
      intro x1 x2 x3 x4 x5 m_from m_queue H locs ls hl hP hD hS hf
      refine lv_iload hx hb dX8_finds_3 (lv_at hl 5 rfl) ?_
      refine lv_bipush (v := 9) hx hb dX8_finds_5 (by decide) ?_
      refine lv_icmp_ge (tgt := 25) hx hb dX8_finds_7 (by decide) (fun c_1 => ?_) (fun c_1 => ?_)
      · have hf := ite_t c_1 hf
        exact B25 x1 x2 x3 x4 m_from m_queue _ _ _ (lv_sub hl [0, 1, 2, 3, 4] rfl) hP hD hS hf
      · have hf := ite_f c_1 hf
        refine lv_aload_n hx hb dX8_finds_10 rfl (lv_at hl 0 rfl) ?_
        refine va_get (D := D) (ci := 8) (C := RX8) (T := TX8) (N := 27) hx hb hT kwX8 hown hK.1 hP 0 rfl rfl 11 (by decide) (hT _ kf_X8_35) (fun _ h9 => h9) rfl dX8_finds_11 ?_
        refine lv_iload hx hb dX8_finds_14 (lv_at hl 5 rfl) ?_
        refine lv_bipush (v := (-9)) hx hb dX8_finds_16 (by decide) ?_
        obtain ⟨h_2, hf⟩ := chk_s hf
        refine va_iast hx hb hK.1 hP hD hS 9 0 rfl rfl (inb_in h_2) dX8_finds_18 (fun H locs hP hD hS => ?_)
        have hP : va_P D vwCl (wX8 cA a_m m_s m_past m_pasts m_text m_typed m_faceOfSide m_firstSide m_faces m_before m_endA m_endB (upd m_from x5.toNatClampNeg (-9)) m_queue m_ring m_ringSize m_ringNodes m_rings m_path m_pathSize m_old m_lastRing m_bestNodes m_bestInside m_bestFits m_far m_xs m_ys) H := hP
        have hD : va_D A (wX8 cA a_m m_s m_past m_pasts m_text m_typed m_faceOfSide m_firstSide m_faces m_before m_endA m_endB (upd m_from x5.toNatClampNeg (-9)) m_queue m_ring m_ringSize m_ringNodes m_rings m_path m_pathSize m_old m_lastRing m_bestNodes m_bestInside m_bestFits m_far m_xs m_ys) := hD
        refine lv_iinc (v := (x5 + 1)) (lv' := [(5, .int (x5 + 1)), (0, .ref (a_m 0)), (1, .int x1), (2, .int x2), (3, .int x3), (4, .int x4)]) hx hb dX8_finds_19 hl (k := 5) rfl rfl (by decide) rfl (fun ls hl => ?_)
        refine lv_goto (tgt := 3) hx hb dX8_finds_22 (by decide) ?_
        exact ih3 x1 x2 x3 x4 (x5 + 1) (upd m_from x5.toNatClampNeg (-9)) m_queue _ _ _ (lv_sub hl [1, 2, 3, 4, 5, 0] rfl) hP hD hS hf
  refine lv_iconst (v := 0) hx hb dX8_finds_0 (by decide) ?_
  refine lv_istore (lv' := [(5, .int 0), (0, .ref (a_m 0)), (1, .int p1), (2, .int p2), (3, .int p3), (4, .int p4)]) hx hb dX8_finds_1 hl (by decide) rfl (fun ls hl => ?_)
  exact B3 N p1 p2 p3 p4 0 m_from m_queue _ _ _ (lv_sub hl [1, 2, 3, 4, 5, 0] rfl) hP hD hS hf
set_option maxRecDepth 100000 in
set_option maxHeartbeats 4000000 in
theorem c_X8_takesPath (l : Launch) (D : va_G) (cA : Nat → ClassId) (a_m : Nat → Nat) (m_s : Nat → Int32) (m_past : Nat → Int32) (m_pasts : Int32) (m_text : Nat → Int32) (m_typed : Int32) (m_faceOfSide : Nat → Int32) (m_firstSide : Nat → Int32) (m_faces : Int32) (m_before : Nat → Int32) (m_endA : Nat → Int32) (m_endB : Nat → Int32) (m_from : Nat → Int32) (m_queue : Nat → Int32) (m_ring : Nat → Int32) (m_ringSize : Nat → Int32) (m_ringNodes : Nat → Int32) (m_rings : Int32) (m_path : Nat → Int32) (m_pathSize : Int32) (m_old : Nat → Int32) (m_lastRing : Int32) (m_bestNodes : Int32) (m_bestInside : Int32) (m_bestFits : Int32) (m_far : Nat → Int32) (m_xs : Nat → UInt32) (m_ys : Nat → UInt32) (p1 : Int32) (p2 : Int32) (sz N : Nat) (ρ : (Nat → Int32) × Int32) (hf : f_X8_takesPath N m_from m_path m_pathSize p1 p2 = some ρ) : Met l yX8_takesPath (Cond.code yX8_takesPath cX8_takesPath 4 (Option.none : Option Jvm.ClassFile.FieldType) :: lw_g) ({ frames := 0, cells := 0, slots := 0, locals := 0 } : Room) (PcW D (tyA cA) (wX8 cA a_m m_s m_past m_pasts m_text m_typed m_faceOfSide m_firstSide m_faces m_before m_endA m_endB m_from m_queue m_ring m_ringSize m_ringNodes m_rings m_path m_pathSize m_old m_lastRing m_bestNodes m_bestInside m_bestFits m_far m_xs m_ys) sz [.ref (a_m 0), .int p1, .int p2]) (va_Qv (fun (_ : Unit) => True) (fun _ t => va_P D vwCl (wX8 cA a_m m_s m_past m_pasts m_text m_typed m_faceOfSide m_firstSide m_faces m_before m_endA m_endB m_from m_queue m_ring m_ringSize m_ringNodes m_rings ρ.1 ρ.2 m_old m_lastRing m_bestNodes m_bestInside m_bestFits m_far m_xs m_ys) t.heap ∧ va_D (va_A (wX8 cA a_m m_s m_past m_pasts m_text m_typed m_faceOfSide m_firstSide m_faces m_before m_endA m_endB m_from m_queue m_ring m_ringSize m_ringNodes m_rings m_path m_pathSize m_old m_lastRing m_bestNodes m_bestInside m_bestFits m_far m_xs m_ys) sz) (wX8 cA a_m m_s m_past m_pasts m_text m_typed m_faceOfSide m_firstSide m_faces m_before m_endA m_endB m_from m_queue m_ring m_ringSize m_ringNodes m_rings ρ.1 ρ.2 m_old m_lastRing m_bestNodes m_bestInside m_bestFits m_far m_xs m_ys)) (va_A (wX8 cA a_m m_s m_past m_pasts m_text m_typed m_faceOfSide m_firstSide m_faces m_before m_endA m_endB m_from m_queue m_ring m_ringSize m_ringNodes m_rings m_path m_pathSize m_old m_lastRing m_bestNodes m_bestInside m_bestFits m_far m_xs m_ys) sz)) 0 0 (va_A (wX8 cA a_m m_s m_past m_pasts m_text m_typed m_faceOfSide m_firstSide m_faces m_before m_endA m_endB m_from m_queue m_ring m_ringSize m_ringNodes m_rings m_path m_pathSize m_old m_lastRing m_bestNodes m_bestInside m_bestFits m_far m_xs m_ys) sz) := by
  refine mkW (QQ := fun A => va_Qv (fun (_ : Unit) => True) (fun _ t => va_P D vwCl (wX8 cA a_m m_s m_past m_pasts m_text m_typed m_faceOfSide m_firstSide m_faces m_before m_endA m_endB m_from m_queue m_ring m_ringSize m_ringNodes m_rings ρ.1 ρ.2 m_old m_lastRing m_bestNodes m_bestInside m_bestFits m_far m_xs m_ys) t.heap ∧ va_D A (wX8 cA a_m m_s m_past m_pasts m_text m_typed m_faceOfSide m_firstSide m_faces m_before m_endA m_endB m_from m_queue m_ring m_ringSize m_ringNodes m_rings ρ.1 ρ.2 m_old m_lastRing m_bestNodes m_bestInside m_bestFits m_far m_xs m_ys)) A) (by decide) (Nat.le_of_ble_eq_true rfl) fun p e s m below meth c ls A C hl hP hK hD hA hS => ?_
  obtain ⟨hx, hb, hml, hown, hT, hr, hlk⟩ := id C
  have hl : lv_has ls 4 [(0, .ref (a_m 0)), (1, .int p1), (2, .int p2)] := hl
  have B42 : ∀ (x2 : Int32) (m_path : Nat → Int32) (m_pathSize : Int32) (H : Heap) (locs : List Loc) (ls : Array Slot), lv_has ls 4 [(0, .ref (a_m 0)), (2, .int x2)] → va_P D vwCl (wX8 cA a_m m_s m_past m_pasts m_text m_typed m_faceOfSide m_firstSide m_faces m_before m_endA m_endB m_from m_queue m_ring m_ringSize m_ringNodes m_rings m_path m_pathSize m_old m_lastRing m_bestNodes m_bestInside m_bestFits m_far m_xs m_ys) H → va_D A (wX8 cA a_m m_s m_past m_pasts m_text m_typed m_faceOfSide m_firstSide m_faces m_before m_endA m_endB m_from m_queue m_ring m_ringSize m_ringNodes m_rings m_path m_pathSize m_old m_lastRing m_bestNodes m_bestInside m_bestFits m_far m_xs m_ys) → va_S A s.heap H locs → f_X8_takesPath_b42 N m_from x2 m_path m_pathSize = some ρ → W p l e ({ frames := 0, cells := 0, slots := 0, locals := 0 } : Room) s m ([.ref (a_m 0), .int p1, .int p2] : List Value).toArray below meth c H locs 0 0 (MQ below (va_Qv (fun (_ : Unit) => True) (fun _ t => va_P D vwCl (wX8 cA a_m m_s m_past m_pasts m_text m_typed m_faceOfSide m_firstSide m_faces m_before m_endA m_endB m_from m_queue m_ring m_ringSize m_ringNodes m_rings ρ.1 ρ.2 m_old m_lastRing m_bestNodes m_bestInside m_bestFits m_far m_xs m_ys) t.heap ∧ va_D A (wX8 cA a_m m_s m_past m_pasts m_text m_typed m_faceOfSide m_firstSide m_faces m_before m_endA m_endB m_from m_queue m_ring m_ringSize m_ringNodes m_rings ρ.1 ρ.2 m_old m_lastRing m_bestNodes m_bestInside m_bestFits m_far m_xs m_ys)) A) ([.ref (a_m 0), .int p1, .int p2] : List Value).toArray s 0 0 A) (F0 m 42 ls []) := by
    intro x2 m_path m_pathSize H locs ls hl hP hD hS hf
    refine lv_aload_n hx hb dX8_takesPath_42 rfl (lv_at hl 0 rfl) ?_
    refine va_get (D := D) (ci := 8) (C := RX8) (T := TX8) (N := 27) hx hb hT kwX8 hown hK.1 hP 0 rfl rfl 17 (by decide) (hT _ kf_X8_50) (fun _ h9 => h9) rfl dX8_takesPath_43 ?_
    refine lv_aload_n hx hb dX8_takesPath_46 rfl (lv_at hl 0 rfl) ?_
    refine va_get (D := D) (ci := 8) (C := RX8) (T := TX8) (N := 27) hx hb hT kwX8 hown hK.1 hP 0 rfl rfl 18 (by decide) (hT _ kf_X8_176) (fun _ h9 => h9) rfl dX8_takesPath_47 ?_
    refine lv_iload_n hx hb dX8_takesPath_50 rfl (lv_at hl 1 rfl) ?_
    obtain ⟨h_5, hf⟩ := chk_s hf
    refine va_iast hx hb hK.1 hP hD hS 14 0 rfl rfl (inb_in h_5) dX8_takesPath_51 (fun H locs hP hD hS => ?_)
    have hP : va_P D vwCl (wX8 cA a_m m_s m_past m_pasts m_text m_typed m_faceOfSide m_firstSide m_faces m_before m_endA m_endB m_from m_queue m_ring m_ringSize m_ringNodes m_rings (upd m_path m_pathSize.toNatClampNeg x2) m_pathSize m_old m_lastRing m_bestNodes m_bestInside m_bestFits m_far m_xs m_ys) H := hP
    have hD : va_D A (wX8 cA a_m m_s m_past m_pasts m_text m_typed m_faceOfSide m_firstSide m_faces m_before m_endA m_endB m_from m_queue m_ring m_ringSize m_ringNodes m_rings (upd m_path m_pathSize.toNatClampNeg x2) m_pathSize m_old m_lastRing m_bestNodes m_bestInside m_bestFits m_far m_xs m_ys) := hD
    refine lv_aload_n hx hb dX8_takesPath_52 rfl (lv_at hl 0 rfl) ?_
    refine lv_dup hx hb dX8_takesPath_53 rfl ?_
    refine va_get (D := D) (ci := 8) (C := RX8) (T := TX8) (N := 27) hx hb hT kwX8 hown hK.1 hP 0 rfl rfl 18 (by decide) (hT _ kf_X8_176) (fun _ h9 => h9) rfl dX8_takesPath_54 ?_
    refine lv_iconst (v := 1) hx hb dX8_takesPath_57 (by decide) ?_
    refine lv_iadd hx hb dX8_takesPath_58 ?_
    refine va_put (D := D) (ci := 8) (v := .int (m_pathSize + 1)) (ty := .int) (C := RX8) (T := TX8) (N := 27) hx hb hT kwX8 tyX8 tyX8_ok nmX8 hown hK.1 hP hD hS 0 rfl rfl 18 (by decide) (hT _ kf_X8_176) (fun _ h9 => h9) rfl (by decide +kernel) rfl rfl (Nat.le_of_ble_eq_true rfl) dX8_takesPath_59 (fun H locs hP hD hS => ?_)
    have hP : va_P D vwCl (wX8 cA a_m m_s m_past m_pasts m_text m_typed m_faceOfSide m_firstSide m_faces m_before m_endA m_endB m_from m_queue m_ring m_ringSize m_ringNodes m_rings (upd m_path m_pathSize.toNatClampNeg x2) (m_pathSize + 1) m_old m_lastRing m_bestNodes m_bestInside m_bestFits m_far m_xs m_ys) H := hP
    have hD : va_D A (wX8 cA a_m m_s m_past m_pasts m_text m_typed m_faceOfSide m_firstSide m_faces m_before m_endA m_endB m_from m_queue m_ring m_ringSize m_ringNodes m_rings (upd m_path m_pathSize.toNatClampNeg x2) (m_pathSize + 1) m_old m_lastRing m_bestNodes m_bestInside m_bestFits m_far m_xs m_ys) := hD
    have eR := some_i hf
    exact W.vret hx hb hr (fun t ht hW => ⟨⟨(), rfl, trivial, by rw [← eR, ht]; exact hP, by rw [← eR]; exact hD⟩, hS.F ht⟩) hS.2.2 dX8_takesPath_62 (hlocks := hlk)
  have B7 : ∀ (n7 : Nat), ∀ (x2 : Int32) (x3 : Int32) (m_path : Nat → Int32) (m_pathSize : Int32) (H : Heap) (locs : List Loc) (ls : Array Slot), lv_has ls 4 [(0, .ref (a_m 0)), (2, .int x2), (3, .int x3)] → va_P D vwCl (wX8 cA a_m m_s m_past m_pasts m_text m_typed m_faceOfSide m_firstSide m_faces m_before m_endA m_endB m_from m_queue m_ring m_ringSize m_ringNodes m_rings m_path m_pathSize m_old m_lastRing m_bestNodes m_bestInside m_bestFits m_far m_xs m_ys) H → va_D A (wX8 cA a_m m_s m_past m_pasts m_text m_typed m_faceOfSide m_firstSide m_faces m_before m_endA m_endB m_from m_queue m_ring m_ringSize m_ringNodes m_rings m_path m_pathSize m_old m_lastRing m_bestNodes m_bestInside m_bestFits m_far m_xs m_ys) → va_S A s.heap H locs → f_X8_takesPath_b7 N m_from n7 x2 x3 m_path m_pathSize = some ρ → W p l e ({ frames := 0, cells := 0, slots := 0, locals := 0 } : Room) s m ([.ref (a_m 0), .int p1, .int p2] : List Value).toArray below meth c H locs 0 0 (MQ below (va_Qv (fun (_ : Unit) => True) (fun _ t => va_P D vwCl (wX8 cA a_m m_s m_past m_pasts m_text m_typed m_faceOfSide m_firstSide m_faces m_before m_endA m_endB m_from m_queue m_ring m_ringSize m_ringNodes m_rings ρ.1 ρ.2 m_old m_lastRing m_bestNodes m_bestInside m_bestFits m_far m_xs m_ys) t.heap ∧ va_D A (wX8 cA a_m m_s m_past m_pasts m_text m_typed m_faceOfSide m_firstSide m_faces m_before m_endA m_endB m_from m_queue m_ring m_ringSize m_ringNodes m_rings ρ.1 ρ.2 m_old m_lastRing m_bestNodes m_bestInside m_bestFits m_far m_xs m_ys)) A) ([.ref (a_m 0), .int p1, .int p2] : List Value).toArray s 0 0 A) (F0 m 7 ls []) := by
    intro n7
    induction n7 with
    | zero =>
      intro x2 x3 m_path m_pathSize H locs ls hl hP hD hS hf
      cases (show (none : Option ((Nat → Int32) × Int32)) = some ρ from hf)
    | succ n7 ih7 =>
      intro x2 x3 m_path m_pathSize H locs ls hl hP hD hS hf
      refine lv_iload_n hx hb dX8_takesPath_7 rfl (lv_at hl 2 rfl) ?_
      refine lv_iload_n hx hb dX8_takesPath_8 rfl (lv_at hl 1 rfl) ?_
      refine lv_icmp_eq (tgt := 42) hx hb dX8_takesPath_9 (by decide) (fun c_1 => ?_) (fun c_1 => ?_)
      · have hf := ite_t c_1 hf
        exact B42 x2 m_path m_pathSize _ _ _ (lv_sub hl [0, 1] rfl) hP hD hS hf
      · have hf := ite_f c_1 hf
        refine lv_aload_n hx hb dX8_takesPath_12 rfl (lv_at hl 0 rfl) ?_
        refine va_get (D := D) (ci := 8) (C := RX8) (T := TX8) (N := 27) hx hb hT kwX8 hown hK.1 hP 0 rfl rfl 17 (by decide) (hT _ kf_X8_50) (fun _ h9 => h9) rfl dX8_takesPath_13 ?_
        refine lv_aload_n hx hb dX8_takesPath_16 rfl (lv_at hl 0 rfl) ?_
        refine va_get (D := D) (ci := 8) (C := RX8) (T := TX8) (N := 27) hx hb hT kwX8 hown hK.1 hP 0 rfl rfl 18 (by decide) (hT _ kf_X8_176) (fun _ h9 => h9) rfl dX8_takesPath_17 ?_
        refine lv_iload_n hx hb dX8_takesPath_20 rfl (lv_at hl 2 rfl) ?_
        obtain ⟨h_2, hf⟩ := chk_s hf
        refine va_iast hx hb hK.1 hP hD hS 14 0 rfl rfl (inb_in h_2) dX8_takesPath_21 (fun H locs hP hD hS => ?_)
        have hP : va_P D vwCl (wX8 cA a_m m_s m_past m_pasts m_text m_typed m_faceOfSide m_firstSide m_faces m_before m_endA m_endB m_from m_queue m_ring m_ringSize m_ringNodes m_rings (upd m_path m_pathSize.toNatClampNeg x3) m_pathSize m_old m_lastRing m_bestNodes m_bestInside m_bestFits m_far m_xs m_ys) H := hP
        have hD : va_D A (wX8 cA a_m m_s m_past m_pasts m_text m_typed m_faceOfSide m_firstSide m_faces m_before m_endA m_endB m_from m_queue m_ring m_ringSize m_ringNodes m_rings (upd m_path m_pathSize.toNatClampNeg x3) m_pathSize m_old m_lastRing m_bestNodes m_bestInside m_bestFits m_far m_xs m_ys) := hD
        refine lv_aload_n hx hb dX8_takesPath_22 rfl (lv_at hl 0 rfl) ?_
        refine lv_dup hx hb dX8_takesPath_23 rfl ?_
        refine va_get (D := D) (ci := 8) (C := RX8) (T := TX8) (N := 27) hx hb hT kwX8 hown hK.1 hP 0 rfl rfl 18 (by decide) (hT _ kf_X8_176) (fun _ h9 => h9) rfl dX8_takesPath_24 ?_
        refine lv_iconst (v := 1) hx hb dX8_takesPath_27 (by decide) ?_
        refine lv_iadd hx hb dX8_takesPath_28 ?_
        refine va_put (D := D) (ci := 8) (v := .int (m_pathSize + 1)) (ty := .int) (C := RX8) (T := TX8) (N := 27) hx hb hT kwX8 tyX8 tyX8_ok nmX8 hown hK.1 hP hD hS 0 rfl rfl 18 (by decide) (hT _ kf_X8_176) (fun _ h9 => h9) rfl (by decide +kernel) rfl rfl (Nat.le_of_ble_eq_true rfl) dX8_takesPath_29 (fun H locs hP hD hS => ?_)
        have hP : va_P D vwCl (wX8 cA a_m m_s m_past m_pasts m_text m_typed m_faceOfSide m_firstSide m_faces m_before m_endA m_endB m_from m_queue m_ring m_ringSize m_ringNodes m_rings (upd m_path m_pathSize.toNatClampNeg x3) (m_pathSize + 1) m_old m_lastRing m_bestNodes m_bestInside m_bestFits m_far m_xs m_ys) H := hP
        have hD : va_D A (wX8 cA a_m m_s m_past m_pasts m_text m_typed m_faceOfSide m_firstSide m_faces m_before m_endA m_endB m_from m_queue m_ring m_ringSize m_ringNodes m_rings (upd m_path m_pathSize.toNatClampNeg x3) (m_pathSize + 1) m_old m_lastRing m_bestNodes m_bestInside m_bestFits m_far m_xs m_ys) := hD
        refine lv_aload_n hx hb dX8_takesPath_32 rfl (lv_at hl 0 rfl) ?_
        refine va_get (D := D) (ci := 8) (C := RX8) (T := TX8) (N := 27) hx hb hT kwX8 hown hK.1 hP 0 rfl rfl 11 (by decide) (hT _ kf_X8_35) (fun _ h9 => h9) rfl dX8_takesPath_33 ?_
        refine lv_iload_n hx hb dX8_takesPath_36 rfl (lv_at hl 2 rfl) ?_
        obtain ⟨h_3, hf⟩ := chk_s hf
        refine va_iald hx hb hK.1 hP 9 0 rfl rfl (inb_in h_3) dX8_takesPath_37 ?_
        refine lv_topi (fun x3_4 ex3_4 => ?_)
        have hf := nm_t ex3_4 hf
        refine lv_istore_n (lv' := [(3, .int x3_4), (0, .ref (a_m 0)), (2, .int x2)]) hx hb dX8_takesPath_38 rfl hl (by decide) rfl (fun ls hl => ?_)
        refine lv_goto (tgt := 7) hx hb dX8_takesPath_39 (by decide) ?_
        exact ih7 x2 x3_4 (upd m_path m_pathSize.toNatClampNeg x3) (m_pathSize + 1) _ _ _ (lv_sub hl [1, 2, 0] rfl) hP hD hS hf
  refine lv_aload_n hx hb dX8_takesPath_0 rfl (lv_at hl 0 rfl) ?_
  refine lv_iconst (v := 0) hx hb dX8_takesPath_1 (by decide) ?_
  refine va_put (D := D) (ci := 8) (v := .int 0) (ty := .int) (C := RX8) (T := TX8) (N := 27) hx hb hT kwX8 tyX8 tyX8_ok nmX8 hown hK.1 hP hD hS 0 rfl rfl 18 (by decide) (hT _ kf_X8_176) (fun _ h9 => h9) rfl (by decide +kernel) rfl rfl (Nat.le_of_ble_eq_true rfl) dX8_takesPath_2 (fun H locs hP hD hS => ?_)
  have hP : va_P D vwCl (wX8 cA a_m m_s m_past m_pasts m_text m_typed m_faceOfSide m_firstSide m_faces m_before m_endA m_endB m_from m_queue m_ring m_ringSize m_ringNodes m_rings m_path 0 m_old m_lastRing m_bestNodes m_bestInside m_bestFits m_far m_xs m_ys) H := hP
  have hD : va_D A (wX8 cA a_m m_s m_past m_pasts m_text m_typed m_faceOfSide m_firstSide m_faces m_before m_endA m_endB m_from m_queue m_ring m_ringSize m_ringNodes m_rings m_path 0 m_old m_lastRing m_bestNodes m_bestInside m_bestFits m_far m_xs m_ys) := hD
  refine lv_iload_n hx hb dX8_takesPath_5 rfl (lv_at hl 1 rfl) ?_
  refine lv_istore_n (lv' := [(3, .int p1), (0, .ref (a_m 0)), (1, .int p1), (2, .int p2)]) hx hb dX8_takesPath_6 rfl hl (by decide) rfl (fun ls hl => ?_)
  exact B7 N p2 p1 m_path 0 _ _ _ (lv_sub hl [1, 3, 0] rfl) hP hD hS hf
set_option maxRecDepth 100000 in
set_option maxHeartbeats 4000000 in
theorem c_X8_edgesOfPath (l : Launch) (D : va_G) (cA : Nat → ClassId) (a_m : Nat → Nat) (m_s : Nat → Int32) (m_past : Nat → Int32) (m_pasts : Int32) (m_text : Nat → Int32) (m_typed : Int32) (m_faceOfSide : Nat → Int32) (m_firstSide : Nat → Int32) (m_faces : Int32) (m_before : Nat → Int32) (m_endA : Nat → Int32) (m_endB : Nat → Int32) (m_from : Nat → Int32) (m_queue : Nat → Int32) (m_ring : Nat → Int32) (m_ringSize : Nat → Int32) (m_ringNodes : Nat → Int32) (m_rings : Int32) (m_path : Nat → Int32) (m_pathSize : Int32) (m_old : Nat → Int32) (m_lastRing : Int32) (m_bestNodes : Int32) (m_bestInside : Int32) (m_bestFits : Int32) (m_far : Nat → Int32) (m_xs : Nat → UInt32) (m_ys : Nat → UInt32) (p1 : Int32) (N : Nat) (ρ : Int32) (hf : f_X8_edgesOfPath N m_endA m_endB m_path m_pathSize p1 = some ρ) : Met l yX8_edgesOfPath (Cond.code yX8_edgesOfPath cX8_edgesOfPath 6 (Option.some Jvm.ClassFile.FieldType.int) :: lw_g) ({ frames := 1, cells := 0, slots := 0, locals := 21 } : Room) (PcS D (tyA cA) (wX8 cA a_m m_s m_past m_pasts m_text m_typed m_faceOfSide m_firstSide m_faces m_before m_endA m_endB m_from m_queue m_ring m_ringSize m_ringNodes m_rings m_path m_pathSize m_old m_lastRing m_bestNodes m_bestInside m_bestFits m_far m_xs m_ys) [.ref (a_m 0), .int p1]) (vp_Si (fun r => r = ρ)) 0 0 (fun _ => False) := by
  refine mkS (by decide +kernel) (Nat.le_of_ble_eq_true rfl) fun p e s m below meth c ls C hl hP hK => ?_
  obtain ⟨hx, hb, hml, hown, hT, hr, hlk⟩ := id C
  have hl : lv_has ls 6 [(0, .ref (a_m 0)), (1, .int p1)] := hl
  have B4 : ∀ (n4 : Nat), ∀ (x1 : Int32) (x2 : Int32) (x3 : Int32) (ls : Array Slot), lv_has ls 6 [(0, .ref (a_m 0)), (1, .int x1), (2, .int x2), (3, .int x3)] → f_X8_edgesOfPath_b4 N m_endA m_endB m_path m_pathSize n4 x1 x2 x3 = some ρ → W p l e ({ frames := 1, cells := 0, slots := 0, locals := 21 } : Room) s m ([.ref (a_m 0), .int p1] : List Value).toArray below meth c s.heap [] 0 0 (MQ below (vp_Si (fun r => r = ρ)) ([.ref (a_m 0), .int p1] : List Value).toArray s 0 0 (fun _ => False)) (F0 m 4 ls []) := by
    intro n4
    induction n4 with
    | zero =>
      intro x1 x2 x3 ls hl hf
      cases (show (none : Option (Int32)) = some ρ from hf)
    | succ n4 ih4 =>
      have B130 : ∀ (x1 : Int32) (x2 : Int32) (x3 : Int32) (ls : Array Slot), lv_has ls 6 [(0, .ref (a_m 0)), (1, .int x1), (2, .int x2), (3, .int x3)] → f_X8_edgesOfPath_b130 N m_endA m_endB m_path m_pathSize (f_X8_edgesOfPath_b4 N m_endA m_endB m_path m_pathSize n4) x1 x2 x3 = some ρ → W p l e ({ frames := 1, cells := 0, slots := 0, locals := 21 } : Room) s m ([.ref (a_m 0), .int p1] : List Value).toArray below meth c s.heap [] 0 0 (MQ below (vp_Si (fun r => r = ρ)) ([.ref (a_m 0), .int p1] : List Value).toArray s 0 0 (fun _ => False)) (F0 m 130 ls []) := by
        intro x1 x2 x3 ls hl hf
        refine lv_iinc (v := (x3 + 1)) (lv' := [(3, .int (x3 + 1)), (0, .ref (a_m 0)), (1, .int x1), (2, .int x2)]) hx hb dX8_edgesOfPath_130 hl (k := 3) rfl rfl (by decide) rfl (fun ls hl => ?_)
        refine lv_goto (tgt := 4) hx hb dX8_edgesOfPath_133 (by decide) ?_
        exact ih4 x1 x2 (x3 + 1) _ (lv_sub hl [1, 2, 3, 0] rfl) hf
      have B17 : ∀ (n17 : Nat), ∀ (x1 : Int32) (x2 : Int32) (x3 : Int32) (x4 : Int32) (ls : Array Slot), lv_has ls 6 [(0, .ref (a_m 0)), (1, .int x1), (2, .int x2), (3, .int x3), (4, .int x4)] → f_X8_edgesOfPath_b17 N m_endA m_endB m_path m_pathSize (f_X8_edgesOfPath_b4 N m_endA m_endB m_path m_pathSize n4) n17 x1 x2 x3 x4 = some ρ → W p l e ({ frames := 1, cells := 0, slots := 0, locals := 21 } : Room) s m ([.ref (a_m 0), .int p1] : List Value).toArray below meth c s.heap [] 0 0 (MQ below (vp_Si (fun r => r = ρ)) ([.ref (a_m 0), .int p1] : List Value).toArray s 0 0 (fun _ => False)) (F0 m 17 ls []) := by
        intro n17
        induction n17 with
        | zero =>
          intro x1 x2 x3 x4 ls hl hf
          cases (show (none : Option (Int32)) = some ρ from hf)
        | succ n17 ih17 =>
          have B122 : ∀ (x1 : Int32) (x3 : Int32) (x4 : Int32) (y0 : Int32) (y1 : Int32) (ls : Array Slot), lv_has ls 6 [(0, .ref (a_m 0)), (1, .int x1), (3, .int x3), (4, .int x4)] → f_X8_edgesOfPath_b122 N m_endA m_endB m_path m_pathSize (f_X8_edgesOfPath_b4 N m_endA m_endB m_path m_pathSize n4) (f_X8_edgesOfPath_b17 N m_endA m_endB m_path m_pathSize (f_X8_edgesOfPath_b4 N m_endA m_endB m_path m_pathSize n4) n17) x1 x3 x4 y0 y1 = some ρ → W p l e ({ frames := 1, cells := 0, slots := 0, locals := 21 } : Room) s m ([.ref (a_m 0), .int p1] : List Value).toArray below meth c s.heap [] 0 0 (MQ below (vp_Si (fun r => r = ρ)) ([.ref (a_m 0), .int p1] : List Value).toArray s 0 0 (fun _ => False)) (F0 m 122 ls [.int y1, .int y0]) := by
            intro x1 x3 x4 y0 y1 ls hl hf
            refine lv_ior hx hb dX8_edgesOfPath_122 ?_
            refine lv_topi (fun x2_12 ex2_12 => ?_)
            have hf := nm_t ex2_12 hf
            refine lv_istore_n (lv' := [(2, .int x2_12), (0, .ref (a_m 0)), (1, .int x1), (3, .int x3), (4, .int x4)]) hx hb dX8_edgesOfPath_123 rfl hl (by decide) rfl (fun ls hl => ?_)
            refine lv_iinc (v := (x4 + 1)) (lv' := [(4, .int (x4 + 1)), (2, .int x2_12), (0, .ref (a_m 0)), (1, .int x1), (3, .int x3)]) hx hb dX8_edgesOfPath_124 hl (k := 4) rfl rfl (by decide) rfl (fun ls hl => ?_)
            refine lv_goto (tgt := 17) hx hb dX8_edgesOfPath_127 (by decide) ?_
            exact ih17 x1 x2_12 x3 (x4 + 1) _ (lv_sub hl [2, 3, 1, 4, 0] rfl) hf
          have B121 : ∀ (x1 : Int32) (x3 : Int32) (x4 : Int32) (y0 : Int32) (ls : Array Slot), lv_has ls 6 [(0, .ref (a_m 0)), (1, .int x1), (3, .int x3), (4, .int x4)] → f_X8_edgesOfPath_b121 N m_endA m_endB m_path m_pathSize (f_X8_edgesOfPath_b4 N m_endA m_endB m_path m_pathSize n4) (f_X8_edgesOfPath_b17 N m_endA m_endB m_path m_pathSize (f_X8_edgesOfPath_b4 N m_endA m_endB m_path m_pathSize n4) n17) x1 x3 x4 y0 = some ρ → W p l e ({ frames := 1, cells := 0, slots := 0, locals := 21 } : Room) s m ([.ref (a_m 0), .int p1] : List Value).toArray below meth c s.heap [] 0 0 (MQ below (vp_Si (fun r => r = ρ)) ([.ref (a_m 0), .int p1] : List Value).toArray s 0 0 (fun _ => False)) (F0 m 121 ls [.int y0]) := by
            intro x1 x3 x4 y0 ls hl hf
            refine lv_iconst (v := 0) hx hb dX8_edgesOfPath_121 (by decide) ?_
            exact B122 x1 x3 x4 y0 0 _ (lv_sub hl [0, 1, 2, 3] rfl) hf
          have B97 : ∀ (x1 : Int32) (x2 : Int32) (x3 : Int32) (x4 : Int32) (y0 : Int32) (ls : Array Slot), lv_has ls 6 [(0, .ref (a_m 0)), (1, .int x1), (2, .int x2), (3, .int x3), (4, .int x4)] → f_X8_edgesOfPath_b97 N m_endA m_endB m_path m_pathSize (f_X8_edgesOfPath_b4 N m_endA m_endB m_path m_pathSize n4) (f_X8_edgesOfPath_b17 N m_endA m_endB m_path m_pathSize (f_X8_edgesOfPath_b4 N m_endA m_endB m_path m_pathSize n4) n17) x1 x2 x3 x4 y0 = some ρ → W p l e ({ frames := 1, cells := 0, slots := 0, locals := 21 } : Room) s m ([.ref (a_m 0), .int p1] : List Value).toArray below meth c s.heap [] 0 0 (MQ below (vp_Si (fun r => r = ρ)) ([.ref (a_m 0), .int p1] : List Value).toArray s 0 0 (fun _ => False)) (F0 m 97 ls [.int y0]) := by
            intro x1 x2 x3 x4 y0 ls hl hf
            refine lv_istore (lv' := [(5, .int y0), (0, .ref (a_m 0)), (1, .int x1), (2, .int x2), (3, .int x3), (4, .int x4)]) hx hb dX8_edgesOfPath_97 hl (by decide) rfl (fun ls hl => ?_)
            refine lv_iload_n hx hb dX8_edgesOfPath_99 rfl (lv_at hl 3 rfl) ?_
            refine lv_iload hx hb dX8_edgesOfPath_100 (lv_at hl 0 rfl) ?_
            refine lv_if_eq (tgt := 121) hx hb dX8_edgesOfPath_102 (by decide) (fun c_9 => ?_) (fun c_9 => ?_)
            · have hf := ite_t c_9 hf
              exact B121 x1 x3 x4 x2 _ (lv_sub hl [1, 2, 4, 5] rfl) hf
            · have hf := ite_f c_9 hf
              refine lv_iload_n hx hb dX8_edgesOfPath_105 rfl (lv_at hl 2 rfl) ?_
              refine lv_iload hx hb dX8_edgesOfPath_106 (lv_at hl 5 rfl) ?_
              obtain ⟨r_10, hcr_10, hf⟩ := bd1_s hf
              refine backI (runS0 C (c_X8_has l D cA x1 x4 N r_10 hcr_10) cf_X8_has km_X8_166 ⟨rfl, rfl, by decide, by decide⟩ ⟨Nat.zero_le _, Nat.zero_le _⟩ (hP.sub [] rfl) hK hl.1 rfl rfl (Nat.le_of_ble_eq_true rfl) dX8_edgesOfPath_108) ?_
              refine lv_if_eq (tgt := 121) hx hb dX8_edgesOfPath_111 (by decide) (fun c_11 => ?_) (fun c_11 => ?_)
              · have hf := ite_t c_11 hf
                exact B121 x1 x3 x4 x2 _ (lv_sub hl [1, 2, 4, 5] rfl) hf
              · have hf := ite_f c_11 hf
                refine lv_iconst (v := 1) hx hb dX8_edgesOfPath_114 (by decide) ?_
                refine lv_iload hx hb dX8_edgesOfPath_115 (lv_at hl 5 rfl) ?_
                refine lv_ishl hx hb dX8_edgesOfPath_117 ?_
                refine lv_goto (tgt := 122) hx hb dX8_edgesOfPath_118 (by decide) ?_
                exact B122 x1 x3 x4 x2 ((1 : Int32) <<< (x4 &&& 31)) _ (lv_sub hl [1, 2, 4, 5] rfl) hf
          have B96 : ∀ (x1 : Int32) (x2 : Int32) (x3 : Int32) (x4 : Int32) (ls : Array Slot), lv_has ls 6 [(0, .ref (a_m 0)), (1, .int x1), (2, .int x2), (3, .int x3), (4, .int x4)] → f_X8_edgesOfPath_b96 N m_endA m_endB m_path m_pathSize (f_X8_edgesOfPath_b4 N m_endA m_endB m_path m_pathSize n4) (f_X8_edgesOfPath_b17 N m_endA m_endB m_path m_pathSize (f_X8_edgesOfPath_b4 N m_endA m_endB m_path m_pathSize n4) n17) x1 x2 x3 x4 = some ρ → W p l e ({ frames := 1, cells := 0, slots := 0, locals := 21 } : Room) s m ([.ref (a_m 0), .int p1] : List Value).toArray below meth c s.heap [] 0 0 (MQ below (vp_Si (fun r => r = ρ)) ([.ref (a_m 0), .int p1] : List Value).toArray s 0 0 (fun _ => False)) (F0 m 96 ls []) := by
            intro x1 x2 x3 x4 ls hl hf
            refine lv_iconst (v := 0) hx hb dX8_edgesOfPath_96 (by decide) ?_
            exact B97 x1 x2 x3 x4 0 _ (lv_sub hl [0, 1, 2, 3, 4] rfl) hf
          have B92 : ∀ (x1 : Int32) (x2 : Int32) (x3 : Int32) (x4 : Int32) (ls : Array Slot), lv_has ls 6 [(0, .ref (a_m 0)), (1, .int x1), (2, .int x2), (3, .int x3), (4, .int x4)] → f_X8_edgesOfPath_b92 N m_endA m_endB m_path m_pathSize (f_X8_edgesOfPath_b4 N m_endA m_endB m_path m_pathSize n4) (f_X8_edgesOfPath_b17 N m_endA m_endB m_path m_pathSize (f_X8_edgesOfPath_b4 N m_endA m_endB m_path m_pathSize n4) n17) x1 x2 x3 x4 = some ρ → W p l e ({ frames := 1, cells := 0, slots := 0, locals := 21 } : Room) s m ([.ref (a_m 0), .int p1] : List Value).toArray below meth c s.heap [] 0 0 (MQ below (vp_Si (fun r => r = ρ)) ([.ref (a_m 0), .int p1] : List Value).toArray s 0 0 (fun _ => False)) (F0 m 92 ls []) := by
            intro x1 x2 x3 x4 ls hl hf
            refine lv_iconst (v := 1) hx hb dX8_edgesOfPath_92 (by decide) ?_
            refine lv_goto (tgt := 97) hx hb dX8_edgesOfPath_93 (by decide) ?_
            exact B97 x1 x2 x3 x4 1 _ (lv_sub hl [0, 1, 2, 3, 4] rfl) hf
          have B58 : ∀ (x1 : Int32) (x2 : Int32) (x3 : Int32) (x4 : Int32) (ls : Array Slot), lv_has ls 6 [(0, .ref (a_m 0)), (1, .int x1), (2, .int x2), (3, .int x3), (4, .int x4)] → f_X8_edgesOfPath_b58 N m_endA m_endB m_path m_pathSize (f_X8_edgesOfPath_b4 N m_endA m_endB m_path m_pathSize n4) (f_X8_edgesOfPath_b17 N m_endA m_endB m_path m_pathSize (f_X8_edgesOfPath_b4 N m_endA m_endB m_path m_pathSize n4) n17) x1 x2 x3 x4 = some ρ → W p l e ({ frames := 1, cells := 0, slots := 0, locals := 21 } : Room) s m ([.ref (a_m 0), .int p1] : List Value).toArray below meth c s.heap [] 0 0 (MQ below (vp_Si (fun r => r = ρ)) ([.ref (a_m 0), .int p1] : List Value).toArray s 0 0 (fun _ => False)) (F0 m 58 ls []) := by
            intro x1 x2 x3 x4 ls hl hf
            refine lv_aload_n hx hb dX8_edgesOfPath_58 rfl (lv_at hl 0 rfl) ?_
            refine va_get (D := D) (ci := 8) (C := RX8) (T := TX8) (N := 27) hx hb hT kwX8 hown hK.1 hP 0 rfl rfl 10 (by decide) (hT _ kf_X8_32) (fun _ h9 => h9) rfl dX8_edgesOfPath_59 ?_
            refine lv_iload hx hb dX8_edgesOfPath_62 (lv_at hl 4 rfl) ?_
            obtain ⟨h_13, hf⟩ := chk_s hf
            refine va_iald hx hb hK.1 hP 8 0 rfl rfl (inb_in h_13) dX8_edgesOfPath_64 ?_
            refine lv_aload_n hx hb dX8_edgesOfPath_65 rfl (lv_at hl 0 rfl) ?_
            refine va_get (D := D) (ci := 8) (C := RX8) (T := TX8) (N := 27) hx hb hT kwX8 hown hK.1 hP 0 rfl rfl 17 (by decide) (hT _ kf_X8_50) (fun _ h9 => h9) rfl dX8_edgesOfPath_66 ?_
            refine lv_iload_n hx hb dX8_edgesOfPath_69 rfl (lv_at hl 3 rfl) ?_
            obtain ⟨h_14, hf⟩ := chk_s hf
            refine va_iald hx hb hK.1 hP 14 0 rfl rfl (inb_in h_14) dX8_edgesOfPath_70 ?_
            refine lv_icmp_ne (tgt := 96) hx hb dX8_edgesOfPath_71 (by decide) (fun c_15 => ?_) (fun c_15 => ?_)
            · have hf := ite_t c_15 hf
              exact B96 x1 x2 x3 x4 _ (lv_sub hl [0, 1, 2, 3, 4] rfl) hf
            · have hf := ite_fn c_15 hf
              refine lv_aload_n hx hb dX8_edgesOfPath_74 rfl (lv_at hl 0 rfl) ?_
              refine va_get (D := D) (ci := 8) (C := RX8) (T := TX8) (N := 27) hx hb hT kwX8 hown hK.1 hP 0 rfl rfl 9 (by decide) (hT _ kf_X8_29) (fun _ h9 => h9) rfl dX8_edgesOfPath_75 ?_
              refine lv_iload hx hb dX8_edgesOfPath_78 (lv_at hl 4 rfl) ?_
              obtain ⟨h_16, hf⟩ := chk_s hf
              refine va_iald hx hb hK.1 hP 7 0 rfl rfl (inb_in h_16) dX8_edgesOfPath_80 ?_
              refine lv_aload_n hx hb dX8_edgesOfPath_81 rfl (lv_at hl 0 rfl) ?_
              refine va_get (D := D) (ci := 8) (C := RX8) (T := TX8) (N := 27) hx hb hT kwX8 hown hK.1 hP 0 rfl rfl 17 (by decide) (hT _ kf_X8_50) (fun _ h9 => h9) rfl dX8_edgesOfPath_82 ?_
              refine lv_iload_n hx hb dX8_edgesOfPath_85 rfl (lv_at hl 3 rfl) ?_
              refine lv_iconst (v := 1) hx hb dX8_edgesOfPath_86 (by decide) ?_
              refine lv_iadd hx hb dX8_edgesOfPath_87 ?_
              obtain ⟨h_17, hf⟩ := chk_s hf
              refine va_iald hx hb hK.1 hP 14 0 rfl rfl (inb_in h_17) dX8_edgesOfPath_88 ?_
              refine lv_icmp_ne (tgt := 96) hx hb dX8_edgesOfPath_89 (by decide) (fun c_18 => ?_) (fun c_18 => ?_)
              · have hf := ite_t c_18 hf
                exact B96 x1 x2 x3 x4 _ (lv_sub hl [0, 1, 2, 3, 4] rfl) hf
              · have hf := ite_fn c_18 hf
                exact B92 x1 x2 x3 x4 _ (lv_sub hl [0, 1, 2, 3, 4] rfl) hf
          intro x1 x2 x3 x4 ls hl hf
          refine lv_iload hx hb dX8_edgesOfPath_17 (lv_at hl 4 rfl) ?_
          refine lv_bipush (v := 21) hx hb dX8_edgesOfPath_19 (by decide) ?_
          refine lv_icmp_ge (tgt := 130) hx hb dX8_edgesOfPath_21 (by decide) (fun c_2 => ?_) (fun c_2 => ?_)
          · have hf := ite_t c_2 hf
            exact B130 x1 x2 x3 _ (lv_sub hl [0, 1, 2, 3] rfl) hf
          · have hf := ite_f c_2 hf
            refine lv_aload_n hx hb dX8_edgesOfPath_24 rfl (lv_at hl 0 rfl) ?_
            refine va_get (D := D) (ci := 8) (C := RX8) (T := TX8) (N := 27) hx hb hT kwX8 hown hK.1 hP 0 rfl rfl 9 (by decide) (hT _ kf_X8_29) (fun _ h9 => h9) rfl dX8_edgesOfPath_25 ?_
            refine lv_iload hx hb dX8_edgesOfPath_28 (lv_at hl 4 rfl) ?_
            obtain ⟨h_3, hf⟩ := chk_s hf
            refine va_iald hx hb hK.1 hP 7 0 rfl rfl (inb_in h_3) dX8_edgesOfPath_30 ?_
            refine lv_aload_n hx hb dX8_edgesOfPath_31 rfl (lv_at hl 0 rfl) ?_
            refine va_get (D := D) (ci := 8) (C := RX8) (T := TX8) (N := 27) hx hb hT kwX8 hown hK.1 hP 0 rfl rfl 17 (by decide) (hT _ kf_X8_50) (fun _ h9 => h9) rfl dX8_edgesOfPath_32 ?_
            refine lv_iload_n hx hb dX8_edgesOfPath_35 rfl (lv_at hl 3 rfl) ?_
            obtain ⟨h_4, hf⟩ := chk_s hf
            refine va_iald hx hb hK.1 hP 14 0 rfl rfl (inb_in h_4) dX8_edgesOfPath_36 ?_
            refine lv_icmp_ne (tgt := 58) hx hb dX8_edgesOfPath_37 (by decide) (fun c_5 => ?_) (fun c_5 => ?_)
            · have hf := ite_t c_5 hf
              exact B58 x1 x2 x3 x4 _ (lv_sub hl [0, 1, 2, 3, 4] rfl) hf
            · have hf := ite_fn c_5 hf
              refine lv_aload_n hx hb dX8_edgesOfPath_40 rfl (lv_at hl 0 rfl) ?_
              refine va_get (D := D) (ci := 8) (C := RX8) (T := TX8) (N := 27) hx hb hT kwX8 hown hK.1 hP 0 rfl rfl 10 (by decide) (hT _ kf_X8_32) (fun _ h9 => h9) rfl dX8_edgesOfPath_41 ?_
              refine lv_iload hx hb dX8_edgesOfPath_44 (lv_at hl 4 rfl) ?_
              obtain ⟨h_6, hf⟩ := chk_s hf
              refine va_iald hx hb hK.1 hP 8 0 rfl rfl (inb_in h_6) dX8_edgesOfPath_46 ?_
              refine lv_aload_n hx hb dX8_edgesOfPath_47 rfl (lv_at hl 0 rfl) ?_
              refine va_get (D := D) (ci := 8) (C := RX8) (T := TX8) (N := 27) hx hb hT kwX8 hown hK.1 hP 0 rfl rfl 17 (by decide) (hT _ kf_X8_50) (fun _ h9 => h9) rfl dX8_edgesOfPath_48 ?_
              refine lv_iload_n hx hb dX8_edgesOfPath_51 rfl (lv_at hl 3 rfl) ?_
              refine lv_iconst (v := 1) hx hb dX8_edgesOfPath_52 (by decide) ?_
              refine lv_iadd hx hb dX8_edgesOfPath_53 ?_
              obtain ⟨h_7, hf⟩ := chk_s hf
              refine va_iald hx hb hK.1 hP 14 0 rfl rfl (inb_in h_7) dX8_edgesOfPath_54 ?_
              refine lv_icmp_eq (tgt := 92) hx hb dX8_edgesOfPath_55 (by decide) (fun c_8 => ?_) (fun c_8 => ?_)
              · have hf := ite_t c_8 hf
                exact B92 x1 x2 x3 x4 _ (lv_sub hl [0, 1, 2, 3, 4] rfl) hf
              · have hf := ite_f c_8 hf
                exact B58 x1 x2 x3 x4 _ (lv_sub hl [0, 1, 2, 3, 4] rfl) hf
      intro x1 x2 x3 ls hl hf
      refine lv_iload_n hx hb dX8_edgesOfPath_4 rfl (lv_at hl 3 rfl) ?_
      refine lv_iconst (v := 1) hx hb dX8_edgesOfPath_5 (by decide) ?_
      refine lv_iadd hx hb dX8_edgesOfPath_6 ?_
      refine lv_aload_n hx hb dX8_edgesOfPath_7 rfl (lv_at hl 0 rfl) ?_
      refine va_get (D := D) (ci := 8) (C := RX8) (T := TX8) (N := 27) hx hb hT kwX8 hown hK.1 hP 0 rfl rfl 18 (by decide) (hT _ kf_X8_176) (fun _ h9 => h9) rfl dX8_edgesOfPath_8 ?_
      refine lv_icmp_ge (tgt := 136) hx hb dX8_edgesOfPath_11 (by decide) (fun c_1 => ?_) (fun c_1 => ?_)
      · have hf := ite_t c_1 hf
        refine lv_iload_n hx hb dX8_edgesOfPath_136 rfl (lv_at hl 2 rfl) ?_
        exact W.iret hx hb hr (fun t ht hW => ⟨_, rfl, some_i hf, ht⟩) (fun _ h => by cases h) dX8_edgesOfPath_137 (hlocks := hlk)
      · have hf := ite_f c_1 hf
        refine lv_iconst (v := 0) hx hb dX8_edgesOfPath_14 (by decide) ?_
        refine lv_istore (lv' := [(4, .int 0), (0, .ref (a_m 0)), (1, .int x1), (2, .int x2), (3, .int x3)]) hx hb dX8_edgesOfPath_15 hl (by decide) rfl (fun ls hl => ?_)
        exact B17 N x1 x2 x3 0 _ (lv_sub hl [1, 2, 3, 4, 0] rfl) hf
  refine lv_iconst (v := 0) hx hb dX8_edgesOfPath_0 (by decide) ?_
  refine lv_istore_n (lv' := [(2, .int 0), (0, .ref (a_m 0)), (1, .int p1)]) hx hb dX8_edgesOfPath_1 rfl hl (by decide) rfl (fun ls hl => ?_)
  refine lv_iconst (v := 0) hx hb dX8_edgesOfPath_2 (by decide) ?_
  refine lv_istore_n (lv' := [(3, .int 0), (2, .int 0), (0, .ref (a_m 0)), (1, .int p1)]) hx hb dX8_edgesOfPath_3 rfl hl (by decide) rfl (fun ls hl => ?_)
  exact B4 N p1 0 0 _ (lv_sub hl [2, 3, 1, 0] rfl) hf
set_option maxRecDepth 100000 in
set_option maxHeartbeats 4000000 in
theorem c_X8_nodesOfPath (l : Launch) (D : va_G) (cA : Nat → ClassId) (a_m : Nat → Nat) (m_s : Nat → Int32) (m_past : Nat → Int32) (m_pasts : Int32) (m_text : Nat → Int32) (m_typed : Int32) (m_faceOfSide : Nat → Int32) (m_firstSide : Nat → Int32) (m_faces : Int32) (m_before : Nat → Int32) (m_endA : Nat → Int32) (m_endB : Nat → Int32) (m_from : Nat → Int32) (m_queue : Nat → Int32) (m_ring : Nat → Int32) (m_ringSize : Nat → Int32) (m_ringNodes : Nat → Int32) (m_rings : Int32) (m_path : Nat → Int32) (m_pathSize : Int32) (m_old : Nat → Int32) (m_lastRing : Int32) (m_bestNodes : Int32) (m_bestInside : Int32) (m_bestFits : Int32) (m_far : Nat → Int32) (m_xs : Nat → UInt32) (m_ys : Nat → UInt32) (N : Nat) (ρ : Int32) (hf : f_X8_nodesOfPath N m_path m_pathSize = some ρ) : Met l yX8_nodesOfPath (Cond.code yX8_nodesOfPath cX8_nodesOfPath 3 (Option.some Jvm.ClassFile.FieldType.int) :: lw_g) ({ frames := 0, cells := 0, slots := 0, locals := 0 } : Room) (PcS D (tyA cA) (wX8 cA a_m m_s m_past m_pasts m_text m_typed m_faceOfSide m_firstSide m_faces m_before m_endA m_endB m_from m_queue m_ring m_ringSize m_ringNodes m_rings m_path m_pathSize m_old m_lastRing m_bestNodes m_bestInside m_bestFits m_far m_xs m_ys) [.ref (a_m 0)]) (vp_Si (fun r => r = ρ)) 0 0 (fun _ => False) := by
  refine mkS (by decide +kernel) (Nat.le_of_ble_eq_true rfl) fun p e s m below meth c ls C hl hP hK => ?_
  obtain ⟨hx, hb, hml, hown, hT, hr, hlk⟩ := id C
  have hl : lv_has ls 3 [(0, .ref (a_m 0))] := hl
  have B4 : ∀ (n4 : Nat), ∀ (x1 : Int32) (x2 : Int32) (ls : Array Slot), lv_has ls 3 [(0, .ref (a_m 0)), (1, .int x1), (2, .int x2)] → f_X8_nodesOfPath_b4 N m_path m_pathSize n4 x1 x2 = some ρ → W p l e ({ frames := 0, cells := 0, slots := 0, locals := 0 } : Room) s m ([.ref (a_m 0)] : List Value).toArray below meth c s.heap [] 0 0 (MQ below (vp_Si (fun r => r = ρ)) ([.ref (a_m 0)] : List Value).toArray s 0 0 (fun _ => False)) (F0 m 4 ls []) := by
    intro n4
    induction n4 with
    | zero =>
      intro x1 x2 ls hl hf
      cases (show (none : Option (Int32)) = some ρ from hf)
    | succ n4 ih4 =>
      intro x1 x2 ls hl hf
      refine lv_iload_n hx hb dX8_nodesOfPath_4 rfl (lv_at hl 2 rfl) ?_
      refine lv_aload_n hx hb dX8_nodesOfPath_5 rfl (lv_at hl 0 rfl) ?_
      refine va_get (D := D) (ci := 8) (C := RX8) (T := TX8) (N := 27) hx hb hT kwX8 hown hK.1 hP 0 rfl rfl 18 (by decide) (hT _ kf_X8_176) (fun _ h9 => h9) rfl dX8_nodesOfPath_6 ?_
      refine lv_icmp_ge (tgt := 29) hx hb dX8_nodesOfPath_9 (by decide) (fun c_1 => ?_) (fun c_1 => ?_)
      · have hf := ite_t c_1 hf
        refine lv_iload_n hx hb dX8_nodesOfPath_29 rfl (lv_at hl 1 rfl) ?_
        exact W.iret hx hb hr (fun t ht hW => ⟨_, rfl, some_i hf, ht⟩) (fun _ h => by cases h) dX8_nodesOfPath_30 (hlocks := hlk)
      · have hf := ite_f c_1 hf
        refine lv_iload_n hx hb dX8_nodesOfPath_12 rfl (lv_at hl 1 rfl) ?_
        refine lv_iconst (v := 1) hx hb dX8_nodesOfPath_13 (by decide) ?_
        refine lv_aload_n hx hb dX8_nodesOfPath_14 rfl (lv_at hl 0 rfl) ?_
        refine va_get (D := D) (ci := 8) (C := RX8) (T := TX8) (N := 27) hx hb hT kwX8 hown hK.1 hP 0 rfl rfl 17 (by decide) (hT _ kf_X8_50) (fun _ h9 => h9) rfl dX8_nodesOfPath_15 ?_
        refine lv_iload_n hx hb dX8_nodesOfPath_18 rfl (lv_at hl 2 rfl) ?_
        obtain ⟨h_2, hf⟩ := chk_s hf
        refine va_iald hx hb hK.1 hP 14 0 rfl rfl (inb_in h_2) dX8_nodesOfPath_19 ?_
        refine lv_ishl hx hb dX8_nodesOfPath_20 ?_
        refine lv_ior hx hb dX8_nodesOfPath_21 ?_
        refine lv_topi (fun x1_3 ex1_3 => ?_)
        have hf := nm_t ex1_3 hf
        refine lv_istore_n (lv' := [(1, .int x1_3), (0, .ref (a_m 0)), (2, .int x2)]) hx hb dX8_nodesOfPath_22 rfl hl (by decide) rfl (fun ls hl => ?_)
        refine lv_iinc (v := (x2 + 1)) (lv' := [(2, .int (x2 + 1)), (1, .int x1_3), (0, .ref (a_m 0))]) hx hb dX8_nodesOfPath_23 hl (k := 2) rfl rfl (by decide) rfl (fun ls hl => ?_)
        refine lv_goto (tgt := 4) hx hb dX8_nodesOfPath_26 (by decide) ?_
        exact ih4 x1_3 (x2 + 1) _ (lv_sub hl [2, 1, 0] rfl) hf
  refine lv_iconst (v := 0) hx hb dX8_nodesOfPath_0 (by decide) ?_
  refine lv_istore_n (lv' := [(1, .int 0), (0, .ref (a_m 0))]) hx hb dX8_nodesOfPath_1 rfl hl (by decide) rfl (fun ls hl => ?_)
  refine lv_iconst (v := 0) hx hb dX8_nodesOfPath_2 (by decide) ?_
  refine lv_istore_n (lv' := [(2, .int 0), (1, .int 0), (0, .ref (a_m 0))]) hx hb dX8_nodesOfPath_3 rfl hl (by decide) rfl (fun ls hl => ?_)
  exact B4 N 0 0 _ (lv_sub hl [2, 1, 0] rfl) hf
