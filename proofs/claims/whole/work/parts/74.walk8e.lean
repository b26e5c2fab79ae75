set_option maxRecDepth 100000 in
set_option maxHeartbeats 4000000 in
theorem c_X8_crossed (l : Launch) (D : va_G) (cA : Nat → ClassId) (a_m : Nat → Nat) (m_s : Nat → Int32) (m_past : Nat → Int32) (m_pasts : Int32) (m_text : Nat → Int32) (m_typed : Int32) (m_faceOfSide : Nat → Int32) (m_firstSide : Nat → Int32) (m_faces : Int32) (m_before : Nat → Int32) (m_endA : Nat → Int32) (m_endB : Nat → Int32) (m_from : Nat → Int32) (m_queue : Nat → Int32) (m_ring : Nat → Int32) (m_ringSize : Nat → Int32) (m_ringNodes : Nat → Int32) (m_rings : Int32) (m_path : Nat → Int32) (m_pathSize : Int32) (m_old : Nat → Int32) (m_lastRing : Int32) (m_bestNodes : Int32) (m_bestInside : Int32) (m_bestFits : Int32) (m_far : Nat → Int32) (m_xs : Nat → UInt32) (m_ys : Nat → UInt32) (p1 : Int32) (p2 : Int32) (p3 : Int32) (sz N : Nat) (ρ : Int32 × (Nat → Int32) × (Nat → Int32) × Int32 × (Nat → Int32)) (hf : f_X8_crossed N m_s m_faceOfSide m_firstSide m_faces m_far p1 p2 p3 = some ρ) : Met l yX8_crossed (Cond.code yX8_crossed cX8_crossed 14 (Option.some Jvm.ClassFile.FieldType.int) :: lw_g) ({ frames := 6, cells := 0, slots := 0, locals := 136 } : Room) (PcW D (tyA cA) (wX8 cA a_m m_s m_past m_pasts m_text m_typed m_faceOfSide m_firstSide m_faces m_before m_endA m_endB m_from m_queue m_ring m_ringSize m_ringNodes m_rings m_path m_pathSize m_old m_lastRing m_bestNodes m_bestInside m_bestFits m_far m_xs m_ys) sz [.ref (a_m 0), .int p1, .int p2, .int p3]) (va_Qi (fun r (_ : Unit) => r = ρ.1) (fun _ t => va_P D vwCl (wX8 cA a_m m_s m_past m_pasts m_text m_typed ρ.2.1 ρ.2.2.1 ρ.2.2.2.1 m_before m_endA m_endB m_from m_queue m_ring m_ringSize m_ringNodes m_rings m_path m_pathSize m_old m_lastRing m_bestNodes m_bestInside m_bestFits ρ.2.2.2.2 m_xs m_ys) t.heap ∧ va_D (va_A (wX8 cA a_m m_s m_past m_pasts m_text m_typed m_faceOfSide m_firstSide m_faces m_before m_endA m_endB m_from m_queue m_ring m_ringSize m_ringNodes m_rings m_path m_pathSize m_old m_lastRing m_bestNodes m_bestInside m_bestFits m_far m_xs m_ys) sz) (wX8 cA a_m m_s m_past m_pasts m_text m_typed ρ.2.1 ρ.2.2.1 ρ.2.2.2.1 m_before m_endA m_endB m_from m_queue m_ring m_ringSize m_ringNodes m_rings m_path m_pathSize m_old m_lastRing m_bestNodes m_bestInside m_bestFits ρ.2.2.2.2 m_xs m_ys)) (va_A (wX8 cA a_m m_s m_past m_pasts m_text m_typed m_faceOfSide m_firstSide m_faces m_before m_endA m_endB m_from m_queue m_ring m_ringSize m_ringNodes m_rings m_path m_pathSize m_old m_lastRing m_bestNodes m_bestInside m_bestFits m_far m_xs m_ys) sz)) 0 0 (va_A (wX8 cA a_m m_s m_past m_pasts m_text m_typed m_faceOfSide m_firstSide m_faces m_before m_endA m_endB m_from m_queue m_ring m_ringSize m_ringNodes m_rings m_path m_pathSize m_old m_lastRing m_bestNodes m_bestInside m_bestFits m_far m_xs m_ys) sz) := by
  refine mkW (QQ := fun A => va_Qi (fun r (_ : Unit) => r = ρ.1) (fun _ t => va_P D vwCl (wX8 cA a_m m_s m_past m_pasts m_text m_typed ρ.2.1 ρ.2.2.1 ρ.2.2.2.1 m_before m_endA m_endB m_from m_queue m_ring m_ringSize m_ringNodes m_rings m_path m_pathSize m_old m_lastRing m_bestNodes m_bestInside m_bestFits ρ.2.2.2.2 m_xs m_ys) t.heap ∧ va_D A (wX8 cA a_m m_s m_past m_pasts m_text m_typed ρ.2.1 ρ.2.2.1 ρ.2.2.2.1 m_before m_endA m_endB m_from m_queue m_ring m_ringSize m_ringNodes m_rings m_path m_pathSize m_old m_lastRing m_bestNodes m_bestInside m_bestFits ρ.2.2.2.2 m_xs m_ys)) A) (by decide) (Nat.le_of_ble_eq_true rfl) fun p e s m below meth c ls A C hl hP hK hD hA hS => ?_
  obtain ⟨hx, hb, hml, hown, hT, hr, hlk⟩ := id C
  have hl : lv_has ls 14 [(0, .ref (a_m 0)), (1, .int p1), (2, .int p2), (3, .int p3)] := hl
  have B110 : ∀ (n110 : Nat), ∀ (x3 : Int32) (x4 : Int32) (x5 : Int64) (x7 : Int32) (x8 : Int32) (m_faceOfSide : Nat → Int32) (m_firstSide : Nat → Int32) (m_faces : Int32) (m_far : Nat → Int32) (H : Heap) (locs : List Loc) (ls : Array Slot), lv_has ls 14 [(0, .ref (a_m 0)), (3, .int x3), (4, .int x4), (5, .long x5), (7, .int x7), (8, .int x8)] → va_P D vwCl (wX8 cA a_m m_s m_past m_pasts m_text m_typed m_faceOfSide m_firstSide m_faces m_before m_endA m_endB m_from m_queue m_ring m_ringSize m_ringNodes m_rings m_path m_pathSize m_old m_lastRing m_bestNodes m_bestInside m_bestFits m_far m_xs m_ys) H → va_D A (wX8 cA a_m m_s m_past m_pasts m_text m_typed m_faceOfSide m_firstSide m_faces m_before m_endA m_endB m_from m_queue m_ring m_ringSize m_ringNodes m_rings m_path m_pathSize m_old m_lastRing m_bestNodes m_bestInside m_bestFits m_far m_xs m_ys) → va_S A s.heap H locs → f_X8_crossed_b110 N m_s n110 x3 x4 x5 x7 x8 m_faceOfSide m_firstSide m_faces m_far = some ρ → W p l e ({ frames := 6, cells := 0, slots := 0, locals := 136 } : Room) s m ([.ref (a_m 0), .int p1, .int p2, .int p3] : List Value).toArray below meth c H locs 0 0 (MQ below (va_Qi (fun r (_ : Unit) => r = ρ.1) (fun _ t => va_P D vwCl (wX8 cA a_m m_s m_past m_pasts m_text m_typed ρ.2.1 ρ.2.2.1 ρ.2.2.2.1 m_before m_endA m_endB m_from m_queue m_ring m_ringSize m_ringNodes m_rings m_path m_pathSize m_old m_lastRing m_bestNodes m_bestInside m_bestFits ρ.2.2.2.2 m_xs m_ys) t.heap ∧ va_D A (wX8 cA a_m m_s m_past m_pasts m_text m_typed ρ.2.1 ρ.2.2.1 ρ.2.2.2.1 m_before m_endA m_endB m_from m_queue m_ring m_ringSize m_ringNodes m_rings m_path m_pathSize m_old m_lastRing m_bestNodes m_bestInside m_bestFits ρ.2.2.2.2 m_xs m_ys)) A) ([.ref (a_m 0), .int p1, .int p2, .int p3] : List Value).toArray s 0 0 A) (F0 m 110 ls []) := by
    intro n110
    induction n110 with
    | zero =>
      intro x3 x4 x5 x7 x8 m_faceOfSide m_firstSide m_faces m_far H locs ls hl hP hD hS hf
      cases (show (none : Option (Int32 × (Nat → Int32) × (Nat → Int32) × Int32 × (Nat → Int32))) = some ρ from hf)
    | succ n110 ih110 =>
      have B267 : ∀ (x3 : Int32) (x4 : Int32) (x7 : Int32) (x8 : Int32) (x9 : Int64) (m_faceOfSide : Nat → Int32) (m_firstSide : Nat → Int32) (m_faces : Int32) (m_far : Nat → Int32) (H : Heap) (locs : List Loc) (ls : Array Slot), lv_has ls 14 [(0, .ref (a_m 0)), (3, .int x3), (4, .int x4), (7, .int x7), (8, .int x8), (9, .long x9)] → va_P D vwCl (wX8 cA a_m m_s m_past m_pasts m_text m_typed m_faceOfSide m_firstSide m_faces m_before m_endA m_endB m_from m_queue m_ring m_ringSize m_ringNodes m_rings m_path m_pathSize m_old m_lastRing m_bestNodes m_bestInside m_bestFits m_far m_xs m_ys) H → va_D A (wX8 cA a_m m_s m_past m_pasts m_text m_typed m_faceOfSide m_firstSide m_faces m_before m_endA m_endB m_from m_queue m_ring m_ringSize m_ringNodes m_rings m_path m_pathSize m_old m_lastRing m_bestNodes m_bestInside m_bestFits m_far m_xs m_ys) → va_S A s.heap H locs → f_X8_crossed_b267 N m_s (f_X8_crossed_b110 N m_s n110) x3 x4 x7 x8 x9 m_faceOfSide m_firstSide m_faces m_far = some ρ → W p l e ({ frames := 6, cells := 0, slots := 0, locals := 136 } : Room) s m ([.ref (a_m 0), .int p1, .int p2, .int p3] : List Value).toArray below meth c H locs 0 0 (MQ below (va_Qi (fun r (_ : Unit) => r = ρ.1) (fun _ t => va_P D vwCl (wX8 cA a_m m_s m_past m_pasts m_text m_typed ρ.2.1 ρ.2.2.1 ρ.2.2.2.1 m_before m_endA m_endB m_from m_queue m_ring m_ringSize m_ringNodes m_rings m_path m_pathSize m_old m_lastRing m_bestNodes m_bestInside m_bestFits ρ.2.2.2.2 m_xs m_ys) t.heap ∧ va_D A (wX8 cA a_m m_s m_past m_pasts m_text m_typed ρ.2.1 ρ.2.2.1 ρ.2.2.2.1 m_before m_endA m_endB m_from m_queue m_ring m_ringSize m_ringNodes m_rings m_path m_pathSize m_old m_lastRing m_bestNodes m_bestInside m_bestFits ρ.2.2.2.2 m_xs m_ys)) A) ([.ref (a_m 0), .int p1, .int p2, .int p3] : List Value).toArray s 0 0 A) (F0 m 267 ls []) := by
        intro x3 x4 x7 x8 x9 m_faceOfSide m_firstSide m_faces m_far H locs ls hl hP hD hS hf
        refine lv_lload hx hb dX8_crossed_267 (lv_at hl 5 rfl) ?_
        refine lv_lstore (lv' := [(5, .long x9), (0, .ref (a_m 0)), (3, .int x3), (4, .int x4), (7, .int x7), (8, .int x8), (9, .long x9)]) hx hb dX8_crossed_269 hl (by decide) rfl (fun ls hl => ?_)
        refine lv_iinc (v := (x8 + 1)) (lv' := [(8, .int (x8 + 1)), (5, .long x9), (0, .ref (a_m 0)), (3, .int x3), (4, .int x4), (7, .int x7), (9, .long x9)]) hx hb dX8_crossed_271 hl (k := 5) rfl rfl (by decide) rfl (fun ls hl => ?_)
        refine lv_goto (tgt := 110) hx hb dX8_crossed_274 (by decide) ?_
        exact ih110 x3 x4 x9 x7 (x8 + 1) m_faceOfSide m_firstSide m_faces m_far _ _ _ (lv_sub hl [2, 3, 4, 1, 5, 0] rfl) hP hD hS hf
      have B129 : ∀ (n129 : Nat), ∀ (x3 : Int32) (x4 : Int32) (x5 : Int64) (x7 : Int32) (x8 : Int32) (x9 : Int64) (x11 : Int32) (m_faceOfSide : Nat → Int32) (m_firstSide : Nat → Int32) (m_faces : Int32) (m_far : Nat → Int32) (H : Heap) (locs : List Loc) (ls : Array Slot), lv_has ls 14 [(0, .ref (a_m 0)), (3, .int x3), (4, .int x4), (5, .long x5), (7, .int x7), (8, .int x8), (9, .long x9), (11, .int x11)] → va_P D vwCl (wX8 cA a_m m_s m_past m_pasts m_text m_typed m_faceOfSide m_firstSide m_faces m_before m_endA m_endB m_from m_queue m_ring m_ringSize m_ringNodes m_rings m_path m_pathSize m_old m_lastRing m_bestNodes m_bestInside m_bestFits m_far m_xs m_ys) H → va_D A (wX8 cA a_m m_s m_past m_pasts m_text m_typed m_faceOfSide m_firstSide m_faces m_before m_endA m_endB m_from m_queue m_ring m_ringSize m_ringNodes m_rings m_path m_pathSize m_old m_lastRing m_bestNodes m_bestInside m_bestFits m_far m_xs m_ys) → va_S A s.heap H locs → f_X8_crossed_b129 N m_s (f_X8_crossed_b110 N m_s n110) n129 x3 x4 x5 x7 x8 x9 x11 m_faceOfSide m_firstSide m_faces m_far = some ρ → W p l e ({ frames := 6, cells := 0, slots := 0, locals := 136 } : Room) s m ([.ref (a_m 0), .int p1, .int p2, .int p3] : List Value).toArray below meth c H locs 0 0 (MQ below (va_Qi (fun r (_ : Unit) => r = ρ.1) (fun _ t => va_P D vwCl (wX8 cA a_m m_s m_past m_pasts m_text m_typed ρ.2.1 ρ.2.2.1 ρ.2.2.2.1 m_before m_endA m_endB m_from m_queue m_ring m_ringSize m_ringNodes m_rings m_path m_pathSize m_old m_lastRing m_bestNodes m_bestInside m_bestFits ρ.2.2.2.2 m_xs m_ys) t.heap ∧ va_D A (wX8 cA a_m m_s m_past m_pasts m_text m_typed ρ.2.1 ρ.2.2.1 ρ.2.2.2.1 m_before m_endA m_endB m_from m_queue m_ring m_ringSize m_ringNodes m_rings m_path m_pathSize m_old m_lastRing m_bestNodes m_bestInside m_bestFits ρ.2.2.2.2 m_xs m_ys)) A) ([.ref (a_m 0), .int p1, .int p2, .int p3] : List Value).toArray s 0 0 A) (F0 m 129 ls []) := by
        intro n129
        induction n129 with
        | zero =>
          intro x3 x4 x5 x7 x8 x9 x11 m_faceOfSide m_firstSide m_faces m_far H locs ls hl hP hD hS hf
          cases (show (none : Option (Int32 × (Nat → Int32) × (Nat → Int32) × Int32 × (Nat → Int32))) = some ρ from hf)
        | succ n129 ih129 =>
          have B259 : ∀ (x3 : Int32) (x4 : Int32) (x5 : Int64) (x8 : Int32) (x9 : Int64) (x11 : Int32) (y0 : Int32) (m_faceOfSide : Nat → Int32) (m_firstSide : Nat → Int32) (m_faces : Int32) (m_far : Nat → Int32) (H : Heap) (locs : List Loc) (ls : Array Slot), lv_has ls 14 [(0, .ref (a_m 0)), (3, .int x3), (4, .int x4), (5, .long x5), (8, .int x8), (9, .long x9), (11, .int x11)] → va_P D vwCl (wX8 cA a_m m_s m_past m_pasts m_text m_typed m_faceOfSide m_firstSide m_faces m_before m_endA m_endB m_from m_queue m_ring m_ringSize m_ringNodes m_rings m_path m_pathSize m_old m_lastRing m_bestNodes m_bestInside m_bestFits m_far m_xs m_ys) H → va_D A (wX8 cA a_m m_s m_past m_pasts m_text m_typed m_faceOfSide m_firstSide m_faces m_before m_endA m_endB m_from m_queue m_ring m_ringSize m_ringNodes m_rings m_path m_pathSize m_old m_lastRing m_bestNodes m_bestInside m_bestFits m_far m_xs m_ys) → va_S A s.heap H locs → f_X8_crossed_b259 N m_s (f_X8_crossed_b110 N m_s n110) (f_X8_crossed_b129 N m_s (f_X8_crossed_b110 N m_s n110) n129) x3 x4 x5 x8 x9 x11 y0 m_faceOfSide m_firstSide m_faces m_far = some ρ → W p l e ({ frames := 6, cells := 0, slots := 0, locals := 136 } : Room) s m ([.ref (a_m 0), .int p1, .int p2, .int p3] : List Value).toArray below meth c H locs 0 0 (MQ below (va_Qi (fun r (_ : Unit) => r = ρ.1) (fun _ t => va_P D vwCl (wX8 cA a_m m_s m_past m_pasts m_text m_typed ρ.2.1 ρ.2.2.1 ρ.2.2.2.1 m_before m_endA m_endB m_from m_queue m_ring m_ringSize m_ringNodes m_rings m_path m_pathSize m_old m_lastRing m_bestNodes m_bestInside m_bestFits ρ.2.2.2.2 m_xs m_ys) t.heap ∧ va_D A (wX8 cA a_m m_s m_past m_pasts m_text m_typed ρ.2.1 ρ.2.2.1 ρ.2.2.2.1 m_before m_endA m_endB m_from m_queue m_ring m_ringSize m_ringNodes m_rings m_path m_pathSize m_old m_lastRing m_bestNodes m_bestInside m_bestFits ρ.2.2.2.2 m_xs m_ys)) A) ([.ref (a_m 0), .int p1, .int p2, .int p3] : List Value).toArray s 0 0 A) (F0 m 259 ls [.int y0]) := by
            intro x3 x4 x5 x8 x9 x11 y0 m_faceOfSide m_firstSide m_faces m_far H locs ls hl hP hD hS hf
            refine lv_istore (lv' := [(7, .int y0), (0, .ref (a_m 0)), (3, .int x3), (4, .int x4), (5, .long x5), (8, .int x8), (9, .long x9), (11, .int x11)]) hx hb dX8_crossed_259 hl (by decide) rfl (fun ls hl => ?_)
            refine lv_iinc (v := (x11 + 1)) (lv' := [(11, .int (x11 + 1)), (7, .int y0), (0, .ref (a_m 0)), (3, .int x3), (4, .int x4), (5, .long x5), (8, .int x8), (9, .long x9)]) hx hb dX8_crossed_261 hl (k := 7) rfl rfl (by decide) rfl (fun ls hl => ?_)
            refine lv_goto (tgt := 129) hx hb dX8_crossed_264 (by decide) ?_
            exact ih129 x3 x4 x5 y0 x8 x9 (x11 + 1) m_faceOfSide m_firstSide m_faces m_far _ _ _ (lv_sub hl [2, 3, 4, 5, 1, 6, 7, 0] rfl) hP hD hS hf
          have B242 : ∀ (x3 : Int32) (x4 : Int32) (x5 : Int64) (x8 : Int32) (x11 : Int32) (y0 : Int64) (y1 : Int64) (m_faceOfSide : Nat → Int32) (m_firstSide : Nat → Int32) (m_faces : Int32) (m_far : Nat → Int32) (H : Heap) (locs : List Loc) (ls : Array Slot), lv_has ls 14 [(0, .ref (a_m 0)), (3, .int x3), (4, .int x4), (5, .long x5), (8, .int x8), (11, .int x11)] → va_P D vwCl (wX8 cA a_m m_s m_past m_pasts m_text m_typed m_faceOfSide m_firstSide m_faces m_before m_endA m_endB m_from m_queue m_ring m_ringSize m_ringNodes m_rings m_path m_pathSize m_old m_lastRing m_bestNodes m_bestInside m_bestFits m_far m_xs m_ys) H → va_D A (wX8 cA a_m m_s m_past m_pasts m_text m_typed m_faceOfSide m_firstSide m_faces m_before m_endA m_endB m_from m_queue m_ring m_ringSize m_ringNodes m_rings m_path m_pathSize m_old m_lastRing m_bestNodes m_bestInside m_bestFits m_far m_xs m_ys) → va_S A s.heap H locs → f_X8_crossed_b242 N m_s (f_X8_crossed_b110 N m_s n110) (f_X8_crossed_b129 N m_s (f_X8_crossed_b110 N m_s n110) n129) x3 x4 x5 x8 x11 y0 y1 m_faceOfSide m_firstSide m_faces m_far = some ρ → W p l e ({ frames := 6, cells := 0, slots := 0, locals := 136 } : Room) s m ([.ref (a_m 0), .int p1, .int p2, .int p3] : List Value).toArray below meth c H locs 0 0 (MQ below (va_Qi (fun r (_ : Unit) => r = ρ.1) (fun _ t => va_P D vwCl (wX8 cA a_m m_s m_past m_pasts m_text m_typed ρ.2.1 ρ.2.2.1 ρ.2.2.2.1 m_before m_endA m_endB m_from m_queue m_ring m_ringSize m_ringNodes m_rings m_path m_pathSize m_old m_lastRing m_bestNodes m_bestInside m_bestFits ρ.2.2.2.2 m_xs m_ys) t.heap ∧ va_D A (wX8 cA a_m m_s m_past m_pasts m_text m_typed ρ.2.1 ρ.2.2.1 ρ.2.2.2.1 m_before m_endA m_endB m_from m_queue m_ring m_ringSize m_ringNodes m_rings m_path m_pathSize m_old m_lastRing m_bestNodes m_bestInside m_bestFits ρ.2.2.2.2 m_xs m_ys)) A) ([.ref (a_m 0), .int p1, .int p2, .int p3] : List Value).toArray s 0 0 A) (F0 m 242 ls [.long y1, .long y0]) := by
            intro x3 x4 x5 x8 x11 y0 y1 m_faceOfSide m_firstSide m_faces m_far H locs ls hl hP hD hS hf
            refine lv_lor hx hb dX8_crossed_242 ?_
            refine lv_topl (fun x9_33 ex9_33 => ?_)
            have hf := nm_t ex9_33 hf
            refine lv_lstore (lv' := [(9, .long x9_33), (0, .ref (a_m 0)), (3, .int x3), (4, .int x4), (5, .long x5), (8, .int x8), (11, .int x11)]) hx hb dX8_crossed_243 hl (by decide) rfl (fun ls hl => ?_)
            refine lv_lload hx hb dX8_crossed_245 (lv_at hl 0 rfl) ?_
            refine lv_lconst (v := 0) hx hb dX8_crossed_247 (by decide) ?_
            refine W.lcmp hx hb dX8_crossed_248 ?_
            refine lv_if_eq (tgt := 257) hx hb dX8_crossed_249 (by decide) (fun c_34 => ?_) (fun c_34 => ?_)
            · have hf := ite_t c_34 hf
              refine lv_bipush (v := (-9)) hx hb dX8_crossed_257 (by decide) ?_
              exact B259 x3 x4 x5 x8 x9_33 x11 (-9) m_faceOfSide m_firstSide m_faces m_far _ _ _ (lv_sub hl [1, 2, 3, 4, 5, 0, 6] rfl) hP hD hS hf
            · have hf := ite_f c_34 hf
              refine lv_iload hx hb dX8_crossed_252 (lv_at hl 6 rfl) ?_
              refine lv_goto (tgt := 259) hx hb dX8_crossed_254 (by decide) ?_
              exact B259 x3 x4 x5 x8 x9_33 x11 x11 m_faceOfSide m_firstSide m_faces m_far _ _ _ (lv_sub hl [1, 2, 3, 4, 5, 0, 6] rfl) hP hD hS hf
          have B241 : ∀ (x3 : Int32) (x4 : Int32) (x5 : Int64) (x8 : Int32) (x11 : Int32) (y0 : Int64) (m_faceOfSide : Nat → Int32) (m_firstSide : Nat → Int32) (m_faces : Int32) (m_far : Nat → Int32) (H : Heap) (locs : List Loc) (ls : Array Slot), lv_has ls 14 [(0, .ref (a_m 0)), (3, .int x3), (4, .int x4), (5, .long x5), (8, .int x8), (11, .int x11)] → va_P D vwCl (wX8 cA a_m m_s m_past m_pasts m_text m_typed m_faceOfSide m_firstSide m_faces m_before m_endA m_endB m_from m_queue m_ring m_ringSize m_ringNodes m_rings m_path m_pathSize m_old m_lastRing m_bestNodes m_bestInside m_bestFits m_far m_xs m_ys) H → va_D A (wX8 cA a_m m_s m_past m_pasts m_text m_typed m_faceOfSide m_firstSide m_faces m_before m_endA m_endB m_from m_queue m_ring m_ringSize m_ringNodes m_rings m_path m_pathSize m_old m_lastRing m_bestNodes m_bestInside m_bestFits m_far m_xs m_ys) → va_S A s.heap H locs → f_X8_crossed_b241 N m_s (f_X8_crossed_b110 N m_s n110) (f_X8_crossed_b129 N m_s (f_X8_crossed_b110 N m_s n110) n129) x3 x4 x5 x8 x11 y0 m_faceOfSide m_firstSide m_faces m_far = some ρ → W p l e ({ frames := 6, cells := 0, slots := 0, locals := 136 } : Room) s m ([.ref (a_m 0), .int p1, .int p2, .int p3] : List Value).toArray below meth c H locs 0 0 (MQ below (va_Qi (fun r (_ : Unit) => r = ρ.1) (fun _ t => va_P D vwCl (wX8 cA a_m m_s m_past m_pasts m_text m_typed ρ.2.1 ρ.2.2.1 ρ.2.2.2.1 m_before m_endA m_endB m_from m_queue m_ring m_ringSize m_ringNodes m_rings m_path m_pathSize m_old m_lastRing m_bestNodes m_bestInside m_bestFits ρ.2.2.2.2 m_xs m_ys) t.heap ∧ va_D A (wX8 cA a_m m_s m_past m_pasts m_text m_typed ρ.2.1 ρ.2.2.1 ρ.2.2.2.1 m_before m_endA m_endB m_from m_queue m_ring m_ringSize m_ringNodes m_rings m_path m_pathSize m_old m_lastRing m_bestNodes m_bestInside m_bestFits ρ.2.2.2.2 m_xs m_ys)) A) ([.ref (a_m 0), .int p1, .int p2, .int p3] : List Value).toArray s 0 0 A) (F0 m 241 ls [.long y0]) := by
            intro x3 x4 x5 x8 x11 y0 m_faceOfSide m_firstSide m_faces m_far H locs ls hl hP hD hS hf
            refine lv_lconst (v := 0) hx hb dX8_crossed_241 (by decide) ?_
            exact B242 x3 x4 x5 x8 x11 y0 (0 : Int64) m_faceOfSide m_firstSide m_faces m_far _ _ _ (lv_sub hl [0, 1, 2, 3, 4, 5] rfl) hP hD hS hf
          have B205 : ∀ (x3 : Int32) (x4 : Int32) (x5 : Int64) (x8 : Int32) (x11 : Int32) (x12 : Int32) (x13 : Int32) (y0 : Int64) (y1 : Int64) (m_faceOfSide : Nat → Int32) (m_firstSide : Nat → Int32) (m_faces : Int32) (m_far : Nat → Int32) (H : Heap) (locs : List Loc) (ls : Array Slot), lv_has ls 14 [(0, .ref (a_m 0)), (3, .int x3), (4, .int x4), (5, .long x5), (8, .int x8), (11, .int x11), (12, .int x12), (13, .int x13)] → va_P D vwCl (wX8 cA a_m m_s m_past m_pasts m_text m_typed m_faceOfSide m_firstSide m_faces m_before m_endA m_endB m_from m_queue m_ring m_ringSize m_ringNodes m_rings m_path m_pathSize m_old m_lastRing m_bestNodes m_bestInside m_bestFits m_far m_xs m_ys) H → va_D A (wX8 cA a_m m_s m_past m_pasts m_text m_typed m_faceOfSide m_firstSide m_faces m_before m_endA m_endB m_from m_queue m_ring m_ringSize m_ringNodes m_rings m_path m_pathSize m_old m_lastRing m_bestNodes m_bestInside m_bestFits m_far m_xs m_ys) → va_S A s.heap H locs → f_X8_crossed_b205 N m_s (f_X8_crossed_b110 N m_s n110) (f_X8_crossed_b129 N m_s (f_X8_crossed_b110 N m_s n110) n129) x3 x4 x5 x8 x11 x12 x13 y0 y1 m_faceOfSide m_firstSide m_faces m_far = some ρ → W p l e ({ frames := 6, cells := 0, slots := 0, locals := 136 } : Room) s m ([.ref (a_m 0), .int p1, .int p2, .int p3] : List Value).toArray below meth c H locs 0 0 (MQ below (va_Qi (fun r (_ : Unit) => r = ρ.1) (fun _ t => va_P D vwCl (wX8 cA a_m m_s m_past m_pasts m_text m_typed ρ.2.1 ρ.2.2.1 ρ.2.2.2.1 m_before m_endA m_endB m_from m_queue m_ring m_ringSize m_ringNodes m_rings m_path m_pathSize m_old m_lastRing m_bestNodes m_bestInside m_bestFits ρ.2.2.2.2 m_xs m_ys) t.heap ∧ va_D A (wX8 cA a_m m_s m_past m_pasts m_text m_typed ρ.2.1 ρ.2.2.1 ρ.2.2.2.1 m_before m_endA m_endB m_from m_queue m_ring m_ringSize m_ringNodes m_rings m_path m_pathSize m_old m_lastRing m_bestNodes m_bestInside m_bestFits ρ.2.2.2.2 m_xs m_ys)) A) ([.ref (a_m 0), .int p1, .int p2, .int p3] : List Value).toArray s 0 0 A) (F0 m 205 ls [.long y1, .long y0]) := by
            intro x3 x4 x5 x8 x11 x12 x13 y0 y1 m_faceOfSide m_firstSide m_faces m_far H locs ls hl hP hD hS hf
            refine lv_lor hx hb dX8_crossed_205 ?_
            refine lv_topl (fun x9_29 ex9_29 => ?_)
            have hf := nm_t ex9_29 hf
            refine lv_lstore (lv' := [(9, .long x9_29), (0, .ref (a_m 0)), (3, .int x3), (4, .int x4), (5, .long x5), (8, .int x8), (11, .int x11), (12, .int x12), (13, .int x13)]) hx hb dX8_crossed_206 hl (by decide) rfl (fun ls hl => ?_)
            refine lv_lload hx hb dX8_crossed_208 (lv_at hl 0 rfl) ?_
            refine lv_lload hx hb dX8_crossed_210 (lv_at hl 4 rfl) ?_
            refine lv_iload hx hb dX8_crossed_212 (lv_at hl 8 rfl) ?_
            refine lv_lshr (v := x5 >>> ((x13 : Int32).toInt64 &&& 63)) hx hb dX8_crossed_214 rfl ?_
            refine lv_lconst (v := 1) hx hb dX8_crossed_215 (by decide) ?_
            refine lv_land hx hb dX8_crossed_216 ?_
            refine lv_lconst (v := 1) hx hb dX8_crossed_217 (by decide) ?_
            refine W.lcmp hx hb dX8_crossed_218 ?_
            refine lv_if_ne (tgt := 241) hx hb dX8_crossed_219 (by decide) (fun c_30 => ?_) (fun c_30 => ?_)
            · have hf := ite_t c_30 hf
              exact B241 x3 x4 x5 x8 x11 x9_29 m_faceOfSide m_firstSide m_faces m_far _ _ _ (lv_sub hl [1, 2, 3, 4, 5, 6] rfl) hP hD hS hf
            · have hf := ite_fn c_30 hf
              refine lv_aload_n hx hb dX8_crossed_222 rfl (lv_at hl 1 rfl) ?_
              refine va_get (D := D) (ci := 8) (C := RX8) (T := TX8) (N := 27) hx hb hT kwX8 hown hK.1 hP 0 rfl rfl 24 (by decide) (hT _ kf_X8_56) (fun _ h9 => h9) rfl dX8_crossed_223 ?_
              refine lv_iload hx hb dX8_crossed_226 (lv_at hl 7 rfl) ?_
              obtain ⟨h_31, hf⟩ := chk_s hf
              refine va_iald hx hb hK.1 hP 16 0 rfl rfl (inb_in h_31) dX8_crossed_228 ?_
              refine lv_iload hx hb dX8_crossed_229 (lv_at hl 3 rfl) ?_
              refine lv_icmp_ne (tgt := 241) hx hb dX8_crossed_231 (by decide) (fun c_32 => ?_) (fun c_32 => ?_)
              · have hf := ite_t c_32 hf
                exact B241 x3 x4 x5 x8 x11 x9_29 m_faceOfSide m_firstSide m_faces m_far _ _ _ (lv_sub hl [1, 2, 3, 4, 5, 6] rfl) hP hD hS hf
              · have hf := ite_fn c_32 hf
                refine lv_lconst (v := 1) hx hb dX8_crossed_234 (by decide) ?_
                refine lv_iload hx hb dX8_crossed_235 (lv_at hl 7 rfl) ?_
                refine lv_lshl (v := (1 : Int64) <<< ((x12 : Int32).toInt64 &&& 63)) hx hb dX8_crossed_237 rfl ?_
                refine lv_goto (tgt := 242) hx hb dX8_crossed_238 (by decide) ?_
                exact B242 x3 x4 x5 x8 x11 x9_29 ((1 : Int64) <<< ((x12 : Int32).toInt64 &&& 63)) m_faceOfSide m_firstSide m_faces m_far _ _ _ (lv_sub hl [1, 2, 3, 4, 5, 6] rfl) hP hD hS hf
          have B204 : ∀ (x3 : Int32) (x4 : Int32) (x5 : Int64) (x8 : Int32) (x11 : Int32) (x12 : Int32) (x13 : Int32) (y0 : Int64) (m_faceOfSide : Nat → Int32) (m_firstSide : Nat → Int32) (m_faces : Int32) (m_far : Nat → Int32) (H : Heap) (locs : List Loc) (ls : Array Slot), lv_has ls 14 [(0, .ref (a_m 0)), (3, .int x3), (4, .int x4), (5, .long x5), (8, .int x8), (11, .int x11), (12, .int x12), (13, .int x13)] → va_P D vwCl (wX8 cA a_m m_s m_past m_pasts m_text m_typed m_faceOfSide m_firstSide m_faces m_before m_endA m_endB m_from m_queue m_ring m_ringSize m_ringNodes m_rings m_path m_pathSize m_old m_lastRing m_bestNodes m_bestInside m_bestFits m_far m_xs m_ys) H → va_D A (wX8 cA a_m m_s m_past m_pasts m_text m_typed m_faceOfSide m_firstSide m_faces m_before m_endA m_endB m_from m_queue m_ring m_ringSize m_ringNodes m_rings m_path m_pathSize m_old m_lastRing m_bestNodes m_bestInside m_bestFits m_far m_xs m_ys) → va_S A s.heap H locs → f_X8_crossed_b204 N m_s (f_X8_crossed_b110 N m_s n110) (f_X8_crossed_b129 N m_s (f_X8_crossed_b110 N m_s n110) n129) x3 x4 x5 x8 x11 x12 x13 y0 m_faceOfSide m_firstSide m_faces m_far = some ρ → W p l e ({ frames := 6, cells := 0, slots := 0, locals := 136 } : Room) s m ([.ref (a_m 0), .int p1, .int p2, .int p3] : List Value).toArray below meth c H locs 0 0 (MQ below (va_Qi (fun r (_ : Unit) => r = ρ.1) (fun _ t => va_P D vwCl (wX8 cA a_m m_s m_past m_pasts m_text m_typed ρ.2.1 ρ.2.2.1 ρ.2.2.2.1 m_before m_endA m_endB m_from m_queue m_ring m_ringSize m_ringNodes m_rings m_path m_pathSize m_old m_lastRing m_bestNodes m_bestInside m_bestFits ρ.2.2.2.2 m_xs m_ys) t.heap ∧ va_D A (wX8 cA a_m m_s m_past m_pasts m_text m_typed ρ.2.1 ρ.2.2.1 ρ.2.2.2.1 m_before m_endA m_endB m_from m_queue m_ring m_ringSize m_ringNodes m_rings m_path m_pathSize m_old m_lastRing m_bestNodes m_bestInside m_bestFits ρ.2.2.2.2 m_xs m_ys)) A) ([.ref (a_m 0), .int p1, .int p2, .int p3] : List Value).toArray s 0 0 A) (F0 m 204 ls [.long y0]) := by
            intro x3 x4 x5 x8 x11 x12 x13 y0 m_faceOfSide m_firstSide m_faces m_far H locs ls hl hP hD hS hf
            refine lv_lconst (v := 0) hx hb dX8_crossed_204 (by decide) ?_
            exact B205 x3 x4 x5 x8 x11 x12 x13 y0 (0 : Int64) m_faceOfSide m_firstSide m_faces m_far _ _ _ (lv_sub hl [0, 1, 2, 3, 4, 5, 6, 7] rfl) hP hD hS hf
          intro x3 x4 x5 x7 x8 x9 x11 m_faceOfSide m_firstSide m_faces m_far H locs ls hl hP hD hS hf
          refine lv_iload hx hb dX8_crossed_129 (lv_at hl 7 rfl) ?_
          refine lv_aload_n hx hb dX8_crossed_131 rfl (lv_at hl 0 rfl) ?_
          refine va_get (D := D) (ci := 8) (C := RX8) (T := TX8) (N := 27) hx hb hT kwX8 hown hK.1 hP 0 rfl rfl 0 (by decide) (hT _ kf_X8_7) (fun _ h9 => h9) rfl dX8_crossed_132 ?_
          refine lv_iconst (v := 1) hx hb dX8_crossed_135 (by decide) ?_
          obtain ⟨h_19, hf⟩ := chk_s hf
          refine va_iald hx hb hK.1 hP 1 0 rfl rfl (inb_in h_19) dX8_crossed_136 ?_
          refine lv_icmp_ge (tgt := 267) hx hb dX8_crossed_137 (by decide) (fun c_20 => ?_) (fun c_20 => ?_)
          · have hf := ite_t c_20 hf
            exact B267 x3 x4 x7 x8 x9 m_faceOfSide m_firstSide m_faces m_far _ _ _ (lv_sub hl [0, 1, 2, 4, 5, 6] rfl) hP hD hS hf
          · have hf := ite_f c_20 hf
            refine lv_iload hx hb dX8_crossed_140 (lv_at hl 4 rfl) ?_
            refine lv_bipush (v := (-9)) hx hb dX8_crossed_142 (by decide) ?_
            refine lv_icmp_ne (tgt := 267) hx hb dX8_crossed_144 (by decide) (fun c_21 => ?_) (fun c_21 => ?_)
            · have hf := ite_t c_21 hf
              exact B267 x3 x4 x7 x8 x9 m_faceOfSide m_firstSide m_faces m_far _ _ _ (lv_sub hl [0, 1, 2, 4, 5, 6] rfl) hP hD hS hf
            · have hf := ite_fn c_21 hf
              refine lv_aload_n hx hb dX8_crossed_147 rfl (lv_at hl 0 rfl) ?_
              refine va_get (D := D) (ci := 8) (C := RX8) (T := TX8) (N := 27) hx hb hT kwX8 hown hK.1 hP 0 rfl rfl 5 (by decide) (hT _ kf_X8_20) (fun _ h9 => h9) rfl dX8_crossed_148 ?_
              refine lv_iconst (v := 2) hx hb dX8_crossed_151 (by decide) ?_
              refine lv_iload hx hb dX8_crossed_152 (lv_at hl 7 rfl) ?_
              refine lv_imul hx hb dX8_crossed_154 ?_
              obtain ⟨h_22, hf⟩ := chk_s hf
              refine va_iald hx hb hK.1 hP 4 0 rfl rfl (inb_in h_22) dX8_crossed_155 ?_
              refine lv_topi (fun x12_23 ex12_23 => ?_)
              have hf := nm_t ex12_23 hf
              refine lv_istore (lv' := [(12, .int x12_23), (0, .ref (a_m 0)), (3, .int x3), (4, .int x4), (5, .long x5), (7, .int x7), (8, .int x8), (9, .long x9), (11, .int x11)]) hx hb dX8_crossed_156 hl (by decide) rfl (fun ls hl => ?_)
              refine lv_aload_n hx hb dX8_crossed_158 rfl (lv_at hl 1 rfl) ?_
              refine va_get (D := D) (ci := 8) (C := RX8) (T := TX8) (N := 27) hx hb hT kwX8 hown hK.1 hP 0 rfl rfl 5 (by decide) (hT _ kf_X8_20) (fun _ h9 => h9) rfl dX8_crossed_159 ?_
              refine lv_iconst (v := 2) hx hb dX8_crossed_162 (by decide) ?_
              refine lv_iload hx hb dX8_crossed_163 (lv_at hl 8 rfl) ?_
              refine lv_imul hx hb dX8_crossed_165 ?_
              refine lv_iconst (v := 1) hx hb dX8_crossed_166 (by decide) ?_
              refine lv_iadd hx hb dX8_crossed_167 ?_
              obtain ⟨h_24, hf⟩ := chk_s hf
              refine va_iald hx hb hK.1 hP 4 0 rfl rfl (inb_in h_24) dX8_crossed_168 ?_
              refine lv_topi (fun x13_25 ex13_25 => ?_)
              have hf := nm_t ex13_25 hf
              refine lv_istore (lv' := [(13, .int x13_25), (12, .int x12_23), (0, .ref (a_m 0)), (3, .int x3), (4, .int x4), (5, .long x5), (7, .int x7), (8, .int x8), (9, .long x9), (11, .int x11)]) hx hb dX8_crossed_169 hl (by decide) rfl (fun ls hl => ?_)
              refine lv_lload hx hb dX8_crossed_171 (lv_at hl 8 rfl) ?_
              refine lv_lload hx hb dX8_crossed_173 (lv_at hl 5 rfl) ?_
              refine lv_iload hx hb dX8_crossed_175 (lv_at hl 1 rfl) ?_
              refine lv_lshr (v := x5 >>> ((x12_23 : Int32).toInt64 &&& 63)) hx hb dX8_crossed_177 rfl ?_
              refine lv_lconst (v := 1) hx hb dX8_crossed_178 (by decide) ?_
              refine lv_land hx hb dX8_crossed_179 ?_
              refine lv_lconst (v := 1) hx hb dX8_crossed_180 (by decide) ?_
              refine W.lcmp hx hb dX8_crossed_181 ?_
              refine lv_if_ne (tgt := 204) hx hb dX8_crossed_182 (by decide) (fun c_26 => ?_) (fun c_26 => ?_)
              · have hf := ite_t c_26 hf
                exact B204 x3 x4 x5 x8 x11 x12_23 x13_25 x9 m_faceOfSide m_firstSide m_faces m_far _ _ _ (lv_sub hl [2, 3, 4, 5, 7, 9, 1, 0] rfl) hP hD hS hf
              · have hf := ite_fn c_26 hf
                refine lv_aload_n hx hb dX8_crossed_185 rfl (lv_at hl 2 rfl) ?_
                refine va_get (D := D) (ci := 8) (C := RX8) (T := TX8) (N := 27) hx hb hT kwX8 hown hK.1 hP 0 rfl rfl 24 (by decide) (hT _ kf_X8_56) (fun _ h9 => h9) rfl dX8_crossed_186 ?_
                refine lv_iload hx hb dX8_crossed_189 (lv_at hl 0 rfl) ?_
                obtain ⟨h_27, hf⟩ := chk_s hf
                refine va_iald hx hb hK.1 hP 16 0 rfl rfl (inb_in h_27) dX8_crossed_191 ?_
                refine lv_iload hx hb dX8_crossed_192 (lv_at hl 4 rfl) ?_
                refine lv_icmp_ne (tgt := 204) hx hb dX8_crossed_194 (by decide) (fun c_28 => ?_) (fun c_28 => ?_)
                · have hf := ite_t c_28 hf
                  exact B204 x3 x4 x5 x8 x11 x12_23 x13_25 x9 m_faceOfSide m_firstSide m_faces m_far _ _ _ (lv_sub hl [2, 3, 4, 5, 7, 9, 1, 0] rfl) hP hD hS hf
                · have hf := ite_fn c_28 hf
                  refine lv_lconst (v := 1) hx hb dX8_crossed_197 (by decide) ?_
                  refine lv_iload hx hb dX8_crossed_198 (lv_at hl 0 rfl) ?_
                  refine lv_lshl (v := (1 : Int64) <<< ((x13_25 : Int32).toInt64 &&& 63)) hx hb dX8_crossed_200 rfl ?_
                  refine lv_goto (tgt := 205) hx hb dX8_crossed_201 (by decide) ?_
                  exact B205 x3 x4 x5 x8 x11 x12_23 x13_25 x9 ((1 : Int64) <<< ((x13_25 : Int32).toInt64 &&& 63)) m_faceOfSide m_firstSide m_faces m_far _ _ _ (lv_sub hl [2, 3, 4, 5, 7, 9, 1, 0] rfl) hP hD hS hf
      intro x3 x4 x5 x7 x8 m_faceOfSide m_firstSide m_faces m_far H locs ls hl hP hD hS hf
      refine lv_iload hx hb dX8_crossed_110 (lv_at hl 5 rfl) ?_
      refine lv_iload_n hx hb dX8_crossed_112 rfl (lv_at hl 1 rfl) ?_
      refine lv_icmp_gt (tgt := 277) hx hb dX8_crossed_113 (by decide) (fun c_17 => ?_) (fun c_17 => ?_)
      · have hf := ite_t c_17 hf
        refine lv_iload hx hb dX8_crossed_277 (lv_at hl 4 rfl) ?_
        have eR := some_i hf
        exact W.iret hx hb hr (fun t ht hW => ⟨⟨x7, (), rfl, fst_e eR, by rw [← eR, ht]; exact hP, by rw [← eR]; exact hD⟩, hS.F ht⟩) hS.2.2 dX8_crossed_279 (hlocks := hlk)
      · have hf := ite_f c_17 hf
        refine lv_iinc (v := (x4 + (-1))) (lv' := [(4, .int (x4 + (-1))), (0, .ref (a_m 0)), (3, .int x3), (5, .long x5), (7, .int x7), (8, .int x8)]) hx hb dX8_crossed_116 hl (k := 2) rfl rfl (by decide) rfl (fun ls hl => ?_)
        refine lv_lconst (v := 0) hx hb dX8_crossed_119 (by decide) ?_
        refine lv_topl (fun x9_18 ex9_18 => ?_)
        have hf := nm_t ex9_18 hf
        refine lv_lstore (lv' := [(9, .long x9_18), (4, .int (x4 + (-1))), (0, .ref (a_m 0)), (3, .int x3), (5, .long x5), (7, .int x7), (8, .int x8)]) hx hb dX8_crossed_120 hl (by decide) rfl (fun ls hl => ?_)
        refine lv_bipush (v := (-9)) hx hb dX8_crossed_122 (by decide) ?_
        refine lv_istore (lv' := [(7, .int (-9)), (9, .long x9_18), (4, .int (x4 + (-1))), (0, .ref (a_m 0)), (3, .int x3), (5, .long x5), (8, .int x8)]) hx hb dX8_crossed_124 hl (by decide) rfl (fun ls hl => ?_)
        refine lv_iconst (v := 0) hx hb dX8_crossed_126 (by decide) ?_
        refine lv_istore (lv' := [(11, .int 0), (7, .int (-9)), (9, .long x9_18), (4, .int (x4 + (-1))), (0, .ref (a_m 0)), (3, .int x3), (5, .long x5), (8, .int x8)]) hx hb dX8_crossed_127 hl (by decide) rfl (fun ls hl => ?_)
        exact B129 N x3 (x4 + (-1)) x5 (-9) x8 x9_18 0 m_faceOfSide m_firstSide m_faces m_far _ _ _ (lv_sub hl [4, 5, 3, 6, 1, 7, 2, 0] rfl) hP hD hS hf
  have B103 : ∀ (x3 : Int32) (x4 : Int32) (x5 : Int64) (m_faceOfSide : Nat → Int32) (m_firstSide : Nat → Int32) (m_faces : Int32) (m_far : Nat → Int32) (H : Heap) (locs : List Loc) (ls : Array Slot), lv_has ls 14 [(0, .ref (a_m 0)), (3, .int x3), (4, .int x4), (5, .long x5)] → va_P D vwCl (wX8 cA a_m m_s m_past m_pasts m_text m_typed m_faceOfSide m_firstSide m_faces m_before m_endA m_endB m_from m_queue m_ring m_ringSize m_ringNodes m_rings m_path m_pathSize m_old m_lastRing m_bestNodes m_bestInside m_bestFits m_far m_xs m_ys) H → va_D A (wX8 cA a_m m_s m_past m_pasts m_text m_typed m_faceOfSide m_firstSide m_faces m_before m_endA m_endB m_from m_queue m_ring m_ringSize m_ringNodes m_rings m_path m_pathSize m_old m_lastRing m_bestNodes m_bestInside m_bestFits m_far m_xs m_ys) → va_S A s.heap H locs → f_X8_crossed_b103 N m_s x3 x4 x5 m_faceOfSide m_firstSide m_faces m_far = some ρ → W p l e ({ frames := 6, cells := 0, slots := 0, locals := 136 } : Room) s m ([.ref (a_m 0), .int p1, .int p2, .int p3] : List Value).toArray below meth c H locs 0 0 (MQ below (va_Qi (fun r (_ : Unit) => r = ρ.1) (fun _ t => va_P D vwCl (wX8 cA a_m m_s m_past m_pasts m_text m_typed ρ.2.1 ρ.2.2.1 ρ.2.2.2.1 m_before m_endA m_endB m_from m_queue m_ring m_ringSize m_ringNodes m_rings m_path m_pathSize m_old m_lastRing m_bestNodes m_bestInside m_bestFits ρ.2.2.2.2 m_xs m_ys) t.heap ∧ va_D A (wX8 cA a_m m_s m_past m_pasts m_text m_typed ρ.2.1 ρ.2.2.1 ρ.2.2.2.1 m_before m_endA m_endB m_from m_queue m_ring m_ringSize m_ringNodes m_rings m_path m_pathSize m_old m_lastRing m_bestNodes m_bestInside m_bestFits ρ.2.2.2.2 m_xs m_ys)) A) ([.ref (a_m 0), .int p1, .int p2, .int p3] : List Value).toArray s 0 0 A) (F0 m 103 ls []) := by
    intro x3 x4 x5 m_faceOfSide m_firstSide m_faces m_far H locs ls hl hP hD hS hf
    refine lv_bipush (v := (-9)) hx hb dX8_crossed_103 (by decide) ?_
    refine lv_istore (lv' := [(7, .int (-9)), (0, .ref (a_m 0)), (3, .int x3), (4, .int x4), (5, .long x5)]) hx hb dX8_crossed_105 hl (by decide) rfl (fun ls hl => ?_)
    refine lv_iconst (v := 0) hx hb dX8_crossed_107 (by decide) ?_
    refine lv_istore (lv' := [(8, .int 0), (7, .int (-9)), (0, .ref (a_m 0)), (3, .int x3), (4, .int x4), (5, .long x5)]) hx hb dX8_crossed_108 hl (by decide) rfl (fun ls hl => ?_)
    exact B110 N x3 x4 x5 (-9) 0 m_faceOfSide m_firstSide m_faces m_far _ _ _ (lv_sub hl [2, 3, 4, 5, 1, 0] rfl) hP hD hS hf
  have B50 : ∀ (n50 : Nat), ∀ (x1 : Int32) (x3 : Int32) (x4 : Int32) (x5 : Int64) (x7 : Int32) (m_faceOfSide : Nat → Int32) (m_firstSide : Nat → Int32) (m_faces : Int32) (m_far : Nat → Int32) (H : Heap) (locs : List Loc) (ls : Array Slot), lv_has ls 14 [(0, .ref (a_m 0)), (1, .int x1), (3, .int x3), (4, .int x4), (5, .long x5), (7, .int x7)] → va_P D vwCl (wX8 cA a_m m_s m_past m_pasts m_text m_typed m_faceOfSide m_firstSide m_faces m_before m_endA m_endB m_from m_queue m_ring m_ringSize m_ringNodes m_rings m_path m_pathSize m_old m_lastRing m_bestNodes m_bestInside m_bestFits m_far m_xs m_ys) H → va_D A (wX8 cA a_m m_s m_past m_pasts m_text m_typed m_faceOfSide m_firstSide m_faces m_before m_endA m_endB m_from m_queue m_ring m_ringSize m_ringNodes m_rings m_path m_pathSize m_old m_lastRing m_bestNodes m_bestInside m_bestFits m_far m_xs m_ys) → va_S A s.heap H locs → f_X8_crossed_b50 N m_s n50 x1 x3 x4 x5 x7 m_faceOfSide m_firstSide m_faces m_far = some ρ → W p l e ({ frames := 6, cells := 0, slots := 0, locals := 136 } : Room) s m ([.ref (a_m 0), .int p1, .int p2, .int p3] : List Value).toArray below meth c H locs 0 0 (MQ below (va_Qi (fun r (_ : Unit) => r = ρ.1) (fun _ t => va_P D vwCl (wX8 cA a_m m_s m_past m_pasts m_text m_typed ρ.2.1 ρ.2.2.1 ρ.2.2.2.1 m_before m_endA m_endB m_from m_queue m_ring m_ringSize m_ringNodes m_rings m_path m_pathSize m_old m_lastRing m_bestNodes m_bestInside m_bestFits ρ.2.2.2.2 m_xs m_ys) t.heap ∧ va_D A (wX8 cA a_m m_s m_past m_pasts m_text m_typed ρ.2.1 ρ.2.2.1 ρ.2.2.2.1 m_before m_endA m_endB m_from m_queue m_ring m_ringSize m_ringNodes m_rings m_path m_pathSize m_old m_lastRing m_bestNodes m_bestInside m_bestFits ρ.2.2.2.2 m_xs m_ys)) A) ([.ref (a_m 0), .int p1, .int p2, .int p3] : List Value).toArray s 0 0 A) (F0 m 50 ls []) := by
    intro n50
    induction n50 with
    | zero =>
      intro x1 x3 x4 x5 x7 m_faceOfSide m_firstSide m_faces m_far H locs ls hl hP hD hS hf
      cases (show (none : Option (Int32 × (Nat → Int32) × (Nat → Int32) × Int32 × (Nat → Int32))) = some ρ from hf)
    | succ n50 ih50 =>
      have B94 : ∀ (x1 : Int32) (x3 : Int32) (x4 : Int32) (x7 : Int32) (y0 : Int64) (y1 : Int64) (m_faceOfSide : Nat → Int32) (m_firstSide : Nat → Int32) (m_faces : Int32) (m_far : Nat → Int32) (H : Heap) (locs : List Loc) (ls : Array Slot), lv_has ls 14 [(0, .ref (a_m 0)), (1, .int x1), (3, .int x3), (4, .int x4), (7, .int x7)] → va_P D vwCl (wX8 cA a_m m_s m_past m_pasts m_text m_typed m_faceOfSide m_firstSide m_faces m_before m_endA m_endB m_from m_queue m_ring m_ringSize m_ringNodes m_rings m_path m_pathSize m_old m_lastRing m_bestNodes m_bestInside m_bestFits m_far m_xs m_ys) H → va_D A (wX8 cA a_m m_s m_past m_pasts m_text m_typed m_faceOfSide m_firstSide m_faces m_before m_endA m_endB m_from m_queue m_ring m_ringSize m_ringNodes m_rings m_path m_pathSize m_old m_lastRing m_bestNodes m_bestInside m_bestFits m_far m_xs m_ys) → va_S A s.heap H locs → f_X8_crossed_b94 N m_s (f_X8_crossed_b50 N m_s n50) x1 x3 x4 x7 y0 y1 m_faceOfSide m_firstSide m_faces m_far = some ρ → W p l e ({ frames := 6, cells := 0, slots := 0, locals := 136 } : Room) s m ([.ref (a_m 0), .int p1, .int p2, .int p3] : List Value).toArray below meth c H locs 0 0 (MQ below (va_Qi (fun r (_ : Unit) => r = ρ.1) (fun _ t => va_P D vwCl (wX8 cA a_m m_s m_past m_pasts m_text m_typed ρ.2.1 ρ.2.2.1 ρ.2.2.2.1 m_before m_endA m_endB m_from m_queue m_ring m_ringSize m_ringNodes m_rings m_path m_pathSize m_old m_lastRing m_bestNodes m_bestInside m_bestFits ρ.2.2.2.2 m_xs m_ys) t.heap ∧ va_D A (wX8 cA a_m m_s m_past m_pasts m_text m_typed ρ.2.1 ρ.2.2.1 ρ.2.2.2.1 m_before m_endA m_endB m_from m_queue m_ring m_ringSize m_ringNodes m_rings m_path m_pathSize m_old m_lastRing m_bestNodes m_bestInside m_bestFits ρ.2.2.2.2 m_xs m_ys)) A) ([.ref (a_m 0), .int p1, .int p2, .int p3] : List Value).toArray s 0 0 A) (F0 m 94 ls [.long y1, .long y0]) := by
        intro x1 x3 x4 x7 y0 y1 m_faceOfSide m_firstSide m_faces m_far H locs ls hl hP hD hS hf
        refine lv_lor hx hb dX8_crossed_94 ?_
        refine lv_topl (fun x5_16 ex5_16 => ?_)
        have hf := nm_t ex5_16 hf
        refine lv_lstore (lv' := [(5, .long x5_16), (0, .ref (a_m 0)), (1, .int x1), (3, .int x3), (4, .int x4), (7, .int x7)]) hx hb dX8_crossed_95 hl (by decide) rfl (fun ls hl => ?_)
        refine lv_iinc (v := (x7 + 1)) (lv' := [(7, .int (x7 + 1)), (5, .long x5_16), (0, .ref (a_m 0)), (1, .int x1), (3, .int x3), (4, .int x4)]) hx hb dX8_crossed_97 hl (k := 5) rfl rfl (by decide) rfl (fun ls hl => ?_)
        refine lv_goto (tgt := 50) hx hb dX8_crossed_100 (by decide) ?_
        exact ih50 x1 x3 x4 x5_16 (x7 + 1) m_faceOfSide m_firstSide m_faces m_far _ _ _ (lv_sub hl [2, 3, 4, 5, 1, 0] rfl) hP hD hS hf
      have B93 : ∀ (x1 : Int32) (x3 : Int32) (x4 : Int32) (x7 : Int32) (y0 : Int64) (m_faceOfSide : Nat → Int32) (m_firstSide : Nat → Int32) (m_faces : Int32) (m_far : Nat → Int32) (H : Heap) (locs : List Loc) (ls : Array Slot), lv_has ls 14 [(0, .ref (a_m 0)), (1, .int x1), (3, .int x3), (4, .int x4), (7, .int x7)] → va_P D vwCl (wX8 cA a_m m_s m_past m_pasts m_text m_typed m_faceOfSide m_firstSide m_faces m_before m_endA m_endB m_from m_queue m_ring m_ringSize m_ringNodes m_rings m_path m_pathSize m_old m_lastRing m_bestNodes m_bestInside m_bestFits m_far m_xs m_ys) H → va_D A (wX8 cA a_m m_s m_past m_pasts m_text m_typed m_faceOfSide m_firstSide m_faces m_before m_endA m_endB m_from m_queue m_ring m_ringSize m_ringNodes m_rings m_path m_pathSize m_old m_lastRing m_bestNodes m_bestInside m_bestFits m_far m_xs m_ys) → va_S A s.heap H locs → f_X8_crossed_b93 N m_s (f_X8_crossed_b50 N m_s n50) x1 x3 x4 x7 y0 m_faceOfSide m_firstSide m_faces m_far = some ρ → W p l e ({ frames := 6, cells := 0, slots := 0, locals := 136 } : Room) s m ([.ref (a_m 0), .int p1, .int p2, .int p3] : List Value).toArray below meth c H locs 0 0 (MQ below (va_Qi (fun r (_ : Unit) => r = ρ.1) (fun _ t => va_P D vwCl (wX8 cA a_m m_s m_past m_pasts m_text m_typed ρ.2.1 ρ.2.2.1 ρ.2.2.2.1 m_before m_endA m_endB m_from m_queue m_ring m_ringSize m_ringNodes m_rings m_path m_pathSize m_old m_lastRing m_bestNodes m_bestInside m_bestFits ρ.2.2.2.2 m_xs m_ys) t.heap ∧ va_D A (wX8 cA a_m m_s m_past m_pasts m_text m_typed ρ.2.1 ρ.2.2.1 ρ.2.2.2.1 m_before m_endA m_endB m_from m_queue m_ring m_ringSize m_ringNodes m_rings m_path m_pathSize m_old m_lastRing m_bestNodes m_bestInside m_bestFits ρ.2.2.2.2 m_xs m_ys)) A) ([.ref (a_m 0), .int p1, .int p2, .int p3] : List Value).toArray s 0 0 A) (F0 m 93 ls [.long y0]) := by
        intro x1 x3 x4 x7 y0 m_faceOfSide m_firstSide m_faces m_far H locs ls hl hP hD hS hf
        refine lv_lconst (v := 0) hx hb dX8_crossed_93 (by decide) ?_
        exact B94 x1 x3 x4 x7 y0 (0 : Int64) m_faceOfSide m_firstSide m_faces m_far _ _ _ (lv_sub hl [0, 1, 2, 3, 4] rfl) hP hD hS hf
      intro x1 x3 x4 x5 x7 m_faceOfSide m_firstSide m_faces m_far H locs ls hl hP hD hS hf
      refine lv_iload hx hb dX8_crossed_50 (lv_at hl 5 rfl) ?_
      refine lv_aload_n hx hb dX8_crossed_52 rfl (lv_at hl 0 rfl) ?_
      refine va_get (D := D) (ci := 8) (C := RX8) (T := TX8) (N := 27) hx hb hT kwX8 hown hK.1 hP 0 rfl rfl 7 (by decide) (hT _ kf_X8_120) (fun _ h9 => h9) rfl dX8_crossed_53 ?_
      refine lv_icmp_ge (tgt := 103) hx hb dX8_crossed_56 (by decide) (fun c_10 => ?_) (fun c_10 => ?_)
      · have hf := ite_t c_10 hf
        exact B103 x3 x4 x5 m_faceOfSide m_firstSide m_faces m_far _ _ _ (lv_sub hl [0, 2, 3, 4] rfl) hP hD hS hf
      · have hf := ite_f c_10 hf
        refine lv_lload hx hb dX8_crossed_59 (lv_at hl 4 rfl) ?_
        refine lv_aload_n hx hb dX8_crossed_61 rfl (lv_at hl 0 rfl) ?_
        refine lv_iload hx hb dX8_crossed_62 (lv_at hl 5 rfl) ?_
        obtain ⟨r_11, hcr_11, hf⟩ := bd1_s hf
        refine backI (runV0 C (c_X8_nodesOn l D cA a_m m_s m_past m_pasts m_text m_typed m_faceOfSide m_firstSide m_faces m_before m_endA m_endB m_from m_queue m_ring m_ringSize m_ringNodes m_rings m_path m_pathSize m_old m_lastRing m_bestNodes m_bestInside m_bestFits m_far m_xs m_ys x7 N r_11 hcr_11) cf_X8_nodesOn km_X8_140 ⟨rfl, rfl, by decide, by decide⟩ ⟨Nat.zero_le _, Nat.zero_le _⟩ (va_recv hK.1 hP (ci := 8) (q0 := 0) rfl rfl) (hP.sub [0, 1, 2, 3, 4, 5, 6, 7, 8, 9, 10, 11, 12, 13, 14, 15, 16, 17, 18] rfl) hK hl.1 rfl rfl (Nat.le_of_ble_eq_true rfl) dX8_crossed_64) ?_
        refine lv_iload_n hx hb dX8_crossed_67 rfl (lv_at hl 1 rfl) ?_
        obtain ⟨r_12, hcr_12, hf⟩ := bd1_s hf
        refine backI (runS0 C (c_X8_has l D cA r_11 x1 N r_12 hcr_12) cf_X8_has km_X8_166 ⟨rfl, rfl, by decide, by decide⟩ ⟨Nat.zero_le _, Nat.zero_le _⟩ (hP.sub [] rfl) hK hl.1 rfl rfl (Nat.le_of_ble_eq_true rfl) dX8_crossed_68) ?_
        refine lv_if_eq (tgt := 93) hx hb dX8_crossed_71 (by decide) (fun c_13 => ?_) (fun c_13 => ?_)
        · have hf := ite_t c_13 hf
          exact B93 x1 x3 x4 x7 x5 m_faceOfSide m_firstSide m_faces m_far _ _ _ (lv_sub hl [0, 1, 2, 3, 5] rfl) hP hD hS hf
        · have hf := ite_f c_13 hf
          refine lv_aload_n hx hb dX8_crossed_74 rfl (lv_at hl 0 rfl) ?_
          refine va_get (D := D) (ci := 8) (C := RX8) (T := TX8) (N := 27) hx hb hT kwX8 hown hK.1 hP 0 rfl rfl 24 (by decide) (hT _ kf_X8_56) (fun _ h9 => h9) rfl dX8_crossed_75 ?_
          refine lv_iload hx hb dX8_crossed_78 (lv_at hl 5 rfl) ?_
          obtain ⟨h_14, hf⟩ := chk_s hf
          refine va_iald hx hb hK.1 hP 16 0 rfl rfl (inb_in h_14) dX8_crossed_80 ?_
          refine lv_iload hx hb dX8_crossed_81 (lv_at hl 3 rfl) ?_
          refine lv_icmp_ne (tgt := 93) hx hb dX8_crossed_83 (by decide) (fun c_15 => ?_) (fun c_15 => ?_)
          · have hf := ite_t c_15 hf
            exact B93 x1 x3 x4 x7 x5 m_faceOfSide m_firstSide m_faces m_far _ _ _ (lv_sub hl [0, 1, 2, 3, 5] rfl) hP hD hS hf
          · have hf := ite_fn c_15 hf
            refine lv_lconst (v := 1) hx hb dX8_crossed_86 (by decide) ?_
            refine lv_iload hx hb dX8_crossed_87 (lv_at hl 5 rfl) ?_
            refine lv_lshl (v := (1 : Int64) <<< ((x7 : Int32).toInt64 &&& 63)) hx hb dX8_crossed_89 rfl ?_
            refine lv_goto (tgt := 94) hx hb dX8_crossed_90 (by decide) ?_
            exact B94 x1 x3 x4 x7 x5 ((1 : Int64) <<< ((x7 : Int32).toInt64 &&& 63)) m_faceOfSide m_firstSide m_faces m_far _ _ _ (lv_sub hl [0, 1, 2, 3, 5] rfl) hP hD hS hf
  refine lv_aload_n hx hb dX8_crossed_0 rfl (lv_at hl 0 rfl) ?_
  refine lv_iload_n hx hb dX8_crossed_1 rfl (lv_at hl 1 rfl) ?_
  refine lv_iload_n hx hb dX8_crossed_2 rfl (lv_at hl 2 rfl) ?_
  obtain ⟨r_1, hcr_1, hf⟩ := bd1_s hf
  refine backI (runV0 C (c_X8_areNodes l D cA a_m m_s m_past m_pasts m_text m_typed m_faceOfSide m_firstSide m_faces m_before m_endA m_endB m_from m_queue m_ring m_ringSize m_ringNodes m_rings m_path m_pathSize m_old m_lastRing m_bestNodes m_bestInside m_bestFits m_far m_xs m_ys p1 p2 N r_1 hcr_1) cf_X8_areNodes km_X8_100 ⟨rfl, rfl, by decide, by decide⟩ ⟨Nat.zero_le _, Nat.zero_le _⟩ (va_recv hK.1 hP (ci := 8) (q0 := 0) rfl rfl) (hP.sub [0, 1, 2, 3, 4, 5, 6, 7, 8, 9, 10, 11, 12, 13, 14, 15, 16, 17, 18] rfl) hK hl.1 rfl rfl (Nat.le_of_ble_eq_true rfl) dX8_crossed_3) ?_
  refine lv_if_eq (tgt := 13) hx hb dX8_crossed_6 (by decide) (fun c_2 => ?_) (fun c_2 => ?_)
  · have hf := ite_t c_2 hf
    refine lv_iconst (v := (-1)) hx hb dX8_crossed_13 (by decide) ?_
    have eR := some_i hf
    exact W.iret hx hb hr (fun t ht hW => ⟨⟨(-1), (), rfl, fst_e eR, by rw [← eR, ht]; exact hP, by rw [← eR]; exact hD⟩, hS.F ht⟩) hS.2.2 dX8_crossed_14 (hlocks := hlk)
  · have hf := ite_f c_2 hf
    refine lv_iload_n hx hb dX8_crossed_9 rfl (lv_at hl 3 rfl) ?_
    refine lv_if_ge (tgt := 15) hx hb dX8_crossed_10 (by decide) (fun c_3 => ?_) (fun c_3 => ?_)
    · have hf := ite_t c_3 hf
      refine lv_aload_n hx hb dX8_crossed_15 rfl (lv_at hl 0 rfl) ?_
      refine lv_iload_n hx hb dX8_crossed_16 rfl (lv_at hl 1 rfl) ?_
      refine lv_iload_n hx hb dX8_crossed_17 rfl (lv_at hl 2 rfl) ?_
      obtain ⟨r_4, hcr_4, hf⟩ := bd1_s hf
      refine backWi (w2 := (wX8 cA a_m m_s m_past m_pasts m_text m_typed r_4.2.1 r_4.2.2.1 r_4.2.2.2 m_before m_endA m_endB m_from m_queue m_ring m_ringSize m_ringNodes m_rings m_path m_pathSize m_old m_lastRing m_bestNodes m_bestInside m_bestFits m_far m_xs m_ys)) (runVw C (c_X8_isRefused l D cA a_m m_s m_past m_pasts m_text m_typed m_faceOfSide m_firstSide m_faces m_before m_endA m_endB m_from m_queue m_ring m_ringSize m_ringNodes m_rings m_path m_pathSize m_old m_lastRing m_bestNodes m_bestInside m_bestFits m_far m_xs m_ys p1 p2 _ N r_4 hcr_4) cf_X8_isRefused km_X8_255 ⟨rfl, rfl, by decide, by decide⟩ ⟨Nat.zero_le _, Nat.zero_le _⟩ (va_recv hK.1 hP (ci := 8) (q0 := 0) rfl rfl) (hP.sub [0, 1, 2, 3, 4, 5, 6, 7, 8, 9, 10, 11, 12, 13, 14, 15, 16, 17, 18] rfl) (hD.sub [0, 1, 2, 3, 4, 5, 6, 7, 8, 9, 10, 11, 12, 13, 14, 15, 16, 17, 18] rfl rfl) hK hl.1 rfl rfl (Nat.le_of_ble_eq_true rfl) dX8_crossed_18) hP hD hS hA [0, 1, 2, 3, 4, 5, 6, 7, 8, 9, 10, 11, 12, 13, 14, 15, 16, 17, 18] rfl [] rfl rfl (by decide) [0, 1, 2, 3, 4, 5, 6, 7, 8, 9, 10, 11, 12, 13, 14, 15, 16, 17, 18] rfl rfl (fun H locs hP hD hS => ?_)
      refine lv_if_eq (tgt := 27) hx hb dX8_crossed_21 (by decide) (fun c_5 => ?_) (fun c_5 => ?_)
      · have hf := ite_t c_5 hf
        refine lv_aload_n hx hb dX8_crossed_27 rfl (lv_at hl 0 rfl) ?_
        refine lv_iload_n hx hb dX8_crossed_28 rfl (lv_at hl 1 rfl) ?_
        refine lv_iload_n hx hb dX8_crossed_29 rfl (lv_at hl 2 rfl) ?_
        obtain ⟨r_6, hcr_6, hf⟩ := bd1_s hf
        refine backWi (w2 := (wX8 cA a_m m_s m_past m_pasts m_text m_typed r_4.2.1 r_4.2.2.1 r_4.2.2.2 m_before m_endA m_endB m_from m_queue m_ring m_ringSize m_ringNodes m_rings m_path m_pathSize m_old m_lastRing m_bestNodes m_bestInside m_bestFits r_6.2 m_xs m_ys)) (runVw C (c_X8_costOf l D cA a_m m_s m_past m_pasts m_text m_typed r_4.2.1 r_4.2.2.1 r_4.2.2.2 m_before m_endA m_endB m_from m_queue m_ring m_ringSize m_ringNodes m_rings m_path m_pathSize m_old m_lastRing m_bestNodes m_bestInside m_bestFits m_far m_xs m_ys p1 p2 _ N r_6 hcr_6) cf_X8_costOf km_X8_258 ⟨rfl, rfl, by decide, by decide⟩ ⟨Nat.zero_le _, Nat.zero_le _⟩ (va_recv hK.1 hP (ci := 8) (q0 := 0) rfl rfl) (hP.sub [0, 1, 2, 3, 4, 5, 6, 7, 8, 9, 10, 11, 12, 13, 14, 15, 16, 17, 18] rfl) (hD.sub [0, 1, 2, 3, 4, 5, 6, 7, 8, 9, 10, 11, 12, 13, 14, 15, 16, 17, 18] rfl rfl) hK hl.1 rfl rfl (Nat.le_of_ble_eq_true rfl) dX8_crossed_30) hP hD hS hA [0, 1, 2, 3, 4, 5, 6, 7, 8, 9, 10, 11, 12, 13, 14, 15, 16, 17, 18] rfl [] rfl rfl (by decide) [0, 1, 2, 3, 4, 5, 6, 7, 8, 9, 10, 11, 12, 13, 14, 15, 16, 17, 18] rfl rfl (fun H locs hP hD hS => ?_)
        refine lv_topi (fun x4_7 ex4_7 => ?_)
        have hf := nm_t ex4_7 hf
        refine lv_istore (lv' := [(4, .int x4_7), (0, .ref (a_m 0)), (1, .int p1), (2, .int p2), (3, .int p3)]) hx hb dX8_crossed_33 hl (by decide) rfl (fun ls hl => ?_)
        refine lv_iload_n hx hb dX8_crossed_35 rfl (lv_at hl 4 rfl) ?_
        refine lv_iload hx hb dX8_crossed_36 (lv_at hl 0 rfl) ?_
        refine lv_icmp_lt (tgt := 44) hx hb dX8_crossed_38 (by decide) (fun c_8 => ?_) (fun c_8 => ?_)
        · have hf := ite_t c_8 hf
          refine lv_lconst (v := 0) hx hb dX8_crossed_44 (by decide) ?_
          refine lv_topl (fun x5_9 ex5_9 => ?_)
          have hf := nm_t ex5_9 hf
          refine lv_lstore (lv' := [(5, .long x5_9), (4, .int x4_7), (0, .ref (a_m 0)), (1, .int p1), (2, .int p2), (3, .int p3)]) hx hb dX8_crossed_45 hl (by decide) rfl (fun ls hl => ?_)
          refine lv_iconst (v := 0) hx hb dX8_crossed_47 (by decide) ?_
          refine lv_istore (lv' := [(7, .int 0), (5, .long x5_9), (4, .int x4_7), (0, .ref (a_m 0)), (1, .int p1), (2, .int p2), (3, .int p3)]) hx hb dX8_crossed_48 hl (by decide) rfl (fun ls hl => ?_)
          exact B50 N p1 p3 x4_7 x5_9 0 r_4.2.1 r_4.2.2.1 r_4.2.2.2 r_6.2 _ _ _ (lv_sub hl [3, 4, 6, 2, 1, 0] rfl) hP hD hS hf
        · have hf := ite_f c_8 hf
          refine lv_bipush (v := (-9)) hx hb dX8_crossed_41 (by decide) ?_
          have eR := some_i hf
          exact W.iret hx hb hr (fun t ht hW => ⟨⟨(-9), (), rfl, fst_e eR, by rw [← eR, ht]; exact hP, by rw [← eR]; exact hD⟩, hS.F ht⟩) hS.2.2 dX8_crossed_43 (hlocks := hlk)
      · have hf := ite_f c_5 hf
        refine lv_bipush (v := (-2)) hx hb dX8_crossed_24 (by decide) ?_
        have eR := some_i hf
        exact W.iret hx hb hr (fun t ht hW => ⟨⟨(-2), (), rfl, fst_e eR, by rw [← eR, ht]; exact hP, by rw [← eR]; exact hD⟩, hS.F ht⟩) hS.2.2 dX8_crossed_26 (hlocks := hlk)
    · have hf := ite_f c_3 hf
      refine lv_iconst (v := (-1)) hx hb dX8_crossed_13 (by decide) ?_
      have eR := some_i hf
      exact W.iret hx hb hr (fun t ht hW => ⟨⟨(-1), (), rfl, fst_e eR, by rw [← eR, ht]; exact hP, by rw [← eR]; exact hD⟩, hS.F ht⟩) hS.2.2 dX8_crossed_14 (hlocks := hlk)
set_option maxRecDepth 100000 in
set_option maxHeartbeats 4000000 in
theorem c_X8_lengthOf (l : Launch) (D : va_G) (cA : Nat → ClassId) (a_m : Nat → Nat) (m_s : Nat → Int32) (m_past : Nat → Int32) (m_pasts : Int32) (m_text : Nat → Int32) (m_typed : Int32) (m_faceOfSide : Nat → Int32) (m_firstSide : Nat → Int32) (m_faces : Int32) (m_before : Nat → Int32) (m_endA : Nat → Int32) (m_endB : Nat → Int32) (m_from : Nat → Int32) (m_queue : Nat → Int32) (m_ring : Nat → Int32) (m_ringSize : Nat → Int32) (m_ringNodes : Nat → Int32) (m_rings : Int32) (m_path : Nat → Int32) (m_pathSize : Int32) (m_old : Nat → Int32) (m_lastRing : Int32) (m_bestNodes : Int32) (m_bestInside : Int32) (m_bestFits : Int32) (m_far : Nat → Int32) (m_xs : Nat → UInt32) (m_ys : Nat → UInt32) (p1 : Int32) (N : Nat) (ρ : Int32) (hf : f_X8_lengthOf N m_s m_faceOfSide p1 = some ρ) : Met l yX8_lengthOf (Cond.code yX8_lengthOf cX8_lengthOf 4 (Option.some Jvm.ClassFile.FieldType.int) :: lw_g) ({ frames := 0, cells := 0, slots := 0, locals := 0 } : Room) (PcS D (tyA cA) (wX8 cA a_m m_s m_past m_pasts m_text m_typed m_faceOfSide m_firstSide m_faces m_before m_endA m_endB m_from m_queue m_ring m_ringSize m_ringNodes m_rings m_path m_pathSize m_old m_lastRing m_bestNodes m_bestInside m_bestFits m_far m_xs m_ys) [.ref (a_m 0), .int p1]) (vp_Si (fun r => r = ρ)) 0 0 (fun _ => False) := by
  refine mkS (by decide +kernel) (Nat.le_of_ble_eq_true rfl) fun p e s m below meth c ls C hl hP hK => ?_
  obtain ⟨hx, hb, hml, hown, hT, hr, hlk⟩ := id C
  have hl : lv_has ls 4 [(0, .ref (a_m 0)), (1, .int p1)] := hl
  have B4 : ∀ (n4 : Nat), ∀ (x1 : Int32) (x2 : Int32) (x3 : Int32) (ls : Array Slot), lv_has ls 4 [(0, .ref (a_m 0)), (1, .int x1), (2, .int x2), (3, .int x3)] → f_X8_lengthOf_b4 N m_s m_faceOfSide n4 x1 x2 x3 = some ρ → W p l e ({ frames := 0, cells := 0, slots := 0, locals := 0 } : Room) s m ([.ref (a_m 0), .int p1] : List Value).toArray below meth c s.heap [] 0 0 (MQ below (vp_Si (fun r => r = ρ)) ([.ref (a_m 0), .int p1] : List Value).toArray s 0 0 (fun _ => False)) (F0 m 4 ls []) := by
    intro n4
    induction n4 with
    | zero =>
      intro x1 x2 x3 ls hl hf
      cases (show (none : Option (Int32)) = some ρ from hf)
    | succ n4 ih4 =>
      have B32 : ∀ (x1 : Int32) (x3 : Int32) (y0 : Int32) (y1 : Int32) (ls : Array Slot), lv_has ls 4 [(0, .ref (a_m 0)), (1, .int x1), (3, .int x3)] → f_X8_lengthOf_b32 N m_s m_faceOfSide (f_X8_lengthOf_b4 N m_s m_faceOfSide n4) x1 x3 y0 y1 = some ρ → W p l e ({ frames := 0, cells := 0, slots := 0, locals := 0 } : Room) s m ([.ref (a_m 0), .int p1] : List Value).toArray below meth c s.heap [] 0 0 (MQ below (vp_Si (fun r => r = ρ)) ([.ref (a_m 0), .int p1] : List Value).toArray s 0 0 (fun _ => False)) (F0 m 32 ls [.int y1, .int y0]) := by
        intro x1 x3 y0 y1 ls hl hf
        refine lv_iadd hx hb dX8_lengthOf_32 ?_
        refine lv_topi (fun x2_5 ex2_5 => ?_)
        have hf := nm_t ex2_5 hf
        refine lv_istore_n (lv' := [(2, .int x2_5), (0, .ref (a_m 0)), (1, .int x1), (3, .int x3)]) hx hb dX8_lengthOf_33 rfl hl (by decide) rfl (fun ls hl => ?_)
        refine lv_iinc (v := (x3 + 1)) (lv' := [(3, .int (x3 + 1)), (2, .int x2_5), (0, .ref (a_m 0)), (1, .int x1)]) hx hb dX8_lengthOf_34 hl (k := 3) rfl rfl (by decide) rfl (fun ls hl => ?_)
        refine lv_goto (tgt := 4) hx hb dX8_lengthOf_37 (by decide) ?_
        exact ih4 x1 x2_5 (x3 + 1) _ (lv_sub hl [2, 3, 1, 0] rfl) hf
      intro x1 x2 x3 ls hl hf
      refine lv_iload_n hx hb dX8_lengthOf_4 rfl (lv_at hl 3 rfl) ?_
      refine lv_iconst (v := 2) hx hb dX8_lengthOf_5 (by decide) ?_
      refine lv_aload_n hx hb dX8_lengthOf_6 rfl (lv_at hl 0 rfl) ?_
      refine va_get (D := D) (ci := 8) (C := RX8) (T := TX8) (N := 27) hx hb hT kwX8 hown hK.1 hP 0 rfl rfl 0 (by decide) (hT _ kf_X8_7) (fun _ h9 => h9) rfl dX8_lengthOf_7 ?_
      refine lv_iconst (v := 1) hx hb dX8_lengthOf_10 (by decide) ?_
      obtain ⟨h_1, hf⟩ := chk_s hf
      refine va_iald hx hb hK.1 hP 1 0 rfl rfl (inb_in h_1) dX8_lengthOf_11 ?_
      refine lv_imul hx hb dX8_lengthOf_12 ?_
      refine lv_icmp_ge (tgt := 40) hx hb dX8_lengthOf_13 (by decide) (fun c_2 => ?_) (fun c_2 => ?_)
      · have hf := ite_t c_2 hf
        refine lv_iload_n hx hb dX8_lengthOf_40 rfl (lv_at hl 2 rfl) ?_
        exact W.iret hx hb hr (fun t ht hW => ⟨_, rfl, some_i hf, ht⟩) (fun _ h => by cases h) dX8_lengthOf_41 (hlocks := hlk)
      · have hf := ite_f c_2 hf
        refine lv_iload_n hx hb dX8_lengthOf_16 rfl (lv_at hl 2 rfl) ?_
        refine lv_aload_n hx hb dX8_lengthOf_17 rfl (lv_at hl 0 rfl) ?_
        refine va_get (D := D) (ci := 8) (C := RX8) (T := TX8) (N := 27) hx hb hT kwX8 hown hK.1 hP 0 rfl rfl 5 (by decide) (hT _ kf_X8_20) (fun _ h9 => h9) rfl dX8_lengthOf_18 ?_
        refine lv_iload_n hx hb dX8_lengthOf_21 rfl (lv_at hl 3 rfl) ?_
        obtain ⟨h_3, hf⟩ := chk_s hf
        refine va_iald hx hb hK.1 hP 4 0 rfl rfl (inb_in h_3) dX8_lengthOf_22 ?_
        refine lv_iload_n hx hb dX8_lengthOf_23 rfl (lv_at hl 1 rfl) ?_
        refine lv_icmp_ne (tgt := 31) hx hb dX8_lengthOf_24 (by decide) (fun c_4 => ?_) (fun c_4 => ?_)
        · have hf := ite_t c_4 hf
          refine lv_iconst (v := 0) hx hb dX8_lengthOf_31 (by decide) ?_
          exact B32 x1 x3 x2 0 _ (lv_sub hl [0, 1, 3] rfl) hf
        · have hf := ite_fn c_4 hf
          refine lv_iconst (v := 1) hx hb dX8_lengthOf_27 (by decide) ?_
          refine lv_goto (tgt := 32) hx hb dX8_lengthOf_28 (by decide) ?_
          exact B32 x1 x3 x2 1 _ (lv_sub hl [0, 1, 3] rfl) hf
  refine lv_iconst (v := 0) hx hb dX8_lengthOf_0 (by decide) ?_
  refine lv_istore_n (lv' := [(2, .int 0), (0, .ref (a_m 0)), (1, .int p1)]) hx hb dX8_lengthOf_1 rfl hl (by decide) rfl (fun ls hl => ?_)
  refine lv_iconst (v := 0) hx hb dX8_lengthOf_2 (by decide) ?_
  refine lv_istore_n (lv' := [(3, .int 0), (2, .int 0), (0, .ref (a_m 0)), (1, .int p1)]) hx hb dX8_lengthOf_3 rfl hl (by decide) rfl (fun ls hl => ?_)
  exact B4 N p1 0 0 _ (lv_sub hl [2, 3, 1, 0] rfl) hf
set_option maxRecDepth 100000 in
set_option maxHeartbeats 4000000 in
theorem c_X8_relaxes (l : Launch) (D : va_G) (cA : Nat → ClassId) (a_m : Nat → Nat) (m_s : Nat → Int32) (m_past : Nat → Int32) (m_pasts : Int32) (m_text : Nat → Int32) (m_typed : Int32) (m_faceOfSide : Nat → Int32) (m_firstSide : Nat → Int32) (m_faces : Int32) (m_before : Nat → Int32) (m_endA : Nat → Int32) (m_endB : Nat → Int32) (m_from : Nat → Int32) (m_queue : Nat → Int32) (m_ring : Nat → Int32) (m_ringSize : Nat → Int32) (m_ringNodes : Nat → Int32) (m_rings : Int32) (m_path : Nat → Int32) (m_pathSize : Int32) (m_old : Nat → Int32) (m_lastRing : Int32) (m_bestNodes : Int32) (m_bestInside : Int32) (m_bestFits : Int32) (m_far : Nat → Int32) (m_xs : Nat → UInt32) (m_ys : Nat → UInt32) (p1 : Int32) (sz N : Nat) (ρ : (Nat → Int32) × (Nat → Int32) × Int32 × (Nat → UInt32) × (Nat → UInt32)) (hf : f_X8_relaxes N m_s m_faceOfSide m_firstSide m_faces m_xs m_ys p1 = some ρ) : Met l yX8_relaxes (Cond.code yX8_relaxes cX8_relaxes 10 (Option.none : Option Jvm.ClassFile.FieldType) :: lw_g) ({ frames := 4, cells := 0, slots := 0, locals := 91 } : Room) (PcW D (tyA cA) (wX8 cA a_m m_s m_past m_pasts m_text m_typed m_faceOfSide m_firstSide m_faces m_before m_endA m_endB m_from m_queue m_ring m_ringSize m_ringNodes m_rings m_path m_pathSize m_old m_lastRing m_bestNodes m_bestInside m_bestFits m_far m_xs m_ys) sz [.ref (a_m 0), .int p1]) (va_Qv (fun (_ : Unit) => True) (fun _ t => va_P D vwCl (wX8 cA a_m m_s m_past m_pasts m_text m_typed ρ.1 ρ.2.1 ρ.2.2.1 m_before m_endA m_endB m_from m_queue m_ring m_ringSize m_ringNodes m_rings m_path m_pathSize m_old m_lastRing m_bestNodes m_bestInside m_bestFits m_far ρ.2.2.2.1 ρ.2.2.2.2) t.heap ∧ va_D (va_A (wX8 cA a_m m_s m_past m_pasts m_text m_typed m_faceOfSide m_firstSide m_faces m_before m_endA m_endB m_from m_queue m_ring m_ringSize m_ringNodes m_rings m_path m_pathSize m_old m_lastRing m_bestNodes m_bestInside m_bestFits m_far m_xs m_ys) sz) (wX8 cA a_m m_s m_past m_pasts m_text m_typed ρ.1 ρ.2.1 ρ.2.2.1 m_before m_endA m_endB m_from m_queue m_ring m_ringSize m_ringNodes m_rings m_path m_pathSize m_old m_lastRing m_bestNodes m_bestInside m_bestFits m_far ρ.2.2.2.1 ρ.2.2.2.2)) (va_A (wX8 cA a_m m_s m_past m_pasts m_text m_typed m_faceOfSide m_firstSide m_faces m_before m_endA m_endB m_from m_queue m_ring m_ringSize m_ringNodes m_rings m_path m_pathSize m_old m_lastRing m_bestNodes m_bestInside m_bestFits m_far m_xs m_ys) sz)) 0 0 (va_A (wX8 cA a_m m_s m_past m_pasts m_text m_typed m_faceOfSide m_firstSide m_faces m_before m_endA m_endB m_from m_queue m_ring m_ringSize m_ringNodes m_rings m_path m_pathSize m_old m_lastRing m_bestNodes m_bestInside m_bestFits m_far m_xs m_ys) sz) := by
  refine mkW (QQ := fun A => va_Qv (fun (_ : Unit) => True) (fun _ t => va_P D vwCl (wX8 cA a_m m_s m_past m_pasts m_text m_typed ρ.1 ρ.2.1 ρ.2.2.1 m_before m_endA m_endB m_from m_queue m_ring m_ringSize m_ringNodes m_rings m_path m_pathSize m_old m_lastRing m_bestNodes m_bestInside m_bestFits m_far ρ.2.2.2.1 ρ.2.2.2.2) t.heap ∧ va_D A (wX8 cA a_m m_s m_past m_pasts m_text m_typed ρ.1 ρ.2.1 ρ.2.2.1 m_before m_endA m_endB m_from m_queue m_ring m_ringSize m_ringNodes m_rings m_path m_pathSize m_old m_lastRing m_bestNodes m_bestInside m_bestFits m_far ρ.2.2.2.1 ρ.2.2.2.2)) A) (by decide) (Nat.le_of_ble_eq_true rfl) fun p e s m below meth c ls A C hl hP hK hD hA hS => ?_
  obtain ⟨hx, hb, hml, hown, hT, hr, hlk⟩ := id C
  have hl : lv_has ls 10 [(0, .ref (a_m 0)), (1, .int p1)] := hl
  have B135 : ∀ (n135 : Nat), ∀ (x1 : Int32) (x2 : Int32) (x5 : Int32) (m_faceOfSide : Nat → Int32) (m_firstSide : Nat → Int32) (m_faces : Int32) (m_xs : Nat → UInt32) (m_ys : Nat → UInt32) (H : Heap) (locs : List Loc) (ls : Array Slot), lv_has ls 10 [(0, .ref (a_m 0)), (1, .int x1), (2, .int x2), (5, .int x5)] → va_P D vwCl (wX8 cA a_m m_s m_past m_pasts m_text m_typed m_faceOfSide m_firstSide m_faces m_before m_endA m_endB m_from m_queue m_ring m_ringSize m_ringNodes m_rings m_path m_pathSize m_old m_lastRing m_bestNodes m_bestInside m_bestFits m_far m_xs m_ys) H → va_D A (wX8 cA a_m m_s m_past m_pasts m_text m_typed m_faceOfSide m_firstSide m_faces m_before m_endA m_endB m_from m_queue m_ring m_ringSize m_ringNodes m_rings m_path m_pathSize m_old m_lastRing m_bestNodes m_bestInside m_bestFits m_far m_xs m_ys) → va_S A s.heap H locs → f_X8_relaxes_b135 N m_s n135 x1 x2 x5 m_faceOfSide m_firstSide m_faces m_xs m_ys = some ρ → W p l e ({ frames := 4, cells := 0, slots := 0, locals := 91 } : Room) s m ([.ref (a_m 0), .int p1] : List Value).toArray below meth c H locs 0 0 (MQ below (va_Qv (fun (_ : Unit) => True) (fun _ t => va_P D vwCl (wX8 cA a_m m_s m_past m_pasts m_text m_typed ρ.1 ρ.2.1 ρ.2.2.1 m_before m_endA m_endB m_from m_queue m_ring m_ringSize m_ringNodes m_rings m_path m_pathSize m_old m_lastRing m_bestNodes m_bestInside m_bestFits m_far ρ.2.2.2.1 ρ.2.2.2.2) t.heap ∧ va_D A (wX8 cA a_m m_s m_past m_pasts m_text m_typed ρ.1 ρ.2.1 ρ.2.2.1 m_before m_endA m_endB m_from m_queue m_ring m_ringSize m_ringNodes m_rings m_path m_pathSize m_old m_lastRing m_bestNodes m_bestInside m_bestFits m_far ρ.2.2.2.1 ρ.2.2.2.2)) A) ([.ref (a_m 0), .int p1] : List Value).toArray s 0 0 A) (F0 m 135 ls []) := by
    intro n135
    induction n135 with
    | zero =>
      intro x1 x2 x5 m_faceOfSide m_firstSide m_faces m_xs m_ys H locs ls hl hP hD hS hf
      cases (show (none : Option ((Nat → Int32) × (Nat → Int32) × Int32 × (Nat → UInt32) × (Nat → UInt32))) = some ρ from hf)
    | succ n135 ih135 =>
      have B303 : ∀ (x1 : Int32) (x2 : Int32) (x5 : Int32) (m_faceOfSide : Nat → Int32) (m_firstSide : Nat → Int32) (m_faces : Int32) (m_xs : Nat → UInt32) (m_ys : Nat → UInt32) (H : Heap) (locs : List Loc) (ls : Array Slot), lv_has ls 10 [(0, .ref (a_m 0)), (1, .int x1), (2, .int x2), (5, .int x5)] → va_P D vwCl (wX8 cA a_m m_s m_past m_pasts m_text m_typed m_faceOfSide m_firstSide m_faces m_before m_endA m_endB m_from m_queue m_ring m_ringSize m_ringNodes m_rings m_path m_pathSize m_old m_lastRing m_bestNodes m_bestInside m_bestFits m_far m_xs m_ys) H → va_D A (wX8 cA a_m m_s m_past m_pasts m_text m_typed m_faceOfSide m_firstSide m_faces m_before m_endA m_endB m_from m_queue m_ring m_ringSize m_ringNodes m_rings m_path m_pathSize m_old m_lastRing m_bestNodes m_bestInside m_bestFits m_far m_xs m_ys) → va_S A s.heap H locs → f_X8_relaxes_b303 N m_s (f_X8_relaxes_b135 N m_s n135) x1 x2 x5 m_faceOfSide m_firstSide m_faces m_xs m_ys = some ρ → W p l e ({ frames := 4, cells := 0, slots := 0, locals := 91 } : Room) s m ([.ref (a_m 0), .int p1] : List Value).toArray below meth c H locs 0 0 (MQ below (va_Qv (fun (_ : Unit) => True) (fun _ t => va_P D vwCl (wX8 cA a_m m_s m_past m_pasts m_text m_typed ρ.1 ρ.2.1 ρ.2.2.1 m_before m_endA m_endB m_from m_queue m_ring m_ringSize m_ringNodes m_rings m_path m_pathSize m_old m_lastRing m_bestNodes m_bestInside m_bestFits m_far ρ.2.2.2.1 ρ.2.2.2.2) t.heap ∧ va_D A (wX8 cA a_m m_s m_past m_pasts m_text m_typed ρ.1 ρ.2.1 ρ.2.2.1 m_before m_endA m_endB m_from m_queue m_ring m_ringSize m_ringNodes m_rings m_path m_pathSize m_old m_lastRing m_bestNodes m_bestInside m_bestFits m_far ρ.2.2.2.1 ρ.2.2.2.2)) A) ([.ref (a_m 0), .int p1] : List Value).toArray s 0 0 A) (F0 m 303 ls []) := by
        intro x1 x2 x5 m_faceOfSide m_firstSide m_faces m_xs m_ys H locs ls hl hP hD hS hf
        refine lv_iinc (v := (x5 + 1)) (lv' := [(5, .int (x5 + 1)), (0, .ref (a_m 0)), (1, .int x1), (2, .int x2)]) hx hb dX8_relaxes_303 hl (k := 3) rfl rfl (by decide) rfl (fun ls hl => ?_)
        refine lv_goto (tgt := 135) hx hb dX8_relaxes_306 (by decide) ?_
        exact ih135 x1 x2 (x5 + 1) m_faceOfSide m_firstSide m_faces m_xs m_ys _ _ _ (lv_sub hl [1, 2, 3, 0] rfl) hP hD hS hf
      have B144 : ∀ (n144 : Nat), ∀ (x1 : Int32) (x2 : Int32) (x5 : Int32) (x6 : Int32) (m_faceOfSide : Nat → Int32) (m_firstSide : Nat → Int32) (m_faces : Int32) (m_xs : Nat → UInt32) (m_ys : Nat → UInt32) (H : Heap) (locs : List Loc) (ls : Array Slot), lv_has ls 10 [(0, .ref (a_m 0)), (1, .int x1), (2, .int x2), (5, .int x5), (6, .int x6)] → va_P D vwCl (wX8 cA a_m m_s m_past m_pasts m_text m_typed m_faceOfSide m_firstSide m_faces m_before m_endA m_endB m_from m_queue m_ring m_ringSize m_ringNodes m_rings m_path m_pathSize m_old m_lastRing m_bestNodes m_bestInside m_bestFits m_far m_xs m_ys) H → va_D A (wX8 cA a_m m_s m_past m_pasts m_text m_typed m_faceOfSide m_firstSide m_faces m_before m_endA m_endB m_from m_queue m_ring m_ringSize m_ringNodes m_rings m_path m_pathSize m_old m_lastRing m_bestNodes m_bestInside m_bestFits m_far m_xs m_ys) → va_S A s.heap H locs → f_X8_relaxes_b144 N m_s (f_X8_relaxes_b135 N m_s n135) n144 x1 x2 x5 x6 m_faceOfSide m_firstSide m_faces m_xs m_ys = some ρ → W p l e ({ frames := 4, cells := 0, slots := 0, locals := 91 } : Room) s m ([.ref (a_m 0), .int p1] : List Value).toArray below meth c H locs 0 0 (MQ below (va_Qv (fun (_ : Unit) => True) (fun _ t => va_P D vwCl (wX8 cA a_m m_s m_past m_pasts m_text m_typed ρ.1 ρ.2.1 ρ.2.2.1 m_before m_endA m_endB m_from m_queue m_ring m_ringSize m_ringNodes m_rings m_path m_pathSize m_old m_lastRing m_bestNodes m_bestInside m_bestFits m_far ρ.2.2.2.1 ρ.2.2.2.2) t.heap ∧ va_D A (wX8 cA a_m m_s m_past m_pasts m_text m_typed ρ.1 ρ.2.1 ρ.2.2.1 m_before m_endA m_endB m_from m_queue m_ring m_ringSize m_ringNodes m_rings m_path m_pathSize m_old m_lastRing m_bestNodes m_bestInside m_bestFits m_far ρ.2.2.2.1 ρ.2.2.2.2)) A) ([.ref (a_m 0), .int p1] : List Value).toArray s 0 0 A) (F0 m 144 ls []) := by
        intro n144
        induction n144 with
        | zero =>
          intro x1 x2 x5 x6 m_faceOfSide m_firstSide m_faces m_xs m_ys H locs ls hl hP hD hS hf
          cases (show (none : Option ((Nat → Int32) × (Nat → Int32) × Int32 × (Nat → UInt32) × (Nat → UInt32))) = some ρ from hf)
        | succ n144 ih144 =>
          have B297 : ∀ (x1 : Int32) (x2 : Int32) (x5 : Int32) (x6 : Int32) (m_faceOfSide : Nat → Int32) (m_firstSide : Nat → Int32) (m_faces : Int32) (m_xs : Nat → UInt32) (m_ys : Nat → UInt32) (H : Heap) (locs : List Loc) (ls : Array Slot), lv_has ls 10 [(0, .ref (a_m 0)), (1, .int x1), (2, .int x2), (5, .int x5), (6, .int x6)] → va_P D vwCl (wX8 cA a_m m_s m_past m_pasts m_text m_typed m_faceOfSide m_firstSide m_faces m_before m_endA m_endB m_from m_queue m_ring m_ringSize m_ringNodes m_rings m_path m_pathSize m_old m_lastRing m_bestNodes m_bestInside m_bestFits m_far m_xs m_ys) H → va_D A (wX8 cA a_m m_s m_past m_pasts m_text m_typed m_faceOfSide m_firstSide m_faces m_before m_endA m_endB m_from m_queue m_ring m_ringSize m_ringNodes m_rings m_path m_pathSize m_old m_lastRing m_bestNodes m_bestInside m_bestFits m_far m_xs m_ys) → va_S A s.heap H locs → f_X8_relaxes_b297 N m_s (f_X8_relaxes_b135 N m_s n135) (f_X8_relaxes_b144 N m_s (f_X8_relaxes_b135 N m_s n135) n144) x1 x2 x5 x6 m_faceOfSide m_firstSide m_faces m_xs m_ys = some ρ → W p l e ({ frames := 4, cells := 0, slots := 0, locals := 91 } : Room) s m ([.ref (a_m 0), .int p1] : List Value).toArray below meth c H locs 0 0 (MQ below (va_Qv (fun (_ : Unit) => True) (fun _ t => va_P D vwCl (wX8 cA a_m m_s m_past m_pasts m_text m_typed ρ.1 ρ.2.1 ρ.2.2.1 m_before m_endA m_endB m_from m_queue m_ring m_ringSize m_ringNodes m_rings m_path m_pathSize m_old m_lastRing m_bestNodes m_bestInside m_bestFits m_far ρ.2.2.2.1 ρ.2.2.2.2) t.heap ∧ va_D A (wX8 cA a_m m_s m_past m_pasts m_text m_typed ρ.1 ρ.2.1 ρ.2.2.1 m_before m_endA m_endB m_from m_queue m_ring m_ringSize m_ringNodes m_rings m_path m_pathSize m_old m_lastRing m_bestNodes m_bestInside m_bestFits m_far ρ.2.2.2.1 ρ.2.2.2.2)) A) ([.ref (a_m 0), .int p1] : List Value).toArray s 0 0 A) (F0 m 297 ls []) := by
            intro x1 x2 x5 x6 m_faceOfSide m_firstSide m_faces m_xs m_ys H locs ls hl hP hD hS hf
            refine lv_iinc (v := (x6 + 1)) (lv' := [(6, .int (x6 + 1)), (0, .ref (a_m 0)), (1, .int x1), (2, .int x2), (5, .int x5)]) hx hb dX8_relaxes_297 hl (k := 4) rfl rfl (by decide) rfl (fun ls hl => ?_)
            refine lv_goto (tgt := 144) hx hb dX8_relaxes_300 (by decide) ?_
            exact ih144 x1 x2 x5 (x6 + 1) m_faceOfSide m_firstSide m_faces m_xs m_ys _ _ _ (lv_sub hl [1, 2, 3, 4, 0] rfl) hP hD hS hf
          have B255 : ∀ (x1 : Int32) (x2 : Int32) (x5 : Int32) (x6 : Int32) (x7 : UInt32) (x8 : UInt32) (m_faceOfSide : Nat → Int32) (m_firstSide : Nat → Int32) (m_faces : Int32) (m_xs : Nat → UInt32) (m_ys : Nat → UInt32) (H : Heap) (locs : List Loc) (ls : Array Slot), lv_has ls 10 [(0, .ref (a_m 0)), (1, .int x1), (2, .int x2), (5, .int x5), (6, .int x6), (7, .float x7), (8, .float x8)] → va_P D vwCl (wX8 cA a_m m_s m_past m_pasts m_text m_typed m_faceOfSide m_firstSide m_faces m_before m_endA m_endB m_from m_queue m_ring m_ringSize m_ringNodes m_rings m_path m_pathSize m_old m_lastRing m_bestNodes m_bestInside m_bestFits m_far m_xs m_ys) H → va_D A (wX8 cA a_m m_s m_past m_pasts m_text m_typed m_faceOfSide m_firstSide m_faces m_before m_endA m_endB m_from m_queue m_ring m_ringSize m_ringNodes m_rings m_path m_pathSize m_old m_lastRing m_bestNodes m_bestInside m_bestFits m_far m_xs m_ys) → va_S A s.heap H locs → f_X8_relaxes_b255 N m_s (f_X8_relaxes_b135 N m_s n135) (f_X8_relaxes_b144 N m_s (f_X8_relaxes_b135 N m_s n135) n144) x1 x2 x5 x6 x7 x8 m_faceOfSide m_firstSide m_faces m_xs m_ys = some ρ → W p l e ({ frames := 4, cells := 0, slots := 0, locals := 91 } : Room) s m ([.ref (a_m 0), .int p1] : List Value).toArray below meth c H locs 0 0 (MQ below (va_Qv (fun (_ : Unit) => True) (fun _ t => va_P D vwCl (wX8 cA a_m m_s m_past m_pasts m_text m_typed ρ.1 ρ.2.1 ρ.2.2.1 m_before m_endA m_endB m_from m_queue m_ring m_ringSize m_ringNodes m_rings m_path m_pathSize m_old m_lastRing m_bestNodes m_bestInside m_bestFits m_far ρ.2.2.2.1 ρ.2.2.2.2) t.heap ∧ va_D A (wX8 cA a_m m_s m_past m_pasts m_text m_typed ρ.1 ρ.2.1 ρ.2.2.1 m_before m_endA m_endB m_from m_queue m_ring m_ringSize m_ringNodes m_rings m_path m_pathSize m_old m_lastRing m_bestNodes m_bestInside m_bestFits m_far ρ.2.2.2.1 ρ.2.2.2.2)) A) ([.ref (a_m 0), .int p1] : List Value).toArray s 0 0 A) (F0 m 255 ls []) := by
            intro x1 x2 x5 x6 x7 x8 m_faceOfSide m_firstSide m_faces m_xs m_ys H locs ls hl hP hD hS hf
            refine lv_aload_n hx hb dX8_relaxes_255 rfl (lv_at hl 0 rfl) ?_
            refine va_get (D := D) (ci := 8) (C := RX8) (T := TX8) (N := 27) hx hb hT kwX8 hown hK.1 hP 0 rfl rfl 25 (by decide) (hT _ kf_X8_59) (fun _ h9 => h9) rfl dX8_relaxes_256 ?_
            refine lv_iload hx hb dX8_relaxes_259 (lv_at hl 4 rfl) ?_
            refine lv_fload hx hb dX8_relaxes_261 (lv_at hl 5 rfl) ?_
            refine lv_aload_n hx hb dX8_relaxes_263 rfl (lv_at hl 0 rfl) ?_
            refine va_get (D := D) (ci := 8) (C := RX8) (T := TX8) (N := 27) hx hb hT kwX8 hown hK.1 hP 0 rfl rfl 0 (by decide) (hT _ kf_X8_7) (fun _ h9 => h9) rfl dX8_relaxes_264 ?_
            refine lv_bipush (v := 43) hx hb dX8_relaxes_267 (by decide) ?_
            refine lv_iload hx hb dX8_relaxes_269 (lv_at hl 4 rfl) ?_
            refine lv_iadd hx hb dX8_relaxes_271 ?_
            obtain ⟨h_39, hf⟩ := chk_s hf
            refine va_iald hx hb hK.1 hP 1 0 rfl rfl (inb_in h_39) dX8_relaxes_272 ?_
            refine lv_i2f hx hb dX8_relaxes_273 ?_
            obtain ⟨h_40, hf⟩ := chk_s hf
            refine lv_fdiv hx hb dX8_relaxes_274 (nn_n h_40) ?_
            obtain ⟨h_41, hf⟩ := chk_s hf
            refine va_fast hx hb hK.1 hP hD hS 17 1 rfl rfl (inb_in h_41) dX8_relaxes_275 (fun H locs hP hD hS => ?_)
            have hP : va_P D vwCl (wX8 cA a_m m_s m_past m_pasts m_text m_typed m_faceOfSide m_firstSide m_faces m_before m_endA m_endB m_from m_queue m_ring m_ringSize m_ringNodes m_rings m_path m_pathSize m_old m_lastRing m_bestNodes m_bestInside m_bestFits m_far (vf_upd m_xs x6.toNatClampNeg (FP.fdiv x7 (FP.i2f (m_s (43 + x6).toNatClampNeg)))) m_ys) H := hP
            have hD : va_D A (wX8 cA a_m m_s m_past m_pasts m_text m_typed m_faceOfSide m_firstSide m_faces m_before m_endA m_endB m_from m_queue m_ring m_ringSize m_ringNodes m_rings m_path m_pathSize m_old m_lastRing m_bestNodes m_bestInside m_bestFits m_far (vf_upd m_xs x6.toNatClampNeg (FP.fdiv x7 (FP.i2f (m_s (43 + x6).toNatClampNeg)))) m_ys) := hD
            refine lv_aload_n hx hb dX8_relaxes_276 rfl (lv_at hl 0 rfl) ?_
            refine va_get (D := D) (ci := 8) (C := RX8) (T := TX8) (N := 27) hx hb hT kwX8 hown hK.1 hP 0 rfl rfl 26 (by decide) (hT _ kf_X8_63) (fun _ h9 => h9) rfl dX8_relaxes_277 ?_
            refine lv_iload hx hb dX8_relaxes_280 (lv_at hl 4 rfl) ?_
            refine lv_fload hx hb dX8_relaxes_282 (lv_at hl 6 rfl) ?_
            refine lv_aload_n hx hb dX8_relaxes_284 rfl (lv_at hl 0 rfl) ?_
            refine va_get (D := D) (ci := 8) (C := RX8) (T := TX8) (N := 27) hx hb hT kwX8 hown hK.1 hP 0 rfl rfl 0 (by decide) (hT _ kf_X8_7) (fun _ h9 => h9) rfl dX8_relaxes_285 ?_
            refine lv_bipush (v := 43) hx hb dX8_relaxes_288 (by decide) ?_
            refine lv_iload hx hb dX8_relaxes_290 (lv_at hl 4 rfl) ?_
            refine lv_iadd hx hb dX8_relaxes_292 ?_
            obtain ⟨h_42, hf⟩ := chk_s hf
            refine va_iald hx hb hK.1 hP 1 0 rfl rfl (inb_in h_42) dX8_relaxes_293 ?_
            refine lv_i2f hx hb dX8_relaxes_294 ?_
            obtain ⟨h_43, hf⟩ := chk_s hf
            refine lv_fdiv hx hb dX8_relaxes_295 (nn_n h_43) ?_
            obtain ⟨h_44, hf⟩ := chk_s hf
            refine va_fast hx hb hK.1 hP hD hS 18 1 rfl rfl (inb_in h_44) dX8_relaxes_296 (fun H locs hP hD hS => ?_)
            have hP : va_P D vwCl (wX8 cA a_m m_s m_past m_pasts m_text m_typed m_faceOfSide m_firstSide m_faces m_before m_endA m_endB m_from m_queue m_ring m_ringSize m_ringNodes m_rings m_path m_pathSize m_old m_lastRing m_bestNodes m_bestInside m_bestFits m_far (vf_upd m_xs x6.toNatClampNeg (FP.fdiv x7 (FP.i2f (m_s (43 + x6).toNatClampNeg)))) (vf_upd m_ys x6.toNatClampNeg (FP.fdiv x8 (FP.i2f (m_s (43 + x6).toNatClampNeg))))) H := hP
            have hD : va_D A (wX8 cA a_m m_s m_past m_pasts m_text m_typed m_faceOfSide m_firstSide m_faces m_before m_endA m_endB m_from m_queue m_ring m_ringSize m_ringNodes m_rings m_path m_pathSize m_old m_lastRing m_bestNodes m_bestInside m_bestFits m_far (vf_upd m_xs x6.toNatClampNeg (FP.fdiv x7 (FP.i2f (m_s (43 + x6).toNatClampNeg)))) (vf_upd m_ys x6.toNatClampNeg (FP.fdiv x8 (FP.i2f (m_s (43 + x6).toNatClampNeg))))) := hD
            exact B297 x1 x2 x5 x6 m_faceOfSide m_firstSide m_faces (vf_upd m_xs x6.toNatClampNeg (FP.fdiv x7 (FP.i2f (m_s (43 + x6).toNatClampNeg)))) (vf_upd m_ys x6.toNatClampNeg (FP.fdiv x8 (FP.i2f (m_s (43 + x6).toNatClampNeg)))) _ _ _ (lv_sub hl [0, 1, 2, 3, 4] rfl) hP hD hS hf
          have B186 : ∀ (n186 : Nat), ∀ (x1 : Int32) (x2 : Int32) (x5 : Int32) (x6 : Int32) (x7 : UInt32) (x8 : UInt32) (x9 : Int32) (m_faceOfSide : Nat → Int32) (m_firstSide : Nat → Int32) (m_faces : Int32) (m_xs : Nat → UInt32) (m_ys : Nat → UInt32) (H : Heap) (locs : List Loc) (ls : Array Slot), lv_has ls 10 [(0, .ref (a_m 0)), (1, .int x1), (2, .int x2), (5, .int x5), (6, .int x6), (7, .float x7), (8, .float x8), (9, .int x9)] → va_P D vwCl (wX8 cA a_m m_s m_past m_pasts m_text m_typed m_faceOfSide m_firstSide m_faces m_before m_endA m_endB m_from m_queue m_ring m_ringSize m_ringNodes m_rings m_path m_pathSize m_old m_lastRing m_bestNodes m_bestInside m_bestFits m_far m_xs m_ys) H → va_D A (wX8 cA a_m m_s m_past m_pasts m_text m_typed m_faceOfSide m_firstSide m_faces m_before m_endA m_endB m_from m_queue m_ring m_ringSize m_ringNodes m_rings m_path m_pathSize m_old m_lastRing m_bestNodes m_bestInside m_bestFits m_far m_xs m_ys) → va_S A s.heap H locs → f_X8_relaxes_b186 N m_s (f_X8_relaxes_b135 N m_s n135) (f_X8_relaxes_b144 N m_s (f_X8_relaxes_b135 N m_s n135) n144) n186 x1 x2 x5 x6 x7 x8 x9 m_faceOfSide m_firstSide m_faces m_xs m_ys = some ρ → W p l e ({ frames := 4, cells := 0, slots := 0, locals := 91 } : Room) s m ([.ref (a_m 0), .int p1] : List Value).toArray below meth c H locs 0 0 (MQ below (va_Qv (fun (_ : Unit) => True) (fun _ t => va_P D vwCl (wX8 cA a_m m_s m_past m_pasts m_text m_typed ρ.1 ρ.2.1 ρ.2.2.1 m_before m_endA m_endB m_from m_queue m_ring m_ringSize m_ringNodes m_rings m_path m_pathSize m_old m_lastRing m_bestNodes m_bestInside m_bestFits m_far ρ.2.2.2.1 ρ.2.2.2.2) t.heap ∧ va_D A (wX8 cA a_m m_s m_past m_pasts m_text m_typed ρ.1 ρ.2.1 ρ.2.2.1 m_before m_endA m_endB m_from m_queue m_ring m_ringSize m_ringNodes m_rings m_path m_pathSize m_old m_lastRing m_bestNodes m_bestInside m_bestFits m_far ρ.2.2.2.1 ρ.2.2.2.2)) A) ([.ref (a_m 0), .int p1] : List Value).toArray s 0 0 A) (F0 m 186 ls []) := by
            intro n186
            induction n186 with
            | zero =>
              intro x1 x2 x5 x6 x7 x8 x9 m_faceOfSide m_firstSide m_faces m_xs m_ys H locs ls hl hP hD hS hf
              cases (show (none : Option ((Nat → Int32) × (Nat → Int32) × Int32 × (Nat → UInt32) × (Nat → UInt32))) = some ρ from hf)
            | succ n186 ih186 =>
              intro x1 x2 x5 x6 x7 x8 x9 m_faceOfSide m_firstSide m_faces m_xs m_ys H locs ls hl hP hD hS hf
              refine lv_iload hx hb dX8_relaxes_186 (lv_at hl 7 rfl) ?_
              refine lv_aload_n hx hb dX8_relaxes_188 rfl (lv_at hl 0 rfl) ?_
              refine va_get (D := D) (ci := 8) (C := RX8) (T := TX8) (N := 27) hx hb hT kwX8 hown hK.1 hP 0 rfl rfl 0 (by decide) (hT _ kf_X8_7) (fun _ h9 => h9) rfl dX8_relaxes_189 ?_
              refine lv_bipush (v := 43) hx hb dX8_relaxes_192 (by decide) ?_
              refine lv_iload hx hb dX8_relaxes_194 (lv_at hl 4 rfl) ?_
              refine lv_iadd hx hb dX8_relaxes_196 ?_
              obtain ⟨h_27, hf⟩ := chk_s hf
              refine va_iald hx hb hK.1 hP 1 0 rfl rfl (inb_in h_27) dX8_relaxes_197 ?_
              refine lv_icmp_ge (tgt := 255) hx hb dX8_relaxes_198 (by decide) (fun c_28 => ?_) (fun c_28 => ?_)
              · have hf := ite_t c_28 hf
                exact B255 x1 x2 x5 x6 x7 x8 m_faceOfSide m_firstSide m_faces m_xs m_ys _ _ _ (lv_sub hl [0, 1, 2, 3, 4, 5, 6] rfl) hP hD hS hf
              · have hf := ite_f c_28 hf
                refine lv_fload hx hb dX8_relaxes_201 (lv_at hl 5 rfl) ?_
                refine lv_aload_n hx hb dX8_relaxes_203 rfl (lv_at hl 0 rfl) ?_
                refine va_get (D := D) (ci := 8) (C := RX8) (T := TX8) (N := 27) hx hb hT kwX8 hown hK.1 hP 0 rfl rfl 25 (by decide) (hT _ kf_X8_59) (fun _ h9 => h9) rfl dX8_relaxes_204 ?_
                refine lv_aload_n hx hb dX8_relaxes_207 rfl (lv_at hl 0 rfl) ?_
                refine lv_aload_n hx hb dX8_relaxes_208 rfl (lv_at hl 0 rfl) ?_
                refine lv_iload hx hb dX8_relaxes_209 (lv_at hl 4 rfl) ?_
                refine lv_iload hx hb dX8_relaxes_211 (lv_at hl 7 rfl) ?_
                obtain ⟨r_29, hcr_29, hf⟩ := bd1_s hf
                refine backI (runV0 C (c_X8_turn l D cA a_m m_s m_past m_pasts m_text m_typed m_faceOfSide m_firstSide m_faces m_before m_endA m_endB m_from m_queue m_ring m_ringSize m_ringNodes m_rings m_path m_pathSize m_old m_lastRing m_bestNodes m_bestInside m_bestFits m_far m_xs m_ys x6 x9 N r_29 hcr_29) cf_X8_turn km_X8_78 ⟨rfl, rfl, by decide, by decide⟩ ⟨Nat.zero_le _, Nat.zero_le _⟩ (va_recv hK.1 hP (ci := 8) (q0 := 0) rfl rfl) (hP.sub [0, 1, 2, 3, 4, 5, 6, 7, 8, 9, 10, 11, 12, 13, 14, 15, 16, 17, 18] rfl) hK hl.1 rfl rfl (Nat.le_of_ble_eq_true rfl) dX8_relaxes_213) ?_
                refine lv_iload hx hb dX8_relaxes_216 (lv_at hl 4 rfl) ?_
                obtain ⟨r_30, hcr_30, hf⟩ := bd1_s hf
                refine backI (runV0 C (c_X8_across l D cA a_m m_s m_past m_pasts m_text m_typed m_faceOfSide m_firstSide m_faces m_before m_endA m_endB m_from m_queue m_ring m_ringSize m_ringNodes m_rings m_path m_pathSize m_old m_lastRing m_bestNodes m_bestInside m_bestFits m_far m_xs m_ys r_29 x6 N r_30 hcr_30) cf_X8_across km_X8_127 ⟨rfl, rfl, by decide, by decide⟩ ⟨Nat.zero_le _, Nat.zero_le _⟩ (va_recv hK.1 hP (ci := 8) (q0 := 0) rfl rfl) (hP.sub [0, 1, 2, 3, 4, 5, 6, 7, 8, 9, 10, 11, 12, 13, 14, 15, 16, 17, 18] rfl) hK hl.1 rfl rfl (Nat.le_of_ble_eq_true rfl) dX8_relaxes_218) ?_
                obtain ⟨h_31, hf⟩ := chk_s hf
                refine va_fald hx hb hK.1 hP 17 1 rfl rfl (inb_in h_31) dX8_relaxes_221 ?_
                obtain ⟨h_32, hf⟩ := chk_s hf
                refine lv_fadd hx hb dX8_relaxes_222 (nn_n h_32) ?_
                refine lv_topf (fun x7_33 ex7_33 => ?_)
                have hf := nm_t ex7_33 hf
                refine lv_fstore (lv' := [(7, .float x7_33), (0, .ref (a_m 0)), (1, .int x1), (2, .int x2), (5, .int x5), (6, .int x6), (8, .float x8), (9, .int x9)]) hx hb dX8_relaxes_223 hl (by decide) rfl (fun ls hl => ?_)
                refine lv_fload hx hb dX8_relaxes_225 (lv_at hl 6 rfl) ?_
                refine lv_aload_n hx hb dX8_relaxes_227 rfl (lv_at hl 1 rfl) ?_
                refine va_get (D := D) (ci := 8) (C := RX8) (T := TX8) (N := 27) hx hb hT kwX8 hown hK.1 hP 0 rfl rfl 26 (by decide) (hT _ kf_X8_63) (fun _ h9 => h9) rfl dX8_relaxes_228 ?_
                refine lv_aload_n hx hb dX8_relaxes_231 rfl (lv_at hl 1 rfl) ?_
                refine lv_aload_n hx hb dX8_relaxes_232 rfl (lv_at hl 1 rfl) ?_
                refine lv_iload hx hb dX8_relaxes_233 (lv_at hl 5 rfl) ?_
                refine lv_iload hx hb dX8_relaxes_235 (lv_at hl 7 rfl) ?_
                obtain ⟨r_34, hcr_34, hf⟩ := bd1_s hf
                refine backI (runV0 C (c_X8_turn l D cA a_m m_s m_past m_pasts m_text m_typed m_faceOfSide m_firstSide m_faces m_before m_endA m_endB m_from m_queue m_ring m_ringSize m_ringNodes m_rings m_path m_pathSize m_old m_lastRing m_bestNodes m_bestInside m_bestFits m_far m_xs m_ys x6 x9 N r_34 hcr_34) cf_X8_turn km_X8_78 ⟨rfl, rfl, by decide, by decide⟩ ⟨Nat.zero_le _, Nat.zero_le _⟩ (va_recv hK.1 hP (ci := 8) (q0 := 0) rfl rfl) (hP.sub [0, 1, 2, 3, 4, 5, 6, 7, 8, 9, 10, 11, 12, 13, 14, 15, 16, 17, 18] rfl) hK hl.1 rfl rfl (Nat.le_of_ble_eq_true rfl) dX8_relaxes_237) ?_
                refine lv_iload hx hb dX8_relaxes_240 (lv_at hl 5 rfl) ?_
                obtain ⟨r_35, hcr_35, hf⟩ := bd1_s hf
                refine backI (runV0 C (c_X8_across l D cA a_m m_s m_past m_pasts m_text m_typed m_faceOfSide m_firstSide m_faces m_before m_endA m_endB m_from m_queue m_ring m_ringSize m_ringNodes m_rings m_path m_pathSize m_old m_lastRing m_bestNodes m_bestInside m_bestFits m_far m_xs m_ys r_34 x6 N r_35 hcr_35) cf_X8_across km_X8_127 ⟨rfl, rfl, by decide, by decide⟩ ⟨Nat.zero_le _, Nat.zero_le _⟩ (va_recv hK.1 hP (ci := 8) (q0 := 0) rfl rfl) (hP.sub [0, 1, 2, 3, 4, 5, 6, 7, 8, 9, 10, 11, 12, 13, 14, 15, 16, 17, 18] rfl) hK hl.1 rfl rfl (Nat.le_of_ble_eq_true rfl) dX8_relaxes_242) ?_
                obtain ⟨h_36, hf⟩ := chk_s hf
                refine va_fald hx hb hK.1 hP 18 1 rfl rfl (inb_in h_36) dX8_relaxes_245 ?_
                obtain ⟨h_37, hf⟩ := chk_s hf
                refine lv_fadd hx hb dX8_relaxes_246 (nn_n h_37) ?_
                refine lv_topf (fun x8_38 ex8_38 => ?_)
                have hf := nm_t ex8_38 hf
                refine lv_fstore (lv' := [(8, .float x8_38), (7, .float x7_33), (0, .ref (a_m 0)), (1, .int x1), (2, .int x2), (5, .int x5), (6, .int x6), (9, .int x9)]) hx hb dX8_relaxes_247 hl (by decide) rfl (fun ls hl => ?_)
                refine lv_iinc (v := (x9 + 1)) (lv' := [(9, .int (x9 + 1)), (8, .float x8_38), (7, .float x7_33), (0, .ref (a_m 0)), (1, .int x1), (2, .int x2), (5, .int x5), (6, .int x6)]) hx hb dX8_relaxes_249 hl (k := 7) rfl rfl (by decide) rfl (fun ls hl => ?_)
                refine lv_goto (tgt := 186) hx hb dX8_relaxes_252 (by decide) ?_
                exact ih186 x1 x2 x5 x6 x7_33 x8_38 (x9 + 1) m_faceOfSide m_firstSide m_faces m_xs m_ys _ _ _ (lv_sub hl [3, 4, 5, 6, 7, 2, 1, 0] rfl) hP hD hS hf
          intro x1 x2 x5 x6 m_faceOfSide m_firstSide m_faces m_xs m_ys H locs ls hl hP hD hS hf
          refine lv_iload hx hb dX8_relaxes_144 (lv_at hl 4 rfl) ?_
          refine lv_aload_n hx hb dX8_relaxes_146 rfl (lv_at hl 0 rfl) ?_
          refine va_get (D := D) (ci := 8) (C := RX8) (T := TX8) (N := 27) hx hb hT kwX8 hown hK.1 hP 0 rfl rfl 0 (by decide) (hT _ kf_X8_7) (fun _ h9 => h9) rfl dX8_relaxes_147 ?_
          refine lv_iconst (v := 0) hx hb dX8_relaxes_150 (by decide) ?_
          obtain ⟨h_19, hf⟩ := chk_s hf
          refine va_iald hx hb hK.1 hP 1 0 rfl rfl (inb_in h_19) dX8_relaxes_151 ?_
          refine lv_icmp_ge (tgt := 303) hx hb dX8_relaxes_152 (by decide) (fun c_20 => ?_) (fun c_20 => ?_)
          · have hf := ite_t c_20 hf
            exact B303 x1 x2 x5 m_faceOfSide m_firstSide m_faces m_xs m_ys _ _ _ (lv_sub hl [0, 1, 2, 3] rfl) hP hD hS hf
          · have hf := ite_f c_20 hf
            refine lv_iload_n hx hb dX8_relaxes_155 rfl (lv_at hl 2 rfl) ?_
            refine lv_iload hx hb dX8_relaxes_156 (lv_at hl 4 rfl) ?_
            obtain ⟨r_21, hcr_21, hf⟩ := bd1_s hf
            refine backI (runS0 C (c_X8_has l D cA x2 x6 N r_21 hcr_21) cf_X8_has km_X8_166 ⟨rfl, rfl, by decide, by decide⟩ ⟨Nat.zero_le _, Nat.zero_le _⟩ (hP.sub [] rfl) hK hl.1 rfl rfl (Nat.le_of_ble_eq_true rfl) dX8_relaxes_158) ?_
            refine lv_if_ne (tgt := 297) hx hb dX8_relaxes_161 (by decide) (fun c_22 => ?_) (fun c_22 => ?_)
            · have hf := ite_t c_22 hf
              exact B297 x1 x2 x5 x6 m_faceOfSide m_firstSide m_faces m_xs m_ys _ _ _ (lv_sub hl [0, 1, 2, 3, 4] rfl) hP hD hS hf
            · have hf := ite_fn c_22 hf
              refine lv_aload_n hx hb dX8_relaxes_164 rfl (lv_at hl 0 rfl) ?_
              refine va_get (D := D) (ci := 8) (C := RX8) (T := TX8) (N := 27) hx hb hT kwX8 hown hK.1 hP 0 rfl rfl 0 (by decide) (hT _ kf_X8_7) (fun _ h9 => h9) rfl dX8_relaxes_165 ?_
              refine lv_bipush (v := 43) hx hb dX8_relaxes_168 (by decide) ?_
              refine lv_iload hx hb dX8_relaxes_170 (lv_at hl 4 rfl) ?_
              refine lv_iadd hx hb dX8_relaxes_172 ?_
              obtain ⟨h_23, hf⟩ := chk_s hf
              refine va_iald hx hb hK.1 hP 1 0 rfl rfl (inb_in h_23) dX8_relaxes_173 ?_
              refine lv_if_le (tgt := 297) hx hb dX8_relaxes_174 (by decide) (fun c_24 => ?_) (fun c_24 => ?_)
              · have hf := ite_t c_24 hf
                exact B297 x1 x2 x5 x6 m_faceOfSide m_firstSide m_faces m_xs m_ys _ _ _ (lv_sub hl [0, 1, 2, 3, 4] rfl) hP hD hS hf
              · have hf := ite_f c_24 hf
                refine lv_fconst0 hx hb dX8_relaxes_177 ?_
                refine lv_topf (fun x7_25 ex7_25 => ?_)
                have hf := nm_t ex7_25 hf
                refine lv_fstore (lv' := [(7, .float x7_25), (0, .ref (a_m 0)), (1, .int x1), (2, .int x2), (5, .int x5), (6, .int x6)]) hx hb dX8_relaxes_178 hl (by decide) rfl (fun ls hl => ?_)
                refine lv_fconst0 hx hb dX8_relaxes_180 ?_
                refine lv_topf (fun x8_26 ex8_26 => ?_)
                have hf := nm_t ex8_26 hf
                refine lv_fstore (lv' := [(8, .float x8_26), (7, .float x7_25), (0, .ref (a_m 0)), (1, .int x1), (2, .int x2), (5, .int x5), (6, .int x6)]) hx hb dX8_relaxes_181 hl (by decide) rfl (fun ls hl => ?_)
                refine lv_iconst (v := 0) hx hb dX8_relaxes_183 (by decide) ?_
                refine lv_istore (lv' := [(9, .int 0), (8, .float x8_26), (7, .float x7_25), (0, .ref (a_m 0)), (1, .int x1), (2, .int x2), (5, .int x5), (6, .int x6)]) hx hb dX8_relaxes_184 hl (by decide) rfl (fun ls hl => ?_)
                exact B186 N x1 x2 x5 x6 x7_25 x8_26 0 m_faceOfSide m_firstSide m_faces m_xs m_ys _ _ _ (lv_sub hl [3, 4, 5, 6, 7, 2, 1, 0] rfl) hP hD hS hf
      intro x1 x2 x5 m_faceOfSide m_firstSide m_faces m_xs m_ys H locs ls hl hP hD hS hf
      refine lv_iload hx hb dX8_relaxes_135 (lv_at hl 3 rfl) ?_
      refine lv_iload_n hx hb dX8_relaxes_137 rfl (lv_at hl 1 rfl) ?_
      refine lv_icmp_ge (tgt := 309) hx hb dX8_relaxes_138 (by decide) (fun c_18 => ?_) (fun c_18 => ?_)
      · have hf := ite_t c_18 hf
        have eR := some_i hf
        exact W.vret hx hb hr (fun t ht hW => ⟨⟨(), rfl, trivial, by rw [← eR, ht]; exact hP, by rw [← eR]; exact hD⟩, hS.F ht⟩) hS.2.2 dX8_relaxes_309 (hlocks := hlk)
      · have hf := ite_f c_18 hf
        refine lv_iconst (v := 0) hx hb dX8_relaxes_141 (by decide) ?_
        refine lv_istore (lv' := [(6, .int 0), (0, .ref (a_m 0)), (1, .int x1), (2, .int x2), (5, .int x5)]) hx hb dX8_relaxes_142 hl (by decide) rfl (fun ls hl => ?_)
        exact B144 N x1 x2 x5 0 m_faceOfSide m_firstSide m_faces m_xs m_ys _ _ _ (lv_sub hl [1, 2, 3, 4, 0] rfl) hP hD hS hf
  have B132 : ∀ (x1 : Int32) (x2 : Int32) (m_faceOfSide : Nat → Int32) (m_firstSide : Nat → Int32) (m_faces : Int32) (m_xs : Nat → UInt32) (m_ys : Nat → UInt32) (H : Heap) (locs : List Loc) (ls : Array Slot), lv_has ls 10 [(0, .ref (a_m 0)), (1, .int x1), (2, .int x2)] → va_P D vwCl (wX8 cA a_m m_s m_past m_pasts m_text m_typed m_faceOfSide m_firstSide m_faces m_before m_endA m_endB m_from m_queue m_ring m_ringSize m_ringNodes m_rings m_path m_pathSize m_old m_lastRing m_bestNodes m_bestInside m_bestFits m_far m_xs m_ys) H → va_D A (wX8 cA a_m m_s m_past m_pasts m_text m_typed m_faceOfSide m_firstSide m_faces m_before m_endA m_endB m_from m_queue m_ring m_ringSize m_ringNodes m_rings m_path m_pathSize m_old m_lastRing m_bestNodes m_bestInside m_bestFits m_far m_xs m_ys) → va_S A s.heap H locs → f_X8_relaxes_b132 N m_s x1 x2 m_faceOfSide m_firstSide m_faces m_xs m_ys = some ρ → W p l e ({ frames := 4, cells := 0, slots := 0, locals := 91 } : Room) s m ([.ref (a_m 0), .int p1] : List Value).toArray below meth c H locs 0 0 (MQ below (va_Qv (fun (_ : Unit) => True) (fun _ t => va_P D vwCl (wX8 cA a_m m_s m_past m_pasts m_text m_typed ρ.1 ρ.2.1 ρ.2.2.1 m_before m_endA m_endB m_from m_queue m_ring m_ringSize m_ringNodes m_rings m_path m_pathSize m_old m_lastRing m_bestNodes m_bestInside m_bestFits m_far ρ.2.2.2.1 ρ.2.2.2.2) t.heap ∧ va_D A (wX8 cA a_m m_s m_past m_pasts m_text m_typed ρ.1 ρ.2.1 ρ.2.2.1 m_before m_endA m_endB m_from m_queue m_ring m_ringSize m_ringNodes m_rings m_path m_pathSize m_old m_lastRing m_bestNodes m_bestInside m_bestFits m_far ρ.2.2.2.1 ρ.2.2.2.2)) A) ([.ref (a_m 0), .int p1] : List Value).toArray s 0 0 A) (F0 m 132 ls []) := by
    intro x1 x2 m_faceOfSide m_firstSide m_faces m_xs m_ys H locs ls hl hP hD hS hf
    refine lv_iconst (v := 0) hx hb dX8_relaxes_132 (by decide) ?_
    refine lv_istore (lv' := [(5, .int 0), (0, .ref (a_m 0)), (1, .int x1), (2, .int x2)]) hx hb dX8_relaxes_133 hl (by decide) rfl (fun ls hl => ?_)
    exact B135 N x1 x2 0 m_faceOfSide m_firstSide m_faces m_xs m_ys _ _ _ (lv_sub hl [1, 2, 3, 0] rfl) hP hD hS hf
  have B56 : ∀ (n56 : Nat), ∀ (x1 : Int32) (x2 : Int32) (x3 : Int32) (x4 : Int32) (x5 : Int32) (m_faceOfSide : Nat → Int32) (m_firstSide : Nat → Int32) (m_faces : Int32) (m_xs : Nat → UInt32) (m_ys : Nat → UInt32) (H : Heap) (locs : List Loc) (ls : Array Slot), lv_has ls 10 [(0, .ref (a_m 0)), (1, .int x1), (2, .int x2), (3, .int x3), (4, .int x4), (5, .int x5)] → va_P D vwCl (wX8 cA a_m m_s m_past m_pasts m_text m_typed m_faceOfSide m_firstSide m_faces m_before m_endA m_endB m_from m_queue m_ring m_ringSize m_ringNodes m_rings m_path m_pathSize m_old m_lastRing m_bestNodes m_bestInside m_bestFits m_far m_xs m_ys) H → va_D A (wX8 cA a_m m_s m_past m_pasts m_text m_typed m_faceOfSide m_firstSide m_faces m_before m_endA m_endB m_from m_queue m_ring m_ringSize m_ringNodes m_rings m_path m_pathSize m_old m_lastRing m_bestNodes m_bestInside m_bestFits m_far m_xs m_ys) → va_S A s.heap H locs → f_X8_relaxes_b56 N m_s n56 x1 x2 x3 x4 x5 m_faceOfSide m_firstSide m_faces m_xs m_ys = some ρ → W p l e ({ frames := 4, cells := 0, slots := 0, locals := 91 } : Room) s m ([.ref (a_m 0), .int p1] : List Value).toArray below meth c H locs 0 0 (MQ below (va_Qv (fun (_ : Unit) => True) (fun _ t => va_P D vwCl (wX8 cA a_m m_s m_past m_pasts m_text m_typed ρ.1 ρ.2.1 ρ.2.2.1 m_before m_endA m_endB m_from m_queue m_ring m_ringSize m_ringNodes m_rings m_path m_pathSize m_old m_lastRing m_bestNodes m_bestInside m_bestFits m_far ρ.2.2.2.1 ρ.2.2.2.2) t.heap ∧ va_D A (wX8 cA a_m m_s m_past m_pasts m_text m_typed ρ.1 ρ.2.1 ρ.2.2.1 m_before m_endA m_endB m_from m_queue m_ring m_ringSize m_ringNodes m_rings m_path m_pathSize m_old m_lastRing m_bestNodes m_bestInside m_bestFits m_far ρ.2.2.2.1 ρ.2.2.2.2)) A) ([.ref (a_m 0), .int p1] : List Value).toArray s 0 0 A) (F0 m 56 ls []) := by
    intro n56
    induction n56 with
    | zero =>
      intro x1 x2 x3 x4 x5 m_faceOfSide m_firstSide m_faces m_xs m_ys H locs ls hl hP hD hS hf
      cases (show (none : Option ((Nat → Int32) × (Nat → Int32) × Int32 × (Nat → UInt32) × (Nat → UInt32))) = some ρ from hf)
    | succ n56 ih56 =>
      have B118 : ∀ (x1 : Int32) (x2 : Int32) (x3 : Int32) (x4 : Int32) (x5 : Int32) (m_faceOfSide : Nat → Int32) (m_firstSide : Nat → Int32) (m_faces : Int32) (m_xs : Nat → UInt32) (m_ys : Nat → UInt32) (H : Heap) (locs : List Loc) (ls : Array Slot), lv_has ls 10 [(0, .ref (a_m 0)), (1, .int x1), (2, .int x2), (3, .int x3), (4, .int x4), (5, .int x5)] → va_P D vwCl (wX8 cA a_m m_s m_past m_pasts m_text m_typed m_faceOfSide m_firstSide m_faces m_before m_endA m_endB m_from m_queue m_ring m_ringSize m_ringNodes m_rings m_path m_pathSize m_old m_lastRing m_bestNodes m_bestInside m_bestFits m_far m_xs m_ys) H → va_D A (wX8 cA a_m m_s m_past m_pasts m_text m_typed m_faceOfSide m_firstSide m_faces m_before m_endA m_endB m_from m_queue m_ring m_ringSize m_ringNodes m_rings m_path m_pathSize m_old m_lastRing m_bestNodes m_bestInside m_bestFits m_far m_xs m_ys) → va_S A s.heap H locs → f_X8_relaxes_b118 N m_s (f_X8_relaxes_b56 N m_s n56) x1 x2 x3 x4 x5 m_faceOfSide m_firstSide m_faces m_xs m_ys = some ρ → W p l e ({ frames := 4, cells := 0, slots := 0, locals := 91 } : Room) s m ([.ref (a_m 0), .int p1] : List Value).toArray below meth c H locs 0 0 (MQ below (va_Qv (fun (_ : Unit) => True) (fun _ t => va_P D vwCl (wX8 cA a_m m_s m_past m_pasts m_text m_typed ρ.1 ρ.2.1 ρ.2.2.1 m_before m_endA m_endB m_from m_queue m_ring m_ringSize m_ringNodes m_rings m_path m_pathSize m_old m_lastRing m_bestNodes m_bestInside m_bestFits m_far ρ.2.2.2.1 ρ.2.2.2.2) t.heap ∧ va_D A (wX8 cA a_m m_s m_past m_pasts m_text m_typed ρ.1 ρ.2.1 ρ.2.2.1 m_before m_endA m_endB m_from m_queue m_ring m_ringSize m_ringNodes m_rings m_path m_pathSize m_old m_lastRing m_bestNodes m_bestInside m_bestFits m_far ρ.2.2.2.1 ρ.2.2.2.2)) A) ([.ref (a_m 0), .int p1] : List Value).toArray s 0 0 A) (F0 m 118 ls []) := by
        intro x1 x2 x3 x4 x5 m_faceOfSide m_firstSide m_faces m_xs m_ys H locs ls hl hP hD hS hf
        refine lv_aload_n hx hb dX8_relaxes_118 rfl (lv_at hl 0 rfl) ?_
        refine lv_iload hx hb dX8_relaxes_119 (lv_at hl 4 rfl) ?_
        obtain ⟨r_17, hcr_17, hf⟩ := bd1_s hf
        refine backI (runV0 C (c_X8_follows l D cA a_m m_s m_past m_pasts m_text m_typed m_faceOfSide m_firstSide m_faces m_before m_endA m_endB m_from m_queue m_ring m_ringSize m_ringNodes m_rings m_path m_pathSize m_old m_lastRing m_bestNodes m_bestInside m_bestFits m_far m_xs m_ys x4 N r_17 hcr_17) cf_X8_follows km_X8_130 ⟨rfl, rfl, by decide, by decide⟩ ⟨Nat.zero_le _, Nat.zero_le _⟩ (va_recv hK.1 hP (ci := 8) (q0 := 0) rfl rfl) (hP.sub [0, 1, 2, 3, 4, 5, 6, 7, 8, 9, 10, 11, 12, 13, 14, 15, 16, 17, 18] rfl) hK hl.1 rfl rfl (Nat.le_of_ble_eq_true rfl) dX8_relaxes_121) ?_
        refine lv_istore (lv' := [(4, .int r_17), (0, .ref (a_m 0)), (1, .int x1), (2, .int x2), (3, .int x3), (5, .int x5)]) hx hb dX8_relaxes_124 hl (by decide) rfl (fun ls hl => ?_)
        refine lv_iinc (v := (x5 + 1)) (lv' := [(5, .int (x5 + 1)), (4, .int r_17), (0, .ref (a_m 0)), (1, .int x1), (2, .int x2), (3, .int x3)]) hx hb dX8_relaxes_126 hl (k := 5) rfl rfl (by decide) rfl (fun ls hl => ?_)
        refine lv_goto (tgt := 56) hx hb dX8_relaxes_129 (by decide) ?_
        exact ih56 x1 x2 x3 r_17 (x5 + 1) m_faceOfSide m_firstSide m_faces m_xs m_ys _ _ _ (lv_sub hl [2, 3, 4, 5, 1, 0] rfl) hP hD hS hf
      intro x1 x2 x3 x4 x5 m_faceOfSide m_firstSide m_faces m_xs m_ys H locs ls hl hP hD hS hf
      refine lv_iload hx hb dX8_relaxes_56 (lv_at hl 5 rfl) ?_
      refine lv_aload_n hx hb dX8_relaxes_58 rfl (lv_at hl 0 rfl) ?_
      refine lv_aload_n hx hb dX8_relaxes_59 rfl (lv_at hl 0 rfl) ?_
      refine va_get (D := D) (ci := 8) (C := RX8) (T := TX8) (N := 27) hx hb hT kwX8 hown hK.1 hP 0 rfl rfl 0 (by decide) (hT _ kf_X8_7) (fun _ h9 => h9) rfl dX8_relaxes_60 ?_
      refine lv_iconst (v := 2) hx hb dX8_relaxes_63 (by decide) ?_
      obtain ⟨h_8, hf⟩ := chk_s hf
      refine va_iald hx hb hK.1 hP 1 0 rfl rfl (inb_in h_8) dX8_relaxes_64 ?_
      obtain ⟨r_9, hcr_9, hf⟩ := bd1_s hf
      refine backI (runV0 C (c_X8_lengthOf l D cA a_m m_s m_past m_pasts m_text m_typed m_faceOfSide m_firstSide m_faces m_before m_endA m_endB m_from m_queue m_ring m_ringSize m_ringNodes m_rings m_path m_pathSize m_old m_lastRing m_bestNodes m_bestInside m_bestFits m_far m_xs m_ys (m_s (2 : Int32).toNatClampNeg) N r_9 hcr_9) cf_X8_lengthOf km_X8_154 ⟨rfl, rfl, by decide, by decide⟩ ⟨Nat.zero_le _, Nat.zero_le _⟩ (va_recv hK.1 hP (ci := 8) (q0 := 0) rfl rfl) (hP.sub [0, 1, 2, 3, 4, 5, 6, 7, 8, 9, 10, 11, 12, 13, 14, 15, 16, 17, 18] rfl) hK hl.1 rfl rfl (Nat.le_of_ble_eq_true rfl) dX8_relaxes_65) ?_
      refine lv_icmp_ge (tgt := 132) hx hb dX8_relaxes_68 (by decide) (fun c_10 => ?_) (fun c_10 => ?_)
      · have hf := ite_t c_10 hf
        exact B132 x1 x2 m_faceOfSide m_firstSide m_faces m_xs m_ys _ _ _ (lv_sub hl [0, 1, 2] rfl) hP hD hS hf
      · have hf := ite_f c_10 hf
        refine lv_aload_n hx hb dX8_relaxes_71 rfl (lv_at hl 0 rfl) ?_
        refine lv_iload hx hb dX8_relaxes_72 (lv_at hl 4 rfl) ?_
        obtain ⟨r_11, hcr_11, hf⟩ := bd1_s hf
        refine backI (runV0 C (c_X8_tail l D cA a_m m_s m_past m_pasts m_text m_typed m_faceOfSide m_firstSide m_faces m_before m_endA m_endB m_from m_queue m_ring m_ringSize m_ringNodes m_rings m_path m_pathSize m_old m_lastRing m_bestNodes m_bestInside m_bestFits m_far m_xs m_ys x4 N r_11 hcr_11) cf_X8_tail km_X8_123 ⟨rfl, rfl, by decide, by decide⟩ ⟨Nat.zero_le _, Nat.zero_le _⟩ (va_recv hK.1 hP (ci := 8) (q0 := 0) rfl rfl) (hP.sub [0, 1, 2, 3, 4, 5, 6, 7, 8, 9, 10, 11, 12, 13, 14, 15, 16, 17, 18] rfl) hK hl.1 rfl rfl (Nat.le_of_ble_eq_true rfl) dX8_relaxes_74) ?_
        refine lv_istore (lv' := [(6, .int r_11), (0, .ref (a_m 0)), (1, .int x1), (2, .int x2), (3, .int x3), (4, .int x4), (5, .int x5)]) hx hb dX8_relaxes_77 hl (by decide) rfl (fun ls hl => ?_)
        refine lv_iload_n hx hb dX8_relaxes_79 rfl (lv_at hl 3 rfl) ?_
        refine lv_iload hx hb dX8_relaxes_80 (lv_at hl 0 rfl) ?_
        obtain ⟨r_12, hcr_12, hf⟩ := bd1_s hf
        refine backI (runS0 C (c_X8_has l D cA x2 r_11 N r_12 hcr_12) cf_X8_has km_X8_166 ⟨rfl, rfl, by decide, by decide⟩ ⟨Nat.zero_le _, Nat.zero_le _⟩ (hP.sub [] rfl) hK hl.1 rfl rfl (Nat.le_of_ble_eq_true rfl) dX8_relaxes_82) ?_
        refine lv_if_ne (tgt := 118) hx hb dX8_relaxes_85 (by decide) (fun c_13 => ?_) (fun c_13 => ?_)
        · have hf := ite_t c_13 hf
          exact B118 x1 x2 x3 x4 x5 m_faceOfSide m_firstSide m_faces m_xs m_ys _ _ _ (lv_sub hl [1, 2, 3, 4, 5, 6] rfl) hP hD hS hf
        · have hf := ite_fn c_13 hf
          refine lv_aload_n hx hb dX8_relaxes_88 rfl (lv_at hl 1 rfl) ?_
          refine va_get (D := D) (ci := 8) (C := RX8) (T := TX8) (N := 27) hx hb hT kwX8 hown hK.1 hP 0 rfl rfl 25 (by decide) (hT _ kf_X8_59) (fun _ h9 => h9) rfl dX8_relaxes_89 ?_
          refine lv_iload hx hb dX8_relaxes_92 (lv_at hl 0 rfl) ?_
          refine lv_iload_n hx hb dX8_relaxes_94 rfl (lv_at hl 4 rfl) ?_
          refine lv_i2f hx hb dX8_relaxes_95 ?_
          obtain ⟨h_14, hf⟩ := chk_s hf
          refine va_fast hx hb hK.1 hP hD hS 17 1 rfl rfl (inb_in h_14) dX8_relaxes_96 (fun H locs hP hD hS => ?_)
          have hP : va_P D vwCl (wX8 cA a_m m_s m_past m_pasts m_text m_typed m_faceOfSide m_firstSide m_faces m_before m_endA m_endB m_from m_queue m_ring m_ringSize m_ringNodes m_rings m_path m_pathSize m_old m_lastRing m_bestNodes m_bestInside m_bestFits m_far (vf_upd m_xs r_11.toNatClampNeg (FP.i2f x3)) m_ys) H := hP
          have hD : va_D A (wX8 cA a_m m_s m_past m_pasts m_text m_typed m_faceOfSide m_firstSide m_faces m_before m_endA m_endB m_from m_queue m_ring m_ringSize m_ringNodes m_rings m_path m_pathSize m_old m_lastRing m_bestNodes m_bestInside m_bestFits m_far (vf_upd m_xs r_11.toNatClampNeg (FP.i2f x3)) m_ys) := hD
          refine lv_aload_n hx hb dX8_relaxes_97 rfl (lv_at hl 1 rfl) ?_
          refine va_get (D := D) (ci := 8) (C := RX8) (T := TX8) (N := 27) hx hb hT kwX8 hown hK.1 hP 0 rfl rfl 26 (by decide) (hT _ kf_X8_63) (fun _ h9 => h9) rfl dX8_relaxes_98 ?_
          refine lv_iload hx hb dX8_relaxes_101 (lv_at hl 0 rfl) ?_
          refine lv_iload_n hx hb dX8_relaxes_103 rfl (lv_at hl 4 rfl) ?_
          refine lv_iload_n hx hb dX8_relaxes_104 rfl (lv_at hl 4 rfl) ?_
          refine lv_imul hx hb dX8_relaxes_105 ?_
          refine lv_i2f hx hb dX8_relaxes_106 ?_
          obtain ⟨h_15, hf⟩ := chk_s hf
          refine va_fast hx hb hK.1 hP hD hS 18 1 rfl rfl (inb_in h_15) dX8_relaxes_107 (fun H locs hP hD hS => ?_)
          have hP : va_P D vwCl (wX8 cA a_m m_s m_past m_pasts m_text m_typed m_faceOfSide m_firstSide m_faces m_before m_endA m_endB m_from m_queue m_ring m_ringSize m_ringNodes m_rings m_path m_pathSize m_old m_lastRing m_bestNodes m_bestInside m_bestFits m_far (vf_upd m_xs r_11.toNatClampNeg (FP.i2f x3)) (vf_upd m_ys r_11.toNatClampNeg (FP.i2f (x3 * x3)))) H := hP
          have hD : va_D A (wX8 cA a_m m_s m_past m_pasts m_text m_typed m_faceOfSide m_firstSide m_faces m_before m_endA m_endB m_from m_queue m_ring m_ringSize m_ringNodes m_rings m_path m_pathSize m_old m_lastRing m_bestNodes m_bestInside m_bestFits m_far (vf_upd m_xs r_11.toNatClampNeg (FP.i2f x3)) (vf_upd m_ys r_11.toNatClampNeg (FP.i2f (x3 * x3)))) := hD
          refine lv_iload_n hx hb dX8_relaxes_108 rfl (lv_at hl 3 rfl) ?_
          refine lv_iconst (v := 1) hx hb dX8_relaxes_109 (by decide) ?_
          refine lv_iload hx hb dX8_relaxes_110 (lv_at hl 0 rfl) ?_
          refine lv_ishl hx hb dX8_relaxes_112 ?_
          refine lv_ior hx hb dX8_relaxes_113 ?_
          refine lv_topi (fun x2_16 ex2_16 => ?_)
          have hf := nm_t ex2_16 hf
          refine lv_istore_n (lv' := [(2, .int x2_16), (6, .int r_11), (0, .ref (a_m 0)), (1, .int x1), (3, .int x3), (4, .int x4), (5, .int x5)]) hx hb dX8_relaxes_114 rfl hl (by decide) rfl (fun ls hl => ?_)
          refine lv_iinc (v := (x3 + 1)) (lv' := [(3, .int (x3 + 1)), (2, .int x2_16), (6, .int r_11), (0, .ref (a_m 0)), (1, .int x1), (4, .int x4), (5, .int x5)]) hx hb dX8_relaxes_115 hl (k := 4) rfl rfl (by decide) rfl (fun ls hl => ?_)
          exact B118 x1 x2_16 (x3 + 1) x4 x5 m_faceOfSide m_firstSide m_faces (vf_upd m_xs r_11.toNatClampNeg (FP.i2f x3)) (vf_upd m_ys r_11.toNatClampNeg (FP.i2f (x3 * x3))) _ _ _ (lv_sub hl [3, 4, 1, 0, 5, 6] rfl) hP hD hS hf
  have B40 : ∀ (x1 : Int32) (x2 : Int32) (x3 : Int32) (m_faceOfSide : Nat → Int32) (m_firstSide : Nat → Int32) (m_faces : Int32) (m_xs : Nat → UInt32) (m_ys : Nat → UInt32) (H : Heap) (locs : List Loc) (ls : Array Slot), lv_has ls 10 [(0, .ref (a_m 0)), (1, .int x1), (2, .int x2), (3, .int x3)] → va_P D vwCl (wX8 cA a_m m_s m_past m_pasts m_text m_typed m_faceOfSide m_firstSide m_faces m_before m_endA m_endB m_from m_queue m_ring m_ringSize m_ringNodes m_rings m_path m_pathSize m_old m_lastRing m_bestNodes m_bestInside m_bestFits m_far m_xs m_ys) H → va_D A (wX8 cA a_m m_s m_past m_pasts m_text m_typed m_faceOfSide m_firstSide m_faces m_before m_endA m_endB m_from m_queue m_ring m_ringSize m_ringNodes m_rings m_path m_pathSize m_old m_lastRing m_bestNodes m_bestInside m_bestFits m_far m_xs m_ys) → va_S A s.heap H locs → f_X8_relaxes_b40 N m_s x1 x2 x3 m_faceOfSide m_firstSide m_faces m_xs m_ys = some ρ → W p l e ({ frames := 4, cells := 0, slots := 0, locals := 91 } : Room) s m ([.ref (a_m 0), .int p1] : List Value).toArray below meth c H locs 0 0 (MQ below (va_Qv (fun (_ : Unit) => True) (fun _ t => va_P D vwCl (wX8 cA a_m m_s m_past m_pasts m_text m_typed ρ.1 ρ.2.1 ρ.2.2.1 m_before m_endA m_endB m_from m_queue m_ring m_ringSize m_ringNodes m_rings m_path m_pathSize m_old m_lastRing m_bestNodes m_bestInside m_bestFits m_far ρ.2.2.2.1 ρ.2.2.2.2) t.heap ∧ va_D A (wX8 cA a_m m_s m_past m_pasts m_text m_typed ρ.1 ρ.2.1 ρ.2.2.1 m_before m_endA m_endB m_from m_queue m_ring m_ringSize m_ringNodes m_rings m_path m_pathSize m_old m_lastRing m_bestNodes m_bestInside m_bestFits m_far ρ.2.2.2.1 ρ.2.2.2.2)) A) ([.ref (a_m 0), .int p1] : List Value).toArray s 0 0 A) (F0 m 40 ls []) := by
    intro x1 x2 x3 m_faceOfSide m_firstSide m_faces m_xs m_ys H locs ls hl hP hD hS hf
    refine lv_aload_n hx hb dX8_relaxes_40 rfl (lv_at hl 0 rfl) ?_
    refine va_get (D := D) (ci := 8) (C := RX8) (T := TX8) (N := 27) hx hb hT kwX8 hown hK.1 hP 0 rfl rfl 6 (by decide) (hT _ kf_X8_23) (fun _ h9 => h9) rfl dX8_relaxes_41 ?_
    refine lv_aload_n hx hb dX8_relaxes_44 rfl (lv_at hl 0 rfl) ?_
    refine va_get (D := D) (ci := 8) (C := RX8) (T := TX8) (N := 27) hx hb hT kwX8 hown hK.1 hP 0 rfl rfl 0 (by decide) (hT _ kf_X8_7) (fun _ h9 => h9) rfl dX8_relaxes_45 ?_
    refine lv_iconst (v := 2) hx hb dX8_relaxes_48 (by decide) ?_
    obtain ⟨h_5, hf⟩ := chk_s hf
    refine va_iald hx hb hK.1 hP 1 0 rfl rfl (inb_in h_5) dX8_relaxes_49 ?_
    obtain ⟨h_6, hf⟩ := chk_s hf
    refine va_iald hx hb hK.1 hP 5 0 rfl rfl (inb_in h_6) dX8_relaxes_50 ?_
    refine lv_topi (fun x4_7 ex4_7 => ?_)
    have hf := nm_t ex4_7 hf
    refine lv_istore (lv' := [(4, .int x4_7), (0, .ref (a_m 0)), (1, .int x1), (2, .int x2), (3, .int x3)]) hx hb dX8_relaxes_51 hl (by decide) rfl (fun ls hl => ?_)
    refine lv_iconst (v := 0) hx hb dX8_relaxes_53 (by decide) ?_
    refine lv_istore (lv' := [(5, .int 0), (4, .int x4_7), (0, .ref (a_m 0)), (1, .int x1), (2, .int x2), (3, .int x3)]) hx hb dX8_relaxes_54 hl (by decide) rfl (fun ls hl => ?_)
    exact B56 N x1 x2 x3 x4_7 0 m_faceOfSide m_firstSide m_faces m_xs m_ys _ _ _ (lv_sub hl [2, 3, 4, 5, 1, 0] rfl) hP hD hS hf
  have B11 : ∀ (n11 : Nat), ∀ (x1 : Int32) (x2 : Int32) (x3 : Int32) (x4 : Int32) (m_faceOfSide : Nat → Int32) (m_firstSide : Nat → Int32) (m_faces : Int32) (m_xs : Nat → UInt32) (m_ys : Nat → UInt32) (H : Heap) (locs : List Loc) (ls : Array Slot), lv_has ls 10 [(0, .ref (a_m 0)), (1, .int x1), (2, .int x2), (3, .int x3), (4, .int x4)] → va_P D vwCl (wX8 cA a_m m_s m_past m_pasts m_text m_typed m_faceOfSide m_firstSide m_faces m_before m_endA m_endB m_from m_queue m_ring m_ringSize m_ringNodes m_rings m_path m_pathSize m_old m_lastRing m_bestNodes m_bestInside m_bestFits m_far m_xs m_ys) H → va_D A (wX8 cA a_m m_s m_past m_pasts m_text m_typed m_faceOfSide m_firstSide m_faces m_before m_endA m_endB m_from m_queue m_ring m_ringSize m_ringNodes m_rings m_path m_pathSize m_old m_lastRing m_bestNodes m_bestInside m_bestFits m_far m_xs m_ys) → va_S A s.heap H locs → f_X8_relaxes_b11 N m_s n11 x1 x2 x3 x4 m_faceOfSide m_firstSide m_faces m_xs m_ys = some ρ → W p l e ({ frames := 4, cells := 0, slots := 0, locals := 91 } : Room) s m ([.ref (a_m 0), .int p1] : List Value).toArray below meth c H locs 0 0 (MQ below (va_Qv (fun (_ : Unit) => True) (fun _ t => va_P D vwCl (wX8 cA a_m m_s m_past m_pasts m_text m_typed ρ.1 ρ.2.1 ρ.2.2.1 m_before m_endA m_endB m_from m_queue m_ring m_ringSize m_ringNodes m_rings m_path m_pathSize m_old m_lastRing m_bestNodes m_bestInside m_bestFits m_far ρ.2.2.2.1 ρ.2.2.2.2) t.heap ∧ va_D A (wX8 cA a_m m_s m_past m_pasts m_text m_typed ρ.1 ρ.2.1 ρ.2.2.1 m_before m_endA m_endB m_from m_queue m_ring m_ringSize m_ringNodes m_rings m_path m_pathSize m_old m_lastRing m_bestNodes m_bestInside m_bestFits m_far ρ.2.2.2.1 ρ.2.2.2.2)) A) ([.ref (a_m 0), .int p1] : List Value).toArray s 0 0 A) (F0 m 11 ls []) := by
    intro n11
    induction n11 with
    | zero =>
      intro x1 x2 x3 x4 m_faceOfSide m_firstSide m_faces m_xs m_ys H locs ls hl hP hD hS hf
      cases (show (none : Option ((Nat → Int32) × (Nat → Int32) × Int32 × (Nat → UInt32) × (Nat → UInt32))) = some ρ from hf)
    | succ n11 ih11 =>
      intro x1 x2 x3 x4 m_faceOfSide m_firstSide m_faces m_xs m_ys H locs ls hl hP hD hS hf
      refine lv_iload hx hb dX8_relaxes_11 (lv_at hl 4 rfl) ?_
      refine lv_bipush (v := 9) hx hb dX8_relaxes_13 (by decide) ?_
      refine lv_icmp_ge (tgt := 40) hx hb dX8_relaxes_15 (by decide) (fun c_2 => ?_) (fun c_2 => ?_)
      · have hf := ite_t c_2 hf
        exact B40 x1 x2 x3 m_faceOfSide m_firstSide m_faces m_xs m_ys _ _ _ (lv_sub hl [0, 1, 2, 3] rfl) hP hD hS hf
      · have hf := ite_f c_2 hf
        refine lv_aload_n hx hb dX8_relaxes_18 rfl (lv_at hl 0 rfl) ?_
        refine va_get (D := D) (ci := 8) (C := RX8) (T := TX8) (N := 27) hx hb hT kwX8 hown hK.1 hP 0 rfl rfl 25 (by decide) (hT _ kf_X8_59) (fun _ h9 => h9) rfl dX8_relaxes_19 ?_
        refine lv_iload hx hb dX8_relaxes_22 (lv_at hl 4 rfl) ?_
        refine lv_fconst0 hx hb dX8_relaxes_24 ?_
        obtain ⟨h_3, hf⟩ := chk_s hf
        refine va_fast hx hb hK.1 hP hD hS 17 1 rfl rfl (inb_in h_3) dX8_relaxes_25 (fun H locs hP hD hS => ?_)
        have hP : va_P D vwCl (wX8 cA a_m m_s m_past m_pasts m_text m_typed m_faceOfSide m_firstSide m_faces m_before m_endA m_endB m_from m_queue m_ring m_ringSize m_ringNodes m_rings m_path m_pathSize m_old m_lastRing m_bestNodes m_bestInside m_bestFits m_far (vf_upd m_xs x4.toNatClampNeg FP.fconst0) m_ys) H := hP
        have hD : va_D A (wX8 cA a_m m_s m_past m_pasts m_text m_typed m_faceOfSide m_firstSide m_faces m_before m_endA m_endB m_from m_queue m_ring m_ringSize m_ringNodes m_rings m_path m_pathSize m_old m_lastRing m_bestNodes m_bestInside m_bestFits m_far (vf_upd m_xs x4.toNatClampNeg FP.fconst0) m_ys) := hD
        refine lv_aload_n hx hb dX8_relaxes_26 rfl (lv_at hl 0 rfl) ?_
        refine va_get (D := D) (ci := 8) (C := RX8) (T := TX8) (N := 27) hx hb hT kwX8 hown hK.1 hP 0 rfl rfl 26 (by decide) (hT _ kf_X8_63) (fun _ h9 => h9) rfl dX8_relaxes_27 ?_
        refine lv_iload hx hb dX8_relaxes_30 (lv_at hl 4 rfl) ?_
        refine lv_fconst0 hx hb dX8_relaxes_32 ?_
        obtain ⟨h_4, hf⟩ := chk_s hf
        refine va_fast hx hb hK.1 hP hD hS 18 1 rfl rfl (inb_in h_4) dX8_relaxes_33 (fun H locs hP hD hS => ?_)
        have hP : va_P D vwCl (wX8 cA a_m m_s m_past m_pasts m_text m_typed m_faceOfSide m_firstSide m_faces m_before m_endA m_endB m_from m_queue m_ring m_ringSize m_ringNodes m_rings m_path m_pathSize m_old m_lastRing m_bestNodes m_bestInside m_bestFits m_far (vf_upd m_xs x4.toNatClampNeg FP.fconst0) (vf_upd m_ys x4.toNatClampNeg FP.fconst0)) H := hP
        have hD : va_D A (wX8 cA a_m m_s m_past m_pasts m_text m_typed m_faceOfSide m_firstSide m_faces m_before m_endA m_endB m_from m_queue m_ring m_ringSize m_ringNodes m_rings m_path m_pathSize m_old m_lastRing m_bestNodes m_bestInside m_bestFits m_far (vf_upd m_xs x4.toNatClampNeg FP.fconst0) (vf_upd m_ys x4.toNatClampNeg FP.fconst0)) := hD
        refine lv_iinc (v := (x4 + 1)) (lv' := [(4, .int (x4 + 1)), (0, .ref (a_m 0)), (1, .int x1), (2, .int x2), (3, .int x3)]) hx hb dX8_relaxes_34 hl (k := 4) rfl rfl (by decide) rfl (fun ls hl => ?_)
        refine lv_goto (tgt := 11) hx hb dX8_relaxes_37 (by decide) ?_
        exact ih11 x1 x2 x3 (x4 + 1) m_faceOfSide m_firstSide m_faces (vf_upd m_xs x4.toNatClampNeg FP.fconst0) (vf_upd m_ys x4.toNatClampNeg FP.fconst0) _ _ _ (lv_sub hl [1, 2, 3, 4, 0] rfl) hP hD hS hf
  refine lv_aload_n hx hb dX8_relaxes_0 rfl (lv_at hl 0 rfl) ?_
  obtain ⟨r_1, hcr_1, hf⟩ := bd1_s hf
  refine backWv (w2 := (wX8 cA a_m m_s m_past m_pasts m_text m_typed r_1.1 r_1.2.1 r_1.2.2 m_before m_endA m_endB m_from m_queue m_ring m_ringSize m_ringNodes m_rings m_path m_pathSize m_old m_lastRing m_bestNodes m_bestInside m_bestFits m_far m_xs m_ys)) (runVw C (c_X8_walks l D cA a_m m_s m_past m_pasts m_text m_typed m_faceOfSide m_firstSide m_faces m_before m_endA m_endB m_from m_queue m_ring m_ringSize m_ringNodes m_rings m_path m_pathSize m_old m_lastRing m_bestNodes m_bestInside m_bestFits m_far m_xs m_ys _ N r_1 hcr_1) cf_X8_walks km_X8_117 ⟨rfl, rfl, by decide, by decide⟩ ⟨Nat.zero_le _, Nat.zero_le _⟩ (va_recv hK.1 hP (ci := 8) (q0 := 0) rfl rfl) (hP.sub [0, 1, 2, 3, 4, 5, 6, 7, 8, 9, 10, 11, 12, 13, 14, 15, 16, 17, 18] rfl) (hD.sub [0, 1, 2, 3, 4, 5, 6, 7, 8, 9, 10, 11, 12, 13, 14, 15, 16, 17, 18] rfl rfl) hK hl.1 rfl rfl (Nat.le_of_ble_eq_true rfl) dX8_relaxes_1) hP hD hS hA [0, 1, 2, 3, 4, 5, 6, 7, 8, 9, 10, 11, 12, 13, 14, 15, 16, 17, 18] rfl [] rfl rfl (by decide) [0, 1, 2, 3, 4, 5, 6, 7, 8, 9, 10, 11, 12, 13, 14, 15, 16, 17, 18] rfl rfl (fun H locs hP hD hS => ?_)
  refine lv_iconst (v := 0) hx hb dX8_relaxes_4 (by decide) ?_
  refine lv_istore_n (lv' := [(2, .int 0), (0, .ref (a_m 0)), (1, .int p1)]) hx hb dX8_relaxes_5 rfl hl (by decide) rfl (fun ls hl => ?_)
  refine lv_iconst (v := 0) hx hb dX8_relaxes_6 (by decide) ?_
  refine lv_istore_n (lv' := [(3, .int 0), (2, .int 0), (0, .ref (a_m 0)), (1, .int p1)]) hx hb dX8_relaxes_7 rfl hl (by decide) rfl (fun ls hl => ?_)
  refine lv_iconst (v := 0) hx hb dX8_relaxes_8 (by decide) ?_
  refine lv_istore (lv' := [(4, .int 0), (3, .int 0), (2, .int 0), (0, .ref (a_m 0)), (1, .int p1)]) hx hb dX8_relaxes_9 hl (by decide) rfl (fun ls hl => ?_)
  exact B11 N p1 0 0 0 r_1.1 r_1.2.1 r_1.2.2 m_xs m_ys _ _ _ (lv_sub hl [3, 4, 2, 1, 0] rfl) hP hD hS hf
set_option maxRecDepth 100000 in
set_option maxHeartbeats 4000000 in
theorem c_X8_crossings (l : Launch) (D : va_G) (cA : Nat → ClassId) (a_m : Nat → Nat) (m_s : Nat → Int32) (m_past : Nat → Int32) (m_pasts : Int32) (m_text : Nat → Int32) (m_typed : Int32) (m_faceOfSide : Nat → Int32) (m_firstSide : Nat → Int32) (m_faces : Int32) (m_before : Nat → Int32) (m_endA : Nat → Int32) (m_endB : Nat → Int32) (m_from : Nat → Int32) (m_queue : Nat → Int32) (m_ring : Nat → Int32) (m_ringSize : Nat → Int32) (m_ringNodes : Nat → Int32) (m_rings : Int32) (m_path : Nat → Int32) (m_pathSize : Int32) (m_old : Nat → Int32) (m_lastRing : Int32) (m_bestNodes : Int32) (m_bestInside : Int32) (m_bestFits : Int32) (m_far : Nat → Int32) (m_xs : Nat → UInt32) (m_ys : Nat → UInt32) (p1 : Int32) (sz N : Nat) (ρ : Int32 × (Nat → Int32) × (Nat → Int32) × Int32 × (Nat → UInt32) × (Nat → UInt32)) (hf : f_X8_crossings N m_s m_faceOfSide m_firstSide m_faces m_xs m_ys p1 = some ρ) : Met l yX8_crossings (Cond.code yX8_crossings cX8_crossings 6 (Option.some Jvm.ClassFile.FieldType.int) :: lw_g) ({ frames := 5, cells := 0, slots := 0, locals := 120 } : Room) (PcW D (tyA cA) (wX8 cA a_m m_s m_past m_pasts m_text m_typed m_faceOfSide m_firstSide m_faces m_before m_endA m_endB m_from m_queue m_ring m_ringSize m_ringNodes m_rings m_path m_pathSize m_old m_lastRing m_bestNodes m_bestInside m_bestFits m_far m_xs m_ys) sz [.ref (a_m 0), .int p1]) (va_Qi (fun r (_ : Unit) => r = ρ.1) (fun _ t => va_P D vwCl (wX8 cA a_m m_s m_past m_pasts m_text m_typed ρ.2.1 ρ.2.2.1 ρ.2.2.2.1 m_before m_endA m_endB m_from m_queue m_ring m_ringSize m_ringNodes m_rings m_path m_pathSize m_old m_lastRing m_bestNodes m_bestInside m_bestFits m_far ρ.2.2.2.2.1 ρ.2.2.2.2.2) t.heap ∧ va_D (va_A (wX8 cA a_m m_s m_past m_pasts m_text m_typed m_faceOfSide m_firstSide m_faces m_before m_endA m_endB m_from m_queue m_ring m_ringSize m_ringNodes m_rings m_path m_pathSize m_old m_lastRing m_bestNodes m_bestInside m_bestFits m_far m_xs m_ys) sz) (wX8 cA a_m m_s m_past m_pasts m_text m_typed ρ.2.1 ρ.2.2.1 ρ.2.2.2.1 m_before m_endA m_endB m_from m_queue m_ring m_ringSize m_ringNodes m_rings m_path m_pathSize m_old m_lastRing m_bestNodes m_bestInside m_bestFits m_far ρ.2.2.2.2.1 ρ.2.2.2.2.2)) (va_A (wX8 cA a_m m_s m_past m_pasts m_text m_typed m_faceOfSide m_firstSide m_faces m_before m_endA m_endB m_from m_queue m_ring m_ringSize m_ringNodes m_rings m_path m_pathSize m_old m_lastRing m_bestNodes m_bestInside m_bestFits m_far m_xs m_ys) sz)) 0 0 (va_A (wX8 cA a_m m_s m_past m_pasts m_text m_typed m_faceOfSide m_firstSide m_faces m_before m_endA m_endB m_from m_queue m_ring m_ringSize m_ringNodes m_rings m_path m_pathSize m_old m_lastRing m_bestNodes m_bestInside m_bestFits m_far m_xs m_ys) sz) := by
  refine mkW (QQ := fun A => va_Qi (fun r (_ : Unit) => r = ρ.1) (fun _ t => va_P D vwCl (wX8 cA a_m m_s m_past m_pasts m_text m_typed ρ.2.1 ρ.2.2.1 ρ.2.2.2.1 m_before m_endA m_endB m_from m_queue m_ring m_ringSize m_ringNodes m_rings m_path m_pathSize m_old m_lastRing m_bestNodes m_bestInside m_bestFits m_far ρ.2.2.2.2.1 ρ.2.2.2.2.2) t.heap ∧ va_D A (wX8 cA a_m m_s m_past m_pasts m_text m_typed ρ.2.1 ρ.2.2.1 ρ.2.2.2.1 m_before m_endA m_endB m_from m_queue m_ring m_ringSize m_ringNodes m_rings m_path m_pathSize m_old m_lastRing m_bestNodes m_bestInside m_bestFits m_far ρ.2.2.2.2.1 ρ.2.2.2.2.2)) A) (by decide) (Nat.le_of_ble_eq_true rfl) fun p e s m below meth c ls A C hl hP hK hD hA hS => ?_
  obtain ⟨hx, hb, hml, hown, hT, hr, hlk⟩ := id C
  have hl : lv_has ls 6 [(0, .ref (a_m 0)), (1, .int p1)] := hl
  have B33 : ∀ (n33 : Nat), ∀ (x2 : Int32) (x3 : Int32) (m_faceOfSide : Nat → Int32) (m_firstSide : Nat → Int32) (m_faces : Int32) (m_xs : Nat → UInt32) (m_ys : Nat → UInt32) (H : Heap) (locs : List Loc) (ls : Array Slot), lv_has ls 6 [(0, .ref (a_m 0)), (2, .int x2), (3, .int x3)] → va_P D vwCl (wX8 cA a_m m_s m_past m_pasts m_text m_typed m_faceOfSide m_firstSide m_faces m_before m_endA m_endB m_from m_queue m_ring m_ringSize m_ringNodes m_rings m_path m_pathSize m_old m_lastRing m_bestNodes m_bestInside m_bestFits m_far m_xs m_ys) H → va_D A (wX8 cA a_m m_s m_past m_pasts m_text m_typed m_faceOfSide m_firstSide m_faces m_before m_endA m_endB m_from m_queue m_ring m_ringSize m_ringNodes m_rings m_path m_pathSize m_old m_lastRing m_bestNodes m_bestInside m_bestFits m_far m_xs m_ys) → va_S A s.heap H locs → f_X8_crossings_b33 N m_s n33 x2 x3 m_faceOfSide m_firstSide m_faces m_xs m_ys = some ρ → W p l e ({ frames := 5, cells := 0, slots := 0, locals := 120 } : Room) s m ([.ref (a_m 0), .int p1] : List Value).toArray below meth c H locs 0 0 (MQ below (va_Qi (fun r (_ : Unit) => r = ρ.1) (fun _ t => va_P D vwCl (wX8 cA a_m m_s m_past m_pasts m_text m_typed ρ.2.1 ρ.2.2.1 ρ.2.2.2.1 m_before m_endA m_endB m_from m_queue m_ring m_ringSize m_ringNodes m_rings m_path m_pathSize m_old m_lastRing m_bestNodes m_bestInside m_bestFits m_far ρ.2.2.2.2.1 ρ.2.2.2.2.2) t.heap ∧ va_D A (wX8 cA a_m m_s m_past m_pasts m_text m_typed ρ.2.1 ρ.2.2.1 ρ.2.2.2.1 m_before m_endA m_endB m_from m_queue m_ring m_ringSize m_ringNodes m_rings m_path m_pathSize m_old m_lastRing m_bestNodes m_bestInside m_bestFits m_far ρ.2.2.2.2.1 ρ.2.2.2.2.2)) A) ([.ref (a_m 0), .int p1] : List Value).toArray s 0 0 A) (F0 m 33 ls []) := by
    intro n33
    induction n33 with
    | zero =>
      intro x2 x3 m_faceOfSide m_firstSide m_faces m_xs m_ys H locs ls hl hP hD hS hf
      cases (show (none : Option (Int32 × (Nat → Int32) × (Nat → Int32) × Int32 × (Nat → UInt32) × (Nat → UInt32))) = some ρ from hf)
    | succ n33 ih33 =>
      have B166 : ∀ (x2 : Int32) (x3 : Int32) (m_faceOfSide : Nat → Int32) (m_firstSide : Nat → Int32) (m_faces : Int32) (m_xs : Nat → UInt32) (m_ys : Nat → UInt32) (H : Heap) (locs : List Loc) (ls : Array Slot), lv_has ls 6 [(0, .ref (a_m 0)), (2, .int x2), (3, .int x3)] → va_P D vwCl (wX8 cA a_m m_s m_past m_pasts m_text m_typed m_faceOfSide m_firstSide m_faces m_before m_endA m_endB m_from m_queue m_ring m_ringSize m_ringNodes m_rings m_path m_pathSize m_old m_lastRing m_bestNodes m_bestInside m_bestFits m_far m_xs m_ys) H → va_D A (wX8 cA a_m m_s m_past m_pasts m_text m_typed m_faceOfSide m_firstSide m_faces m_before m_endA m_endB m_from m_queue m_ring m_ringSize m_ringNodes m_rings m_path m_pathSize m_old m_lastRing m_bestNodes m_bestInside m_bestFits m_far m_xs m_ys) → va_S A s.heap H locs → f_X8_crossings_b166 N m_s (f_X8_crossings_b33 N m_s n33) x2 x3 m_faceOfSide m_firstSide m_faces m_xs m_ys = some ρ → W p l e ({ frames := 5, cells := 0, slots := 0, locals := 120 } : Room) s m ([.ref (a_m 0), .int p1] : List Value).toArray below meth c H locs 0 0 (MQ below (va_Qi (fun r (_ : Unit) => r = ρ.1) (fun _ t => va_P D vwCl (wX8 cA a_m m_s m_past m_pasts m_text m_typed ρ.2.1 ρ.2.2.1 ρ.2.2.2.1 m_before m_endA m_endB m_from m_queue m_ring m_ringSize m_ringNodes m_rings m_path m_pathSize m_old m_lastRing m_bestNodes m_bestInside m_bestFits m_far ρ.2.2.2.2.1 ρ.2.2.2.2.2) t.heap ∧ va_D A (wX8 cA a_m m_s m_past m_pasts m_text m_typed ρ.2.1 ρ.2.2.1 ρ.2.2.2.1 m_before m_endA m_endB m_from m_queue m_ring m_ringSize m_ringNodes m_rings m_path m_pathSize m_old m_lastRing m_bestNodes m_bestInside m_bestFits m_far ρ.2.2.2.2.1 ρ.2.2.2.2.2)) A) ([.ref (a_m 0), .int p1] : List Value).toArray s 0 0 A) (F0 m 166 ls []) := by
        intro x2 x3 m_faceOfSide m_firstSide m_faces m_xs m_ys H locs ls hl hP hD hS hf
        refine lv_iinc (v := (x3 + 1)) (lv' := [(3, .int (x3 + 1)), (0, .ref (a_m 0)), (2, .int x2)]) hx hb dX8_crossings_166 hl (k := 2) rfl rfl (by decide) rfl (fun ls hl => ?_)
        refine lv_goto (tgt := 33) hx hb dX8_crossings_169 (by decide) ?_
        exact ih33 x2 (x3 + 1) m_faceOfSide m_firstSide m_faces m_xs m_ys _ _ _ (lv_sub hl [1, 2, 0] rfl) hP hD hS hf
      have B46 : ∀ (n46 : Nat), ∀ (x2 : Int32) (x3 : Int32) (x4 : Int32) (m_faceOfSide : Nat → Int32) (m_firstSide : Nat → Int32) (m_faces : Int32) (m_xs : Nat → UInt32) (m_ys : Nat → UInt32) (H : Heap) (locs : List Loc) (ls : Array Slot), lv_has ls 6 [(0, .ref (a_m 0)), (2, .int x2), (3, .int x3), (4, .int x4)] → va_P D vwCl (wX8 cA a_m m_s m_past m_pasts m_text m_typed m_faceOfSide m_firstSide m_faces m_before m_endA m_endB m_from m_queue m_ring m_ringSize m_ringNodes m_rings m_path m_pathSize m_old m_lastRing m_bestNodes m_bestInside m_bestFits m_far m_xs m_ys) H → va_D A (wX8 cA a_m m_s m_past m_pasts m_text m_typed m_faceOfSide m_firstSide m_faces m_before m_endA m_endB m_from m_queue m_ring m_ringSize m_ringNodes m_rings m_path m_pathSize m_old m_lastRing m_bestNodes m_bestInside m_bestFits m_far m_xs m_ys) → va_S A s.heap H locs → f_X8_crossings_b46 N m_s (f_X8_crossings_b33 N m_s n33) n46 x2 x3 x4 m_faceOfSide m_firstSide m_faces m_xs m_ys = some ρ → W p l e ({ frames := 5, cells := 0, slots := 0, locals := 120 } : Room) s m ([.ref (a_m 0), .int p1] : List Value).toArray below meth c H locs 0 0 (MQ below (va_Qi (fun r (_ : Unit) => r = ρ.1) (fun _ t => va_P D vwCl (wX8 cA a_m m_s m_past m_pasts m_text m_typed ρ.2.1 ρ.2.2.1 ρ.2.2.2.1 m_before m_endA m_endB m_from m_queue m_ring m_ringSize m_ringNodes m_rings m_path m_pathSize m_old m_lastRing m_bestNodes m_bestInside m_bestFits m_far ρ.2.2.2.2.1 ρ.2.2.2.2.2) t.heap ∧ va_D A (wX8 cA a_m m_s m_past m_pasts m_text m_typed ρ.2.1 ρ.2.2.1 ρ.2.2.2.1 m_before m_endA m_endB m_from m_queue m_ring m_ringSize m_ringNodes m_rings m_path m_pathSize m_old m_lastRing m_bestNodes m_bestInside m_bestFits m_far ρ.2.2.2.2.1 ρ.2.2.2.2.2)) A) ([.ref (a_m 0), .int p1] : List Value).toArray s 0 0 A) (F0 m 46 ls []) := by
        intro n46
        induction n46 with
        | zero =>
          intro x2 x3 x4 m_faceOfSide m_firstSide m_faces m_xs m_ys H locs ls hl hP hD hS hf
          cases (show (none : Option (Int32 × (Nat → Int32) × (Nat → Int32) × Int32 × (Nat → UInt32) × (Nat → UInt32))) = some ρ from hf)
        | succ n46 ih46 =>
          have B158 : ∀ (x3 : Int32) (x4 : Int32) (y0 : Int32) (y1 : Int32) (m_faceOfSide : Nat → Int32) (m_firstSide : Nat → Int32) (m_faces : Int32) (m_xs : Nat → UInt32) (m_ys : Nat → UInt32) (H : Heap) (locs : List Loc) (ls : Array Slot), lv_has ls 6 [(0, .ref (a_m 0)), (3, .int x3), (4, .int x4)] → va_P D vwCl (wX8 cA a_m m_s m_past m_pasts m_text m_typed m_faceOfSide m_firstSide m_faces m_before m_endA m_endB m_from m_queue m_ring m_ringSize m_ringNodes m_rings m_path m_pathSize m_old m_lastRing m_bestNodes m_bestInside m_bestFits m_far m_xs m_ys) H → va_D A (wX8 cA a_m m_s m_past m_pasts m_text m_typed m_faceOfSide m_firstSide m_faces m_before m_endA m_endB m_from m_queue m_ring m_ringSize m_ringNodes m_rings m_path m_pathSize m_old m_lastRing m_bestNodes m_bestInside m_bestFits m_far m_xs m_ys) → va_S A s.heap H locs → f_X8_crossings_b158 N m_s (f_X8_crossings_b33 N m_s n33) (f_X8_crossings_b46 N m_s (f_X8_crossings_b33 N m_s n33) n46) x3 x4 y0 y1 m_faceOfSide m_firstSide m_faces m_xs m_ys = some ρ → W p l e ({ frames := 5, cells := 0, slots := 0, locals := 120 } : Room) s m ([.ref (a_m 0), .int p1] : List Value).toArray below meth c H locs 0 0 (MQ below (va_Qi (fun r (_ : Unit) => r = ρ.1) (fun _ t => va_P D vwCl (wX8 cA a_m m_s m_past m_pasts m_text m_typed ρ.2.1 ρ.2.2.1 ρ.2.2.2.1 m_before m_endA m_endB m_from m_queue m_ring m_ringSize m_ringNodes m_rings m_path m_pathSize m_old m_lastRing m_bestNodes m_bestInside m_bestFits m_far ρ.2.2.2.2.1 ρ.2.2.2.2.2) t.heap ∧ va_D A (wX8 cA a_m m_s m_past m_pasts m_text m_typed ρ.2.1 ρ.2.2.1 ρ.2.2.2.1 m_before m_endA m_endB m_from m_queue m_ring m_ringSize m_ringNodes m_rings m_path m_pathSize m_old m_lastRing m_bestNodes m_bestInside m_bestFits m_far ρ.2.2.2.2.1 ρ.2.2.2.2.2)) A) ([.ref (a_m 0), .int p1] : List Value).toArray s 0 0 A) (F0 m 158 ls [.int y1, .int y0]) := by
            intro x3 x4 y0 y1 m_faceOfSide m_firstSide m_faces m_xs m_ys H locs ls hl hP hD hS hf
            refine lv_iadd hx hb dX8_crossings_158 ?_
            refine lv_topi (fun x2_24 ex2_24 => ?_)
            have hf := nm_t ex2_24 hf
            refine lv_istore_n (lv' := [(2, .int x2_24), (0, .ref (a_m 0)), (3, .int x3), (4, .int x4)]) hx hb dX8_crossings_159 rfl hl (by decide) rfl (fun ls hl => ?_)
            refine lv_iinc (v := (x4 + 1)) (lv' := [(4, .int (x4 + 1)), (2, .int x2_24), (0, .ref (a_m 0)), (3, .int x3)]) hx hb dX8_crossings_160 hl (k := 3) rfl rfl (by decide) rfl (fun ls hl => ?_)
            refine lv_goto (tgt := 46) hx hb dX8_crossings_163 (by decide) ?_
            exact ih46 x2_24 x3 (x4 + 1) m_faceOfSide m_firstSide m_faces m_xs m_ys _ _ _ (lv_sub hl [2, 1, 3, 0] rfl) hP hD hS hf
          have B157 : ∀ (x3 : Int32) (x4 : Int32) (y0 : Int32) (m_faceOfSide : Nat → Int32) (m_firstSide : Nat → Int32) (m_faces : Int32) (m_xs : Nat → UInt32) (m_ys : Nat → UInt32) (H : Heap) (locs : List Loc) (ls : Array Slot), lv_has ls 6 [(0, .ref (a_m 0)), (3, .int x3), (4, .int x4)] → va_P D vwCl (wX8 cA a_m m_s m_past m_pasts m_text m_typed m_faceOfSide m_firstSide m_faces m_before m_endA m_endB m_from m_queue m_ring m_ringSize m_ringNodes m_rings m_path m_pathSize m_old m_lastRing m_bestNodes m_bestInside m_bestFits m_far m_xs m_ys) H → va_D A (wX8 cA a_m m_s m_past m_pasts m_text m_typed m_faceOfSide m_firstSide m_faces m_before m_endA m_endB m_from m_queue m_ring m_ringSize m_ringNodes m_rings m_path m_pathSize m_old m_lastRing m_bestNodes m_bestInside m_bestFits m_far m_xs m_ys) → va_S A s.heap H locs → f_X8_crossings_b157 N m_s (f_X8_crossings_b33 N m_s n33) (f_X8_crossings_b46 N m_s (f_X8_crossings_b33 N m_s n33) n46) x3 x4 y0 m_faceOfSide m_firstSide m_faces m_xs m_ys = some ρ → W p l e ({ frames := 5, cells := 0, slots := 0, locals := 120 } : Room) s m ([.ref (a_m 0), .int p1] : List Value).toArray below meth c H locs 0 0 (MQ below (va_Qi (fun r (_ : Unit) => r = ρ.1) (fun _ t => va_P D vwCl (wX8 cA a_m m_s m_past m_pasts m_text m_typed ρ.2.1 ρ.2.2.1 ρ.2.2.2.1 m_before m_endA m_endB m_from m_queue m_ring m_ringSize m_ringNodes m_rings m_path m_pathSize m_old m_lastRing m_bestNodes m_bestInside m_bestFits m_far ρ.2.2.2.2.1 ρ.2.2.2.2.2) t.heap ∧ va_D A (wX8 cA a_m m_s m_past m_pasts m_text m_typed ρ.2.1 ρ.2.2.1 ρ.2.2.2.1 m_before m_endA m_endB m_from m_queue m_ring m_ringSize m_ringNodes m_rings m_path m_pathSize m_old m_lastRing m_bestNodes m_bestInside m_bestFits m_far ρ.2.2.2.2.1 ρ.2.2.2.2.2)) A) ([.ref (a_m 0), .int p1] : List Value).toArray s 0 0 A) (F0 m 157 ls [.int y0]) := by
            intro x3 x4 y0 m_faceOfSide m_firstSide m_faces m_xs m_ys H locs ls hl hP hD hS hf
            refine lv_iconst (v := 0) hx hb dX8_crossings_157 (by decide) ?_
            exact B158 x3 x4 y0 0 m_faceOfSide m_firstSide m_faces m_xs m_ys _ _ _ (lv_sub hl [0, 1, 2] rfl) hP hD hS hf
          have B92 : ∀ (x2 : Int32) (x3 : Int32) (x4 : Int32) (y0 : Int32) (m_faceOfSide : Nat → Int32) (m_firstSide : Nat → Int32) (m_faces : Int32) (m_xs : Nat → UInt32) (m_ys : Nat → UInt32) (H : Heap) (locs : List Loc) (ls : Array Slot), lv_has ls 6 [(0, .ref (a_m 0)), (2, .int x2), (3, .int x3), (4, .int x4)] → va_P D vwCl (wX8 cA a_m m_s m_past m_pasts m_text m_typed m_faceOfSide m_firstSide m_faces m_before m_endA m_endB m_from m_queue m_ring m_ringSize m_ringNodes m_rings m_path m_pathSize m_old m_lastRing m_bestNodes m_bestInside m_bestFits m_far m_xs m_ys) H → va_D A (wX8 cA a_m m_s m_past m_pasts m_text m_typed m_faceOfSide m_firstSide m_faces m_before m_endA m_endB m_from m_queue m_ring m_ringSize m_ringNodes m_rings m_path m_pathSize m_old m_lastRing m_bestNodes m_bestInside m_bestFits m_far m_xs m_ys) → va_S A s.heap H locs → f_X8_crossings_b92 N m_s (f_X8_crossings_b33 N m_s n33) (f_X8_crossings_b46 N m_s (f_X8_crossings_b33 N m_s n33) n46) x2 x3 x4 y0 m_faceOfSide m_firstSide m_faces m_xs m_ys = some ρ → W p l e ({ frames := 5, cells := 0, slots := 0, locals := 120 } : Room) s m ([.ref (a_m 0), .int p1] : List Value).toArray below meth c H locs 0 0 (MQ below (va_Qi (fun r (_ : Unit) => r = ρ.1) (fun _ t => va_P D vwCl (wX8 cA a_m m_s m_past m_pasts m_text m_typed ρ.2.1 ρ.2.2.1 ρ.2.2.2.1 m_before m_endA m_endB m_from m_queue m_ring m_ringSize m_ringNodes m_rings m_path m_pathSize m_old m_lastRing m_bestNodes m_bestInside m_bestFits m_far ρ.2.2.2.2.1 ρ.2.2.2.2.2) t.heap ∧ va_D A (wX8 cA a_m m_s m_past m_pasts m_text m_typed ρ.2.1 ρ.2.2.1 ρ.2.2.2.1 m_before m_endA m_endB m_from m_queue m_ring m_ringSize m_ringNodes m_rings m_path m_pathSize m_old m_lastRing m_bestNodes m_bestInside m_bestFits m_far ρ.2.2.2.2.1 ρ.2.2.2.2.2)) A) ([.ref (a_m 0), .int p1] : List Value).toArray s 0 0 A) (F0 m 92 ls [.int y0]) := by
            intro x2 x3 x4 y0 m_faceOfSide m_firstSide m_faces m_xs m_ys H locs ls hl hP hD hS hf
            refine lv_istore (lv' := [(5, .int y0), (0, .ref (a_m 0)), (2, .int x2), (3, .int x3), (4, .int x4)]) hx hb dX8_crossings_92 hl (by decide) rfl (fun ls hl => ?_)
            refine lv_iload_n hx hb dX8_crossings_94 rfl (lv_at hl 2 rfl) ?_
            refine lv_iload hx hb dX8_crossings_95 (lv_at hl 0 rfl) ?_
            refine lv_if_eq (tgt := 157) hx hb dX8_crossings_97 (by decide) (fun c_15 => ?_) (fun c_15 => ?_)
            · have hf := ite_t c_15 hf
              exact B157 x3 x4 x2 m_faceOfSide m_firstSide m_faces m_xs m_ys _ _ _ (lv_sub hl [1, 3, 4] rfl) hP hD hS hf
            · have hf := ite_f c_15 hf
              refine lv_aload_n hx hb dX8_crossings_100 rfl (lv_at hl 1 rfl) ?_
              refine lv_iload_n hx hb dX8_crossings_101 rfl (lv_at hl 3 rfl) ?_
              refine lv_aload_n hx hb dX8_crossings_102 rfl (lv_at hl 1 rfl) ?_
              refine va_get (D := D) (ci := 8) (C := RX8) (T := TX8) (N := 27) hx hb hT kwX8 hown hK.1 hP 0 rfl rfl 0 (by decide) (hT _ kf_X8_7) (fun _ h9 => h9) rfl dX8_crossings_103 ?_
              refine lv_iconst (v := 3) hx hb dX8_crossings_106 (by decide) ?_
              refine lv_iload hx hb dX8_crossings_107 (lv_at hl 4 rfl) ?_
              refine lv_iadd hx hb dX8_crossings_109 ?_
              obtain ⟨h_16, hf⟩ := chk_s hf
              refine va_iald hx hb hK.1 hP 1 0 rfl rfl (inb_in h_16) dX8_crossings_110 ?_
              refine lv_aload_n hx hb dX8_crossings_111 rfl (lv_at hl 1 rfl) ?_
              refine va_get (D := D) (ci := 8) (C := RX8) (T := TX8) (N := 27) hx hb hT kwX8 hown hK.1 hP 0 rfl rfl 0 (by decide) (hT _ kf_X8_7) (fun _ h9 => h9) rfl dX8_crossings_112 ?_
              refine lv_bipush (v := 23) hx hb dX8_crossings_115 (by decide) ?_
              refine lv_iload hx hb dX8_crossings_117 (lv_at hl 4 rfl) ?_
              refine lv_iadd hx hb dX8_crossings_119 ?_
              obtain ⟨h_17, hf⟩ := chk_s hf
              refine va_iald hx hb hK.1 hP 1 0 rfl rfl (inb_in h_17) dX8_crossings_120 ?_
              obtain ⟨r_18, hcr_18, hf⟩ := bd1_s hf
              refine backI (runV0 C (c_X8_areApart l D cA a_m m_s m_past m_pasts m_text m_typed m_faceOfSide m_firstSide m_faces m_before m_endA m_endB m_from m_queue m_ring m_ringSize m_ringNodes m_rings m_path m_pathSize m_old m_lastRing m_bestNodes m_bestInside m_bestFits m_far m_xs m_ys x3 (m_s (3 + x4).toNatClampNeg) (m_s (23 + x4).toNatClampNeg) N r_18 hcr_18) cf_X8_areApart km_X8_274 ⟨rfl, rfl, by decide, by decide⟩ ⟨Nat.zero_le _, Nat.zero_le _⟩ (va_recv hK.1 hP (ci := 8) (q0 := 0) rfl rfl) (hP.sub [0, 1, 2, 3, 4, 5, 6, 7, 8, 9, 10, 11, 12, 13, 14, 15, 16, 17, 18] rfl) hK hl.1 rfl rfl (Nat.le_of_ble_eq_true rfl) dX8_crossings_121) ?_
              refine lv_if_eq (tgt := 157) hx hb dX8_crossings_124 (by decide) (fun c_19 => ?_) (fun c_19 => ?_)
              · have hf := ite_t c_19 hf
                exact B157 x3 x4 x2 m_faceOfSide m_firstSide m_faces m_xs m_ys _ _ _ (lv_sub hl [1, 3, 4] rfl) hP hD hS hf
              · have hf := ite_f c_19 hf
                refine lv_aload_n hx hb dX8_crossings_127 rfl (lv_at hl 1 rfl) ?_
                refine lv_iload hx hb dX8_crossings_128 (lv_at hl 4 rfl) ?_
                refine lv_aload_n hx hb dX8_crossings_130 rfl (lv_at hl 1 rfl) ?_
                refine va_get (D := D) (ci := 8) (C := RX8) (T := TX8) (N := 27) hx hb hT kwX8 hown hK.1 hP 0 rfl rfl 0 (by decide) (hT _ kf_X8_7) (fun _ h9 => h9) rfl dX8_crossings_131 ?_
                refine lv_iconst (v := 3) hx hb dX8_crossings_134 (by decide) ?_
                refine lv_iload_n hx hb dX8_crossings_135 rfl (lv_at hl 3 rfl) ?_
                refine lv_iadd hx hb dX8_crossings_136 ?_
                obtain ⟨h_20, hf⟩ := chk_s hf
                refine va_iald hx hb hK.1 hP 1 0 rfl rfl (inb_in h_20) dX8_crossings_137 ?_
                refine lv_aload_n hx hb dX8_crossings_138 rfl (lv_at hl 1 rfl) ?_
                refine va_get (D := D) (ci := 8) (C := RX8) (T := TX8) (N := 27) hx hb hT kwX8 hown hK.1 hP 0 rfl rfl 0 (by decide) (hT _ kf_X8_7) (fun _ h9 => h9) rfl dX8_crossings_139 ?_
                refine lv_bipush (v := 23) hx hb dX8_crossings_142 (by decide) ?_
                refine lv_iload_n hx hb dX8_crossings_144 rfl (lv_at hl 3 rfl) ?_
                refine lv_iadd hx hb dX8_crossings_145 ?_
                obtain ⟨h_21, hf⟩ := chk_s hf
                refine va_iald hx hb hK.1 hP 1 0 rfl rfl (inb_in h_21) dX8_crossings_146 ?_
                obtain ⟨r_22, hcr_22, hf⟩ := bd1_s hf
                refine backI (runV0 C (c_X8_areApart l D cA a_m m_s m_past m_pasts m_text m_typed m_faceOfSide m_firstSide m_faces m_before m_endA m_endB m_from m_queue m_ring m_ringSize m_ringNodes m_rings m_path m_pathSize m_old m_lastRing m_bestNodes m_bestInside m_bestFits m_far m_xs m_ys x4 (m_s (3 + x3).toNatClampNeg) (m_s (23 + x3).toNatClampNeg) N r_22 hcr_22) cf_X8_areApart km_X8_274 ⟨rfl, rfl, by decide, by decide⟩ ⟨Nat.zero_le _, Nat.zero_le _⟩ (va_recv hK.1 hP (ci := 8) (q0 := 0) rfl rfl) (hP.sub [0, 1, 2, 3, 4, 5, 6, 7, 8, 9, 10, 11, 12, 13, 14, 15, 16, 17, 18] rfl) hK hl.1 rfl rfl (Nat.le_of_ble_eq_true rfl) dX8_crossings_147) ?_
                refine lv_if_eq (tgt := 157) hx hb dX8_crossings_150 (by decide) (fun c_23 => ?_) (fun c_23 => ?_)
                · have hf := ite_t c_23 hf
                  exact B157 x3 x4 x2 m_faceOfSide m_firstSide m_faces m_xs m_ys _ _ _ (lv_sub hl [1, 3, 4] rfl) hP hD hS hf
                · have hf := ite_f c_23 hf
                  refine lv_iconst (v := 1) hx hb dX8_crossings_153 (by decide) ?_
                  refine lv_goto (tgt := 158) hx hb dX8_crossings_154 (by decide) ?_
                  exact B158 x3 x4 x2 1 m_faceOfSide m_firstSide m_faces m_xs m_ys _ _ _ (lv_sub hl [1, 3, 4] rfl) hP hD hS hf
          have B91 : ∀ (x2 : Int32) (x3 : Int32) (x4 : Int32) (m_faceOfSide : Nat → Int32) (m_firstSide : Nat → Int32) (m_faces : Int32) (m_xs : Nat → UInt32) (m_ys : Nat → UInt32) (H : Heap) (locs : List Loc) (ls : Array Slot), lv_has ls 6 [(0, .ref (a_m 0)), (2, .int x2), (3, .int x3), (4, .int x4)] → va_P D vwCl (wX8 cA a_m m_s m_past m_pasts m_text m_typed m_faceOfSide m_firstSide m_faces m_before m_endA m_endB m_from m_queue m_ring m_ringSize m_ringNodes m_rings m_path m_pathSize m_old m_lastRing m_bestNodes m_bestInside m_bestFits m_far m_xs m_ys) H → va_D A (wX8 cA a_m m_s m_past m_pasts m_text m_typed m_faceOfSide m_firstSide m_faces m_before m_endA m_endB m_from m_queue m_ring m_ringSize m_ringNodes m_rings m_path m_pathSize m_old m_lastRing m_bestNodes m_bestInside m_bestFits m_far m_xs m_ys) → va_S A s.heap H locs → f_X8_crossings_b91 N m_s (f_X8_crossings_b33 N m_s n33) (f_X8_crossings_b46 N m_s (f_X8_crossings_b33 N m_s n33) n46) x2 x3 x4 m_faceOfSide m_firstSide m_faces m_xs m_ys = some ρ → W p l e ({ frames := 5, cells := 0, slots := 0, locals := 120 } : Room) s m ([.ref (a_m 0), .int p1] : List Value).toArray below meth c H locs 0 0 (MQ below (va_Qi (fun r (_ : Unit) => r = ρ.1) (fun _ t => va_P D vwCl (wX8 cA a_m m_s m_past m_pasts m_text m_typed ρ.2.1 ρ.2.2.1 ρ.2.2.2.1 m_before m_endA m_endB m_from m_queue m_ring m_ringSize m_ringNodes m_rings m_path m_pathSize m_old m_lastRing m_bestNodes m_bestInside m_bestFits m_far ρ.2.2.2.2.1 ρ.2.2.2.2.2) t.heap ∧ va_D A (wX8 cA a_m m_s m_past m_pasts m_text m_typed ρ.2.1 ρ.2.2.1 ρ.2.2.2.1 m_before m_endA m_endB m_from m_queue m_ring m_ringSize m_ringNodes m_rings m_path m_pathSize m_old m_lastRing m_bestNodes m_bestInside m_bestFits m_far ρ.2.2.2.2.1 ρ.2.2.2.2.2)) A) ([.ref (a_m 0), .int p1] : List Value).toArray s 0 0 A) (F0 m 91 ls []) := by
            intro x2 x3 x4 m_faceOfSide m_firstSide m_faces m_xs m_ys H locs ls hl hP hD hS hf
            refine lv_iconst (v := 0) hx hb dX8_crossings_91 (by decide) ?_
            exact B92 x2 x3 x4 0 m_faceOfSide m_firstSide m_faces m_xs m_ys _ _ _ (lv_sub hl [0, 1, 2, 3] rfl) hP hD hS hf
          intro x2 x3 x4 m_faceOfSide m_firstSide m_faces m_xs m_ys H locs ls hl hP hD hS hf
          refine lv_iload hx hb dX8_crossings_46 (lv_at hl 3 rfl) ?_
          refine lv_iload_n hx hb dX8_crossings_48 rfl (lv_at hl 2 rfl) ?_
          refine lv_icmp_ge (tgt := 166) hx hb dX8_crossings_49 (by decide) (fun c_8 => ?_) (fun c_8 => ?_)
          · have hf := ite_t c_8 hf
            exact B166 x2 x3 m_faceOfSide m_firstSide m_faces m_xs m_ys _ _ _ (lv_sub hl [0, 1, 2] rfl) hP hD hS hf
          · have hf := ite_f c_8 hf
            refine lv_aload_n hx hb dX8_crossings_52 rfl (lv_at hl 0 rfl) ?_
            refine lv_iload_n hx hb dX8_crossings_53 rfl (lv_at hl 2 rfl) ?_
            refine lv_aload_n hx hb dX8_crossings_54 rfl (lv_at hl 0 rfl) ?_
            refine va_get (D := D) (ci := 8) (C := RX8) (T := TX8) (N := 27) hx hb hT kwX8 hown hK.1 hP 0 rfl rfl 0 (by decide) (hT _ kf_X8_7) (fun _ h9 => h9) rfl dX8_crossings_55 ?_
            refine lv_iconst (v := 3) hx hb dX8_crossings_58 (by decide) ?_
            refine lv_iload hx hb dX8_crossings_59 (lv_at hl 3 rfl) ?_
            refine lv_iadd hx hb dX8_crossings_61 ?_
            obtain ⟨h_9, hf⟩ := chk_s hf
            refine va_iald hx hb hK.1 hP 1 0 rfl rfl (inb_in h_9) dX8_crossings_62 ?_
            obtain ⟨r_10, hcr_10, hf⟩ := bd1_s hf
            refine backI (runV0 C (c_X8_isAt l D cA a_m m_s m_past m_pasts m_text m_typed m_faceOfSide m_firstSide m_faces m_before m_endA m_endB m_from m_queue m_ring m_ringSize m_ringNodes m_rings m_path m_pathSize m_old m_lastRing m_bestNodes m_bestInside m_bestFits m_far m_xs m_ys x3 (m_s (3 + x4).toNatClampNeg) N r_10 hcr_10) cf_X8_isAt km_X8_82 ⟨rfl, rfl, by decide, by decide⟩ ⟨Nat.zero_le _, Nat.zero_le _⟩ (va_recv hK.1 hP (ci := 8) (q0 := 0) rfl rfl) (hP.sub [0, 1, 2, 3, 4, 5, 6, 7, 8, 9, 10, 11, 12, 13, 14, 15, 16, 17, 18] rfl) hK hl.1 rfl rfl (Nat.le_of_ble_eq_true rfl) dX8_crossings_63) ?_
            refine lv_if_ne (tgt := 91) hx hb dX8_crossings_66 (by decide) (fun c_11 => ?_) (fun c_11 => ?_)
            · have hf := ite_t c_11 hf
              exact B91 x2 x3 x4 m_faceOfSide m_firstSide m_faces m_xs m_ys _ _ _ (lv_sub hl [0, 1, 2, 3] rfl) hP hD hS hf
            · have hf := ite_fn c_11 hf
              refine lv_aload_n hx hb dX8_crossings_69 rfl (lv_at hl 0 rfl) ?_
              refine lv_iload_n hx hb dX8_crossings_70 rfl (lv_at hl 2 rfl) ?_
              refine lv_aload_n hx hb dX8_crossings_71 rfl (lv_at hl 0 rfl) ?_
              refine va_get (D := D) (ci := 8) (C := RX8) (T := TX8) (N := 27) hx hb hT kwX8 hown hK.1 hP 0 rfl rfl 0 (by decide) (hT _ kf_X8_7) (fun _ h9 => h9) rfl dX8_crossings_72 ?_
              refine lv_bipush (v := 23) hx hb dX8_crossings_75 (by decide) ?_
              refine lv_iload hx hb dX8_crossings_77 (lv_at hl 3 rfl) ?_
              refine lv_iadd hx hb dX8_crossings_79 ?_
              obtain ⟨h_12, hf⟩ := chk_s hf
              refine va_iald hx hb hK.1 hP 1 0 rfl rfl (inb_in h_12) dX8_crossings_80 ?_
              obtain ⟨r_13, hcr_13, hf⟩ := bd1_s hf
              refine backI (runV0 C (c_X8_isAt l D cA a_m m_s m_past m_pasts m_text m_typed m_faceOfSide m_firstSide m_faces m_before m_endA m_endB m_from m_queue m_ring m_ringSize m_ringNodes m_rings m_path m_pathSize m_old m_lastRing m_bestNodes m_bestInside m_bestFits m_far m_xs m_ys x3 (m_s (23 + x4).toNatClampNeg) N r_13 hcr_13) cf_X8_isAt km_X8_82 ⟨rfl, rfl, by decide, by decide⟩ ⟨Nat.zero_le _, Nat.zero_le _⟩ (va_recv hK.1 hP (ci := 8) (q0 := 0) rfl rfl) (hP.sub [0, 1, 2, 3, 4, 5, 6, 7, 8, 9, 10, 11, 12, 13, 14, 15, 16, 17, 18] rfl) hK hl.1 rfl rfl (Nat.le_of_ble_eq_true rfl) dX8_crossings_81) ?_
              refine lv_if_ne (tgt := 91) hx hb dX8_crossings_84 (by decide) (fun c_14 => ?_) (fun c_14 => ?_)
              · have hf := ite_t c_14 hf
                exact B91 x2 x3 x4 m_faceOfSide m_firstSide m_faces m_xs m_ys _ _ _ (lv_sub hl [0, 1, 2, 3] rfl) hP hD hS hf
              · have hf := ite_fn c_14 hf
                refine lv_iconst (v := 1) hx hb dX8_crossings_87 (by decide) ?_
                refine lv_goto (tgt := 92) hx hb dX8_crossings_88 (by decide) ?_
                exact B92 x2 x3 x4 1 m_faceOfSide m_firstSide m_faces m_xs m_ys _ _ _ (lv_sub hl [0, 1, 2, 3] rfl) hP hD hS hf
      intro x2 x3 m_faceOfSide m_firstSide m_faces m_xs m_ys H locs ls hl hP hD hS hf
      refine lv_iload_n hx hb dX8_crossings_33 rfl (lv_at hl 2 rfl) ?_
      refine lv_aload_n hx hb dX8_crossings_34 rfl (lv_at hl 0 rfl) ?_
      refine va_get (D := D) (ci := 8) (C := RX8) (T := TX8) (N := 27) hx hb hT kwX8 hown hK.1 hP 0 rfl rfl 0 (by decide) (hT _ kf_X8_7) (fun _ h9 => h9) rfl dX8_crossings_35 ?_
      refine lv_iconst (v := 1) hx hb dX8_crossings_38 (by decide) ?_
      obtain ⟨h_6, hf⟩ := chk_s hf
      refine va_iald hx hb hK.1 hP 1 0 rfl rfl (inb_in h_6) dX8_crossings_39 ?_
      refine lv_icmp_ge (tgt := 172) hx hb dX8_crossings_40 (by decide) (fun c_7 => ?_) (fun c_7 => ?_)
      · have hf := ite_t c_7 hf
        refine lv_iload_n hx hb dX8_crossings_172 rfl (lv_at hl 1 rfl) ?_
        have eR := some_i hf
        exact W.iret hx hb hr (fun t ht hW => ⟨⟨x2, (), rfl, fst_e eR, by rw [← eR, ht]; exact hP, by rw [← eR]; exact hD⟩, hS.F ht⟩) hS.2.2 dX8_crossings_173 (hlocks := hlk)
      · have hf := ite_f c_7 hf
        refine lv_iconst (v := 0) hx hb dX8_crossings_43 (by decide) ?_
        refine lv_istore (lv' := [(4, .int 0), (0, .ref (a_m 0)), (2, .int x2), (3, .int x3)]) hx hb dX8_crossings_44 hl (by decide) rfl (fun ls hl => ?_)
        exact B46 N x2 x3 0 m_faceOfSide m_firstSide m_faces m_xs m_ys _ _ _ (lv_sub hl [1, 2, 3, 0] rfl) hP hD hS hf
  refine lv_iload_n hx hb dX8_crossings_0 rfl (lv_at hl 1 rfl) ?_
  refine lv_iconst (v := 0) hx hb dX8_crossings_1 (by decide) ?_
  refine lv_bipush (v := 50) hx hb dX8_crossings_2 (by decide) ?_
  obtain ⟨r_1, hcr_1, hf⟩ := bd1_s hf
  refine backI (runS0 C (c_X8_in l D cA p1 0 50 N r_1 hcr_1) cf_X8_in km_X8_70 ⟨rfl, rfl, by decide, by decide⟩ ⟨Nat.zero_le _, Nat.zero_le _⟩ (hP.sub [] rfl) hK hl.1 rfl rfl (Nat.le_of_ble_eq_true rfl) dX8_crossings_4) ?_
  refine lv_if_ne (tgt := 12) hx hb dX8_crossings_7 (by decide) (fun c_2 => ?_) (fun c_2 => ?_)
  · have hf := ite_t c_2 hf
    refine lv_aload_n hx hb dX8_crossings_12 rfl (lv_at hl 0 rfl) ?_
    refine va_get (D := D) (ci := 8) (C := RX8) (T := TX8) (N := 27) hx hb hT kwX8 hown hK.1 hP 0 rfl rfl 0 (by decide) (hT _ kf_X8_7) (fun _ h9 => h9) rfl dX8_crossings_13 ?_
    refine lv_iconst (v := 1) hx hb dX8_crossings_16 (by decide) ?_
    obtain ⟨h_3, hf⟩ := chk_s hf
    refine va_iald hx hb hK.1 hP 1 0 rfl rfl (inb_in h_3) dX8_crossings_17 ?_
    refine lv_if_ne (tgt := 24) hx hb dX8_crossings_18 (by decide) (fun c_4 => ?_) (fun c_4 => ?_)
    · have hf := ite_t c_4 hf
      refine lv_aload_n hx hb dX8_crossings_24 rfl (lv_at hl 0 rfl) ?_
      refine lv_iload_n hx hb dX8_crossings_25 rfl (lv_at hl 1 rfl) ?_
      obtain ⟨r_5, hcr_5, hf⟩ := bd1_s hf
      refine backWv (w2 := (wX8 cA a_m m_s m_past m_pasts m_text m_typed r_5.1 r_5.2.1 r_5.2.2.1 m_before m_endA m_endB m_from m_queue m_ring m_ringSize m_ringNodes m_rings m_path m_pathSize m_old m_lastRing m_bestNodes m_bestInside m_bestFits m_far r_5.2.2.2.1 r_5.2.2.2.2)) (runVw C (c_X8_relaxes l D cA a_m m_s m_past m_pasts m_text m_typed m_faceOfSide m_firstSide m_faces m_before m_endA m_endB m_from m_queue m_ring m_ringSize m_ringNodes m_rings m_path m_pathSize m_old m_lastRing m_bestNodes m_bestInside m_bestFits m_far m_xs m_ys p1 _ N r_5 hcr_5) cf_X8_relaxes km_X8_261 ⟨rfl, rfl, by decide, by decide⟩ ⟨Nat.zero_le _, Nat.zero_le _⟩ (va_recv hK.1 hP (ci := 8) (q0 := 0) rfl rfl) (hP.sub [0, 1, 2, 3, 4, 5, 6, 7, 8, 9, 10, 11, 12, 13, 14, 15, 16, 17, 18] rfl) (hD.sub [0, 1, 2, 3, 4, 5, 6, 7, 8, 9, 10, 11, 12, 13, 14, 15, 16, 17, 18] rfl rfl) hK hl.1 rfl rfl (Nat.le_of_ble_eq_true rfl) dX8_crossings_26) hP hD hS hA [0, 1, 2, 3, 4, 5, 6, 7, 8, 9, 10, 11, 12, 13, 14, 15, 16, 17, 18] rfl [] rfl rfl (by decide) [0, 1, 2, 3, 4, 5, 6, 7, 8, 9, 10, 11, 12, 13, 14, 15, 16, 17, 18] rfl rfl (fun H locs hP hD hS => ?_)
      refine lv_iconst (v := 0) hx hb dX8_crossings_29 (by decide) ?_
      refine lv_istore_n (lv' := [(2, .int 0), (0, .ref (a_m 0)), (1, .int p1)]) hx hb dX8_crossings_30 rfl hl (by decide) rfl (fun ls hl => ?_)
      refine lv_iconst (v := 0) hx hb dX8_crossings_31 (by decide) ?_
      refine lv_istore_n (lv' := [(3, .int 0), (2, .int 0), (0, .ref (a_m 0)), (1, .int p1)]) hx hb dX8_crossings_32 rfl hl (by decide) rfl (fun ls hl => ?_)
      exact B33 N 0 0 r_5.1 r_5.2.1 r_5.2.2.1 r_5.2.2.2.1 r_5.2.2.2.2 _ _ _ (lv_sub hl [2, 1, 0] rfl) hP hD hS hf
    · have hf := ite_fn c_4 hf
      refine lv_bipush (v := (-2)) hx hb dX8_crossings_21 (by decide) ?_
      have eR := some_i hf
      exact W.iret hx hb hr (fun t ht hW => ⟨⟨(-2), (), rfl, fst_e eR, by rw [← eR, ht]; exact hP, by rw [← eR]; exact hD⟩, hS.F ht⟩) hS.2.2 dX8_crossings_23 (hlocks := hlk)
  · have hf := ite_fn c_2 hf
    refine lv_iconst (v := (-1)) hx hb dX8_crossings_10 (by decide) ?_
    have eR := some_i hf
    exact W.iret hx hb hr (fun t ht hW => ⟨⟨(-1), (), rfl, fst_e eR, by rw [← eR, ht]; exact hP, by rw [← eR]; exact hD⟩, hS.F ht⟩) hS.2.2 dX8_crossings_11 (hlocks := hlk)
set_option maxRecDepth 100000 in
set_option maxHeartbeats 4000000 in
theorem c_X8_depth (l : Launch) (D : va_G) (cA : Nat → ClassId) (a_m : Nat → Nat) (m_s : Nat → Int32) (m_past : Nat → Int32) (m_pasts : Int32) (m_text : Nat → Int32) (m_typed : Int32) (m_faceOfSide : Nat → Int32) (m_firstSide : Nat → Int32) (m_faces : Int32) (m_before : Nat → Int32) (m_endA : Nat → Int32) (m_endB : Nat → Int32) (m_from : Nat → Int32) (m_queue : Nat → Int32) (m_ring : Nat → Int32) (m_ringSize : Nat → Int32) (m_ringNodes : Nat → Int32) (m_rings : Int32) (m_path : Nat → Int32) (m_pathSize : Int32) (m_old : Nat → Int32) (m_lastRing : Int32) (m_bestNodes : Int32) (m_bestInside : Int32) (m_bestFits : Int32) (m_far : Nat → Int32) (m_xs : Nat → UInt32) (m_ys : Nat → UInt32) (p1 : Int32) (sz N : Nat) (ρ : Int32 × (Nat → Int32) × (Nat → Int32) × Int32) (hf : f_X8_depth N m_s m_faceOfSide m_firstSide m_faces p1 = some ρ) : Met l yX8_depth (Cond.code yX8_depth cX8_depth 6 (Option.some Jvm.ClassFile.FieldType.int) :: lw_g) ({ frames := 4, cells := 0, slots := 0, locals := 91 } : Room) (PcW D (tyA cA) (wX8 cA a_m m_s m_past m_pasts m_text m_typed m_faceOfSide m_firstSide m_faces m_before m_endA m_endB m_from m_queue m_ring m_ringSize m_ringNodes m_rings m_path m_pathSize m_old m_lastRing m_bestNodes m_bestInside m_bestFits m_far m_xs m_ys) sz [.ref (a_m 0), .int p1]) (va_Qi (fun r (_ : Unit) => r = ρ.1) (fun _ t => va_P D vwCl (wX8 cA a_m m_s m_past m_pasts m_text m_typed ρ.2.1 ρ.2.2.1 ρ.2.2.2 m_before m_endA m_endB m_from m_queue m_ring m_ringSize m_ringNodes m_rings m_path m_pathSize m_old m_lastRing m_bestNodes m_bestInside m_bestFits m_far m_xs m_ys) t.heap ∧ va_D (va_A (wX8 cA a_m m_s m_past m_pasts m_text m_typed m_faceOfSide m_firstSide m_faces m_before m_endA m_endB m_from m_queue m_ring m_ringSize m_ringNodes m_rings m_path m_pathSize m_old m_lastRing m_bestNodes m_bestInside m_bestFits m_far m_xs m_ys) sz) (wX8 cA a_m m_s m_past m_pasts m_text m_typed ρ.2.1 ρ.2.2.1 ρ.2.2.2 m_before m_endA m_endB m_from m_queue m_ring m_ringSize m_ringNodes m_rings m_path m_pathSize m_old m_lastRing m_bestNodes m_bestInside m_bestFits m_far m_xs m_ys)) (va_A (wX8 cA a_m m_s m_past m_pasts m_text m_typed m_faceOfSide m_firstSide m_faces m_before m_endA m_endB m_from m_queue m_ring m_ringSize m_ringNodes m_rings m_path m_pathSize m_old m_lastRing m_bestNodes m_bestInside m_bestFits m_far m_xs m_ys) sz)) 0 0 (va_A (wX8 cA a_m m_s m_past m_pasts m_text m_typed m_faceOfSide m_firstSide m_faces m_before m_endA m_endB m_from m_queue m_ring m_ringSize m_ringNodes m_rings m_path m_pathSize m_old m_lastRing m_bestNodes m_bestInside m_bestFits m_far m_xs m_ys) sz) := by
  refine mkW (QQ := fun A => va_Qi (fun r (_ : Unit) => r = ρ.1) (fun _ t => va_P D vwCl (wX8 cA a_m m_s m_past m_pasts m_text m_typed ρ.2.1 ρ.2.2.1 ρ.2.2.2 m_before m_endA m_endB m_from m_queue m_ring m_ringSize m_ringNodes m_rings m_path m_pathSize m_old m_lastRing m_bestNodes m_bestInside m_bestFits m_far m_xs m_ys) t.heap ∧ va_D A (wX8 cA a_m m_s m_past m_pasts m_text m_typed ρ.2.1 ρ.2.2.1 ρ.2.2.2 m_before m_endA m_endB m_from m_queue m_ring m_ringSize m_ringNodes m_rings m_path m_pathSize m_old m_lastRing m_bestNodes m_bestInside m_bestFits m_far m_xs m_ys)) A) (by decide) (Nat.le_of_ble_eq_true rfl) fun p e s m below meth c ls A C hl hP hK hD hA hS => ?_
  obtain ⟨hx, hb, hml, hown, hT, hr, hlk⟩ := id C
  have hl : lv_has ls 6 [(0, .ref (a_m 0)), (1, .int p1)] := hl
  have B38 : ∀ (n38 : Nat), ∀ (x1 : Int32) (x2 : Int32) (x3 : Int32) (m_faceOfSide : Nat → Int32) (m_firstSide : Nat → Int32) (m_faces : Int32) (H : Heap) (locs : List Loc) (ls : Array Slot), lv_has ls 6 [(0, .ref (a_m 0)), (1, .int x1), (2, .int x2), (3, .int x3)] → va_P D vwCl (wX8 cA a_m m_s m_past m_pasts m_text m_typed m_faceOfSide m_firstSide m_faces m_before m_endA m_endB m_from m_queue m_ring m_ringSize m_ringNodes m_rings m_path m_pathSize m_old m_lastRing m_bestNodes m_bestInside m_bestFits m_far m_xs m_ys) H → va_D A (wX8 cA a_m m_s m_past m_pasts m_text m_typed m_faceOfSide m_firstSide m_faces m_before m_endA m_endB m_from m_queue m_ring m_ringSize m_ringNodes m_rings m_path m_pathSize m_old m_lastRing m_bestNodes m_bestInside m_bestFits m_far m_xs m_ys) → va_S A s.heap H locs → f_X8_depth_b38 N m_s n38 x1 x2 x3 m_faceOfSide m_firstSide m_faces = some ρ → W p l e ({ frames := 4, cells := 0, slots := 0, locals := 91 } : Room) s m ([.ref (a_m 0), .int p1] : List Value).toArray below meth c H locs 0 0 (MQ below (va_Qi (fun r (_ : Unit) => r = ρ.1) (fun _ t => va_P D vwCl (wX8 cA a_m m_s m_past m_pasts m_text m_typed ρ.2.1 ρ.2.2.1 ρ.2.2.2 m_before m_endA m_endB m_from m_queue m_ring m_ringSize m_ringNodes m_rings m_path m_pathSize m_old m_lastRing m_bestNodes m_bestInside m_bestFits m_far m_xs m_ys) t.heap ∧ va_D A (wX8 cA a_m m_s m_past m_pasts m_text m_typed ρ.2.1 ρ.2.2.1 ρ.2.2.2 m_before m_endA m_endB m_from m_queue m_ring m_ringSize m_ringNodes m_rings m_path m_pathSize m_old m_lastRing m_bestNodes m_bestInside m_bestFits m_far m_xs m_ys)) A) ([.ref (a_m 0), .int p1] : List Value).toArray s 0 0 A) (F0 m 38 ls []) := by
    intro n38
    induction n38 with
    | zero =>
      intro x1 x2 x3 m_faceOfSide m_firstSide m_faces H locs ls hl hP hD hS hf
      cases (show (none : Option (Int32 × (Nat → Int32) × (Nat → Int32) × Int32)) = some ρ from hf)
    | succ n38 ih38 =>
      have B105 : ∀ (x1 : Int32) (x3 : Int32) (x4 : Int32) (m_faceOfSide : Nat → Int32) (m_firstSide : Nat → Int32) (m_faces : Int32) (H : Heap) (locs : List Loc) (ls : Array Slot), lv_has ls 6 [(0, .ref (a_m 0)), (1, .int x1), (3, .int x3), (4, .int x4)] → va_P D vwCl (wX8 cA a_m m_s m_past m_pasts m_text m_typed m_faceOfSide m_firstSide m_faces m_before m_endA m_endB m_from m_queue m_ring m_ringSize m_ringNodes m_rings m_path m_pathSize m_old m_lastRing m_bestNodes m_bestInside m_bestFits m_far m_xs m_ys) H → va_D A (wX8 cA a_m m_s m_past m_pasts m_text m_typed m_faceOfSide m_firstSide m_faces m_before m_endA m_endB m_from m_queue m_ring m_ringSize m_ringNodes m_rings m_path m_pathSize m_old m_lastRing m_bestNodes m_bestInside m_bestFits m_far m_xs m_ys) → va_S A s.heap H locs → f_X8_depth_b105 N m_s (f_X8_depth_b38 N m_s n38) x1 x3 x4 m_faceOfSide m_firstSide m_faces = some ρ → W p l e ({ frames := 4, cells := 0, slots := 0, locals := 91 } : Room) s m ([.ref (a_m 0), .int p1] : List Value).toArray below meth c H locs 0 0 (MQ below (va_Qi (fun r (_ : Unit) => r = ρ.1) (fun _ t => va_P D vwCl (wX8 cA a_m m_s m_past m_pasts m_text m_typed ρ.2.1 ρ.2.2.1 ρ.2.2.2 m_before m_endA m_endB m_from m_queue m_ring m_ringSize m_ringNodes m_rings m_path m_pathSize m_old m_lastRing m_bestNodes m_bestInside m_bestFits m_far m_xs m_ys) t.heap ∧ va_D A (wX8 cA a_m m_s m_past m_pasts m_text m_typed ρ.2.1 ρ.2.2.1 ρ.2.2.2 m_before m_endA m_endB m_from m_queue m_ring m_ringSize m_ringNodes m_rings m_path m_pathSize m_old m_lastRing m_bestNodes m_bestInside m_bestFits m_far m_xs m_ys)) A) ([.ref (a_m 0), .int p1] : List Value).toArray s 0 0 A) (F0 m 105 ls []) := by
        intro x1 x3 x4 m_faceOfSide m_firstSide m_faces H locs ls hl hP hD hS hf
        refine lv_iload hx hb dX8_depth_105 (lv_at hl 3 rfl) ?_
        refine lv_istore_n (lv' := [(2, .int x4), (0, .ref (a_m 0)), (1, .int x1), (3, .int x3), (4, .int x4)]) hx hb dX8_depth_107 rfl hl (by decide) rfl (fun ls hl => ?_)
        refine lv_iinc (v := (x3 + 1)) (lv' := [(3, .int (x3 + 1)), (2, .int x4), (0, .ref (a_m 0)), (1, .int x1), (4, .int x4)]) hx hb dX8_depth_108 hl (k := 3) rfl rfl (by decide) rfl (fun ls hl => ?_)
        refine lv_goto (tgt := 38) hx hb dX8_depth_111 (by decide) ?_
        exact ih38 x1 x4 (x3 + 1) m_faceOfSide m_firstSide m_faces _ _ _ (lv_sub hl [2, 3, 1, 0] rfl) hP hD hS hf
      have B64 : ∀ (n64 : Nat), ∀ (x1 : Int32) (x2 : Int32) (x3 : Int32) (x4 : Int32) (x5 : Int32) (m_faceOfSide : Nat → Int32) (m_firstSide : Nat → Int32) (m_faces : Int32) (H : Heap) (locs : List Loc) (ls : Array Slot), lv_has ls 6 [(0, .ref (a_m 0)), (1, .int x1), (2, .int x2), (3, .int x3), (4, .int x4), (5, .int x5)] → va_P D vwCl (wX8 cA a_m m_s m_past m_pasts m_text m_typed m_faceOfSide m_firstSide m_faces m_before m_endA m_endB m_from m_queue m_ring m_ringSize m_ringNodes m_rings m_path m_pathSize m_old m_lastRing m_bestNodes m_bestInside m_bestFits m_far m_xs m_ys) H → va_D A (wX8 cA a_m m_s m_past m_pasts m_text m_typed m_faceOfSide m_firstSide m_faces m_before m_endA m_endB m_from m_queue m_ring m_ringSize m_ringNodes m_rings m_path m_pathSize m_old m_lastRing m_bestNodes m_bestInside m_bestFits m_far m_xs m_ys) → va_S A s.heap H locs → f_X8_depth_b64 N m_s (f_X8_depth_b38 N m_s n38) n64 x1 x2 x3 x4 x5 m_faceOfSide m_firstSide m_faces = some ρ → W p l e ({ frames := 4, cells := 0, slots := 0, locals := 91 } : Room) s m ([.ref (a_m 0), .int p1] : List Value).toArray below meth c H locs 0 0 (MQ below (va_Qi (fun r (_ : Unit) => r = ρ.1) (fun _ t => va_P D vwCl (wX8 cA a_m m_s m_past m_pasts m_text m_typed ρ.2.1 ρ.2.2.1 ρ.2.2.2 m_before m_endA m_endB m_from m_queue m_ring m_ringSize m_ringNodes m_rings m_path m_pathSize m_old m_lastRing m_bestNodes m_bestInside m_bestFits m_far m_xs m_ys) t.heap ∧ va_D A (wX8 cA a_m m_s m_past m_pasts m_text m_typed ρ.2.1 ρ.2.2.1 ρ.2.2.2 m_before m_endA m_endB m_from m_queue m_ring m_ringSize m_ringNodes m_rings m_path m_pathSize m_old m_lastRing m_bestNodes m_bestInside m_bestFits m_far m_xs m_ys)) A) ([.ref (a_m 0), .int p1] : List Value).toArray s 0 0 A) (F0 m 64 ls []) := by
        intro n64
        induction n64 with
        | zero =>
          intro x1 x2 x3 x4 x5 m_faceOfSide m_firstSide m_faces H locs ls hl hP hD hS hf
          cases (show (none : Option (Int32 × (Nat → Int32) × (Nat → Int32) × Int32)) = some ρ from hf)
        | succ n64 ih64 =>
          have B96 : ∀ (x1 : Int32) (x2 : Int32) (x3 : Int32) (x5 : Int32) (y0 : Int32) (y1 : Int32) (m_faceOfSide : Nat → Int32) (m_firstSide : Nat → Int32) (m_faces : Int32) (H : Heap) (locs : List Loc) (ls : Array Slot), lv_has ls 6 [(0, .ref (a_m 0)), (1, .int x1), (2, .int x2), (3, .int x3), (5, .int x5)] → va_P D vwCl (wX8 cA a_m m_s m_past m_pasts m_text m_typed m_faceOfSide m_firstSide m_faces m_before m_endA m_endB m_from m_queue m_ring m_ringSize m_ringNodes m_rings m_path m_pathSize m_old m_lastRing m_bestNodes m_bestInside m_bestFits m_far m_xs m_ys) H → va_D A (wX8 cA a_m m_s m_past m_pasts m_text m_typed m_faceOfSide m_firstSide m_faces m_before m_endA m_endB m_from m_queue m_ring m_ringSize m_ringNodes m_rings m_path m_pathSize m_old m_lastRing m_bestNodes m_bestInside m_bestFits m_far m_xs m_ys) → va_S A s.heap H locs → f_X8_depth_b96 N m_s (f_X8_depth_b38 N m_s n38) (f_X8_depth_b64 N m_s (f_X8_depth_b38 N m_s n38) n64) x1 x2 x3 x5 y0 y1 m_faceOfSide m_firstSide m_faces = some ρ → W p l e ({ frames := 4, cells := 0, slots := 0, locals := 91 } : Room) s m ([.ref (a_m 0), .int p1] : List Value).toArray below meth c H locs 0 0 (MQ below (va_Qi (fun r (_ : Unit) => r = ρ.1) (fun _ t => va_P D vwCl (wX8 cA a_m m_s m_past m_pasts m_text m_typed ρ.2.1 ρ.2.2.1 ρ.2.2.2 m_before m_endA m_endB m_from m_queue m_ring m_ringSize m_ringNodes m_rings m_path m_pathSize m_old m_lastRing m_bestNodes m_bestInside m_bestFits m_far m_xs m_ys) t.heap ∧ va_D A (wX8 cA a_m m_s m_past m_pasts m_text m_typed ρ.2.1 ρ.2.2.1 ρ.2.2.2 m_before m_endA m_endB m_from m_queue m_ring m_ringSize m_ringNodes m_rings m_path m_pathSize m_old m_lastRing m_bestNodes m_bestInside m_bestFits m_far m_xs m_ys)) A) ([.ref (a_m 0), .int p1] : List Value).toArray s 0 0 A) (F0 m 96 ls [.int y1, .int y0]) := by
            intro x1 x2 x3 x5 y0 y1 m_faceOfSide m_firstSide m_faces H locs ls hl hP hD hS hf
            refine lv_ior hx hb dX8_depth_96 ?_
            refine lv_topi (fun x4_15 ex4_15 => ?_)
            have hf := nm_t ex4_15 hf
            refine lv_istore (lv' := [(4, .int x4_15), (0, .ref (a_m 0)), (1, .int x1), (2, .int x2), (3, .int x3), (5, .int x5)]) hx hb dX8_depth_97 hl (by decide) rfl (fun ls hl => ?_)
            refine lv_iinc (v := (x5 + 1)) (lv' := [(5, .int (x5 + 1)), (4, .int x4_15), (0, .ref (a_m 0)), (1, .int x1), (2, .int x2), (3, .int x3)]) hx hb dX8_depth_99 hl (k := 5) rfl rfl (by decide) rfl (fun ls hl => ?_)
            refine lv_goto (tgt := 64) hx hb dX8_depth_102 (by decide) ?_
            exact ih64 x1 x2 x3 x4_15 (x5 + 1) m_faceOfSide m_firstSide m_faces _ _ _ (lv_sub hl [2, 3, 4, 5, 1, 0] rfl) hP hD hS hf
          intro x1 x2 x3 x4 x5 m_faceOfSide m_firstSide m_faces H locs ls hl hP hD hS hf
          refine lv_iload hx hb dX8_depth_64 (lv_at hl 5 rfl) ?_
          refine lv_aload_n hx hb dX8_depth_66 rfl (lv_at hl 0 rfl) ?_
          refine va_get (D := D) (ci := 8) (C := RX8) (T := TX8) (N := 27) hx hb hT kwX8 hown hK.1 hP 0 rfl rfl 7 (by decide) (hT _ kf_X8_120) (fun _ h9 => h9) rfl dX8_depth_67 ?_
          refine lv_icmp_ge (tgt := 105) hx hb dX8_depth_70 (by decide) (fun c_11 => ?_) (fun c_11 => ?_)
          · have hf := ite_t c_11 hf
            exact B105 x1 x3 x4 m_faceOfSide m_firstSide m_faces _ _ _ (lv_sub hl [0, 1, 3, 4] rfl) hP hD hS hf
          · have hf := ite_f c_11 hf
            refine lv_iload hx hb dX8_depth_73 (lv_at hl 4 rfl) ?_
            refine lv_aload_n hx hb dX8_depth_75 rfl (lv_at hl 0 rfl) ?_
            refine lv_iload hx hb dX8_depth_76 (lv_at hl 5 rfl) ?_
            obtain ⟨r_12, hcr_12, hf⟩ := bd1_s hf
            refine backI (runV0 C (c_X8_nodesOn l D cA a_m m_s m_past m_pasts m_text m_typed m_faceOfSide m_firstSide m_faces m_before m_endA m_endB m_from m_queue m_ring m_ringSize m_ringNodes m_rings m_path m_pathSize m_old m_lastRing m_bestNodes m_bestInside m_bestFits m_far m_xs m_ys x5 N r_12 hcr_12) cf_X8_nodesOn km_X8_140 ⟨rfl, rfl, by decide, by decide⟩ ⟨Nat.zero_le _, Nat.zero_le _⟩ (va_recv hK.1 hP (ci := 8) (q0 := 0) rfl rfl) (hP.sub [0, 1, 2, 3, 4, 5, 6, 7, 8, 9, 10, 11, 12, 13, 14, 15, 16, 17, 18] rfl) hK hl.1 rfl rfl (Nat.le_of_ble_eq_true rfl) dX8_depth_78) ?_
            refine lv_iload_n hx hb dX8_depth_81 rfl (lv_at hl 2 rfl) ?_
            refine lv_iand hx hb dX8_depth_82 ?_
            refine lv_if_eq (tgt := 95) hx hb dX8_depth_83 (by decide) (fun c_13 => ?_) (fun c_13 => ?_)
            · have hf := ite_t c_13 hf
              refine lv_iconst (v := 0) hx hb dX8_depth_95 (by decide) ?_
              exact B96 x1 x2 x3 x5 x4 0 m_faceOfSide m_firstSide m_faces _ _ _ (lv_sub hl [0, 1, 2, 3, 5] rfl) hP hD hS hf
            · have hf := ite_f c_13 hf
              refine lv_aload_n hx hb dX8_depth_86 rfl (lv_at hl 0 rfl) ?_
              refine lv_iload hx hb dX8_depth_87 (lv_at hl 5 rfl) ?_
              obtain ⟨r_14, hcr_14, hf⟩ := bd1_s hf
              refine backI (runV0 C (c_X8_nodesOn l D cA a_m m_s m_past m_pasts m_text m_typed m_faceOfSide m_firstSide m_faces m_before m_endA m_endB m_from m_queue m_ring m_ringSize m_ringNodes m_rings m_path m_pathSize m_old m_lastRing m_bestNodes m_bestInside m_bestFits m_far m_xs m_ys x5 N r_14 hcr_14) cf_X8_nodesOn km_X8_140 ⟨rfl, rfl, by decide, by decide⟩ ⟨Nat.zero_le _, Nat.zero_le _⟩ (va_recv hK.1 hP (ci := 8) (q0 := 0) rfl rfl) (hP.sub [0, 1, 2, 3, 4, 5, 6, 7, 8, 9, 10, 11, 12, 13, 14, 15, 16, 17, 18] rfl) hK hl.1 rfl rfl (Nat.le_of_ble_eq_true rfl) dX8_depth_89) ?_
              refine lv_goto (tgt := 96) hx hb dX8_depth_92 (by decide) ?_
              exact B96 x1 x2 x3 x5 x4 r_14 m_faceOfSide m_firstSide m_faces _ _ _ (lv_sub hl [0, 1, 2, 3, 5] rfl) hP hD hS hf
      intro x1 x2 x3 m_faceOfSide m_firstSide m_faces H locs ls hl hP hD hS hf
      refine lv_iload_n hx hb dX8_depth_38 rfl (lv_at hl 3 rfl) ?_
      refine lv_aload_n hx hb dX8_depth_39 rfl (lv_at hl 0 rfl) ?_
      refine va_get (D := D) (ci := 8) (C := RX8) (T := TX8) (N := 27) hx hb hT kwX8 hown hK.1 hP 0 rfl rfl 0 (by decide) (hT _ kf_X8_7) (fun _ h9 => h9) rfl dX8_depth_40 ?_
      refine lv_iconst (v := 0) hx hb dX8_depth_43 (by decide) ?_
      obtain ⟨h_7, hf⟩ := chk_s hf
      refine va_iald hx hb hK.1 hP 1 0 rfl rfl (inb_in h_7) dX8_depth_44 ?_
      refine lv_icmp_ge (tgt := 114) hx hb dX8_depth_45 (by decide) (fun c_8 => ?_) (fun c_8 => ?_)
      · have hf := ite_t c_8 hf
        refine lv_bipush (v := (-9)) hx hb dX8_depth_114 (by decide) ?_
        have eR := some_i hf
        exact W.iret hx hb hr (fun t ht hW => ⟨⟨(-9), (), rfl, fst_e eR, by rw [← eR, ht]; exact hP, by rw [← eR]; exact hD⟩, hS.F ht⟩) hS.2.2 dX8_depth_116 (hlocks := hlk)
      · have hf := ite_f c_8 hf
        refine lv_iload_n hx hb dX8_depth_48 rfl (lv_at hl 2 rfl) ?_
        refine lv_iload_n hx hb dX8_depth_49 rfl (lv_at hl 1 rfl) ?_
        obtain ⟨r_9, hcr_9, hf⟩ := bd1_s hf
        refine backI (runS0 C (c_X8_has l D cA x2 x1 N r_9 hcr_9) cf_X8_has km_X8_166 ⟨rfl, rfl, by decide, by decide⟩ ⟨Nat.zero_le _, Nat.zero_le _⟩ (hP.sub [] rfl) hK hl.1 rfl rfl (Nat.le_of_ble_eq_true rfl) dX8_depth_50) ?_
        refine lv_if_eq (tgt := 58) hx hb dX8_depth_53 (by decide) (fun c_10 => ?_) (fun c_10 => ?_)
        · have hf := ite_t c_10 hf
          refine lv_iload_n hx hb dX8_depth_58 rfl (lv_at hl 2 rfl) ?_
          refine lv_istore (lv' := [(4, .int x2), (0, .ref (a_m 0)), (1, .int x1), (2, .int x2), (3, .int x3)]) hx hb dX8_depth_59 hl (by decide) rfl (fun ls hl => ?_)
          refine lv_iconst (v := 0) hx hb dX8_depth_61 (by decide) ?_
          refine lv_istore (lv' := [(5, .int 0), (4, .int x2), (0, .ref (a_m 0)), (1, .int x1), (2, .int x2), (3, .int x3)]) hx hb dX8_depth_62 hl (by decide) rfl (fun ls hl => ?_)
          exact B64 N x1 x2 x3 x2 0 m_faceOfSide m_firstSide m_faces _ _ _ (lv_sub hl [2, 3, 4, 5, 1, 0] rfl) hP hD hS hf
        · have hf := ite_f c_10 hf
          refine lv_iload_n hx hb dX8_depth_56 rfl (lv_at hl 3 rfl) ?_
          have eR := some_i hf
          exact W.iret hx hb hr (fun t ht hW => ⟨⟨x3, (), rfl, fst_e eR, by rw [← eR, ht]; exact hP, by rw [← eR]; exact hD⟩, hS.F ht⟩) hS.2.2 dX8_depth_57 (hlocks := hlk)
  have B35 : ∀ (x1 : Int32) (y0 : Int32) (m_faceOfSide : Nat → Int32) (m_firstSide : Nat → Int32) (m_faces : Int32) (H : Heap) (locs : List Loc) (ls : Array Slot), lv_has ls 6 [(0, .ref (a_m 0)), (1, .int x1)] → va_P D vwCl (wX8 cA a_m m_s m_past m_pasts m_text m_typed m_faceOfSide m_firstSide m_faces m_before m_endA m_endB m_from m_queue m_ring m_ringSize m_ringNodes m_rings m_path m_pathSize m_old m_lastRing m_bestNodes m_bestInside m_bestFits m_far m_xs m_ys) H → va_D A (wX8 cA a_m m_s m_past m_pasts m_text m_typed m_faceOfSide m_firstSide m_faces m_before m_endA m_endB m_from m_queue m_ring m_ringSize m_ringNodes m_rings m_path m_pathSize m_old m_lastRing m_bestNodes m_bestInside m_bestFits m_far m_xs m_ys) → va_S A s.heap H locs → f_X8_depth_b35 N m_s x1 y0 m_faceOfSide m_firstSide m_faces = some ρ → W p l e ({ frames := 4, cells := 0, slots := 0, locals := 91 } : Room) s m ([.ref (a_m 0), .int p1] : List Value).toArray below meth c H locs 0 0 (MQ below (va_Qi (fun r (_ : Unit) => r = ρ.1) (fun _ t => va_P D vwCl (wX8 cA a_m m_s m_past m_pasts m_text m_typed ρ.2.1 ρ.2.2.1 ρ.2.2.2 m_before m_endA m_endB m_from m_queue m_ring m_ringSize m_ringNodes m_rings m_path m_pathSize m_old m_lastRing m_bestNodes m_bestInside m_bestFits m_far m_xs m_ys) t.heap ∧ va_D A (wX8 cA a_m m_s m_past m_pasts m_text m_typed ρ.2.1 ρ.2.2.1 ρ.2.2.2 m_before m_endA m_endB m_from m_queue m_ring m_ringSize m_ringNodes m_rings m_path m_pathSize m_old m_lastRing m_bestNodes m_bestInside m_bestFits m_far m_xs m_ys)) A) ([.ref (a_m 0), .int p1] : List Value).toArray s 0 0 A) (F0 m 35 ls [.int y0]) := by
    intro x1 y0 m_faceOfSide m_firstSide m_faces H locs ls hl hP hD hS hf
    refine lv_istore_n (lv' := [(2, .int y0), (0, .ref (a_m 0)), (1, .int x1)]) hx hb dX8_depth_35 rfl hl (by decide) rfl (fun ls hl => ?_)
    refine lv_iconst (v := 0) hx hb dX8_depth_36 (by decide) ?_
    refine lv_istore_n (lv' := [(3, .int 0), (2, .int y0), (0, .ref (a_m 0)), (1, .int x1)]) hx hb dX8_depth_37 rfl hl (by decide) rfl (fun ls hl => ?_)
    exact B38 N x1 y0 0 m_faceOfSide m_firstSide m_faces _ _ _ (lv_sub hl [2, 3, 1, 0] rfl) hP hD hS hf
  refine lv_aload_n hx hb dX8_depth_0 rfl (lv_at hl 0 rfl) ?_
  refine lv_iload_n hx hb dX8_depth_1 rfl (lv_at hl 1 rfl) ?_
  obtain ⟨r_1, hcr_1, hf⟩ := bd1_s hf
  refine backI (runV0 C (c_X8_isNode l D cA a_m m_s m_past m_pasts m_text m_typed m_faceOfSide m_firstSide m_faces m_before m_endA m_endB m_from m_queue m_ring m_ringSize m_ringNodes m_rings m_path m_pathSize m_old m_lastRing m_bestNodes m_bestInside m_bestFits m_far m_xs m_ys p1 N r_1 hcr_1) cf_X8_isNode km_X8_97 ⟨rfl, rfl, by decide, by decide⟩ ⟨Nat.zero_le _, Nat.zero_le _⟩ (va_recv hK.1 hP (ci := 8) (q0 := 0) rfl rfl) (hP.sub [0, 1, 2, 3, 4, 5, 6, 7, 8, 9, 10, 11, 12, 13, 14, 15, 16, 17, 18] rfl) hK hl.1 rfl rfl (Nat.le_of_ble_eq_true rfl) dX8_depth_2) ?_
  refine lv_if_ne (tgt := 10) hx hb dX8_depth_5 (by decide) (fun c_2 => ?_) (fun c_2 => ?_)
  · have hf := ite_t c_2 hf
    refine lv_aload_n hx hb dX8_depth_10 rfl (lv_at hl 0 rfl) ?_
    obtain ⟨r_3, hcr_3, hf⟩ := bd1_s hf
    refine backWv (w2 := (wX8 cA a_m m_s m_past m_pasts m_text m_typed r_3.1 r_3.2.1 r_3.2.2 m_before m_endA m_endB m_from m_queue m_ring m_ringSize m_ringNodes m_rings m_path m_pathSize m_old m_lastRing m_bestNodes m_bestInside m_bestFits m_far m_xs m_ys)) (runVw C (c_X8_walks l D cA a_m m_s m_past m_pasts m_text m_typed m_faceOfSide m_firstSide m_faces m_before m_endA m_endB m_from m_queue m_ring m_ringSize m_ringNodes m_rings m_path m_pathSize m_old m_lastRing m_bestNodes m_bestInside m_bestFits m_far m_xs m_ys _ N r_3 hcr_3) cf_X8_walks km_X8_117 ⟨rfl, rfl, by decide, by decide⟩ ⟨Nat.zero_le _, Nat.zero_le _⟩ (va_recv hK.1 hP (ci := 8) (q0 := 0) rfl rfl) (hP.sub [0, 1, 2, 3, 4, 5, 6, 7, 8, 9, 10, 11, 12, 13, 14, 15, 16, 17, 18] rfl) (hD.sub [0, 1, 2, 3, 4, 5, 6, 7, 8, 9, 10, 11, 12, 13, 14, 15, 16, 17, 18] rfl rfl) hK hl.1 rfl rfl (Nat.le_of_ble_eq_true rfl) dX8_depth_11) hP hD hS hA [0, 1, 2, 3, 4, 5, 6, 7, 8, 9, 10, 11, 12, 13, 14, 15, 16, 17, 18] rfl [] rfl rfl (by decide) [0, 1, 2, 3, 4, 5, 6, 7, 8, 9, 10, 11, 12, 13, 14, 15, 16, 17, 18] rfl rfl (fun H locs hP hD hS => ?_)
    refine lv_aload_n hx hb dX8_depth_14 rfl (lv_at hl 0 rfl) ?_
    refine va_get (D := D) (ci := 8) (C := RX8) (T := TX8) (N := 27) hx hb hT kwX8 hown hK.1 hP 0 rfl rfl 7 (by decide) (hT _ kf_X8_120) (fun _ h9 => h9) rfl dX8_depth_15 ?_
    refine lv_if_ne (tgt := 25) hx hb dX8_depth_18 (by decide) (fun c_4 => ?_) (fun c_4 => ?_)
    · have hf := ite_t c_4 hf
      refine lv_aload_n hx hb dX8_depth_25 rfl (lv_at hl 0 rfl) ?_
      refine lv_aload_n hx hb dX8_depth_26 rfl (lv_at hl 0 rfl) ?_
      refine va_get (D := D) (ci := 8) (C := RX8) (T := TX8) (N := 27) hx hb hT kwX8 hown hK.1 hP 0 rfl rfl 0 (by decide) (hT _ kf_X8_7) (fun _ h9 => h9) rfl dX8_depth_27 ?_
      refine lv_iconst (v := 2) hx hb dX8_depth_30 (by decide) ?_
      obtain ⟨h_5, hf⟩ := chk_s hf
      refine va_iald hx hb hK.1 hP 1 0 rfl rfl (inb_in h_5) dX8_depth_31 ?_
      obtain ⟨r_6, hcr_6, hf⟩ := bd1_s hf
      refine backI (runV0 C (c_X8_nodesOn l D cA a_m m_s m_past m_pasts m_text m_typed r_3.1 r_3.2.1 r_3.2.2 m_before m_endA m_endB m_from m_queue m_ring m_ringSize m_ringNodes m_rings m_path m_pathSize m_old m_lastRing m_bestNodes m_bestInside m_bestFits m_far m_xs m_ys (m_s (2 : Int32).toNatClampNeg) N r_6 hcr_6) cf_X8_nodesOn km_X8_140 ⟨rfl, rfl, by decide, by decide⟩ ⟨Nat.zero_le _, Nat.zero_le _⟩ (va_recv hK.1 hP (ci := 8) (q0 := 0) rfl rfl) (hP.sub [0, 1, 2, 3, 4, 5, 6, 7, 8, 9, 10, 11, 12, 13, 14, 15, 16, 17, 18] rfl) hK hl.1 rfl rfl (Nat.le_of_ble_eq_true rfl) dX8_depth_32) ?_
      exact B35 p1 r_6 r_3.1 r_3.2.1 r_3.2.2 _ _ _ (lv_sub hl [0, 1] rfl) hP hD hS hf
    · have hf := ite_fn c_4 hf
      refine lv_iconst (v := 0) hx hb dX8_depth_21 (by decide) ?_
      refine lv_goto (tgt := 35) hx hb dX8_depth_22 (by decide) ?_
      exact B35 p1 0 r_3.1 r_3.2.1 r_3.2.2 _ _ _ (lv_sub hl [0, 1] rfl) hP hD hS hf
  · have hf := ite_fn c_2 hf
    refine lv_iconst (v := (-1)) hx hb dX8_depth_8 (by decide) ?_
    have eR := some_i hf
    exact W.iret hx hb hr (fun t ht hW => ⟨⟨(-1), (), rfl, fst_e eR, by rw [← eR, ht]; exact hP, by rw [← eR]; exact hD⟩, hS.F ht⟩) hS.2.2 dX8_depth_9 (hlocks := hlk)
set_option maxRecDepth 100000 in
set_option maxHeartbeats 4000000 in
theorem c_X8_edge (l : Launch) (D : va_G) (cA : Nat → ClassId) (a_m : Nat → Nat) (m_s : Nat → Int32) (m_past : Nat → Int32) (m_pasts : Int32) (m_text : Nat → Int32) (m_typed : Int32) (m_faceOfSide : Nat → Int32) (m_firstSide : Nat → Int32) (m_faces : Int32) (m_before : Nat → Int32) (m_endA : Nat → Int32) (m_endB : Nat → Int32) (m_from : Nat → Int32) (m_queue : Nat → Int32) (m_ring : Nat → Int32) (m_ringSize : Nat → Int32) (m_ringNodes : Nat → Int32) (m_rings : Int32) (m_path : Nat → Int32) (m_pathSize : Int32) (m_old : Nat → Int32) (m_lastRing : Int32) (m_bestNodes : Int32) (m_bestInside : Int32) (m_bestFits : Int32) (m_far : Nat → Int32) (m_xs : Nat → UInt32) (m_ys : Nat → UInt32) (p1 : Int32) (p2 : Int32) (N : Nat) (ρ : Int32) (hf : f_X8_edge N m_s p1 p2 = some ρ) : Met l yX8_edge (Cond.code yX8_edge cX8_edge 3 (Option.some Jvm.ClassFile.FieldType.int) :: lw_g) ({ frames := 2, cells := 0, slots := 0, locals := 43 } : Room) (PcS D (tyA cA) (wX8 cA a_m m_s m_past m_pasts m_text m_typed m_faceOfSide m_firstSide m_faces m_before m_endA m_endB m_from m_queue m_ring m_ringSize m_ringNodes m_rings m_path m_pathSize m_old m_lastRing m_bestNodes m_bestInside m_bestFits m_far m_xs m_ys) [.ref (a_m 0), .int p1, .int p2]) (vp_Si (fun r => r = ρ)) 0 0 (fun _ => False) := by
  refine mkS (by decide +kernel) (Nat.le_of_ble_eq_true rfl) fun p e s m below meth c ls C hl hP hK => ?_
  obtain ⟨hx, hb, hml, hown, hT, hr, hlk⟩ := id C
  have hl : lv_has ls 3 [(0, .ref (a_m 0)), (1, .int p1), (2, .int p2)] := hl
  refine lv_aload_n hx hb dX8_edge_0 rfl (lv_at hl 0 rfl) ?_
  refine lv_iload_n hx hb dX8_edge_1 rfl (lv_at hl 1 rfl) ?_
  obtain ⟨r_1, hcr_1, hf⟩ := bd1_s hf
  refine backI (runV0 C (c_X8_isEdge l D cA a_m m_s m_past m_pasts m_text m_typed m_faceOfSide m_firstSide m_faces m_before m_endA m_endB m_from m_queue m_ring m_ringSize m_ringNodes m_rings m_path m_pathSize m_old m_lastRing m_bestNodes m_bestInside m_bestFits m_far m_xs m_ys p1 N r_1 hcr_1) cf_X8_isEdge km_X8_74 ⟨rfl, rfl, by decide, by decide⟩ ⟨Nat.zero_le _, Nat.zero_le _⟩ (va_recv hK.1 hP (ci := 8) (q0 := 0) rfl rfl) (hP.sub [0, 1, 2, 3, 4, 5, 6, 7, 8, 9, 10, 11, 12, 13, 14, 15, 16, 17, 18] rfl) hK hl.1 rfl rfl (Nat.le_of_ble_eq_true rfl) dX8_edge_2) ?_
  refine lv_if_eq (tgt := 17) hx hb dX8_edge_5 (by decide) (fun c_2 => ?_) (fun c_2 => ?_)
  · have hf := ite_t c_2 hf
    refine lv_iconst (v := (-1)) hx hb dX8_edge_17 (by decide) ?_
    exact W.iret hx hb hr (fun t ht hW => ⟨_, rfl, some_i hf, ht⟩) (fun _ h => by cases h) dX8_edge_18 (hlocks := hlk)
  · have hf := ite_f c_2 hf
    refine lv_iload_n hx hb dX8_edge_8 rfl (lv_at hl 2 rfl) ?_
    refine lv_iconst (v := 0) hx hb dX8_edge_9 (by decide) ?_
    refine lv_iconst (v := 1) hx hb dX8_edge_10 (by decide) ?_
    obtain ⟨r_3, hcr_3, hf⟩ := bd1_s hf
    refine backI (runS0 C (c_X8_in l D cA p2 0 1 N r_3 hcr_3) cf_X8_in km_X8_70 ⟨rfl, rfl, by decide, by decide⟩ ⟨Nat.zero_le _, Nat.zero_le _⟩ (hP.sub [] rfl) hK hl.1 rfl rfl (Nat.le_of_ble_eq_true rfl) dX8_edge_11) ?_
    refine lv_if_ne (tgt := 19) hx hb dX8_edge_14 (by decide) (fun c_4 => ?_) (fun c_4 => ?_)
    · have hf := ite_t c_4 hf
      refine lv_iload_n hx hb dX8_edge_19 rfl (lv_at hl 2 rfl) ?_
      refine lv_if_ne (tgt := 34) hx hb dX8_edge_20 (by decide) (fun c_5 => ?_) (fun c_5 => ?_)
      · have hf := ite_t c_5 hf
        refine lv_aload_n hx hb dX8_edge_34 rfl (lv_at hl 0 rfl) ?_
        refine va_get (D := D) (ci := 8) (C := RX8) (T := TX8) (N := 27) hx hb hT kwX8 hown hK.1 hP 0 rfl rfl 0 (by decide) (hT _ kf_X8_7) (fun _ h9 => h9) rfl dX8_edge_35 ?_
        refine lv_bipush (v := 23) hx hb dX8_edge_38 (by decide) ?_
        refine lv_iload_n hx hb dX8_edge_40 rfl (lv_at hl 1 rfl) ?_
        refine lv_iadd hx hb dX8_edge_41 ?_
        obtain ⟨h_6, hf⟩ := chk_s hf
        refine va_iald hx hb hK.1 hP 1 0 rfl rfl (inb_in h_6) dX8_edge_42 ?_
        exact W.iret hx hb hr (fun t ht hW => ⟨_, rfl, some_i hf, ht⟩) (fun _ h => by cases h) dX8_edge_43 (hlocks := hlk)
      · have hf := ite_fn c_5 hf
        refine lv_aload_n hx hb dX8_edge_23 rfl (lv_at hl 0 rfl) ?_
        refine va_get (D := D) (ci := 8) (C := RX8) (T := TX8) (N := 27) hx hb hT kwX8 hown hK.1 hP 0 rfl rfl 0 (by decide) (hT _ kf_X8_7) (fun _ h9 => h9) rfl dX8_edge_24 ?_
        refine lv_iconst (v := 3) hx hb dX8_edge_27 (by decide) ?_
        refine lv_iload_n hx hb dX8_edge_28 rfl (lv_at hl 1 rfl) ?_
        refine lv_iadd hx hb dX8_edge_29 ?_
        obtain ⟨h_7, hf⟩ := chk_s hf
        refine va_iald hx hb hK.1 hP 1 0 rfl rfl (inb_in h_7) dX8_edge_30 ?_
        refine lv_goto (tgt := 43) hx hb dX8_edge_31 (by decide) ?_
        exact W.iret hx hb hr (fun t ht hW => ⟨_, rfl, some_i hf, ht⟩) (fun _ h => by cases h) dX8_edge_43 (hlocks := hlk)
    · have hf := ite_fn c_4 hf
      refine lv_iconst (v := (-1)) hx hb dX8_edge_17 (by decide) ?_
      exact W.iret hx hb hr (fun t ht hW => ⟨_, rfl, some_i hf, ht⟩) (fun _ h => by cases h) dX8_edge_18 (hlocks := hlk)
set_option maxRecDepth 100000 in
set_option maxHeartbeats 4000000 in
theorem c_X8_empties (l : Launch) (D : va_G) (cA : Nat → ClassId) (a_m : Nat → Nat) (m_s : Nat → Int32) (m_past : Nat → Int32) (m_pasts : Int32) (m_text : Nat → Int32) (m_typed : Int32) (m_faceOfSide : Nat → Int32) (m_firstSide : Nat → Int32) (m_faces : Int32) (m_before : Nat → Int32) (m_endA : Nat → Int32) (m_endB : Nat → Int32) (m_from : Nat → Int32) (m_queue : Nat → Int32) (m_ring : Nat → Int32) (m_ringSize : Nat → Int32) (m_ringNodes : Nat → Int32) (m_rings : Int32) (m_path : Nat → Int32) (m_pathSize : Int32) (m_old : Nat → Int32) (m_lastRing : Int32) (m_bestNodes : Int32) (m_bestInside : Int32) (m_bestFits : Int32) (m_far : Nat → Int32) (m_xs : Nat → UInt32) (m_ys : Nat → UInt32) (p1 : Int32) (sz N : Nat) (ρ : (Nat → Int32)) (hf : f_X8_empties N m_s p1 = some ρ) : Met l yX8_empties (Cond.code yX8_empties cX8_empties 3 (Option.none : Option Jvm.ClassFile.FieldType) :: lw_g) ({ frames := 0, cells := 0, slots := 0, locals := 0 } : Room) (PcW D (tyA cA) (wX8 cA a_m m_s m_past m_pasts m_text m_typed m_faceOfSide m_firstSide m_faces m_before m_endA m_endB m_from m_queue m_ring m_ringSize m_ringNodes m_rings m_path m_pathSize m_old m_lastRing m_bestNodes m_bestInside m_bestFits m_far m_xs m_ys) sz [.ref (a_m 0), .int p1]) (va_Qv (fun (_ : Unit) => True) (fun _ t => va_P D vwCl (wX8 cA a_m ρ m_past m_pasts m_text m_typed m_faceOfSide m_firstSide m_faces m_before m_endA m_endB m_from m_queue m_ring m_ringSize m_ringNodes m_rings m_path m_pathSize m_old m_lastRing m_bestNodes m_bestInside m_bestFits m_far m_xs m_ys) t.heap ∧ va_D (va_A (wX8 cA a_m m_s m_past m_pasts m_text m_typed m_faceOfSide m_firstSide m_faces m_before m_endA m_endB m_from m_queue m_ring m_ringSize m_ringNodes m_rings m_path m_pathSize m_old m_lastRing m_bestNodes m_bestInside m_bestFits m_far m_xs m_ys) sz) (wX8 cA a_m ρ m_past m_pasts m_text m_typed m_faceOfSide m_firstSide m_faces m_before m_endA m_endB m_from m_queue m_ring m_ringSize m_ringNodes m_rings m_path m_pathSize m_old m_lastRing m_bestNodes m_bestInside m_bestFits m_far m_xs m_ys)) (va_A (wX8 cA a_m m_s m_past m_pasts m_text m_typed m_faceOfSide m_firstSide m_faces m_before m_endA m_endB m_from m_queue m_ring m_ringSize m_ringNodes m_rings m_path m_pathSize m_old m_lastRing m_bestNodes m_bestInside m_bestFits m_far m_xs m_ys) sz)) 0 0 (va_A (wX8 cA a_m m_s m_past m_pasts m_text m_typed m_faceOfSide m_firstSide m_faces m_before m_endA m_endB m_from m_queue m_ring m_ringSize m_ringNodes m_rings m_path m_pathSize m_old m_lastRing m_bestNodes m_bestInside m_bestFits m_far m_xs m_ys) sz) := by
  refine mkW (QQ := fun A => va_Qv (fun (_ : Unit) => True) (fun _ t => va_P D vwCl (wX8 cA a_m ρ m_past m_pasts m_text m_typed m_faceOfSide m_firstSide m_faces m_before m_endA m_endB m_from m_queue m_ring m_ringSize m_ringNodes m_rings m_path m_pathSize m_old m_lastRing m_bestNodes m_bestInside m_bestFits m_far m_xs m_ys) t.heap ∧ va_D A (wX8 cA a_m ρ m_past m_pasts m_text m_typed m_faceOfSide m_firstSide m_faces m_before m_endA m_endB m_from m_queue m_ring m_ringSize m_ringNodes m_rings m_path m_pathSize m_old m_lastRing m_bestNodes m_bestInside m_bestFits m_far m_xs m_ys)) A) (by decide) (Nat.le_of_ble_eq_true rfl) fun p e s m below meth c ls A C hl hP hK hD hA hS => ?_
  obtain ⟨hx, hb, hml, hown, hT, hr, hlk⟩ := id C
  have hl : lv_has ls 3 [(0, .ref (a_m 0)), (1, .int p1)] := hl
  have B21 : ∀ (x1 : Int32) (m_s : Nat → Int32) (H : Heap) (locs : List Loc) (ls : Array Slot), lv_has ls 3 [(0, .ref (a_m 0)), (1, .int x1)] → va_P D vwCl (wX8 cA a_m m_s m_past m_pasts m_text m_typed m_faceOfSide m_firstSide m_faces m_before m_endA m_endB m_from m_queue m_ring m_ringSize m_ringNodes m_rings m_path m_pathSize m_old m_lastRing m_bestNodes m_bestInside m_bestFits m_far m_xs m_ys) H → va_D A (wX8 cA a_m m_s m_past m_pasts m_text m_typed m_faceOfSide m_firstSide m_faces m_before m_endA m_endB m_from m_queue m_ring m_ringSize m_ringNodes m_rings m_path m_pathSize m_old m_lastRing m_bestNodes m_bestInside m_bestFits m_far m_xs m_ys) → va_S A s.heap H locs → f_X8_empties_b21 N x1 m_s = some ρ → W p l e ({ frames := 0, cells := 0, slots := 0, locals := 0 } : Room) s m ([.ref (a_m 0), .int p1] : List Value).toArray below meth c H locs 0 0 (MQ below (va_Qv (fun (_ : Unit) => True) (fun _ t => va_P D vwCl (wX8 cA a_m ρ m_past m_pasts m_text m_typed m_faceOfSide m_firstSide m_faces m_before m_endA m_endB m_from m_queue m_ring m_ringSize m_ringNodes m_rings m_path m_pathSize m_old m_lastRing m_bestNodes m_bestInside m_bestFits m_far m_xs m_ys) t.heap ∧ va_D A (wX8 cA a_m ρ m_past m_pasts m_text m_typed m_faceOfSide m_firstSide m_faces m_before m_endA m_endB m_from m_queue m_ring m_ringSize m_ringNodes m_rings m_path m_pathSize m_old m_lastRing m_bestNodes m_bestInside m_bestFits m_far m_xs m_ys)) A) ([.ref (a_m 0), .int p1] : List Value).toArray s 0 0 A) (F0 m 21 ls []) := by
    intro x1 m_s H locs ls hl hP hD hS hf
    refine lv_aload_n hx hb dX8_empties_21 rfl (lv_at hl 0 rfl) ?_
    refine va_get (D := D) (ci := 8) (C := RX8) (T := TX8) (N := 27) hx hb hT kwX8 hown hK.1 hP 0 rfl rfl 0 (by decide) (hT _ kf_X8_7) (fun _ h9 => h9) rfl dX8_empties_22 ?_
    refine lv_iconst (v := 0) hx hb dX8_empties_25 (by decide) ?_
    refine lv_iload_n hx hb dX8_empties_26 rfl (lv_at hl 1 rfl) ?_
    obtain ⟨h_3, hf⟩ := chk_s hf
    refine va_iast hx hb hK.1 hP hD hS 1 0 rfl rfl (inb_in h_3) dX8_empties_27 (fun H locs hP hD hS => ?_)
    have hP : va_P D vwCl (wX8 cA a_m (upd m_s (0 : Int32).toNatClampNeg x1) m_past m_pasts m_text m_typed m_faceOfSide m_firstSide m_faces m_before m_endA m_endB m_from m_queue m_ring m_ringSize m_ringNodes m_rings m_path m_pathSize m_old m_lastRing m_bestNodes m_bestInside m_bestFits m_far m_xs m_ys) H := hP
    have hD : va_D A (wX8 cA a_m (upd m_s (0 : Int32).toNatClampNeg x1) m_past m_pasts m_text m_typed m_faceOfSide m_firstSide m_faces m_before m_endA m_endB m_from m_queue m_ring m_ringSize m_ringNodes m_rings m_path m_pathSize m_old m_lastRing m_bestNodes m_bestInside m_bestFits m_far m_xs m_ys) := hD
    have eR := some_i hf
    exact W.vret hx hb hr (fun t ht hW => ⟨⟨(), rfl, trivial, by rw [← eR, ht]; exact hP, by rw [← eR]; exact hD⟩, hS.F ht⟩) hS.2.2 dX8_empties_28 (hlocks := hlk)
  have B2 : ∀ (n2 : Nat), ∀ (x1 : Int32) (x2 : Int32) (m_s : Nat → Int32) (H : Heap) (locs : List Loc) (ls : Array Slot), lv_has ls 3 [(0, .ref (a_m 0)), (1, .int x1), (2, .int x2)] → va_P D vwCl (wX8 cA a_m m_s m_past m_pasts m_text m_typed m_faceOfSide m_firstSide m_faces m_before m_endA m_endB m_from m_queue m_ring m_ringSize m_ringNodes m_rings m_path m_pathSize m_old m_lastRing m_bestNodes m_bestInside m_bestFits m_far m_xs m_ys) H → va_D A (wX8 cA a_m m_s m_past m_pasts m_text m_typed m_faceOfSide m_firstSide m_faces m_before m_endA m_endB m_from m_queue m_ring m_ringSize m_ringNodes m_rings m_path m_pathSize m_old m_lastRing m_bestNodes m_bestInside m_bestFits m_far m_xs m_ys) → va_S A s.heap H locs → f_X8_empties_b2 N n2 x1 x2 m_s = some ρ → W p l e ({ frames := 0, cells := 0, slots := 0, locals := 0 } : Room) s m ([.ref (a_m 0), .int p1] : List Value).toArray below meth c H locs 0 0 (MQ below (va_Qv (fun (_ : Unit) => True) (fun _ t => va_P D vwCl (wX8 cA a_m ρ m_past m_pasts m_text m_typed m_faceOfSide m_firstSide m_faces m_before m_endA m_endB m_from m_queue m_ring m_ringSize m_ringNodes m_rings m_path m_pathSize m_old m_lastRing m_bestNodes m_bestInside m_bestFits m_far m_xs m_ys) t.heap ∧ va_D A (wX8 cA a_m ρ m_past m_pasts m_text m_typed m_faceOfSide m_firstSide m_faces m_before m_endA m_endB m_from m_queue m_ring m_ringSize m_ringNodes m_rings m_path m_pathSize m_old m_lastRing m_bestNodes m_bestInside m_bestFits m_far m_xs m_ys)) A) ([.ref (a_m 0), .int p1] : List Value).toArray s 0 0 A) (F0 m 2 ls []) := by
    intro n2
    induction n2 with
    | zero =>
      intro x1 x2 m_s H locs ls hl hP hD hS hf
      cases (show (none : Option ((Nat → Int32))) = some ρ from hf)
    | succ n2 ih2 =>
      intro x1 x2 m_s H locs ls hl hP hD hS hf
      refine lv_iload_n hx hb dX8_empties_2 rfl (lv_at hl 2 rfl) ?_
      refine lv_bipush (v := 124) hx hb dX8_empties_3 (by decide) ?_
      refine lv_icmp_ge (tgt := 21) hx hb dX8_empties_5 (by decide) (fun c_1 => ?_) (fun c_1 => ?_)
      · have hf := ite_t c_1 hf
        exact B21 x1 m_s _ _ _ (lv_sub hl [0, 1] rfl) hP hD hS hf
      · have hf := ite_f c_1 hf
        refine lv_aload_n hx hb dX8_empties_8 rfl (lv_at hl 0 rfl) ?_
        refine va_get (D := D) (ci := 8) (C := RX8) (T := TX8) (N := 27) hx hb hT kwX8 hown hK.1 hP 0 rfl rfl 0 (by decide) (hT _ kf_X8_7) (fun _ h9 => h9) rfl dX8_empties_9 ?_
        refine lv_iload_n hx hb dX8_empties_12 rfl (lv_at hl 2 rfl) ?_
        refine lv_iconst (v := 0) hx hb dX8_empties_13 (by decide) ?_
        obtain ⟨h_2, hf⟩ := chk_s hf
        refine va_iast hx hb hK.1 hP hD hS 1 0 rfl rfl (inb_in h_2) dX8_empties_14 (fun H locs hP hD hS => ?_)
        have hP : va_P D vwCl (wX8 cA a_m (upd m_s x2.toNatClampNeg 0) m_past m_pasts m_text m_typed m_faceOfSide m_firstSide m_faces m_before m_endA m_endB m_from m_queue m_ring m_ringSize m_ringNodes m_rings m_path m_pathSize m_old m_lastRing m_bestNodes m_bestInside m_bestFits m_far m_xs m_ys) H := hP
        have hD : va_D A (wX8 cA a_m (upd m_s x2.toNatClampNeg 0) m_past m_pasts m_text m_typed m_faceOfSide m_firstSide m_faces m_before m_endA m_endB m_from m_queue m_ring m_ringSize m_ringNodes m_rings m_path m_pathSize m_old m_lastRing m_bestNodes m_bestInside m_bestFits m_far m_xs m_ys) := hD
        refine lv_iinc (v := (x2 + 1)) (lv' := [(2, .int (x2 + 1)), (0, .ref (a_m 0)), (1, .int x1)]) hx hb dX8_empties_15 hl (k := 2) rfl rfl (by decide) rfl (fun ls hl => ?_)
        refine lv_goto (tgt := 2) hx hb dX8_empties_18 (by decide) ?_
        exact ih2 x1 (x2 + 1) (upd m_s x2.toNatClampNeg 0) _ _ _ (lv_sub hl [1, 2, 0] rfl) hP hD hS hf
  refine lv_iconst (v := 0) hx hb dX8_empties_0 (by decide) ?_
  refine lv_istore_n (lv' := [(2, .int 0), (0, .ref (a_m 0)), (1, .int p1)]) hx hb dX8_empties_1 rfl hl (by decide) rfl (fun ls hl => ?_)
  exact B2 N p1 0 m_s _ _ _ (lv_sub hl [1, 2, 0] rfl) hP hD hS hf
set_option maxRecDepth 100000 in
set_option maxHeartbeats 4000000 in
theorem c_X8_exchanges (l : Launch) (D : va_G) (cA : Nat → ClassId) (a_m : Nat → Nat) (m_s : Nat → Int32) (m_past : Nat → Int32) (m_pasts : Int32) (m_text : Nat → Int32) (m_typed : Int32) (m_faceOfSide : Nat → Int32) (m_firstSide : Nat → Int32) (m_faces : Int32) (m_before : Nat → Int32) (m_endA : Nat → Int32) (m_endB : Nat → Int32) (m_from : Nat → Int32) (m_queue : Nat → Int32) (m_ring : Nat → Int32) (m_ringSize : Nat → Int32) (m_ringNodes : Nat → Int32) (m_rings : Int32) (m_path : Nat → Int32) (m_pathSize : Int32) (m_old : Nat → Int32) (m_lastRing : Int32) (m_bestNodes : Int32) (m_bestInside : Int32) (m_bestFits : Int32) (m_far : Nat → Int32) (m_xs : Nat → UInt32) (m_ys : Nat → UInt32) (sz N : Nat) (ρ : (Nat → Int32) × (Nat → Int32)) (hf : f_X8_exchanges N m_s m_before = some ρ) : Met l yX8_exchanges (Cond.code yX8_exchanges cX8_exchanges 3 (Option.none : Option Jvm.ClassFile.FieldType) :: lw_g) ({ frames := 0, cells := 0, slots := 0, locals := 0 } : Room) (PcW D (tyA cA) (wX8 cA a_m m_s m_past m_pasts m_text m_typed m_faceOfSide m_firstSide m_faces m_before m_endA m_endB m_from m_queue m_ring m_ringSize m_ringNodes m_rings m_path m_pathSize m_old m_lastRing m_bestNodes m_bestInside m_bestFits m_far m_xs m_ys) sz [.ref (a_m 0)]) (va_Qv (fun (_ : Unit) => True) (fun _ t => va_P D vwCl (wX8 cA a_m ρ.1 m_past m_pasts m_text m_typed m_faceOfSide m_firstSide m_faces ρ.2 m_endA m_endB m_from m_queue m_ring m_ringSize m_ringNodes m_rings m_path m_pathSize m_old m_lastRing m_bestNodes m_bestInside m_bestFits m_far m_xs m_ys) t.heap ∧ va_D (va_A (wX8 cA a_m m_s m_past m_pasts m_text m_typed m_faceOfSide m_firstSide m_faces m_before m_endA m_endB m_from m_queue m_ring m_ringSize m_ringNodes m_rings m_path m_pathSize m_old m_lastRing m_bestNodes m_bestInside m_bestFits m_far m_xs m_ys) sz) (wX8 cA a_m ρ.1 m_past m_pasts m_text m_typed m_faceOfSide m_firstSide m_faces ρ.2 m_endA m_endB m_from m_queue m_ring m_ringSize m_ringNodes m_rings m_path m_pathSize m_old m_lastRing m_bestNodes m_bestInside m_bestFits m_far m_xs m_ys)) (va_A (wX8 cA a_m m_s m_past m_pasts m_text m_typed m_faceOfSide m_firstSide m_faces m_before m_endA m_endB m_from m_queue m_ring m_ringSize m_ringNodes m_rings m_path m_pathSize m_old m_lastRing m_bestNodes m_bestInside m_bestFits m_far m_xs m_ys) sz)) 0 0 (va_A (wX8 cA a_m m_s m_past m_pasts m_text m_typed m_faceOfSide m_firstSide m_faces m_before m_endA m_endB m_from m_queue m_ring m_ringSize m_ringNodes m_rings m_path m_pathSize m_old m_lastRing m_bestNodes m_bestInside m_bestFits m_far m_xs m_ys) sz) := by
  refine mkW (QQ := fun A => va_Qv (fun (_ : Unit) => True) (fun _ t => va_P D vwCl (wX8 cA a_m ρ.1 m_past m_pasts m_text m_typed m_faceOfSide m_firstSide m_faces ρ.2 m_endA m_endB m_from m_queue m_ring m_ringSize m_ringNodes m_rings m_path m_pathSize m_old m_lastRing m_bestNodes m_bestInside m_bestFits m_far m_xs m_ys) t.heap ∧ va_D A (wX8 cA a_m ρ.1 m_past m_pasts m_text m_typed m_faceOfSide m_firstSide m_faces ρ.2 m_endA m_endB m_from m_queue m_ring m_ringSize m_ringNodes m_rings m_path m_pathSize m_old m_lastRing m_bestNodes m_bestInside m_bestFits m_far m_xs m_ys)) A) (by decide) (Nat.le_of_ble_eq_true rfl) fun p e s m below meth c ls A C hl hP hK hD hA hS => ?_
  obtain ⟨hx, hb, hml, hown, hT, hr, hlk⟩ := id C
  have hl : lv_has ls 3 [(0, .ref (a_m 0))] := hl
  have B2 : ∀ (n2 : Nat), ∀ (x1 : Int32) (m_s : Nat → Int32) (m_before : Nat → Int32) (H : Heap) (locs : List Loc) (ls : Array Slot), lv_has ls 3 [(0, .ref (a_m 0)), (1, .int x1)] → va_P D vwCl (wX8 cA a_m m_s m_past m_pasts m_text m_typed m_faceOfSide m_firstSide m_faces m_before m_endA m_endB m_from m_queue m_ring m_ringSize m_ringNodes m_rings m_path m_pathSize m_old m_lastRing m_bestNodes m_bestInside m_bestFits m_far m_xs m_ys) H → va_D A (wX8 cA a_m m_s m_past m_pasts m_text m_typed m_faceOfSide m_firstSide m_faces m_before m_endA m_endB m_from m_queue m_ring m_ringSize m_ringNodes m_rings m_path m_pathSize m_old m_lastRing m_bestNodes m_bestInside m_bestFits m_far m_xs m_ys) → va_S A s.heap H locs → f_X8_exchanges_b2 N n2 x1 m_s m_before = some ρ → W p l e ({ frames := 0, cells := 0, slots := 0, locals := 0 } : Room) s m ([.ref (a_m 0)] : List Value).toArray below meth c H locs 0 0 (MQ below (va_Qv (fun (_ : Unit) => True) (fun _ t => va_P D vwCl (wX8 cA a_m ρ.1 m_past m_pasts m_text m_typed m_faceOfSide m_firstSide m_faces ρ.2 m_endA m_endB m_from m_queue m_ring m_ringSize m_ringNodes m_rings m_path m_pathSize m_old m_lastRing m_bestNodes m_bestInside m_bestFits m_far m_xs m_ys) t.heap ∧ va_D A (wX8 cA a_m ρ.1 m_past m_pasts m_text m_typed m_faceOfSide m_firstSide m_faces ρ.2 m_endA m_endB m_from m_queue m_ring m_ringSize m_ringNodes m_rings m_path m_pathSize m_old m_lastRing m_bestNodes m_bestInside m_bestFits m_far m_xs m_ys)) A) ([.ref (a_m 0)] : List Value).toArray s 0 0 A) (F0 m 2 ls []) := by
    intro n2
    induction n2 with
    | zero =>
      intro x1 m_s m_before H locs ls hl hP hD hS hf
      cases (show (none : Option ((Nat → Int32) × (Nat → Int32))) = some ρ from hf)
    | succ n2 ih2 =>
      intro x1 m_s m_before H locs ls hl hP hD hS hf
      refine lv_iload_n hx hb dX8_exchanges_2 rfl (lv_at hl 1 rfl) ?_
      refine lv_bipush (v := 124) hx hb dX8_exchanges_3 (by decide) ?_
      refine lv_icmp_ge (tgt := 40) hx hb dX8_exchanges_5 (by decide) (fun c_1 => ?_) (fun c_1 => ?_)
      · have hf := ite_t c_1 hf
        have eR := some_i hf
        exact W.vret hx hb hr (fun t ht hW => ⟨⟨(), rfl, trivial, by rw [← eR, ht]; exact hP, by rw [← eR]; exact hD⟩, hS.F ht⟩) hS.2.2 dX8_exchanges_40 (hlocks := hlk)
      · have hf := ite_f c_1 hf
        refine lv_aload_n hx hb dX8_exchanges_8 rfl (lv_at hl 0 rfl) ?_
        refine va_get (D := D) (ci := 8) (C := RX8) (T := TX8) (N := 27) hx hb hT kwX8 hown hK.1 hP 0 rfl rfl 0 (by decide) (hT _ kf_X8_7) (fun _ h9 => h9) rfl dX8_exchanges_9 ?_
        refine lv_iload_n hx hb dX8_exchanges_12 rfl (lv_at hl 1 rfl) ?_
        obtain ⟨h_2, hf⟩ := chk_s hf
        refine va_iald hx hb hK.1 hP 1 0 rfl rfl (inb_in h_2) dX8_exchanges_13 ?_
        refine lv_topi (fun x2_3 ex2_3 => ?_)
        have hf := nm_t ex2_3 hf
        refine lv_istore_n (lv' := [(2, .int x2_3), (0, .ref (a_m 0)), (1, .int x1)]) hx hb dX8_exchanges_14 rfl hl (by decide) rfl (fun ls hl => ?_)
        refine lv_aload_n hx hb dX8_exchanges_15 rfl (lv_at hl 1 rfl) ?_
        refine va_get (D := D) (ci := 8) (C := RX8) (T := TX8) (N := 27) hx hb hT kwX8 hown hK.1 hP 0 rfl rfl 0 (by decide) (hT _ kf_X8_7) (fun _ h9 => h9) rfl dX8_exchanges_16 ?_
        refine lv_iload_n hx hb dX8_exchanges_19 rfl (lv_at hl 2 rfl) ?_
        refine lv_aload_n hx hb dX8_exchanges_20 rfl (lv_at hl 1 rfl) ?_
        refine va_get (D := D) (ci := 8) (C := RX8) (T := TX8) (N := 27) hx hb hT kwX8 hown hK.1 hP 0 rfl rfl 8 (by decide) (hT _ kf_X8_26) (fun _ h9 => h9) rfl dX8_exchanges_21 ?_
        refine lv_iload_n hx hb dX8_exchanges_24 rfl (lv_at hl 2 rfl) ?_
        obtain ⟨h_4, hf⟩ := chk_s hf
        refine va_iald hx hb hK.1 hP 6 0 rfl rfl (inb_in h_4) dX8_exchanges_25 ?_
        obtain ⟨h_5, hf⟩ := chk_s hf
        refine va_iast hx hb hK.1 hP hD hS 1 0 rfl rfl (inb_in h_5) dX8_exchanges_26 (fun H locs hP hD hS => ?_)
        have hP : va_P D vwCl (wX8 cA a_m (upd m_s x1.toNatClampNeg (m_before x1.toNatClampNeg)) m_past m_pasts m_text m_typed m_faceOfSide m_firstSide m_faces m_before m_endA m_endB m_from m_queue m_ring m_ringSize m_ringNodes m_rings m_path m_pathSize m_old m_lastRing m_bestNodes m_bestInside m_bestFits m_far m_xs m_ys) H := hP
        have hD : va_D A (wX8 cA a_m (upd m_s x1.toNatClampNeg (m_before x1.toNatClampNeg)) m_past m_pasts m_text m_typed m_faceOfSide m_firstSide m_faces m_before m_endA m_endB m_from m_queue m_ring m_ringSize m_ringNodes m_rings m_path m_pathSize m_old m_lastRing m_bestNodes m_bestInside m_bestFits m_far m_xs m_ys) := hD
        refine lv_aload_n hx hb dX8_exchanges_27 rfl (lv_at hl 1 rfl) ?_
        refine va_get (D := D) (ci := 8) (C := RX8) (T := TX8) (N := 27) hx hb hT kwX8 hown hK.1 hP 0 rfl rfl 8 (by decide) (hT _ kf_X8_26) (fun _ h9 => h9) rfl dX8_exchanges_28 ?_
        refine lv_iload_n hx hb dX8_exchanges_31 rfl (lv_at hl 2 rfl) ?_
        refine lv_iload_n hx hb dX8_exchanges_32 rfl (lv_at hl 0 rfl) ?_
        obtain ⟨h_6, hf⟩ := chk_s hf
        refine va_iast hx hb hK.1 hP hD hS 6 0 rfl rfl (inb_in h_6) dX8_exchanges_33 (fun H locs hP hD hS => ?_)
        have hP : va_P D vwCl (wX8 cA a_m (upd m_s x1.toNatClampNeg (m_before x1.toNatClampNeg)) m_past m_pasts m_text m_typed m_faceOfSide m_firstSide m_faces (upd m_before x1.toNatClampNeg x2_3) m_endA m_endB m_from m_queue m_ring m_ringSize m_ringNodes m_rings m_path m_pathSize m_old m_lastRing m_bestNodes m_bestInside m_bestFits m_far m_xs m_ys) H := hP
        have hD : va_D A (wX8 cA a_m (upd m_s x1.toNatClampNeg (m_before x1.toNatClampNeg)) m_past m_pasts m_text m_typed m_faceOfSide m_firstSide m_faces (upd m_before x1.toNatClampNeg x2_3) m_endA m_endB m_from m_queue m_ring m_ringSize m_ringNodes m_rings m_path m_pathSize m_old m_lastRing m_bestNodes m_bestInside m_bestFits m_far m_xs m_ys) := hD
        refine lv_iinc (v := (x1 + 1)) (lv' := [(1, .int (x1 + 1)), (2, .int x2_3), (0, .ref (a_m 0))]) hx hb dX8_exchanges_34 hl (k := 2) rfl rfl (by decide) rfl (fun ls hl => ?_)
        refine lv_goto (tgt := 2) hx hb dX8_exchanges_37 (by decide) ?_
        exact ih2 (x1 + 1) (upd m_s x1.toNatClampNeg (m_before x1.toNatClampNeg)) (upd m_before x1.toNatClampNeg x2_3) _ _ _ (lv_sub hl [2, 0] rfl) hP hD hS hf
  refine lv_iconst (v := 0) hx hb dX8_exchanges_0 (by decide) ?_
  refine lv_istore_n (lv' := [(1, .int 0), (0, .ref (a_m 0))]) hx hb dX8_exchanges_1 rfl hl (by decide) rfl (fun ls hl => ?_)
  exact B2 N 0 m_s m_before _ _ _ (lv_sub hl [1, 0] rfl) hP hD hS hf
