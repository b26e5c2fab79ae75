set_option maxRecDepth 100000 in
set_option maxHeartbeats 4000000 in
theorem c_X8_removeEdge (l : Launch) (D : va_G) (cA : Nat → ClassId) (a_m : Nat → Nat) (m_s : Nat → Int32) (m_past : Nat → Int32) (m_pasts : Int32) (m_text : Nat → Int32) (m_typed : Int32) (m_faceOfSide : Nat → Int32) (m_firstSide : Nat → Int32) (m_faces : Int32) (m_before : Nat → Int32) (m_endA : Nat → Int32) (m_endB : Nat → Int32) (m_from : Nat → Int32) (m_queue : Nat → Int32) (m_ring : Nat → Int32) (m_ringSize : Nat → Int32) (m_ringNodes : Nat → Int32) (m_rings : Int32) (m_path : Nat → Int32) (m_pathSize : Int32) (m_old : Nat → Int32) (m_lastRing : Int32) (m_bestNodes : Int32) (m_bestInside : Int32) (m_bestFits : Int32) (m_far : Nat → Int32) (m_xs : Nat → UInt32) (m_ys : Nat → UInt32) (p1 : Int32) (sz N : Nat) (ρ : Int32 × (Nat → Int32) × (Nat → Int32) × Int32) (hf : f_X8_removeEdge N m_s m_past m_pasts p1 = some ρ) : Met l yX8_removeEdge (Cond.code yX8_removeEdge cX8_removeEdge 6 (Option.some Jvm.ClassFile.FieldType.int) :: lw_g) ({ frames := 2, cells := 0, slots := 0, locals := 43 } : Room) (PcW D (tyA cA) (wX8 cA a_m m_s m_past m_pasts m_text m_typed m_faceOfSide m_firstSide m_faces m_before m_endA m_endB m_from m_queue m_ring m_ringSize m_ringNodes m_rings m_path m_pathSize m_old m_lastRing m_bestNodes m_bestInside m_bestFits m_far m_xs m_ys) sz [.ref (a_m 0), .int p1]) (va_Qi (fun r (_ : Unit) => r = ρ.1) (fun _ t => va_P D vwCl (wX8 cA a_m ρ.2.1 ρ.2.2.1 ρ.2.2.2 m_text m_typed m_faceOfSide m_firstSide m_faces m_before m_endA m_endB m_from m_queue m_ring m_ringSize m_ringNodes m_rings m_path m_pathSize m_old m_lastRing m_bestNodes m_bestInside m_bestFits m_far m_xs m_ys) t.heap ∧ va_D (va_A (wX8 cA a_m m_s m_past m_pasts m_text m_typed m_faceOfSide m_firstSide m_faces m_before m_endA m_endB m_from m_queue m_ring m_ringSize m_ringNodes m_rings m_path m_pathSize m_old m_lastRing m_bestNodes m_bestInside m_bestFits m_far m_xs m_ys) sz) (wX8 cA a_m ρ.2.1 ρ.2.2.1 ρ.2.2.2 m_text m_typed m_faceOfSide m_firstSide m_faces m_before m_endA m_endB m_from m_queue m_ring m_ringSize m_ringNodes m_rings m_path m_pathSize m_old m_lastRing m_bestNodes m_bestInside m_bestFits m_far m_xs m_ys)) (va_A (wX8 cA a_m m_s m_past m_pasts m_text m_typed m_faceOfSide m_firstSide m_faces m_before m_endA m_endB m_from m_queue m_ring m_ringSize m_ringNodes m_rings m_path m_pathSize m_old m_lastRing m_bestNodes m_bestInside m_bestFits m_far m_xs m_ys) sz)) 0 0 (va_A (wX8 cA a_m m_s m_past m_pasts m_text m_typed m_faceOfSide m_firstSide m_faces m_before m_endA m_endB m_from m_queue m_ring m_ringSize m_ringNodes m_rings m_path m_pathSize m_old m_lastRing m_bestNodes m_bestInside m_bestFits m_far m_xs m_ys) sz) := by
  refine mkW (QQ := fun A => va_Qi (fun r (_ : Unit) => r = ρ.1) (fun _ t => va_P D vwCl (wX8 cA a_m ρ.2.1 ρ.2.2.1 ρ.2.2.2 m_text m_typed m_faceOfSide m_firstSide m_faces m_before m_endA m_endB m_from m_queue m_ring m_ringSize m_ringNodes m_rings m_path m_pathSize m_old m_lastRing m_bestNodes m_bestInside m_bestFits m_far m_xs m_ys) t.heap ∧ va_D A (wX8 cA a_m ρ.2.1 ρ.2.2.1 ρ.2.2.2 m_text m_typed m_faceOfSide m_firstSide m_faces m_before m_endA m_endB m_from m_queue m_ring m_ringSize m_ringNodes m_rings m_path m_pathSize m_old m_lastRing m_bestNodes m_bestInside m_bestFits m_far m_xs m_ys)) A) (by decide) (Nat.le_of_ble_eq_true rfl) fun p e s m below meth c ls A C hl hP hK hD hA hS => ?_
  obtain ⟨hx, hb, hml, hown, hT, hr, hlk⟩ := id C
  have hl : lv_has ls 6 [(0, .ref (a_m 0)), (1, .int p1)] := hl
  have B185 : ∀ (m_s : Nat → Int32) (m_past : Nat → Int32) (m_pasts : Int32) (H : Heap) (locs : List Loc) (ls : Array Slot), lv_has ls 6 [(0, .ref (a_m 0))] → va_P D vwCl (wX8 cA a_m m_s m_past m_pasts m_text m_typed m_faceOfSide m_firstSide m_faces m_before m_endA m_endB m_from m_queue m_ring m_ringSize m_ringNodes m_rings m_path m_pathSize m_old m_lastRing m_bestNodes m_bestInside m_bestFits m_far m_xs m_ys) H → va_D A (wX8 cA a_m m_s m_past m_pasts m_text m_typed m_faceOfSide m_firstSide m_faces m_before m_endA m_endB m_from m_queue m_ring m_ringSize m_ringNodes m_rings m_path m_pathSize m_old m_lastRing m_bestNodes m_bestInside m_bestFits m_far m_xs m_ys) → va_S A s.heap H locs → f_X8_removeEdge_b185 N m_s m_past m_pasts = some ρ → W p l e ({ frames := 2, cells := 0, slots := 0, locals := 43 } : Room) s m ([.ref (a_m 0), .int p1] : List Value).toArray below meth c H locs 0 0 (MQ below (va_Qi (fun r (_ : Unit) => r = ρ.1) (fun _ t => va_P D vwCl (wX8 cA a_m ρ.2.1 ρ.2.2.1 ρ.2.2.2 m_text m_typed m_faceOfSide m_firstSide m_faces m_before m_endA m_endB m_from m_queue m_ring m_ringSize m_ringNodes m_rings m_path m_pathSize m_old m_lastRing m_bestNodes m_bestInside m_bestFits m_far m_xs m_ys) t.heap ∧ va_D A (wX8 cA a_m ρ.2.1 ρ.2.2.1 ρ.2.2.2 m_text m_typed m_faceOfSide m_firstSide m_faces m_before m_endA m_endB m_from m_queue m_ring m_ringSize m_ringNodes m_rings m_path m_pathSize m_old m_lastRing m_bestNodes m_bestInside m_bestFits m_far m_xs m_ys)) A) ([.ref (a_m 0), .int p1] : List Value).toArray s 0 0 A) (F0 m 185 ls []) := by
    intro m_s m_past m_pasts H locs ls hl hP hD hS hf
    refine lv_aload_n hx hb dX8_removeEdge_185 rfl (lv_at hl 0 rfl) ?_
    refine va_get (D := D) (ci := 8) (C := RX8) (T := TX8) (N := 27) hx hb hT kwX8 hown hK.1 hP 0 rfl rfl 0 (by decide) (hT _ kf_X8_7) (fun _ h9 => h9) rfl dX8_removeEdge_186 ?_
    refine lv_iconst (v := 2) hx hb dX8_removeEdge_189 (by decide) ?_
    refine lv_iconst (v := 0) hx hb dX8_removeEdge_190 (by decide) ?_
    obtain ⟨h_22, hf⟩ := chk_s hf
    refine va_iast hx hb hK.1 hP hD hS 1 0 rfl rfl (inb_in h_22) dX8_removeEdge_191 (fun H locs hP hD hS => ?_)
    have hP : va_P D vwCl (wX8 cA a_m (upd m_s (2 : Int32).toNatClampNeg 0) m_past m_pasts m_text m_typed m_faceOfSide m_firstSide m_faces m_before m_endA m_endB m_from m_queue m_ring m_ringSize m_ringNodes m_rings m_path m_pathSize m_old m_lastRing m_bestNodes m_bestInside m_bestFits m_far m_xs m_ys) H := hP
    have hD : va_D A (wX8 cA a_m (upd m_s (2 : Int32).toNatClampNeg 0) m_past m_pasts m_text m_typed m_faceOfSide m_firstSide m_faces m_before m_endA m_endB m_from m_queue m_ring m_ringSize m_ringNodes m_rings m_path m_pathSize m_old m_lastRing m_bestNodes m_bestInside m_bestFits m_far m_xs m_ys) := hD
    refine lv_aload_n hx hb dX8_removeEdge_192 rfl (lv_at hl 0 rfl) ?_
    refine va_get (D := D) (ci := 8) (C := RX8) (T := TX8) (N := 27) hx hb hT kwX8 hown hK.1 hP 0 rfl rfl 0 (by decide) (hT _ kf_X8_7) (fun _ h9 => h9) rfl dX8_removeEdge_193 ?_
    refine lv_iconst (v := 1) hx hb dX8_removeEdge_196 (by decide) ?_
    obtain ⟨h_23, hf⟩ := chk_s hf
    refine va_iald hx hb hK.1 hP 1 0 rfl rfl (inb_in h_23) dX8_removeEdge_197 ?_
    have eR := some_i hf
    exact W.iret hx hb hr (fun t ht hW => ⟨⟨((upd m_s (2 : Int32).toNatClampNeg 0) (1 : Int32).toNatClampNeg), (), rfl, fst_e eR, by rw [← eR, ht]; exact hP, by rw [← eR]; exact hD⟩, hS.F ht⟩) hS.2.2 dX8_removeEdge_198 (hlocks := hlk)
  have B131 : ∀ (n131 : Nat), ∀ (x2 : Int32) (m_s : Nat → Int32) (m_past : Nat → Int32) (m_pasts : Int32) (H : Heap) (locs : List Loc) (ls : Array Slot), lv_has ls 6 [(0, .ref (a_m 0)), (2, .int x2)] → va_P D vwCl (wX8 cA a_m m_s m_past m_pasts m_text m_typed m_faceOfSide m_firstSide m_faces m_before m_endA m_endB m_from m_queue m_ring m_ringSize m_ringNodes m_rings m_path m_pathSize m_old m_lastRing m_bestNodes m_bestInside m_bestFits m_far m_xs m_ys) H → va_D A (wX8 cA a_m m_s m_past m_pasts m_text m_typed m_faceOfSide m_firstSide m_faces m_before m_endA m_endB m_from m_queue m_ring m_ringSize m_ringNodes m_rings m_path m_pathSize m_old m_lastRing m_bestNodes m_bestInside m_bestFits m_far m_xs m_ys) → va_S A s.heap H locs → f_X8_removeEdge_b131 N n131 x2 m_s m_past m_pasts = some ρ → W p l e ({ frames := 2, cells := 0, slots := 0, locals := 43 } : Room) s m ([.ref (a_m 0), .int p1] : List Value).toArray below meth c H locs 0 0 (MQ below (va_Qi (fun r (_ : Unit) => r = ρ.1) (fun _ t => va_P D vwCl (wX8 cA a_m ρ.2.1 ρ.2.2.1 ρ.2.2.2 m_text m_typed m_faceOfSide m_firstSide m_faces m_before m_endA m_endB m_from m_queue m_ring m_ringSize m_ringNodes m_rings m_path m_pathSize m_old m_lastRing m_bestNodes m_bestInside m_bestFits m_far m_xs m_ys) t.heap ∧ va_D A (wX8 cA a_m ρ.2.1 ρ.2.2.1 ρ.2.2.2 m_text m_typed m_faceOfSide m_firstSide m_faces m_before m_endA m_endB m_from m_queue m_ring m_ringSize m_ringNodes m_rings m_path m_pathSize m_old m_lastRing m_bestNodes m_bestInside m_bestFits m_far m_xs m_ys)) A) ([.ref (a_m 0), .int p1] : List Value).toArray s 0 0 A) (F0 m 131 ls []) := by
    intro n131
    induction n131 with
    | zero =>
      intro x2 m_s m_past m_pasts H locs ls hl hP hD hS hf
      cases (show (none : Option (Int32 × (Nat → Int32) × (Nat → Int32) × Int32)) = some ρ from hf)
    | succ n131 ih131 =>
      intro x2 m_s m_past m_pasts H locs ls hl hP hD hS hf
      refine lv_iload_n hx hb dX8_removeEdge_131 rfl (lv_at hl 1 rfl) ?_
      refine lv_aload_n hx hb dX8_removeEdge_132 rfl (lv_at hl 0 rfl) ?_
      refine va_get (D := D) (ci := 8) (C := RX8) (T := TX8) (N := 27) hx hb hT kwX8 hown hK.1 hP 0 rfl rfl 0 (by decide) (hT _ kf_X8_7) (fun _ h9 => h9) rfl dX8_removeEdge_133 ?_
      refine lv_iconst (v := 1) hx hb dX8_removeEdge_136 (by decide) ?_
      obtain ⟨h_16, hf⟩ := chk_s hf
      refine va_iald hx hb hK.1 hP 1 0 rfl rfl (inb_in h_16) dX8_removeEdge_137 ?_
      refine lv_icmp_ge (tgt := 185) hx hb dX8_removeEdge_138 (by decide) (fun c_17 => ?_) (fun c_17 => ?_)
      · have hf := ite_t c_17 hf
        exact B185 m_s m_past m_pasts _ _ _ (lv_sub hl [0] rfl) hP hD hS hf
      · have hf := ite_f c_17 hf
        refine lv_aload_n hx hb dX8_removeEdge_141 rfl (lv_at hl 0 rfl) ?_
        refine va_get (D := D) (ci := 8) (C := RX8) (T := TX8) (N := 27) hx hb hT kwX8 hown hK.1 hP 0 rfl rfl 0 (by decide) (hT _ kf_X8_7) (fun _ h9 => h9) rfl dX8_removeEdge_142 ?_
        refine lv_iconst (v := 3) hx hb dX8_removeEdge_145 (by decide) ?_
        refine lv_iload_n hx hb dX8_removeEdge_146 rfl (lv_at hl 1 rfl) ?_
        refine lv_iadd hx hb dX8_removeEdge_147 ?_
        refine lv_aload_n hx hb dX8_removeEdge_148 rfl (lv_at hl 0 rfl) ?_
        refine va_get (D := D) (ci := 8) (C := RX8) (T := TX8) (N := 27) hx hb hT kwX8 hown hK.1 hP 0 rfl rfl 0 (by decide) (hT _ kf_X8_7) (fun _ h9 => h9) rfl dX8_removeEdge_149 ?_
        refine lv_iconst (v := 3) hx hb dX8_removeEdge_152 (by decide) ?_
        refine lv_iload_n hx hb dX8_removeEdge_153 rfl (lv_at hl 1 rfl) ?_
        refine lv_iadd hx hb dX8_removeEdge_154 ?_
        refine lv_iconst (v := 1) hx hb dX8_removeEdge_155 (by decide) ?_
        refine lv_iadd hx hb dX8_removeEdge_156 ?_
        obtain ⟨h_18, hf⟩ := chk_s hf
        refine va_iald hx hb hK.1 hP 1 0 rfl rfl (inb_in h_18) dX8_removeEdge_157 ?_
        obtain ⟨h_19, hf⟩ := chk_s hf
        refine va_iast hx hb hK.1 hP hD hS 1 0 rfl rfl (inb_in h_19) dX8_removeEdge_158 (fun H locs hP hD hS => ?_)
        have hP : va_P D vwCl (wX8 cA a_m (upd m_s (3 + x2).toNatClampNeg (m_s ((3 + x2) + 1).toNatClampNeg)) m_past m_pasts m_text m_typed m_faceOfSide m_firstSide m_faces m_before m_endA m_endB m_from m_queue m_ring m_ringSize m_ringNodes m_rings m_path m_pathSize m_old m_lastRing m_bestNodes m_bestInside m_bestFits m_far m_xs m_ys) H := hP
        have hD : va_D A (wX8 cA a_m (upd m_s (3 + x2).toNatClampNeg (m_s ((3 + x2) + 1).toNatClampNeg)) m_past m_pasts m_text m_typed m_faceOfSide m_firstSide m_faces m_before m_endA m_endB m_from m_queue m_ring m_ringSize m_ringNodes m_rings m_path m_pathSize m_old m_lastRing m_bestNodes m_bestInside m_bestFits m_far m_xs m_ys) := hD
        refine lv_aload_n hx hb dX8_removeEdge_159 rfl (lv_at hl 0 rfl) ?_
        refine va_get (D := D) (ci := 8) (C := RX8) (T := TX8) (N := 27) hx hb hT kwX8 hown hK.1 hP 0 rfl rfl 0 (by decide) (hT _ kf_X8_7) (fun _ h9 => h9) rfl dX8_removeEdge_160 ?_
        refine lv_bipush (v := 23) hx hb dX8_removeEdge_163 (by decide) ?_
        refine lv_iload_n hx hb dX8_removeEdge_165 rfl (lv_at hl 1 rfl) ?_
        refine lv_iadd hx hb dX8_removeEdge_166 ?_
        refine lv_aload_n hx hb dX8_removeEdge_167 rfl (lv_at hl 0 rfl) ?_
        refine va_get (D := D) (ci := 8) (C := RX8) (T := TX8) (N := 27) hx hb hT kwX8 hown hK.1 hP 0 rfl rfl 0 (by decide) (hT _ kf_X8_7) (fun _ h9 => h9) rfl dX8_removeEdge_168 ?_
        refine lv_bipush (v := 23) hx hb dX8_removeEdge_171 (by decide) ?_
        refine lv_iload_n hx hb dX8_removeEdge_173 rfl (lv_at hl 1 rfl) ?_
        refine lv_iadd hx hb dX8_removeEdge_174 ?_
        refine lv_iconst (v := 1) hx hb dX8_removeEdge_175 (by decide) ?_
        refine lv_iadd hx hb dX8_removeEdge_176 ?_
        obtain ⟨h_20, hf⟩ := chk_s hf
        refine va_iald hx hb hK.1 hP 1 0 rfl rfl (inb_in h_20) dX8_removeEdge_177 ?_
        obtain ⟨h_21, hf⟩ := chk_s hf
        refine va_iast hx hb hK.1 hP hD hS 1 0 rfl rfl (inb_in h_21) dX8_removeEdge_178 (fun H locs hP hD hS => ?_)
        have hP : va_P D vwCl (wX8 cA a_m (upd (upd m_s (3 + x2).toNatClampNeg (m_s ((3 + x2) + 1).toNatClampNeg)) (23 + x2).toNatClampNeg ((upd m_s (3 + x2).toNatClampNeg (m_s ((3 + x2) + 1).toNatClampNeg)) ((23 + x2) + 1).toNatClampNeg)) m_past m_pasts m_text m_typed m_faceOfSide m_firstSide m_faces m_before m_endA m_endB m_from m_queue m_ring m_ringSize m_ringNodes m_rings m_path m_pathSize m_old m_lastRing m_bestNodes m_bestInside m_bestFits m_far m_xs m_ys) H := hP
        have hD : va_D A (wX8 cA a_m (upd (upd m_s (3 + x2).toNatClampNeg (m_s ((3 + x2) + 1).toNatClampNeg)) (23 + x2).toNatClampNeg ((upd m_s (3 + x2).toNatClampNeg (m_s ((3 + x2) + 1).toNatClampNeg)) ((23 + x2) + 1).toNatClampNeg)) m_past m_pasts m_text m_typed m_faceOfSide m_firstSide m_faces m_before m_endA m_endB m_from m_queue m_ring m_ringSize m_ringNodes m_rings m_path m_pathSize m_old m_lastRing m_bestNodes m_bestInside m_bestFits m_far m_xs m_ys) := hD
        refine lv_iinc (v := (x2 + 1)) (lv' := [(2, .int (x2 + 1)), (0, .ref (a_m 0))]) hx hb dX8_removeEdge_179 hl (k := 1) rfl rfl (by decide) rfl (fun ls hl => ?_)
        refine lv_goto (tgt := 131) hx hb dX8_removeEdge_182 (by decide) ?_
        exact ih131 (x2 + 1) (upd (upd m_s (3 + x2).toNatClampNeg (m_s ((3 + x2) + 1).toNatClampNeg)) (23 + x2).toNatClampNeg ((upd m_s (3 + x2).toNatClampNeg (m_s ((3 + x2) + 1).toNatClampNeg)) ((23 + x2) + 1).toNatClampNeg)) m_past m_pasts _ _ _ (lv_sub hl [1, 0] rfl) hP hD hS hf
  have B119 : ∀ (x1 : Int32) (m_s : Nat → Int32) (m_past : Nat → Int32) (m_pasts : Int32) (H : Heap) (locs : List Loc) (ls : Array Slot), lv_has ls 6 [(0, .ref (a_m 0)), (1, .int x1)] → va_P D vwCl (wX8 cA a_m m_s m_past m_pasts m_text m_typed m_faceOfSide m_firstSide m_faces m_before m_endA m_endB m_from m_queue m_ring m_ringSize m_ringNodes m_rings m_path m_pathSize m_old m_lastRing m_bestNodes m_bestInside m_bestFits m_far m_xs m_ys) H → va_D A (wX8 cA a_m m_s m_past m_pasts m_text m_typed m_faceOfSide m_firstSide m_faces m_before m_endA m_endB m_from m_queue m_ring m_ringSize m_ringNodes m_rings m_path m_pathSize m_old m_lastRing m_bestNodes m_bestInside m_bestFits m_far m_xs m_ys) → va_S A s.heap H locs → f_X8_removeEdge_b119 N x1 m_s m_past m_pasts = some ρ → W p l e ({ frames := 2, cells := 0, slots := 0, locals := 43 } : Room) s m ([.ref (a_m 0), .int p1] : List Value).toArray below meth c H locs 0 0 (MQ below (va_Qi (fun r (_ : Unit) => r = ρ.1) (fun _ t => va_P D vwCl (wX8 cA a_m ρ.2.1 ρ.2.2.1 ρ.2.2.2 m_text m_typed m_faceOfSide m_firstSide m_faces m_before m_endA m_endB m_from m_queue m_ring m_ringSize m_ringNodes m_rings m_path m_pathSize m_old m_lastRing m_bestNodes m_bestInside m_bestFits m_far m_xs m_ys) t.heap ∧ va_D A (wX8 cA a_m ρ.2.1 ρ.2.2.1 ρ.2.2.2 m_text m_typed m_faceOfSide m_firstSide m_faces m_before m_endA m_endB m_from m_queue m_ring m_ringSize m_ringNodes m_rings m_path m_pathSize m_old m_lastRing m_bestNodes m_bestInside m_bestFits m_far m_xs m_ys)) A) ([.ref (a_m 0), .int p1] : List Value).toArray s 0 0 A) (F0 m 119 ls []) := by
    intro x1 m_s m_past m_pasts H locs ls hl hP hD hS hf
    refine lv_aload_n hx hb dX8_removeEdge_119 rfl (lv_at hl 0 rfl) ?_
    refine va_get (D := D) (ci := 8) (C := RX8) (T := TX8) (N := 27) hx hb hT kwX8 hown hK.1 hP 0 rfl rfl 0 (by decide) (hT _ kf_X8_7) (fun _ h9 => h9) rfl dX8_removeEdge_120 ?_
    refine lv_iconst (v := 1) hx hb dX8_removeEdge_123 (by decide) ?_
    refine lv_dup2_11 hx hb dX8_removeEdge_124 rfl rfl ?_
    obtain ⟨h_14, hf⟩ := chk_s hf
    refine va_iald hx hb hK.1 hP 1 0 rfl rfl (inb_in h_14) dX8_removeEdge_125 ?_
    refine lv_iconst (v := 1) hx hb dX8_removeEdge_126 (by decide) ?_
    refine lv_isub hx hb dX8_removeEdge_127 ?_
    obtain ⟨h_15, hf⟩ := chk_s hf
    refine va_iast hx hb hK.1 hP hD hS 1 0 rfl rfl (inb_in h_15) dX8_removeEdge_128 (fun H locs hP hD hS => ?_)
    have hP : va_P D vwCl (wX8 cA a_m (upd m_s (1 : Int32).toNatClampNeg ((m_s (1 : Int32).toNatClampNeg) - 1)) m_past m_pasts m_text m_typed m_faceOfSide m_firstSide m_faces m_before m_endA m_endB m_from m_queue m_ring m_ringSize m_ringNodes m_rings m_path m_pathSize m_old m_lastRing m_bestNodes m_bestInside m_bestFits m_far m_xs m_ys) H := hP
    have hD : va_D A (wX8 cA a_m (upd m_s (1 : Int32).toNatClampNeg ((m_s (1 : Int32).toNatClampNeg) - 1)) m_past m_pasts m_text m_typed m_faceOfSide m_firstSide m_faces m_before m_endA m_endB m_from m_queue m_ring m_ringSize m_ringNodes m_rings m_path m_pathSize m_old m_lastRing m_bestNodes m_bestInside m_bestFits m_far m_xs m_ys) := hD
    refine lv_iload_n hx hb dX8_removeEdge_129 rfl (lv_at hl 1 rfl) ?_
    refine lv_istore_n (lv' := [(2, .int x1), (0, .ref (a_m 0)), (1, .int x1)]) hx hb dX8_removeEdge_130 rfl hl (by decide) rfl (fun ls hl => ?_)
    exact B131 N x1 (upd m_s (1 : Int32).toNatClampNeg ((m_s (1 : Int32).toNatClampNeg) - 1)) m_past m_pasts _ _ _ (lv_sub hl [1, 0] rfl) hP hD hS hf
  have B16 : ∀ (n16 : Nat), ∀ (x1 : Int32) (x2 : Int32) (m_s : Nat → Int32) (m_past : Nat → Int32) (m_pasts : Int32) (H : Heap) (locs : List Loc) (ls : Array Slot), lv_has ls 6 [(0, .ref (a_m 0)), (1, .int x1), (2, .int x2)] → va_P D vwCl (wX8 cA a_m m_s m_past m_pasts m_text m_typed m_faceOfSide m_firstSide m_faces m_before m_endA m_endB m_from m_queue m_ring m_ringSize m_ringNodes m_rings m_path m_pathSize m_old m_lastRing m_bestNodes m_bestInside m_bestFits m_far m_xs m_ys) H → va_D A (wX8 cA a_m m_s m_past m_pasts m_text m_typed m_faceOfSide m_firstSide m_faces m_before m_endA m_endB m_from m_queue m_ring m_ringSize m_ringNodes m_rings m_path m_pathSize m_old m_lastRing m_bestNodes m_bestInside m_bestFits m_far m_xs m_ys) → va_S A s.heap H locs → f_X8_removeEdge_b16 N n16 x1 x2 m_s m_past m_pasts = some ρ → W p l e ({ frames := 2, cells := 0, slots := 0, locals := 43 } : Room) s m ([.ref (a_m 0), .int p1] : List Value).toArray below meth c H locs 0 0 (MQ below (va_Qi (fun r (_ : Unit) => r = ρ.1) (fun _ t => va_P D vwCl (wX8 cA a_m ρ.2.1 ρ.2.2.1 ρ.2.2.2 m_text m_typed m_faceOfSide m_firstSide m_faces m_before m_endA m_endB m_from m_queue m_ring m_ringSize m_ringNodes m_rings m_path m_pathSize m_old m_lastRing m_bestNodes m_bestInside m_bestFits m_far m_xs m_ys) t.heap ∧ va_D A (wX8 cA a_m ρ.2.1 ρ.2.2.1 ρ.2.2.2 m_text m_typed m_faceOfSide m_firstSide m_faces m_before m_endA m_endB m_from m_queue m_ring m_ringSize m_ringNodes m_rings m_path m_pathSize m_old m_lastRing m_bestNodes m_bestInside m_bestFits m_far m_xs m_ys)) A) ([.ref (a_m 0), .int p1] : List Value).toArray s 0 0 A) (F0 m 16 ls []) := by
    intro n16
    induction n16 with
    | zero =>
      intro x1 x2 m_s m_past m_pasts H locs ls hl hP hD hS hf
      cases (show (none : Option (Int32 × (Nat → Int32) × (Nat → Int32) × Int32)) = some ρ from hf)
    | succ n16 ih16 =>
      have B103 : ∀ (x1 : Int32) (x2 : Int32) (x3 : Int32) (m_s : Nat → Int32) (m_past : Nat → Int32) (m_pasts : Int32) (H : Heap) (locs : List Loc) (ls : Array Slot), lv_has ls 6 [(0, .ref (a_m 0)), (1, .int x1), (2, .int x2), (3, .int x3)] → va_P D vwCl (wX8 cA a_m m_s m_past m_pasts m_text m_typed m_faceOfSide m_firstSide m_faces m_before m_endA m_endB m_from m_queue m_ring m_ringSize m_ringNodes m_rings m_path m_pathSize m_old m_lastRing m_bestNodes m_bestInside m_bestFits m_far m_xs m_ys) H → va_D A (wX8 cA a_m m_s m_past m_pasts m_text m_typed m_faceOfSide m_firstSide m_faces m_before m_endA m_endB m_from m_queue m_ring m_ringSize m_ringNodes m_rings m_path m_pathSize m_old m_lastRing m_bestNodes m_bestInside m_bestFits m_far m_xs m_ys) → va_S A s.heap H locs → f_X8_removeEdge_b103 N (f_X8_removeEdge_b16 N n16) x1 x2 x3 m_s m_past m_pasts = some ρ → W p l e ({ frames := 2, cells := 0, slots := 0, locals := 43 } : Room) s m ([.ref (a_m 0), .int p1] : List Value).toArray below meth c H locs 0 0 (MQ below (va_Qi (fun r (_ : Unit) => r = ρ.1) (fun _ t => va_P D vwCl (wX8 cA a_m ρ.2.1 ρ.2.2.1 ρ.2.2.2 m_text m_typed m_faceOfSide m_firstSide m_faces m_before m_endA m_endB m_from m_queue m_ring m_ringSize m_ringNodes m_rings m_path m_pathSize m_old m_lastRing m_bestNodes m_bestInside m_bestFits m_far m_xs m_ys) t.heap ∧ va_D A (wX8 cA a_m ρ.2.1 ρ.2.2.1 ρ.2.2.2 m_text m_typed m_faceOfSide m_firstSide m_faces m_before m_endA m_endB m_from m_queue m_ring m_ringSize m_ringNodes m_rings m_path m_pathSize m_old m_lastRing m_bestNodes m_bestInside m_bestFits m_far m_xs m_ys)) A) ([.ref (a_m 0), .int p1] : List Value).toArray s 0 0 A) (F0 m 103 ls []) := by
        intro x1 x2 x3 m_s m_past m_pasts H locs ls hl hP hD hS hf
        refine lv_aload_n hx hb dX8_removeEdge_103 rfl (lv_at hl 0 rfl) ?_
        refine va_get (D := D) (ci := 8) (C := RX8) (T := TX8) (N := 27) hx hb hT kwX8 hown hK.1 hP 0 rfl rfl 0 (by decide) (hT _ kf_X8_7) (fun _ h9 => h9) rfl dX8_removeEdge_104 ?_
        refine lv_bipush (v := 43) hx hb dX8_removeEdge_107 (by decide) ?_
        refine lv_iload_n hx hb dX8_removeEdge_109 rfl (lv_at hl 2 rfl) ?_
        refine lv_iadd hx hb dX8_removeEdge_110 ?_
        refine lv_iload_n hx hb dX8_removeEdge_111 rfl (lv_at hl 3 rfl) ?_
        obtain ⟨h_13, hf⟩ := chk_s hf
        refine va_iast hx hb hK.1 hP hD hS 1 0 rfl rfl (inb_in h_13) dX8_removeEdge_112 (fun H locs hP hD hS => ?_)
        have hP : va_P D vwCl (wX8 cA a_m (upd m_s (43 + x2).toNatClampNeg x3) m_past m_pasts m_text m_typed m_faceOfSide m_firstSide m_faces m_before m_endA m_endB m_from m_queue m_ring m_ringSize m_ringNodes m_rings m_path m_pathSize m_old m_lastRing m_bestNodes m_bestInside m_bestFits m_far m_xs m_ys) H := hP
        have hD : va_D A (wX8 cA a_m (upd m_s (43 + x2).toNatClampNeg x3) m_past m_pasts m_text m_typed m_faceOfSide m_firstSide m_faces m_before m_endA m_endB m_from m_queue m_ring m_ringSize m_ringNodes m_rings m_path m_pathSize m_old m_lastRing m_bestNodes m_bestInside m_bestFits m_far m_xs m_ys) := hD
        refine lv_iinc (v := (x2 + 1)) (lv' := [(2, .int (x2 + 1)), (0, .ref (a_m 0)), (1, .int x1), (3, .int x3)]) hx hb dX8_removeEdge_113 hl (k := 2) rfl rfl (by decide) rfl (fun ls hl => ?_)
        refine lv_goto (tgt := 16) hx hb dX8_removeEdge_116 (by decide) ?_
        exact ih16 x1 (x2 + 1) (upd m_s (43 + x2).toNatClampNeg x3) m_past m_pasts _ _ _ (lv_sub hl [1, 2, 0] rfl) hP hD hS hf
      have B31 : ∀ (n31 : Nat), ∀ (x1 : Int32) (x2 : Int32) (x3 : Int32) (x4 : Int32) (m_s : Nat → Int32) (m_past : Nat → Int32) (m_pasts : Int32) (H : Heap) (locs : List Loc) (ls : Array Slot), lv_has ls 6 [(0, .ref (a_m 0)), (1, .int x1), (2, .int x2), (3, .int x3), (4, .int x4)] → va_P D vwCl (wX8 cA a_m m_s m_past m_pasts m_text m_typed m_faceOfSide m_firstSide m_faces m_before m_endA m_endB m_from m_queue m_ring m_ringSize m_ringNodes m_rings m_path m_pathSize m_old m_lastRing m_bestNodes m_bestInside m_bestFits m_far m_xs m_ys) H → va_D A (wX8 cA a_m m_s m_past m_pasts m_text m_typed m_faceOfSide m_firstSide m_faces m_before m_endA m_endB m_from m_queue m_ring m_ringSize m_ringNodes m_rings m_path m_pathSize m_old m_lastRing m_bestNodes m_bestInside m_bestFits m_far m_xs m_ys) → va_S A s.heap H locs → f_X8_removeEdge_b31 N (f_X8_removeEdge_b16 N n16) n31 x1 x2 x3 x4 m_s m_past m_pasts = some ρ → W p l e ({ frames := 2, cells := 0, slots := 0, locals := 43 } : Room) s m ([.ref (a_m 0), .int p1] : List Value).toArray below meth c H locs 0 0 (MQ below (va_Qi (fun r (_ : Unit) => r = ρ.1) (fun _ t => va_P D vwCl (wX8 cA a_m ρ.2.1 ρ.2.2.1 ρ.2.2.2 m_text m_typed m_faceOfSide m_firstSide m_faces m_before m_endA m_endB m_from m_queue m_ring m_ringSize m_ringNodes m_rings m_path m_pathSize m_old m_lastRing m_bestNodes m_bestInside m_bestFits m_far m_xs m_ys) t.heap ∧ va_D A (wX8 cA a_m ρ.2.1 ρ.2.2.1 ρ.2.2.2 m_text m_typed m_faceOfSide m_firstSide m_faces m_before m_endA m_endB m_from m_queue m_ring m_ringSize m_ringNodes m_rings m_path m_pathSize m_old m_lastRing m_bestNodes m_bestInside m_bestFits m_far m_xs m_ys)) A) ([.ref (a_m 0), .int p1] : List Value).toArray s 0 0 A) (F0 m 31 ls []) := by
        intro n31
        induction n31 with
        | zero =>
          intro x1 x2 x3 x4 m_s m_past m_pasts H locs ls hl hP hD hS hf
          cases (show (none : Option (Int32 × (Nat → Int32) × (Nat → Int32) × Int32)) = some ρ from hf)
        | succ n31 ih31 =>
          have B95 : ∀ (x1 : Int32) (x2 : Int32) (x4 : Int32) (y0 : Int32) (y1 : Int32) (m_s : Nat → Int32) (m_past : Nat → Int32) (m_pasts : Int32) (H : Heap) (locs : List Loc) (ls : Array Slot), lv_has ls 6 [(0, .ref (a_m 0)), (1, .int x1), (2, .int x2), (4, .int x4)] → va_P D vwCl (wX8 cA a_m m_s m_past m_pasts m_text m_typed m_faceOfSide m_firstSide m_faces m_before m_endA m_endB m_from m_queue m_ring m_ringSize m_ringNodes m_rings m_path m_pathSize m_old m_lastRing m_bestNodes m_bestInside m_bestFits m_far m_xs m_ys) H → va_D A (wX8 cA a_m m_s m_past m_pasts m_text m_typed m_faceOfSide m_firstSide m_faces m_before m_endA m_endB m_from m_queue m_ring m_ringSize m_ringNodes m_rings m_path m_pathSize m_old m_lastRing m_bestNodes m_bestInside m_bestFits m_far m_xs m_ys) → va_S A s.heap H locs → f_X8_removeEdge_b95 N (f_X8_removeEdge_b16 N n16) (f_X8_removeEdge_b31 N (f_X8_removeEdge_b16 N n16) n31) x1 x2 x4 y0 y1 m_s m_past m_pasts = some ρ → W p l e ({ frames := 2, cells := 0, slots := 0, locals := 43 } : Room) s m ([.ref (a_m 0), .int p1] : List Value).toArray below meth c H locs 0 0 (MQ below (va_Qi (fun r (_ : Unit) => r = ρ.1) (fun _ t => va_P D vwCl (wX8 cA a_m ρ.2.1 ρ.2.2.1 ρ.2.2.2 m_text m_typed m_faceOfSide m_firstSide m_faces m_before m_endA m_endB m_from m_queue m_ring m_ringSize m_ringNodes m_rings m_path m_pathSize m_old m_lastRing m_bestNodes m_bestInside m_bestFits m_far m_xs m_ys) t.heap ∧ va_D A (wX8 cA a_m ρ.2.1 ρ.2.2.1 ρ.2.2.2 m_text m_typed m_faceOfSide m_firstSide m_faces m_before m_endA m_endB m_from m_queue m_ring m_ringSize m_ringNodes m_rings m_path m_pathSize m_old m_lastRing m_bestNodes m_bestInside m_bestFits m_far m_xs m_ys)) A) ([.ref (a_m 0), .int p1] : List Value).toArray s 0 0 A) (F0 m 95 ls [.int y1, .int y0]) := by
            intro x1 x2 x4 y0 y1 m_s m_past m_pasts H locs ls hl hP hD hS hf
            refine lv_iadd hx hb dX8_removeEdge_95 ?_
            refine lv_topi (fun x3_12 ex3_12 => ?_)
            have hf := nm_t ex3_12 hf
            refine lv_istore_n (lv' := [(3, .int x3_12), (0, .ref (a_m 0)), (1, .int x1), (2, .int x2), (4, .int x4)]) hx hb dX8_removeEdge_96 rfl hl (by decide) rfl (fun ls hl => ?_)
            refine lv_iinc (v := (x4 + 1)) (lv' := [(4, .int (x4 + 1)), (3, .int x3_12), (0, .ref (a_m 0)), (1, .int x1), (2, .int x2)]) hx hb dX8_removeEdge_97 hl (k := 4) rfl rfl (by decide) rfl (fun ls hl => ?_)
            refine lv_goto (tgt := 31) hx hb dX8_removeEdge_100 (by decide) ?_
            exact ih31 x1 x2 x3_12 (x4 + 1) m_s m_past m_pasts _ _ _ (lv_sub hl [2, 3, 4, 1, 0] rfl) hP hD hS hf
          have B82 : ∀ (x1 : Int32) (x2 : Int32) (x3 : Int32) (x4 : Int32) (x5 : Int32) (y1 : Int32) (y2 : Int32) (m_s : Nat → Int32) (m_past : Nat → Int32) (m_pasts : Int32) (H : Heap) (locs : List Loc) (ls : Array Slot), lv_has ls 6 [(0, .ref (a_m 0)), (1, .int x1), (2, .int x2), (3, .int x3), (4, .int x4), (5, .int x5)] → va_P D vwCl (wX8 cA a_m m_s m_past m_pasts m_text m_typed m_faceOfSide m_firstSide m_faces m_before m_endA m_endB m_from m_queue m_ring m_ringSize m_ringNodes m_rings m_path m_pathSize m_old m_lastRing m_bestNodes m_bestInside m_bestFits m_far m_xs m_ys) H → va_D A (wX8 cA a_m m_s m_past m_pasts m_text m_typed m_faceOfSide m_firstSide m_faces m_before m_endA m_endB m_from m_queue m_ring m_ringSize m_ringNodes m_rings m_path m_pathSize m_old m_lastRing m_bestNodes m_bestInside m_bestFits m_far m_xs m_ys) → va_S A s.heap H locs → f_X8_removeEdge_b82 N (f_X8_removeEdge_b16 N n16) (f_X8_removeEdge_b31 N (f_X8_removeEdge_b16 N n16) n31) x1 x2 x3 x4 x5 y1 y2 m_s m_past m_pasts = some ρ → W p l e ({ frames := 2, cells := 0, slots := 0, locals := 43 } : Room) s m ([.ref (a_m 0), .int p1] : List Value).toArray below meth c H locs 0 0 (MQ below (va_Qi (fun r (_ : Unit) => r = ρ.1) (fun _ t => va_P D vwCl (wX8 cA a_m ρ.2.1 ρ.2.2.1 ρ.2.2.2 m_text m_typed m_faceOfSide m_firstSide m_faces m_before m_endA m_endB m_from m_queue m_ring m_ringSize m_ringNodes m_rings m_path m_pathSize m_old m_lastRing m_bestNodes m_bestInside m_bestFits m_far m_xs m_ys) t.heap ∧ va_D A (wX8 cA a_m ρ.2.1 ρ.2.2.1 ρ.2.2.2 m_text m_typed m_faceOfSide m_firstSide m_faces m_before m_endA m_endB m_from m_queue m_ring m_ringSize m_ringNodes m_rings m_path m_pathSize m_old m_lastRing m_bestNodes m_bestInside m_bestFits m_far m_xs m_ys)) A) ([.ref (a_m 0), .int p1] : List Value).toArray s 0 0 A) (F0 m 82 ls [.int y2, .int y1, .ref (a_m 1)]) := by
            intro x1 x2 x3 x4 x5 y1 y2 m_s m_past m_pasts H locs ls hl hP hD hS hf
            obtain ⟨h_10, hf⟩ := chk_s hf
            refine va_iast hx hb hK.1 hP hD hS 1 0 rfl rfl (inb_in h_10) dX8_removeEdge_82 (fun H locs hP hD hS => ?_)
            have hP : va_P D vwCl (wX8 cA a_m (upd m_s y1.toNatClampNeg y2) m_past m_pasts m_text m_typed m_faceOfSide m_firstSide m_faces m_before m_endA m_endB m_from m_queue m_ring m_ringSize m_ringNodes m_rings m_path m_pathSize m_old m_lastRing m_bestNodes m_bestInside m_bestFits m_far m_xs m_ys) H := hP
            have hD : va_D A (wX8 cA a_m (upd m_s y1.toNatClampNeg y2) m_past m_pasts m_text m_typed m_faceOfSide m_firstSide m_faces m_before m_endA m_endB m_from m_queue m_ring m_ringSize m_ringNodes m_rings m_path m_pathSize m_old m_lastRing m_bestNodes m_bestInside m_bestFits m_far m_xs m_ys) := hD
            refine lv_iload_n hx hb dX8_removeEdge_83 rfl (lv_at hl 3 rfl) ?_
            refine lv_iload hx hb dX8_removeEdge_84 (lv_at hl 5 rfl) ?_
            refine lv_iload_n hx hb dX8_removeEdge_86 rfl (lv_at hl 1 rfl) ?_
            refine lv_icmp_ne (tgt := 94) hx hb dX8_removeEdge_87 (by decide) (fun c_11 => ?_) (fun c_11 => ?_)
            · have hf := ite_t c_11 hf
              refine lv_iconst (v := 1) hx hb dX8_removeEdge_94 (by decide) ?_
              exact B95 x1 x2 x4 x3 1 (upd m_s y1.toNatClampNeg y2) m_past m_pasts _ _ _ (lv_sub hl [0, 1, 2, 4] rfl) hP hD hS hf
            · have hf := ite_fn c_11 hf
              refine lv_iconst (v := 0) hx hb dX8_removeEdge_90 (by decide) ?_
              refine lv_goto (tgt := 95) hx hb dX8_removeEdge_91 (by decide) ?_
              exact B95 x1 x2 x4 x3 0 (upd m_s y1.toNatClampNeg y2) m_past m_pasts _ _ _ (lv_sub hl [0, 1, 2, 4] rfl) hP hD hS hf
          intro x1 x2 x3 x4 m_s m_past m_pasts H locs ls hl hP hD hS hf
          refine lv_iload hx hb dX8_removeEdge_31 (lv_at hl 4 rfl) ?_
          refine lv_aload_n hx hb dX8_removeEdge_33 rfl (lv_at hl 0 rfl) ?_
          refine va_get (D := D) (ci := 8) (C := RX8) (T := TX8) (N := 27) hx hb hT kwX8 hown hK.1 hP 0 rfl rfl 0 (by decide) (hT _ kf_X8_7) (fun _ h9 => h9) rfl dX8_removeEdge_34 ?_
          refine lv_bipush (v := 43) hx hb dX8_removeEdge_37 (by decide) ?_
          refine lv_iload_n hx hb dX8_removeEdge_39 rfl (lv_at hl 2 rfl) ?_
          refine lv_iadd hx hb dX8_removeEdge_40 ?_
          obtain ⟨h_6, hf⟩ := chk_s hf
          refine va_iald hx hb hK.1 hP 1 0 rfl rfl (inb_in h_6) dX8_removeEdge_41 ?_
          refine lv_icmp_ge (tgt := 103) hx hb dX8_removeEdge_42 (by decide) (fun c_7 => ?_) (fun c_7 => ?_)
          · have hf := ite_t c_7 hf
            exact B103 x1 x2 x3 m_s m_past m_pasts _ _ _ (lv_sub hl [0, 1, 2, 3] rfl) hP hD hS hf
          · have hf := ite_f c_7 hf
            refine lv_aload_n hx hb dX8_removeEdge_45 rfl (lv_at hl 0 rfl) ?_
            refine lv_iload_n hx hb dX8_removeEdge_46 rfl (lv_at hl 2 rfl) ?_
            refine lv_iload hx hb dX8_removeEdge_47 (lv_at hl 4 rfl) ?_
            obtain ⟨r_8, hcr_8, hf⟩ := bd1_s hf
            refine backI (runV0 C (c_X8_turn l D cA a_m m_s m_past m_pasts m_text m_typed m_faceOfSide m_firstSide m_faces m_before m_endA m_endB m_from m_queue m_ring m_ringSize m_ringNodes m_rings m_path m_pathSize m_old m_lastRing m_bestNodes m_bestInside m_bestFits m_far m_xs m_ys x2 x4 N r_8 hcr_8) cf_X8_turn km_X8_78 ⟨rfl, rfl, by decide, by decide⟩ ⟨Nat.zero_le _, Nat.zero_le _⟩ (va_recv hK.1 hP (ci := 8) (q0 := 0) rfl rfl) (hP.sub [0, 1, 2, 3, 4, 5, 6, 7, 8, 9, 10, 11, 12, 13, 14, 15, 16, 17, 18] rfl) hK hl.1 rfl rfl (Nat.le_of_ble_eq_true rfl) dX8_removeEdge_49) ?_
            refine lv_istore (lv' := [(5, .int r_8), (0, .ref (a_m 0)), (1, .int x1), (2, .int x2), (3, .int x3), (4, .int x4)]) hx hb dX8_removeEdge_52 hl (by decide) rfl (fun ls hl => ?_)
            refine lv_aload_n hx hb dX8_removeEdge_54 rfl (lv_at hl 1 rfl) ?_
            refine va_get (D := D) (ci := 8) (C := RX8) (T := TX8) (N := 27) hx hb hT kwX8 hown hK.1 hP 0 rfl rfl 0 (by decide) (hT _ kf_X8_7) (fun _ h9 => h9) rfl dX8_removeEdge_55 ?_
            refine lv_bipush (v := 52) hx hb dX8_removeEdge_58 (by decide) ?_
            refine lv_bipush (v := 8) hx hb dX8_removeEdge_60 (by decide) ?_
            refine lv_iload_n hx hb dX8_removeEdge_62 rfl (lv_at hl 3 rfl) ?_
            refine lv_imul hx hb dX8_removeEdge_63 ?_
            refine lv_iadd hx hb dX8_removeEdge_64 ?_
            refine lv_iload_n hx hb dX8_removeEdge_65 rfl (lv_at hl 4 rfl) ?_
            refine lv_iadd hx hb dX8_removeEdge_66 ?_
            refine lv_iload hx hb dX8_removeEdge_67 (lv_at hl 0 rfl) ?_
            refine lv_iload_n hx hb dX8_removeEdge_69 rfl (lv_at hl 2 rfl) ?_
            refine lv_icmp_le (tgt := 80) hx hb dX8_removeEdge_70 (by decide) (fun c_9 => ?_) (fun c_9 => ?_)
            · have hf := ite_t c_9 hf
              refine lv_iload hx hb dX8_removeEdge_80 (lv_at hl 0 rfl) ?_
              exact B82 x1 x2 x3 x4 r_8 ((52 + (8 * x2)) + x3) r_8 m_s m_past m_pasts _ _ _ (lv_sub hl [1, 2, 3, 4, 5, 0] rfl) hP hD hS hf
            · have hf := ite_f c_9 hf
              refine lv_iload hx hb dX8_removeEdge_73 (lv_at hl 0 rfl) ?_
              refine lv_iconst (v := 1) hx hb dX8_removeEdge_75 (by decide) ?_
              refine lv_isub hx hb dX8_removeEdge_76 ?_
              refine lv_goto (tgt := 82) hx hb dX8_removeEdge_77 (by decide) ?_
              exact B82 x1 x2 x3 x4 r_8 ((52 + (8 * x2)) + x3) (r_8 - 1) m_s m_past m_pasts _ _ _ (lv_sub hl [1, 2, 3, 4, 5, 0] rfl) hP hD hS hf
      intro x1 x2 m_s m_past m_pasts H locs ls hl hP hD hS hf
      refine lv_iload_n hx hb dX8_removeEdge_16 rfl (lv_at hl 2 rfl) ?_
      refine lv_aload_n hx hb dX8_removeEdge_17 rfl (lv_at hl 0 rfl) ?_
      refine va_get (D := D) (ci := 8) (C := RX8) (T := TX8) (N := 27) hx hb hT kwX8 hown hK.1 hP 0 rfl rfl 0 (by decide) (hT _ kf_X8_7) (fun _ h9 => h9) rfl dX8_removeEdge_18 ?_
      refine lv_iconst (v := 0) hx hb dX8_removeEdge_21 (by decide) ?_
      obtain ⟨h_4, hf⟩ := chk_s hf
      refine va_iald hx hb hK.1 hP 1 0 rfl rfl (inb_in h_4) dX8_removeEdge_22 ?_
      refine lv_icmp_ge (tgt := 119) hx hb dX8_removeEdge_23 (by decide) (fun c_5 => ?_) (fun c_5 => ?_)
      · have hf := ite_t c_5 hf
        exact B119 x1 m_s m_past m_pasts _ _ _ (lv_sub hl [0, 1] rfl) hP hD hS hf
      · have hf := ite_f c_5 hf
        refine lv_iconst (v := 0) hx hb dX8_removeEdge_26 (by decide) ?_
        refine lv_istore_n (lv' := [(3, .int 0), (0, .ref (a_m 0)), (1, .int x1), (2, .int x2)]) hx hb dX8_removeEdge_27 rfl hl (by decide) rfl (fun ls hl => ?_)
        refine lv_iconst (v := 0) hx hb dX8_removeEdge_28 (by decide) ?_
        refine lv_istore (lv' := [(4, .int 0), (3, .int 0), (0, .ref (a_m 0)), (1, .int x1), (2, .int x2)]) hx hb dX8_removeEdge_29 hl (by decide) rfl (fun ls hl => ?_)
        exact B31 N x1 x2 0 0 m_s m_past m_pasts _ _ _ (lv_sub hl [2, 3, 4, 1, 0] rfl) hP hD hS hf
  refine lv_aload_n hx hb dX8_removeEdge_0 rfl (lv_at hl 0 rfl) ?_
  refine lv_iload_n hx hb dX8_removeEdge_1 rfl (lv_at hl 1 rfl) ?_
  obtain ⟨r_1, hcr_1, hf⟩ := bd1_s hf
  refine backI (runV0 C (c_X8_isEdge l D cA a_m m_s m_past m_pasts m_text m_typed m_faceOfSide m_firstSide m_faces m_before m_endA m_endB m_from m_queue m_ring m_ringSize m_ringNodes m_rings m_path m_pathSize m_old m_lastRing m_bestNodes m_bestInside m_bestFits m_far m_xs m_ys p1 N r_1 hcr_1) cf_X8_isEdge km_X8_74 ⟨rfl, rfl, by decide, by decide⟩ ⟨Nat.zero_le _, Nat.zero_le _⟩ (va_recv hK.1 hP (ci := 8) (q0 := 0) rfl rfl) (hP.sub [0, 1, 2, 3, 4, 5, 6, 7, 8, 9, 10, 11, 12, 13, 14, 15, 16, 17, 18] rfl) hK hl.1 rfl rfl (Nat.le_of_ble_eq_true rfl) dX8_removeEdge_2) ?_
  refine lv_if_ne (tgt := 10) hx hb dX8_removeEdge_5 (by decide) (fun c_2 => ?_) (fun c_2 => ?_)
  · have hf := ite_t c_2 hf
    refine lv_aload_n hx hb dX8_removeEdge_10 rfl (lv_at hl 0 rfl) ?_
    obtain ⟨r_3, hcr_3, hf⟩ := bd1_s hf
    refine backWv (w2 := (wX8 cA a_m m_s r_3.1 r_3.2 m_text m_typed m_faceOfSide m_firstSide m_faces m_before m_endA m_endB m_from m_queue m_ring m_ringSize m_ringNodes m_rings m_path m_pathSize m_old m_lastRing m_bestNodes m_bestInside m_bestFits m_far m_xs m_ys)) (runVw C (c_X8_notes l D cA a_m m_s m_past m_pasts m_text m_typed m_faceOfSide m_firstSide m_faces m_before m_endA m_endB m_from m_queue m_ring m_ringSize m_ringNodes m_rings m_path m_pathSize m_old m_lastRing m_bestNodes m_bestInside m_bestFits m_far m_xs m_ys _ N r_3 hcr_3) cf_X8_notes km_X8_90 ⟨rfl, rfl, by decide, by decide⟩ ⟨Nat.zero_le _, Nat.zero_le _⟩ (va_recv hK.1 hP (ci := 8) (q0 := 0) rfl rfl) (hP.sub [0, 1, 2, 3, 4, 5, 6, 7, 8, 9, 10, 11, 12, 13, 14, 15, 16, 17, 18] rfl) (hD.sub [0, 1, 2, 3, 4, 5, 6, 7, 8, 9, 10, 11, 12, 13, 14, 15, 16, 17, 18] rfl rfl) hK hl.1 rfl rfl (Nat.le_of_ble_eq_true rfl) dX8_removeEdge_11) hP hD hS hA [0, 1, 2, 3, 4, 5, 6, 7, 8, 9, 10, 11, 12, 13, 14, 15, 16, 17, 18] rfl [] rfl rfl (by decide) [0, 1, 2, 3, 4, 5, 6, 7, 8, 9, 10, 11, 12, 13, 14, 15, 16, 17, 18] rfl rfl (fun H locs hP hD hS => ?_)
    refine lv_iconst (v := 0) hx hb dX8_removeEdge_14 (by decide) ?_
    refine lv_istore_n (lv' := [(2, .int 0), (0, .ref (a_m 0)), (1, .int p1)]) hx hb dX8_removeEdge_15 rfl hl (by decide) rfl (fun ls hl => ?_)
    exact B16 N p1 0 m_s r_3.1 r_3.2 _ _ _ (lv_sub hl [1, 2, 0] rfl) hP hD hS hf
  · have hf := ite_fn c_2 hf
    refine lv_iconst (v := (-1)) hx hb dX8_removeEdge_8 (by decide) ?_
    have eR := some_i hf
    exact W.iret hx hb hr (fun t ht hW => ⟨⟨(-1), (), rfl, fst_e eR, by rw [← eR, ht]; exact hP, by rw [← eR]; exact hD⟩, hS.F ht⟩) hS.2.2 dX8_removeEdge_9 (hlocks := hlk)
set_option maxRecDepth 100000 in
set_option maxHeartbeats 4000000 in
theorem c_X8_rotation (l : Launch) (D : va_G) (cA : Nat → ClassId) (a_m : Nat → Nat) (m_s : Nat → Int32) (m_past : Nat → Int32) (m_pasts : Int32) (m_text : Nat → Int32) (m_typed : Int32) (m_faceOfSide : Nat → Int32) (m_firstSide : Nat → Int32) (m_faces : Int32) (m_before : Nat → Int32) (m_endA : Nat → Int32) (m_endB : Nat → Int32) (m_from : Nat → Int32) (m_queue : Nat → Int32) (m_ring : Nat → Int32) (m_ringSize : Nat → Int32) (m_ringNodes : Nat → Int32) (m_rings : Int32) (m_path : Nat → Int32) (m_pathSize : Int32) (m_old : Nat → Int32) (m_lastRing : Int32) (m_bestNodes : Int32) (m_bestInside : Int32) (m_bestFits : Int32) (m_far : Nat → Int32) (m_xs : Nat → UInt32) (m_ys : Nat → UInt32) (p1 : Int32) (p2 : Int32) (N : Nat) (ρ : Int32) (hf : f_X8_rotation N m_s p1 p2 = some ρ) : Met l yX8_rotation (Cond.code yX8_rotation cX8_rotation 3 (Option.some Jvm.ClassFile.FieldType.int) :: lw_g) ({ frames := 2, cells := 0, slots := 0, locals := 43 } : Room) (PcS D (tyA cA) (wX8 cA a_m m_s m_past m_pasts m_text m_typed m_faceOfSide m_firstSide m_faces m_before m_endA m_endB m_from m_queue m_ring m_ringSize m_ringNodes m_rings m_path m_pathSize m_old m_lastRing m_bestNodes m_bestInside m_bestFits m_far m_xs m_ys) [.ref (a_m 0), .int p1, .int p2]) (vp_Si (fun r => r = ρ)) 0 0 (fun _ => False) := by
  refine mkS (by decide +kernel) (Nat.le_of_ble_eq_true rfl) fun p e s m below meth c ls C hl hP hK => ?_
  obtain ⟨hx, hb, hml, hown, hT, hr, hlk⟩ := id C
  have hl : lv_has ls 3 [(0, .ref (a_m 0)), (1, .int p1), (2, .int p2)] := hl
  refine lv_aload_n hx hb dX8_rotation_0 rfl (lv_at hl 0 rfl) ?_
  refine lv_iload_n hx hb dX8_rotation_1 rfl (lv_at hl 1 rfl) ?_
  obtain ⟨r_1, hcr_1, hf⟩ := bd1_s hf
  refine backI (runV0 C (c_X8_isNode l D cA a_m m_s m_past m_pasts m_text m_typed m_faceOfSide m_firstSide m_faces m_before m_endA m_endB m_from m_queue m_ring m_ringSize m_ringNodes m_rings m_path m_pathSize m_old m_lastRing m_bestNodes m_bestInside m_bestFits m_far m_xs m_ys p1 N r_1 hcr_1) cf_X8_isNode km_X8_97 ⟨rfl, rfl, by decide, by decide⟩ ⟨Nat.zero_le _, Nat.zero_le _⟩ (va_recv hK.1 hP (ci := 8) (q0 := 0) rfl rfl) (hP.sub [0, 1, 2, 3, 4, 5, 6, 7, 8, 9, 10, 11, 12, 13, 14, 15, 16, 17, 18] rfl) hK hl.1 rfl rfl (Nat.le_of_ble_eq_true rfl) dX8_rotation_2) ?_
  refine lv_if_eq (tgt := 12) hx hb dX8_rotation_5 (by decide) (fun c_2 => ?_) (fun c_2 => ?_)
  · have hf := ite_t c_2 hf
    refine lv_iconst (v := (-1)) hx hb dX8_rotation_12 (by decide) ?_
    exact W.iret hx hb hr (fun t ht hW => ⟨_, rfl, some_i hf, ht⟩) (fun _ h => by cases h) dX8_rotation_13 (hlocks := hlk)
  · have hf := ite_f c_2 hf
    refine lv_iload_n hx hb dX8_rotation_8 rfl (lv_at hl 2 rfl) ?_
    refine lv_if_ge (tgt := 14) hx hb dX8_rotation_9 (by decide) (fun c_3 => ?_) (fun c_3 => ?_)
    · have hf := ite_t c_3 hf
      refine lv_iload_n hx hb dX8_rotation_14 rfl (lv_at hl 2 rfl) ?_
      refine lv_aload_n hx hb dX8_rotation_15 rfl (lv_at hl 0 rfl) ?_
      refine va_get (D := D) (ci := 8) (C := RX8) (T := TX8) (N := 27) hx hb hT kwX8 hown hK.1 hP 0 rfl rfl 0 (by decide) (hT _ kf_X8_7) (fun _ h9 => h9) rfl dX8_rotation_16 ?_
      refine lv_bipush (v := 43) hx hb dX8_rotation_19 (by decide) ?_
      refine lv_iload_n hx hb dX8_rotation_21 rfl (lv_at hl 1 rfl) ?_
      refine lv_iadd hx hb dX8_rotation_22 ?_
      obtain ⟨h_4, hf⟩ := chk_s hf
      refine va_iald hx hb hK.1 hP 1 0 rfl rfl (inb_in h_4) dX8_rotation_23 ?_
      refine lv_icmp_ge (tgt := 36) hx hb dX8_rotation_24 (by decide) (fun c_5 => ?_) (fun c_5 => ?_)
      · have hf := ite_t c_5 hf
        refine lv_bipush (v := (-9)) hx hb dX8_rotation_36 (by decide) ?_
        exact W.iret hx hb hr (fun t ht hW => ⟨_, rfl, some_i hf, ht⟩) (fun _ h => by cases h) dX8_rotation_38 (hlocks := hlk)
      · have hf := ite_f c_5 hf
        refine lv_aload_n hx hb dX8_rotation_27 rfl (lv_at hl 0 rfl) ?_
        refine lv_iload_n hx hb dX8_rotation_28 rfl (lv_at hl 1 rfl) ?_
        refine lv_iload_n hx hb dX8_rotation_29 rfl (lv_at hl 2 rfl) ?_
        obtain ⟨r_6, hcr_6, hf⟩ := bd1_s hf
        refine backI (runV0 C (c_X8_turn l D cA a_m m_s m_past m_pasts m_text m_typed m_faceOfSide m_firstSide m_faces m_before m_endA m_endB m_from m_queue m_ring m_ringSize m_ringNodes m_rings m_path m_pathSize m_old m_lastRing m_bestNodes m_bestInside m_bestFits m_far m_xs m_ys p1 p2 N r_6 hcr_6) cf_X8_turn km_X8_78 ⟨rfl, rfl, by decide, by decide⟩ ⟨Nat.zero_le _, Nat.zero_le _⟩ (va_recv hK.1 hP (ci := 8) (q0 := 0) rfl rfl) (hP.sub [0, 1, 2, 3, 4, 5, 6, 7, 8, 9, 10, 11, 12, 13, 14, 15, 16, 17, 18] rfl) hK hl.1 rfl rfl (Nat.le_of_ble_eq_true rfl) dX8_rotation_30) ?_
        refine lv_goto (tgt := 38) hx hb dX8_rotation_33 (by decide) ?_
        exact W.iret hx hb hr (fun t ht hW => ⟨_, rfl, some_i hf, ht⟩) (fun _ h => by cases h) dX8_rotation_38 (hlocks := hlk)
    · have hf := ite_f c_3 hf
      refine lv_iconst (v := (-1)) hx hb dX8_rotation_12 (by decide) ?_
      exact W.iret hx hb hr (fun t ht hW => ⟨_, rfl, some_i hf, ht⟩) (fun _ h => by cases h) dX8_rotation_13 (hlocks := hlk)
set_option maxRecDepth 100000 in
set_option maxHeartbeats 4000000 in
theorem c_X8_setNodes (l : Launch) (D : va_G) (cA : Nat → ClassId) (a_m : Nat → Nat) (m_s : Nat → Int32) (m_past : Nat → Int32) (m_pasts : Int32) (m_text : Nat → Int32) (m_typed : Int32) (m_faceOfSide : Nat → Int32) (m_firstSide : Nat → Int32) (m_faces : Int32) (m_before : Nat → Int32) (m_endA : Nat → Int32) (m_endB : Nat → Int32) (m_from : Nat → Int32) (m_queue : Nat → Int32) (m_ring : Nat → Int32) (m_ringSize : Nat → Int32) (m_ringNodes : Nat → Int32) (m_rings : Int32) (m_path : Nat → Int32) (m_pathSize : Int32) (m_old : Nat → Int32) (m_lastRing : Int32) (m_bestNodes : Int32) (m_bestInside : Int32) (m_bestFits : Int32) (m_far : Nat → Int32) (m_xs : Nat → UInt32) (m_ys : Nat → UInt32) (p1 : Int32) (sz N : Nat) (ρ : Int32 × (Nat → Int32) × (Nat → Int32) × Int32) (hf : f_X8_setNodes N m_s m_past m_pasts p1 = some ρ) : Met l yX8_setNodes (Cond.code yX8_setNodes cX8_setNodes 3 (Option.some Jvm.ClassFile.FieldType.int) :: lw_g) ({ frames := 1, cells := 0, slots := 0, locals := 22 } : Room) (PcW D (tyA cA) (wX8 cA a_m m_s m_past m_pasts m_text m_typed m_faceOfSide m_firstSide m_faces m_before m_endA m_endB m_from m_queue m_ring m_ringSize m_ringNodes m_rings m_path m_pathSize m_old m_lastRing m_bestNodes m_bestInside m_bestFits m_far m_xs m_ys) sz [.ref (a_m 0), .int p1]) (va_Qi (fun r (_ : Unit) => r = ρ.1) (fun _ t => va_P D vwCl (wX8 cA a_m ρ.2.1 ρ.2.2.1 ρ.2.2.2 m_text m_typed m_faceOfSide m_firstSide m_faces m_before m_endA m_endB m_from m_queue m_ring m_ringSize m_ringNodes m_rings m_path m_pathSize m_old m_lastRing m_bestNodes m_bestInside m_bestFits m_far m_xs m_ys) t.heap ∧ va_D (va_A (wX8 cA a_m m_s m_past m_pasts m_text m_typed m_faceOfSide m_firstSide m_faces m_before m_endA m_endB m_from m_queue m_ring m_ringSize m_ringNodes m_rings m_path m_pathSize m_old m_lastRing m_bestNodes m_bestInside m_bestFits m_far m_xs m_ys) sz) (wX8 cA a_m ρ.2.1 ρ.2.2.1 ρ.2.2.2 m_text m_typed m_faceOfSide m_firstSide m_faces m_before m_endA m_endB m_from m_queue m_ring m_ringSize m_ringNodes m_rings m_path m_pathSize m_old m_lastRing m_bestNodes m_bestInside m_bestFits m_far m_xs m_ys)) (va_A (wX8 cA a_m m_s m_past m_pasts m_text m_typed m_faceOfSide m_firstSide m_faces m_before m_endA m_endB m_from m_queue m_ring m_ringSize m_ringNodes m_rings m_path m_pathSize m_old m_lastRing m_bestNodes m_bestInside m_bestFits m_far m_xs m_ys) sz)) 0 0 (va_A (wX8 cA a_m m_s m_past m_pasts m_text m_typed m_faceOfSide m_firstSide m_faces m_before m_endA m_endB m_from m_queue m_ring m_ringSize m_ringNodes m_rings m_path m_pathSize m_old m_lastRing m_bestNodes m_bestInside m_bestFits m_far m_xs m_ys) sz) := by
  refine mkW (QQ := fun A => va_Qi (fun r (_ : Unit) => r = ρ.1) (fun _ t => va_P D vwCl (wX8 cA a_m ρ.2.1 ρ.2.2.1 ρ.2.2.2 m_text m_typed m_faceOfSide m_firstSide m_faces m_before m_endA m_endB m_from m_queue m_ring m_ringSize m_ringNodes m_rings m_path m_pathSize m_old m_lastRing m_bestNodes m_bestInside m_bestFits m_far m_xs m_ys) t.heap ∧ va_D A (wX8 cA a_m ρ.2.1 ρ.2.2.1 ρ.2.2.2 m_text m_typed m_faceOfSide m_firstSide m_faces m_before m_endA m_endB m_from m_queue m_ring m_ringSize m_ringNodes m_rings m_path m_pathSize m_old m_lastRing m_bestNodes m_bestInside m_bestFits m_far m_xs m_ys)) A) (by decide) (Nat.le_of_ble_eq_true rfl) fun p e s m below meth c ls A C hl hP hK hD hA hS => ?_
  obtain ⟨hx, hb, hml, hown, hT, hr, hlk⟩ := id C
  have hl : lv_has ls 3 [(0, .ref (a_m 0)), (1, .int p1)] := hl
  refine lv_iload_n hx hb dX8_setNodes_0 rfl (lv_at hl 1 rfl) ?_
  refine lv_iconst (v := 2) hx hb dX8_setNodes_1 (by decide) ?_
  refine lv_bipush (v := 9) hx hb dX8_setNodes_2 (by decide) ?_
  obtain ⟨r_1, hcr_1, hf⟩ := bd1_s hf
  refine backI (runS0 C (c_X8_in l D cA p1 2 9 N r_1 hcr_1) cf_X8_in km_X8_70 ⟨rfl, rfl, by decide, by decide⟩ ⟨Nat.zero_le _, Nat.zero_le _⟩ (hP.sub [] rfl) hK hl.1 rfl rfl (Nat.le_of_ble_eq_true rfl) dX8_setNodes_4) ?_
  refine lv_if_ne (tgt := 12) hx hb dX8_setNodes_7 (by decide) (fun c_2 => ?_) (fun c_2 => ?_)
  · have hf := ite_t c_2 hf
    refine lv_aload_n hx hb dX8_setNodes_12 rfl (lv_at hl 0 rfl) ?_
    obtain ⟨r_3, hcr_3, hf⟩ := bd1_s hf
    refine backWv (w2 := (wX8 cA a_m m_s r_3.1 r_3.2 m_text m_typed m_faceOfSide m_firstSide m_faces m_before m_endA m_endB m_from m_queue m_ring m_ringSize m_ringNodes m_rings m_path m_pathSize m_old m_lastRing m_bestNodes m_bestInside m_bestFits m_far m_xs m_ys)) (runVw C (c_X8_notes l D cA a_m m_s m_past m_pasts m_text m_typed m_faceOfSide m_firstSide m_faces m_before m_endA m_endB m_from m_queue m_ring m_ringSize m_ringNodes m_rings m_path m_pathSize m_old m_lastRing m_bestNodes m_bestInside m_bestFits m_far m_xs m_ys _ N r_3 hcr_3) cf_X8_notes km_X8_90 ⟨rfl, rfl, by decide, by decide⟩ ⟨Nat.zero_le _, Nat.zero_le _⟩ (va_recv hK.1 hP (ci := 8) (q0 := 0) rfl rfl) (hP.sub [0, 1, 2, 3, 4, 5, 6, 7, 8, 9, 10, 11, 12, 13, 14, 15, 16, 17, 18] rfl) (hD.sub [0, 1, 2, 3, 4, 5, 6, 7, 8, 9, 10, 11, 12, 13, 14, 15, 16, 17, 18] rfl rfl) hK hl.1 rfl rfl (Nat.le_of_ble_eq_true rfl) dX8_setNodes_13) hP hD hS hA [0, 1, 2, 3, 4, 5, 6, 7, 8, 9, 10, 11, 12, 13, 14, 15, 16, 17, 18] rfl [] rfl rfl (by decide) [0, 1, 2, 3, 4, 5, 6, 7, 8, 9, 10, 11, 12, 13, 14, 15, 16, 17, 18] rfl rfl (fun H locs hP hD hS => ?_)
    refine lv_aload_n hx hb dX8_setNodes_16 rfl (lv_at hl 0 rfl) ?_
    refine va_get (D := D) (ci := 8) (C := RX8) (T := TX8) (N := 27) hx hb hT kwX8 hown hK.1 hP 0 rfl rfl 0 (by decide) (hT _ kf_X8_7) (fun _ h9 => h9) rfl dX8_setNodes_17 ?_
    refine lv_iconst (v := 0) hx hb dX8_setNodes_20 (by decide) ?_
    obtain ⟨h_4, hf⟩ := chk_s hf
    refine va_iald hx hb hK.1 hP 1 0 rfl rfl (inb_in h_4) dX8_setNodes_21 ?_
    refine lv_topi (fun x2_5 ex2_5 => ?_)
    have hf := nm_t ex2_5 hf
    refine lv_istore_n (lv' := [(2, .int x2_5), (0, .ref (a_m 0)), (1, .int p1)]) hx hb dX8_setNodes_22 rfl hl (by decide) rfl (fun ls hl => ?_)
    refine lv_aload_n hx hb dX8_setNodes_23 rfl (lv_at hl 1 rfl) ?_
    refine lv_iload_n hx hb dX8_setNodes_24 rfl (lv_at hl 2 rfl) ?_
    obtain ⟨r_6, hcr_6, hf⟩ := bd1_s hf
    refine backWv (w2 := (wX8 cA a_m r_6 r_3.1 r_3.2 m_text m_typed m_faceOfSide m_firstSide m_faces m_before m_endA m_endB m_from m_queue m_ring m_ringSize m_ringNodes m_rings m_path m_pathSize m_old m_lastRing m_bestNodes m_bestInside m_bestFits m_far m_xs m_ys)) (runVw C (c_X8_empties l D cA a_m m_s r_3.1 r_3.2 m_text m_typed m_faceOfSide m_firstSide m_faces m_before m_endA m_endB m_from m_queue m_ring m_ringSize m_ringNodes m_rings m_path m_pathSize m_old m_lastRing m_bestNodes m_bestInside m_bestFits m_far m_xs m_ys p1 _ N r_6 hcr_6) cf_X8_empties km_X8_93 ⟨rfl, rfl, by decide, by decide⟩ ⟨Nat.zero_le _, Nat.zero_le _⟩ (va_recv hK.1 hP (ci := 8) (q0 := 0) rfl rfl) (hP.sub [0, 1, 2, 3, 4, 5, 6, 7, 8, 9, 10, 11, 12, 13, 14, 15, 16, 17, 18] rfl) (hD.sub [0, 1, 2, 3, 4, 5, 6, 7, 8, 9, 10, 11, 12, 13, 14, 15, 16, 17, 18] rfl rfl) hK hl.1 rfl rfl (Nat.le_of_ble_eq_true rfl) dX8_setNodes_25) hP hD hS hA [0, 1, 2, 3, 4, 5, 6, 7, 8, 9, 10, 11, 12, 13, 14, 15, 16, 17, 18] rfl [] rfl rfl (by decide) [0, 1, 2, 3, 4, 5, 6, 7, 8, 9, 10, 11, 12, 13, 14, 15, 16, 17, 18] rfl rfl (fun H locs hP hD hS => ?_)
    refine lv_iload_n hx hb dX8_setNodes_28 rfl (lv_at hl 0 rfl) ?_
    have eR := some_i hf
    exact W.iret hx hb hr (fun t ht hW => ⟨⟨x2_5, (), rfl, fst_e eR, by rw [← eR, ht]; exact hP, by rw [← eR]; exact hD⟩, hS.F ht⟩) hS.2.2 dX8_setNodes_29 (hlocks := hlk)
  · have hf := ite_fn c_2 hf
    refine lv_iconst (v := (-1)) hx hb dX8_setNodes_10 (by decide) ?_
    have eR := some_i hf
    exact W.iret hx hb hr (fun t ht hW => ⟨⟨(-1), (), rfl, fst_e eR, by rw [← eR, ht]; exact hP, by rw [← eR]; exact hD⟩, hS.F ht⟩) hS.2.2 dX8_setNodes_11 (hlocks := hlk)
set_option maxRecDepth 100000 in
set_option maxHeartbeats 4000000 in
theorem c_X8_setOuter (l : Launch) (D : va_G) (cA : Nat → ClassId) (a_m : Nat → Nat) (m_s : Nat → Int32) (m_past : Nat → Int32) (m_pasts : Int32) (m_text : Nat → Int32) (m_typed : Int32) (m_faceOfSide : Nat → Int32) (m_firstSide : Nat → Int32) (m_faces : Int32) (m_before : Nat → Int32) (m_endA : Nat → Int32) (m_endB : Nat → Int32) (m_from : Nat → Int32) (m_queue : Nat → Int32) (m_ring : Nat → Int32) (m_ringSize : Nat → Int32) (m_ringNodes : Nat → Int32) (m_rings : Int32) (m_path : Nat → Int32) (m_pathSize : Int32) (m_old : Nat → Int32) (m_lastRing : Int32) (m_bestNodes : Int32) (m_bestInside : Int32) (m_bestFits : Int32) (m_far : Nat → Int32) (m_xs : Nat → UInt32) (m_ys : Nat → UInt32) (p1 : Int32) (sz N : Nat) (ρ : Int32 × (Nat → Int32) × (Nat → Int32) × Int32 × (Nat → Int32) × (Nat → Int32) × Int32) (hf : f_X8_setOuter N m_s m_past m_pasts m_faceOfSide m_firstSide m_faces p1 = some ρ) : Met l yX8_setOuter (Cond.code yX8_setOuter cX8_setOuter 3 (Option.some Jvm.ClassFile.FieldType.int) :: lw_g) ({ frames := 4, cells := 0, slots := 0, locals := 91 } : Room) (PcW D (tyA cA) (wX8 cA a_m m_s m_past m_pasts m_text m_typed m_faceOfSide m_firstSide m_faces m_before m_endA m_endB m_from m_queue m_ring m_ringSize m_ringNodes m_rings m_path m_pathSize m_old m_lastRing m_bestNodes m_bestInside m_bestFits m_far m_xs m_ys) sz [.ref (a_m 0), .int p1]) (va_Qi (fun r (_ : Unit) => r = ρ.1) (fun _ t => va_P D vwCl (wX8 cA a_m ρ.2.1 ρ.2.2.1 ρ.2.2.2.1 m_text m_typed ρ.2.2.2.2.1 ρ.2.2.2.2.2.1 ρ.2.2.2.2.2.2 m_before m_endA m_endB m_from m_queue m_ring m_ringSize m_ringNodes m_rings m_path m_pathSize m_old m_lastRing m_bestNodes m_bestInside m_bestFits m_far m_xs m_ys) t.heap ∧ va_D (va_A (wX8 cA a_m m_s m_past m_pasts m_text m_typed m_faceOfSide m_firstSide m_faces m_before m_endA m_endB m_from m_queue m_ring m_ringSize m_ringNodes m_rings m_path m_pathSize m_old m_lastRing m_bestNodes m_bestInside m_bestFits m_far m_xs m_ys) sz) (wX8 cA a_m ρ.2.1 ρ.2.2.1 ρ.2.2.2.1 m_text m_typed ρ.2.2.2.2.1 ρ.2.2.2.2.2.1 ρ.2.2.2.2.2.2 m_before m_endA m_endB m_from m_queue m_ring m_ringSize m_ringNodes m_rings m_path m_pathSize m_old m_lastRing m_bestNodes m_bestInside m_bestFits m_far m_xs m_ys)) (va_A (wX8 cA a_m m_s m_past m_pasts m_text m_typed m_faceOfSide m_firstSide m_faces m_before m_endA m_endB m_from m_queue m_ring m_ringSize m_ringNodes m_rings m_path m_pathSize m_old m_lastRing m_bestNodes m_bestInside m_bestFits m_far m_xs m_ys) sz)) 0 0 (va_A (wX8 cA a_m m_s m_past m_pasts m_text m_typed m_faceOfSide m_firstSide m_faces m_before m_endA m_endB m_from m_queue m_ring m_ringSize m_ringNodes m_rings m_path m_pathSize m_old m_lastRing m_bestNodes m_bestInside m_bestFits m_far m_xs m_ys) sz) := by
  refine mkW (QQ := fun A => va_Qi (fun r (_ : Unit) => r = ρ.1) (fun _ t => va_P D vwCl (wX8 cA a_m ρ.2.1 ρ.2.2.1 ρ.2.2.2.1 m_text m_typed ρ.2.2.2.2.1 ρ.2.2.2.2.2.1 ρ.2.2.2.2.2.2 m_before m_endA m_endB m_from m_queue m_ring m_ringSize m_ringNodes m_rings m_path m_pathSize m_old m_lastRing m_bestNodes m_bestInside m_bestFits m_far m_xs m_ys) t.heap ∧ va_D A (wX8 cA a_m ρ.2.1 ρ.2.2.1 ρ.2.2.2.1 m_text m_typed ρ.2.2.2.2.1 ρ.2.2.2.2.2.1 ρ.2.2.2.2.2.2 m_before m_endA m_endB m_from m_queue m_ring m_ringSize m_ringNodes m_rings m_path m_pathSize m_old m_lastRing m_bestNodes m_bestInside m_bestFits m_far m_xs m_ys)) A) (by decide) (Nat.le_of_ble_eq_true rfl) fun p e s m below meth c ls A C hl hP hK hD hA hS => ?_
  obtain ⟨hx, hb, hml, hown, hT, hr, hlk⟩ := id C
  have hl : lv_has ls 3 [(0, .ref (a_m 0)), (1, .int p1)] := hl
  refine lv_aload_n hx hb dX8_setOuter_0 rfl (lv_at hl 0 rfl) ?_
  obtain ⟨r_1, hcr_1, hf⟩ := bd1_s hf
  refine backWv (w2 := (wX8 cA a_m m_s m_past m_pasts m_text m_typed r_1.1 r_1.2.1 r_1.2.2 m_before m_endA m_endB m_from m_queue m_ring m_ringSize m_ringNodes m_rings m_path m_pathSize m_old m_lastRing m_bestNodes m_bestInside m_bestFits m_far m_xs m_ys)) (runVw C (c_X8_walks l D cA a_m m_s m_past m_pasts m_text m_typed m_faceOfSide m_firstSide m_faces m_before m_endA m_endB m_from m_queue m_ring m_ringSize m_ringNodes m_rings m_path m_pathSize m_old m_lastRing m_bestNodes m_bestInside m_bestFits m_far m_xs m_ys _ N r_1 hcr_1) cf_X8_walks km_X8_117 ⟨rfl, rfl, by decide, by decide⟩ ⟨Nat.zero_le _, Nat.zero_le _⟩ (va_recv hK.1 hP (ci := 8) (q0 := 0) rfl rfl) (hP.sub [0, 1, 2, 3, 4, 5, 6, 7, 8, 9, 10, 11, 12, 13, 14, 15, 16, 17, 18] rfl) (hD.sub [0, 1, 2, 3, 4, 5, 6, 7, 8, 9, 10, 11, 12, 13, 14, 15, 16, 17, 18] rfl rfl) hK hl.1 rfl rfl (Nat.le_of_ble_eq_true rfl) dX8_setOuter_1) hP hD hS hA [0, 1, 2, 3, 4, 5, 6, 7, 8, 9, 10, 11, 12, 13, 14, 15, 16, 17, 18] rfl [] rfl rfl (by decide) [0, 1, 2, 3, 4, 5, 6, 7, 8, 9, 10, 11, 12, 13, 14, 15, 16, 17, 18] rfl rfl (fun H locs hP hD hS => ?_)
  refine lv_iload_n hx hb dX8_setOuter_4 rfl (lv_at hl 1 rfl) ?_
  refine lv_iconst (v := 0) hx hb dX8_setOuter_5 (by decide) ?_
  refine lv_aload_n hx hb dX8_setOuter_6 rfl (lv_at hl 0 rfl) ?_
  refine va_get (D := D) (ci := 8) (C := RX8) (T := TX8) (N := 27) hx hb hT kwX8 hown hK.1 hP 0 rfl rfl 7 (by decide) (hT _ kf_X8_120) (fun _ h9 => h9) rfl dX8_setOuter_7 ?_
  refine lv_iconst (v := 1) hx hb dX8_setOuter_10 (by decide) ?_
  refine lv_isub hx hb dX8_setOuter_11 ?_
  obtain ⟨r_2, hcr_2, hf⟩ := bd1_s hf
  refine backI (runS0 C (c_X8_in l D cA p1 0 (r_1.2.2 - 1) N r_2 hcr_2) cf_X8_in km_X8_70 ⟨rfl, rfl, by decide, by decide⟩ ⟨Nat.zero_le _, Nat.zero_le _⟩ (hP.sub [] rfl) hK hl.1 rfl rfl (Nat.le_of_ble_eq_true rfl) dX8_setOuter_12) ?_
  refine lv_if_ne (tgt := 20) hx hb dX8_setOuter_15 (by decide) (fun c_3 => ?_) (fun c_3 => ?_)
  · have hf := ite_t c_3 hf
    refine lv_aload_n hx hb dX8_setOuter_20 rfl (lv_at hl 0 rfl) ?_
    obtain ⟨r_4, hcr_4, hf⟩ := bd1_s hf
    refine backWv (w2 := (wX8 cA a_m m_s r_4.1 r_4.2 m_text m_typed r_1.1 r_1.2.1 r_1.2.2 m_before m_endA m_endB m_from m_queue m_ring m_ringSize m_ringNodes m_rings m_path m_pathSize m_old m_lastRing m_bestNodes m_bestInside m_bestFits m_far m_xs m_ys)) (runVw C (c_X8_notes l D cA a_m m_s m_past m_pasts m_text m_typed r_1.1 r_1.2.1 r_1.2.2 m_before m_endA m_endB m_from m_queue m_ring m_ringSize m_ringNodes m_rings m_path m_pathSize m_old m_lastRing m_bestNodes m_bestInside m_bestFits m_far m_xs m_ys _ N r_4 hcr_4) cf_X8_notes km_X8_90 ⟨rfl, rfl, by decide, by decide⟩ ⟨Nat.zero_le _, Nat.zero_le _⟩ (va_recv hK.1 hP (ci := 8) (q0 := 0) rfl rfl) (hP.sub [0, 1, 2, 3, 4, 5, 6, 7, 8, 9, 10, 11, 12, 13, 14, 15, 16, 17, 18] rfl) (hD.sub [0, 1, 2, 3, 4, 5, 6, 7, 8, 9, 10, 11, 12, 13, 14, 15, 16, 17, 18] rfl rfl) hK hl.1 rfl rfl (Nat.le_of_ble_eq_true rfl) dX8_setOuter_21) hP hD hS hA [0, 1, 2, 3, 4, 5, 6, 7, 8, 9, 10, 11, 12, 13, 14, 15, 16, 17, 18] rfl [] rfl rfl (by decide) [0, 1, 2, 3, 4, 5, 6, 7, 8, 9, 10, 11, 12, 13, 14, 15, 16, 17, 18] rfl rfl (fun H locs hP hD hS => ?_)
    refine lv_aload_n hx hb dX8_setOuter_24 rfl (lv_at hl 0 rfl) ?_
    refine va_get (D := D) (ci := 8) (C := RX8) (T := TX8) (N := 27) hx hb hT kwX8 hown hK.1 hP 0 rfl rfl 0 (by decide) (hT _ kf_X8_7) (fun _ h9 => h9) rfl dX8_setOuter_25 ?_
    refine lv_iconst (v := 2) hx hb dX8_setOuter_28 (by decide) ?_
    obtain ⟨h_5, hf⟩ := chk_s hf
    refine va_iald hx hb hK.1 hP 1 0 rfl rfl (inb_in h_5) dX8_setOuter_29 ?_
    refine lv_topi (fun x2_6 ex2_6 => ?_)
    have hf := nm_t ex2_6 hf
    refine lv_istore_n (lv' := [(2, .int x2_6), (0, .ref (a_m 0)), (1, .int p1)]) hx hb dX8_setOuter_30 rfl hl (by decide) rfl (fun ls hl => ?_)
    refine lv_aload_n hx hb dX8_setOuter_31 rfl (lv_at hl 1 rfl) ?_
    refine va_get (D := D) (ci := 8) (C := RX8) (T := TX8) (N := 27) hx hb hT kwX8 hown hK.1 hP 0 rfl rfl 0 (by decide) (hT _ kf_X8_7) (fun _ h9 => h9) rfl dX8_setOuter_32 ?_
    refine lv_iconst (v := 2) hx hb dX8_setOuter_35 (by decide) ?_
    refine lv_iload_n hx hb dX8_setOuter_36 rfl (lv_at hl 2 rfl) ?_
    obtain ⟨h_7, hf⟩ := chk_s hf
    refine va_iast hx hb hK.1 hP hD hS 1 0 rfl rfl (inb_in h_7) dX8_setOuter_37 (fun H locs hP hD hS => ?_)
    have hP : va_P D vwCl (wX8 cA a_m (upd m_s (2 : Int32).toNatClampNeg p1) r_4.1 r_4.2 m_text m_typed r_1.1 r_1.2.1 r_1.2.2 m_before m_endA m_endB m_from m_queue m_ring m_ringSize m_ringNodes m_rings m_path m_pathSize m_old m_lastRing m_bestNodes m_bestInside m_bestFits m_far m_xs m_ys) H := hP
    have hD : va_D A (wX8 cA a_m (upd m_s (2 : Int32).toNatClampNeg p1) r_4.1 r_4.2 m_text m_typed r_1.1 r_1.2.1 r_1.2.2 m_before m_endA m_endB m_from m_queue m_ring m_ringSize m_ringNodes m_rings m_path m_pathSize m_old m_lastRing m_bestNodes m_bestInside m_bestFits m_far m_xs m_ys) := hD
    refine lv_iload_n hx hb dX8_setOuter_38 rfl (lv_at hl 0 rfl) ?_
    have eR := some_i hf
    exact W.iret hx hb hr (fun t ht hW => ⟨⟨x2_6, (), rfl, fst_e eR, by rw [← eR, ht]; exact hP, by rw [← eR]; exact hD⟩, hS.F ht⟩) hS.2.2 dX8_setOuter_39 (hlocks := hlk)
  · have hf := ite_fn c_3 hf
    refine lv_iconst (v := (-1)) hx hb dX8_setOuter_18 (by decide) ?_
    have eR := some_i hf
    exact W.iret hx hb hr (fun t ht hW => ⟨⟨(-1), (), rfl, fst_e eR, by rw [← eR, ht]; exact hP, by rw [← eR]; exact hD⟩, hS.F ht⟩) hS.2.2 dX8_setOuter_19 (hlocks := hlk)
set_option maxRecDepth 100000 in
set_option maxHeartbeats 4000000 in
theorem c_X8_swap (l : Launch) (D : va_G) (cA : Nat → ClassId) (a_m : Nat → Nat) (m_s : Nat → Int32) (m_past : Nat → Int32) (m_pasts : Int32) (m_text : Nat → Int32) (m_typed : Int32) (m_faceOfSide : Nat → Int32) (m_firstSide : Nat → Int32) (m_faces : Int32) (m_before : Nat → Int32) (m_endA : Nat → Int32) (m_endB : Nat → Int32) (m_from : Nat → Int32) (m_queue : Nat → Int32) (m_ring : Nat → Int32) (m_ringSize : Nat → Int32) (m_ringNodes : Nat → Int32) (m_rings : Int32) (m_path : Nat → Int32) (m_pathSize : Int32) (m_old : Nat → Int32) (m_lastRing : Int32) (m_bestNodes : Int32) (m_bestInside : Int32) (m_bestFits : Int32) (m_far : Nat → Int32) (m_xs : Nat → UInt32) (m_ys : Nat → UInt32) (p1 : Int32) (p2 : Int32) (p3 : Int32) (sz N : Nat) (ρ : Int32 × (Nat → Int32) × (Nat → Int32) × Int32 × (Nat → Int32) × (Nat → Int32) × Int32) (hf : f_X8_swap N m_s m_past m_pasts m_faceOfSide m_firstSide m_faces p1 p2 p3 = some ρ) : Met l yX8_swap (Cond.code yX8_swap cX8_swap 6 (Option.some Jvm.ClassFile.FieldType.int) :: lw_g) ({ frames := 5, cells := 0, slots := 0, locals := 114 } : Room) (PcW D (tyA cA) (wX8 cA a_m m_s m_past m_pasts m_text m_typed m_faceOfSide m_firstSide m_faces m_before m_endA m_endB m_from m_queue m_ring m_ringSize m_ringNodes m_rings m_path m_pathSize m_old m_lastRing m_bestNodes m_bestInside m_bestFits m_far m_xs m_ys) sz [.ref (a_m 0), .int p1, .int p2, .int p3]) (va_Qi (fun r (_ : Unit) => r = ρ.1) (fun _ t => va_P D vwCl (wX8 cA a_m ρ.2.1 ρ.2.2.1 ρ.2.2.2.1 m_text m_typed ρ.2.2.2.2.1 ρ.2.2.2.2.2.1 ρ.2.2.2.2.2.2 m_before m_endA m_endB m_from m_queue m_ring m_ringSize m_ringNodes m_rings m_path m_pathSize m_old m_lastRing m_bestNodes m_bestInside m_bestFits m_far m_xs m_ys) t.heap ∧ va_D (va_A (wX8 cA a_m m_s m_past m_pasts m_text m_typed m_faceOfSide m_firstSide m_faces m_before m_endA m_endB m_from m_queue m_ring m_ringSize m_ringNodes m_rings m_path m_pathSize m_old m_lastRing m_bestNodes m_bestInside m_bestFits m_far m_xs m_ys) sz) (wX8 cA a_m ρ.2.1 ρ.2.2.1 ρ.2.2.2.1 m_text m_typed ρ.2.2.2.2.1 ρ.2.2.2.2.2.1 ρ.2.2.2.2.2.2 m_before m_endA m_endB m_from m_queue m_ring m_ringSize m_ringNodes m_rings m_path m_pathSize m_old m_lastRing m_bestNodes m_bestInside m_bestFits m_far m_xs m_ys)) (va_A (wX8 cA a_m m_s m_past m_pasts m_text m_typed m_faceOfSide m_firstSide m_faces m_before m_endA m_endB m_from m_queue m_ring m_ringSize m_ringNodes m_rings m_path m_pathSize m_old m_lastRing m_bestNodes m_bestInside m_bestFits m_far m_xs m_ys) sz)) 0 0 (va_A (wX8 cA a_m m_s m_past m_pasts m_text m_typed m_faceOfSide m_firstSide m_faces m_before m_endA m_endB m_from m_queue m_ring m_ringSize m_ringNodes m_rings m_path m_pathSize m_old m_lastRing m_bestNodes m_bestInside m_bestFits m_far m_xs m_ys) sz) := by
  refine mkW (QQ := fun A => va_Qi (fun r (_ : Unit) => r = ρ.1) (fun _ t => va_P D vwCl (wX8 cA a_m ρ.2.1 ρ.2.2.1 ρ.2.2.2.1 m_text m_typed ρ.2.2.2.2.1 ρ.2.2.2.2.2.1 ρ.2.2.2.2.2.2 m_before m_endA m_endB m_from m_queue m_ring m_ringSize m_ringNodes m_rings m_path m_pathSize m_old m_lastRing m_bestNodes m_bestInside m_bestFits m_far m_xs m_ys) t.heap ∧ va_D A (wX8 cA a_m ρ.2.1 ρ.2.2.1 ρ.2.2.2.1 m_text m_typed ρ.2.2.2.2.1 ρ.2.2.2.2.2.1 ρ.2.2.2.2.2.2 m_before m_endA m_endB m_from m_queue m_ring m_ringSize m_ringNodes m_rings m_path m_pathSize m_old m_lastRing m_bestNodes m_bestInside m_bestFits m_far m_xs m_ys)) A) (by decide) (Nat.le_of_ble_eq_true rfl) fun p e s m below meth c ls A C hl hP hK hD hA hS => ?_
  obtain ⟨hx, hb, hml, hown, hT, hr, hlk⟩ := id C
  have hl : lv_has ls 6 [(0, .ref (a_m 0)), (1, .int p1), (2, .int p2), (3, .int p3)] := hl
  refine lv_aload_n hx hb dX8_swap_0 rfl (lv_at hl 0 rfl) ?_
  refine lv_iload_n hx hb dX8_swap_1 rfl (lv_at hl 1 rfl) ?_
  obtain ⟨r_1, hcr_1, hf⟩ := bd1_s hf
  refine backI (runV0 C (c_X8_isNode l D cA a_m m_s m_past m_pasts m_text m_typed m_faceOfSide m_firstSide m_faces m_before m_endA m_endB m_from m_queue m_ring m_ringSize m_ringNodes m_rings m_path m_pathSize m_old m_lastRing m_bestNodes m_bestInside m_bestFits m_far m_xs m_ys p1 N r_1 hcr_1) cf_X8_isNode km_X8_97 ⟨rfl, rfl, by decide, by decide⟩ ⟨Nat.zero_le _, Nat.zero_le _⟩ (va_recv hK.1 hP (ci := 8) (q0 := 0) rfl rfl) (hP.sub [0, 1, 2, 3, 4, 5, 6, 7, 8, 9, 10, 11, 12, 13, 14, 15, 16, 17, 18] rfl) hK hl.1 rfl rfl (Nat.le_of_ble_eq_true rfl) dX8_swap_2) ?_
  refine lv_if_eq (tgt := 26) hx hb dX8_swap_5 (by decide) (fun c_2 => ?_) (fun c_2 => ?_)
  · have hf := ite_t c_2 hf
    refine lv_iconst (v := (-1)) hx hb dX8_swap_26 (by decide) ?_
    have eR := some_i hf
    exact W.iret hx hb hr (fun t ht hW => ⟨⟨(-1), (), rfl, fst_e eR, by rw [← eR, ht]; exact hP, by rw [← eR]; exact hD⟩, hS.F ht⟩) hS.2.2 dX8_swap_27 (hlocks := hlk)
  · have hf := ite_f c_2 hf
    refine lv_aload_n hx hb dX8_swap_8 rfl (lv_at hl 0 rfl) ?_
    refine lv_iload_n hx hb dX8_swap_9 rfl (lv_at hl 2 rfl) ?_
    refine lv_iload_n hx hb dX8_swap_10 rfl (lv_at hl 1 rfl) ?_
    obtain ⟨r_3, hcr_3, hf⟩ := bd1_s hf
    refine backI (runV0 C (c_X8_isAt l D cA a_m m_s m_past m_pasts m_text m_typed m_faceOfSide m_firstSide m_faces m_before m_endA m_endB m_from m_queue m_ring m_ringSize m_ringNodes m_rings m_path m_pathSize m_old m_lastRing m_bestNodes m_bestInside m_bestFits m_far m_xs m_ys p2 p1 N r_3 hcr_3) cf_X8_isAt km_X8_82 ⟨rfl, rfl, by decide, by decide⟩ ⟨Nat.zero_le _, Nat.zero_le _⟩ (va_recv hK.1 hP (ci := 8) (q0 := 0) rfl rfl) (hP.sub [0, 1, 2, 3, 4, 5, 6, 7, 8, 9, 10, 11, 12, 13, 14, 15, 16, 17, 18] rfl) hK hl.1 rfl rfl (Nat.le_of_ble_eq_true rfl) dX8_swap_11) ?_
    refine lv_if_eq (tgt := 26) hx hb dX8_swap_14 (by decide) (fun c_4 => ?_) (fun c_4 => ?_)
    · have hf := ite_t c_4 hf
      refine lv_iconst (v := (-1)) hx hb dX8_swap_26 (by decide) ?_
      have eR := some_i hf
      exact W.iret hx hb hr (fun t ht hW => ⟨⟨(-1), (), rfl, fst_e eR, by rw [← eR, ht]; exact hP, by rw [← eR]; exact hD⟩, hS.F ht⟩) hS.2.2 dX8_swap_27 (hlocks := hlk)
    · have hf := ite_f c_4 hf
      refine lv_aload_n hx hb dX8_swap_17 rfl (lv_at hl 0 rfl) ?_
      refine lv_iload_n hx hb dX8_swap_18 rfl (lv_at hl 3 rfl) ?_
      refine lv_iload_n hx hb dX8_swap_19 rfl (lv_at hl 1 rfl) ?_
      obtain ⟨r_5, hcr_5, hf⟩ := bd1_s hf
      refine backI (runV0 C (c_X8_isAt l D cA a_m m_s m_past m_pasts m_text m_typed m_faceOfSide m_firstSide m_faces m_before m_endA m_endB m_from m_queue m_ring m_ringSize m_ringNodes m_rings m_path m_pathSize m_old m_lastRing m_bestNodes m_bestInside m_bestFits m_far m_xs m_ys p3 p1 N r_5 hcr_5) cf_X8_isAt km_X8_82 ⟨rfl, rfl, by decide, by decide⟩ ⟨Nat.zero_le _, Nat.zero_le _⟩ (va_recv hK.1 hP (ci := 8) (q0 := 0) rfl rfl) (hP.sub [0, 1, 2, 3, 4, 5, 6, 7, 8, 9, 10, 11, 12, 13, 14, 15, 16, 17, 18] rfl) hK hl.1 rfl rfl (Nat.le_of_ble_eq_true rfl) dX8_swap_20) ?_
      refine lv_if_ne (tgt := 28) hx hb dX8_swap_23 (by decide) (fun c_6 => ?_) (fun c_6 => ?_)
      · have hf := ite_t c_6 hf
        refine lv_aload_n hx hb dX8_swap_28 rfl (lv_at hl 0 rfl) ?_
        obtain ⟨r_7, hcr_7, hf⟩ := bd1_s hf
        refine backWv (w2 := (wX8 cA a_m m_s r_7.1 r_7.2 m_text m_typed m_faceOfSide m_firstSide m_faces m_before m_endA m_endB m_from m_queue m_ring m_ringSize m_ringNodes m_rings m_path m_pathSize m_old m_lastRing m_bestNodes m_bestInside m_bestFits m_far m_xs m_ys)) (runVw C (c_X8_notes l D cA a_m m_s m_past m_pasts m_text m_typed m_faceOfSide m_firstSide m_faces m_before m_endA m_endB m_from m_queue m_ring m_ringSize m_ringNodes m_rings m_path m_pathSize m_old m_lastRing m_bestNodes m_bestInside m_bestFits m_far m_xs m_ys _ N r_7 hcr_7) cf_X8_notes km_X8_90 ⟨rfl, rfl, by decide, by decide⟩ ⟨Nat.zero_le _, Nat.zero_le _⟩ (va_recv hK.1 hP (ci := 8) (q0 := 0) rfl rfl) (hP.sub [0, 1, 2, 3, 4, 5, 6, 7, 8, 9, 10, 11, 12, 13, 14, 15, 16, 17, 18] rfl) (hD.sub [0, 1, 2, 3, 4, 5, 6, 7, 8, 9, 10, 11, 12, 13, 14, 15, 16, 17, 18] rfl rfl) hK hl.1 rfl rfl (Nat.le_of_ble_eq_true rfl) dX8_swap_29) hP hD hS hA [0, 1, 2, 3, 4, 5, 6, 7, 8, 9, 10, 11, 12, 13, 14, 15, 16, 17, 18] rfl [] rfl rfl (by decide) [0, 1, 2, 3, 4, 5, 6, 7, 8, 9, 10, 11, 12, 13, 14, 15, 16, 17, 18] rfl rfl (fun H locs hP hD hS => ?_)
        refine lv_aload_n hx hb dX8_swap_32 rfl (lv_at hl 0 rfl) ?_
        refine lv_iload_n hx hb dX8_swap_33 rfl (lv_at hl 1 rfl) ?_
        refine lv_iload_n hx hb dX8_swap_34 rfl (lv_at hl 2 rfl) ?_
        obtain ⟨r_8, hcr_8, hf⟩ := bd1_s hf
        refine backI (runV0 C (c_X8_place l D cA a_m m_s r_7.1 r_7.2 m_text m_typed m_faceOfSide m_firstSide m_faces m_before m_endA m_endB m_from m_queue m_ring m_ringSize m_ringNodes m_rings m_path m_pathSize m_old m_lastRing m_bestNodes m_bestInside m_bestFits m_far m_xs m_ys p1 p2 N r_8 hcr_8) cf_X8_place km_X8_106 ⟨rfl, rfl, by decide, by decide⟩ ⟨Nat.zero_le _, Nat.zero_le _⟩ (va_recv hK.1 hP (ci := 8) (q0 := 0) rfl rfl) (hP.sub [0, 1, 2, 3, 4, 5, 6, 7, 8, 9, 10, 11, 12, 13, 14, 15, 16, 17, 18] rfl) hK hl.1 rfl rfl (Nat.le_of_ble_eq_true rfl) dX8_swap_35) ?_
        refine lv_istore (lv' := [(4, .int r_8), (0, .ref (a_m 0)), (1, .int p1), (2, .int p2), (3, .int p3)]) hx hb dX8_swap_38 hl (by decide) rfl (fun ls hl => ?_)
        refine lv_aload_n hx hb dX8_swap_40 rfl (lv_at hl 1 rfl) ?_
        refine lv_iload_n hx hb dX8_swap_41 rfl (lv_at hl 2 rfl) ?_
        refine lv_iload_n hx hb dX8_swap_42 rfl (lv_at hl 4 rfl) ?_
        obtain ⟨r_9, hcr_9, hf⟩ := bd1_s hf
        refine backI (runV0 C (c_X8_place l D cA a_m m_s r_7.1 r_7.2 m_text m_typed m_faceOfSide m_firstSide m_faces m_before m_endA m_endB m_from m_queue m_ring m_ringSize m_ringNodes m_rings m_path m_pathSize m_old m_lastRing m_bestNodes m_bestInside m_bestFits m_far m_xs m_ys p1 p3 N r_9 hcr_9) cf_X8_place km_X8_106 ⟨rfl, rfl, by decide, by decide⟩ ⟨Nat.zero_le _, Nat.zero_le _⟩ (va_recv hK.1 hP (ci := 8) (q0 := 0) rfl rfl) (hP.sub [0, 1, 2, 3, 4, 5, 6, 7, 8, 9, 10, 11, 12, 13, 14, 15, 16, 17, 18] rfl) hK hl.1 rfl rfl (Nat.le_of_ble_eq_true rfl) dX8_swap_43) ?_
        refine lv_istore (lv' := [(5, .int r_9), (4, .int r_8), (0, .ref (a_m 0)), (1, .int p1), (2, .int p2), (3, .int p3)]) hx hb dX8_swap_46 hl (by decide) rfl (fun ls hl => ?_)
        refine lv_aload_n hx hb dX8_swap_48 rfl (lv_at hl 2 rfl) ?_
        refine va_get (D := D) (ci := 8) (C := RX8) (T := TX8) (N := 27) hx hb hT kwX8 hown hK.1 hP 0 rfl rfl 0 (by decide) (hT _ kf_X8_7) (fun _ h9 => h9) rfl dX8_swap_49 ?_
        refine lv_bipush (v := 52) hx hb dX8_swap_52 (by decide) ?_
        refine lv_bipush (v := 8) hx hb dX8_swap_54 (by decide) ?_
        refine lv_iload_n hx hb dX8_swap_56 rfl (lv_at hl 3 rfl) ?_
        refine lv_imul hx hb dX8_swap_57 ?_
        refine lv_iadd hx hb dX8_swap_58 ?_
        refine lv_iload hx hb dX8_swap_59 (lv_at hl 1 rfl) ?_
        refine lv_iadd hx hb dX8_swap_61 ?_
        refine lv_iload_n hx hb dX8_swap_62 rfl (lv_at hl 5 rfl) ?_
        obtain ⟨h_10, hf⟩ := chk_s hf
        refine va_iast hx hb hK.1 hP hD hS 1 0 rfl rfl (inb_in h_10) dX8_swap_63 (fun H locs hP hD hS => ?_)
        have hP : va_P D vwCl (wX8 cA a_m (upd m_s ((52 + (8 * p1)) + r_8).toNatClampNeg p3) r_7.1 r_7.2 m_text m_typed m_faceOfSide m_firstSide m_faces m_before m_endA m_endB m_from m_queue m_ring m_ringSize m_ringNodes m_rings m_path m_pathSize m_old m_lastRing m_bestNodes m_bestInside m_bestFits m_far m_xs m_ys) H := hP
        have hD : va_D A (wX8 cA a_m (upd m_s ((52 + (8 * p1)) + r_8).toNatClampNeg p3) r_7.1 r_7.2 m_text m_typed m_faceOfSide m_firstSide m_faces m_before m_endA m_endB m_from m_queue m_ring m_ringSize m_ringNodes m_rings m_path m_pathSize m_old m_lastRing m_bestNodes m_bestInside m_bestFits m_far m_xs m_ys) := hD
        refine lv_aload_n hx hb dX8_swap_64 rfl (lv_at hl 2 rfl) ?_
        refine va_get (D := D) (ci := 8) (C := RX8) (T := TX8) (N := 27) hx hb hT kwX8 hown hK.1 hP 0 rfl rfl 0 (by decide) (hT _ kf_X8_7) (fun _ h9 => h9) rfl dX8_swap_65 ?_
        refine lv_bipush (v := 52) hx hb dX8_swap_68 (by decide) ?_
        refine lv_bipush (v := 8) hx hb dX8_swap_70 (by decide) ?_
        refine lv_iload_n hx hb dX8_swap_72 rfl (lv_at hl 3 rfl) ?_
        refine lv_imul hx hb dX8_swap_73 ?_
        refine lv_iadd hx hb dX8_swap_74 ?_
        refine lv_iload hx hb dX8_swap_75 (lv_at hl 0 rfl) ?_
        refine lv_iadd hx hb dX8_swap_77 ?_
        refine lv_iload_n hx hb dX8_swap_78 rfl (lv_at hl 4 rfl) ?_
        obtain ⟨h_11, hf⟩ := chk_s hf
        refine va_iast hx hb hK.1 hP hD hS 1 0 rfl rfl (inb_in h_11) dX8_swap_79 (fun H locs hP hD hS => ?_)
        have hP : va_P D vwCl (wX8 cA a_m (upd (upd m_s ((52 + (8 * p1)) + r_8).toNatClampNeg p3) ((52 + (8 * p1)) + r_9).toNatClampNeg p2) r_7.1 r_7.2 m_text m_typed m_faceOfSide m_firstSide m_faces m_before m_endA m_endB m_from m_queue m_ring m_ringSize m_ringNodes m_rings m_path m_pathSize m_old m_lastRing m_bestNodes m_bestInside m_bestFits m_far m_xs m_ys) H := hP
        have hD : va_D A (wX8 cA a_m (upd (upd m_s ((52 + (8 * p1)) + r_8).toNatClampNeg p3) ((52 + (8 * p1)) + r_9).toNatClampNeg p2) r_7.1 r_7.2 m_text m_typed m_faceOfSide m_firstSide m_faces m_before m_endA m_endB m_from m_queue m_ring m_ringSize m_ringNodes m_rings m_path m_pathSize m_old m_lastRing m_bestNodes m_bestInside m_bestFits m_far m_xs m_ys) := hD
        refine lv_aload_n hx hb dX8_swap_80 rfl (lv_at hl 2 rfl) ?_
        refine va_get (D := D) (ci := 8) (C := RX8) (T := TX8) (N := 27) hx hb hT kwX8 hown hK.1 hP 0 rfl rfl 0 (by decide) (hT _ kf_X8_7) (fun _ h9 => h9) rfl dX8_swap_81 ?_
        refine lv_iconst (v := 2) hx hb dX8_swap_84 (by decide) ?_
        refine lv_iconst (v := 0) hx hb dX8_swap_85 (by decide) ?_
        obtain ⟨h_12, hf⟩ := chk_s hf
        refine va_iast hx hb hK.1 hP hD hS 1 0 rfl rfl (inb_in h_12) dX8_swap_86 (fun H locs hP hD hS => ?_)
        have hP : va_P D vwCl (wX8 cA a_m (upd (upd (upd m_s ((52 + (8 * p1)) + r_8).toNatClampNeg p3) ((52 + (8 * p1)) + r_9).toNatClampNeg p2) (2 : Int32).toNatClampNeg 0) r_7.1 r_7.2 m_text m_typed m_faceOfSide m_firstSide m_faces m_before m_endA m_endB m_from m_queue m_ring m_ringSize m_ringNodes m_rings m_path m_pathSize m_old m_lastRing m_bestNodes m_bestInside m_bestFits m_far m_xs m_ys) H := hP
        have hD : va_D A (wX8 cA a_m (upd (upd (upd m_s ((52 + (8 * p1)) + r_8).toNatClampNeg p3) ((52 + (8 * p1)) + r_9).toNatClampNeg p2) (2 : Int32).toNatClampNeg 0) r_7.1 r_7.2 m_text m_typed m_faceOfSide m_firstSide m_faces m_before m_endA m_endB m_from m_queue m_ring m_ringSize m_ringNodes m_rings m_path m_pathSize m_old m_lastRing m_bestNodes m_bestInside m_bestFits m_far m_xs m_ys) := hD
        refine lv_aload_n hx hb dX8_swap_87 rfl (lv_at hl 2 rfl) ?_
        obtain ⟨r_13, hcr_13, hf⟩ := bd1_s hf
        refine backWi (w2 := (wX8 cA a_m (upd (upd (upd m_s ((52 + (8 * p1)) + r_8).toNatClampNeg p3) ((52 + (8 * p1)) + r_9).toNatClampNeg p2) (2 : Int32).toNatClampNeg 0) r_7.1 r_7.2 m_text m_typed r_13.2.1 r_13.2.2.1 r_13.2.2.2 m_before m_endA m_endB m_from m_queue m_ring m_ringSize m_ringNodes m_rings m_path m_pathSize m_old m_lastRing m_bestNodes m_bestInside m_bestFits m_far m_xs m_ys)) (runVw C (c_X8_genus l D cA a_m (upd (upd (upd m_s ((52 + (8 * p1)) + r_8).toNatClampNeg p3) ((52 + (8 * p1)) + r_9).toNatClampNeg p2) (2 : Int32).toNatClampNeg 0) r_7.1 r_7.2 m_text m_typed m_faceOfSide m_firstSide m_faces m_before m_endA m_endB m_from m_queue m_ring m_ringSize m_ringNodes m_rings m_path m_pathSize m_old m_lastRing m_bestNodes m_bestInside m_bestFits m_far m_xs m_ys _ N r_13 hcr_13) cf_X8_genus km_X8_113 ⟨rfl, rfl, by decide, by decide⟩ ⟨Nat.zero_le _, Nat.zero_le _⟩ (va_recv hK.1 hP (ci := 8) (q0 := 0) rfl rfl) (hP.sub [0, 1, 2, 3, 4, 5, 6, 7, 8, 9, 10, 11, 12, 13, 14, 15, 16, 17, 18] rfl) (hD.sub [0, 1, 2, 3, 4, 5, 6, 7, 8, 9, 10, 11, 12, 13, 14, 15, 16, 17, 18] rfl rfl) hK hl.1 rfl rfl (Nat.le_of_ble_eq_true rfl) dX8_swap_88) hP hD hS hA [0, 1, 2, 3, 4, 5, 6, 7, 8, 9, 10, 11, 12, 13, 14, 15, 16, 17, 18] rfl [] rfl rfl (by decide) [0, 1, 2, 3, 4, 5, 6, 7, 8, 9, 10, 11, 12, 13, 14, 15, 16, 17, 18] rfl rfl (fun H locs hP hD hS => ?_)
        refine lv_if_ne (tgt := 98) hx hb dX8_swap_91 (by decide) (fun c_14 => ?_) (fun c_14 => ?_)
        · have hf := ite_t c_14 hf
          refine lv_iconst (v := 0) hx hb dX8_swap_98 (by decide) ?_
          have eR := some_i hf
          exact W.iret hx hb hr (fun t ht hW => ⟨⟨0, (), rfl, fst_e eR, by rw [← eR, ht]; exact hP, by rw [← eR]; exact hD⟩, hS.F ht⟩) hS.2.2 dX8_swap_99 (hlocks := hlk)
        · have hf := ite_fn c_14 hf
          refine lv_iconst (v := 1) hx hb dX8_swap_94 (by decide) ?_
          refine lv_goto (tgt := 99) hx hb dX8_swap_95 (by decide) ?_
          have eR := some_i hf
          exact W.iret hx hb hr (fun t ht hW => ⟨⟨1, (), rfl, fst_e eR, by rw [← eR, ht]; exact hP, by rw [← eR]; exact hD⟩, hS.F ht⟩) hS.2.2 dX8_swap_99 (hlocks := hlk)
      · have hf := ite_fn c_6 hf
        refine lv_iconst (v := (-1)) hx hb dX8_swap_26 (by decide) ?_
        have eR := some_i hf
        exact W.iret hx hb hr (fun t ht hW => ⟨⟨(-1), (), rfl, fst_e eR, by rw [← eR, ht]; exact hP, by rw [← eR]; exact hD⟩, hS.F ht⟩) hS.2.2 dX8_swap_27 (hlocks := hlk)
set_option maxRecDepth 100000 in
set_option maxHeartbeats 4000000 in
theorem c_X8_undo (l : Launch) (D : va_G) (cA : Nat → ClassId) (a_m : Nat → Nat) (m_s : Nat → Int32) (m_past : Nat → Int32) (m_pasts : Int32) (m_text : Nat → Int32) (m_typed : Int32) (m_faceOfSide : Nat → Int32) (m_firstSide : Nat → Int32) (m_faces : Int32) (m_before : Nat → Int32) (m_endA : Nat → Int32) (m_endB : Nat → Int32) (m_from : Nat → Int32) (m_queue : Nat → Int32) (m_ring : Nat → Int32) (m_ringSize : Nat → Int32) (m_ringNodes : Nat → Int32) (m_rings : Int32) (m_path : Nat → Int32) (m_pathSize : Int32) (m_old : Nat → Int32) (m_lastRing : Int32) (m_bestNodes : Int32) (m_bestInside : Int32) (m_bestFits : Int32) (m_far : Nat → Int32) (m_xs : Nat → UInt32) (m_ys : Nat → UInt32) (sz N : Nat) (ρ : Int32 × (Nat → Int32) × Int32) (hf : f_X8_undo N m_s m_past m_pasts = some ρ) : Met l yX8_undo (Cond.code yX8_undo cX8_undo 2 (Option.some Jvm.ClassFile.FieldType.int) :: lw_g) ({ frames := 0, cells := 0, slots := 0, locals := 0 } : Room) (PcW D (tyA cA) (wX8 cA a_m m_s m_past m_pasts m_text m_typed m_faceOfSide m_firstSide m_faces m_before m_endA m_endB m_from m_queue m_ring m_ringSize m_ringNodes m_rings m_path m_pathSize m_old m_lastRing m_bestNodes m_bestInside m_bestFits m_far m_xs m_ys) sz [.ref (a_m 0)]) (va_Qi (fun r (_ : Unit) => r = ρ.1) (fun _ t => va_P D vwCl (wX8 cA a_m ρ.2.1 m_past ρ.2.2 m_text m_typed m_faceOfSide m_firstSide m_faces m_before m_endA m_endB m_from m_queue m_ring m_ringSize m_ringNodes m_rings m_path m_pathSize m_old m_lastRing m_bestNodes m_bestInside m_bestFits m_far m_xs m_ys) t.heap ∧ va_D (va_A (wX8 cA a_m m_s m_past m_pasts m_text m_typed m_faceOfSide m_firstSide m_faces m_before m_endA m_endB m_from m_queue m_ring m_ringSize m_ringNodes m_rings m_path m_pathSize m_old m_lastRing m_bestNodes m_bestInside m_bestFits m_far m_xs m_ys) sz) (wX8 cA a_m ρ.2.1 m_past ρ.2.2 m_text m_typed m_faceOfSide m_firstSide m_faces m_before m_endA m_endB m_from m_queue m_ring m_ringSize m_ringNodes m_rings m_path m_pathSize m_old m_lastRing m_bestNodes m_bestInside m_bestFits m_far m_xs m_ys)) (va_A (wX8 cA a_m m_s m_past m_pasts m_text m_typed m_faceOfSide m_firstSide m_faces m_before m_endA m_endB m_from m_queue m_ring m_ringSize m_ringNodes m_rings m_path m_pathSize m_old m_lastRing m_bestNodes m_bestInside m_bestFits m_far m_xs m_ys) sz)) 0 0 (va_A (wX8 cA a_m m_s m_past m_pasts m_text m_typed m_faceOfSide m_firstSide m_faces m_before m_endA m_endB m_from m_queue m_ring m_ringSize m_ringNodes m_rings m_path m_pathSize m_old m_lastRing m_bestNodes m_bestInside m_bestFits m_far m_xs m_ys) sz) := by
  refine mkW (QQ := fun A => va_Qi (fun r (_ : Unit) => r = ρ.1) (fun _ t => va_P D vwCl (wX8 cA a_m ρ.2.1 m_past ρ.2.2 m_text m_typed m_faceOfSide m_firstSide m_faces m_before m_endA m_endB m_from m_queue m_ring m_ringSize m_ringNodes m_rings m_path m_pathSize m_old m_lastRing m_bestNodes m_bestInside m_bestFits m_far m_xs m_ys) t.heap ∧ va_D A (wX8 cA a_m ρ.2.1 m_past ρ.2.2 m_text m_typed m_faceOfSide m_firstSide m_faces m_before m_endA m_endB m_from m_queue m_ring m_ringSize m_ringNodes m_rings m_path m_pathSize m_old m_lastRing m_bestNodes m_bestInside m_bestFits m_far m_xs m_ys)) A) (by decide) (Nat.le_of_ble_eq_true rfl) fun p e s m below meth c ls A C hl hP hK hD hA hS => ?_
  obtain ⟨hx, hb, hml, hown, hT, hr, hlk⟩ := id C
  have hl : lv_has ls 2 [(0, .ref (a_m 0))] := hl
  have B22 : ∀ (n22 : Nat), ∀ (x1 : Int32) (m_s : Nat → Int32) (m_pasts : Int32) (H : Heap) (locs : List Loc) (ls : Array Slot), lv_has ls 2 [(0, .ref (a_m 0)), (1, .int x1)] → va_P D vwCl (wX8 cA a_m m_s m_past m_pasts m_text m_typed m_faceOfSide m_firstSide m_faces m_before m_endA m_endB m_from m_queue m_ring m_ringSize m_ringNodes m_rings m_path m_pathSize m_old m_lastRing m_bestNodes m_bestInside m_bestFits m_far m_xs m_ys) H → va_D A (wX8 cA a_m m_s m_past m_pasts m_text m_typed m_faceOfSide m_firstSide m_faces m_before m_endA m_endB m_from m_queue m_ring m_ringSize m_ringNodes m_rings m_path m_pathSize m_old m_lastRing m_bestNodes m_bestInside m_bestFits m_far m_xs m_ys) → va_S A s.heap H locs → f_X8_undo_b22 N m_past n22 x1 m_s m_pasts = some ρ → W p l e ({ frames := 0, cells := 0, slots := 0, locals := 0 } : Room) s m ([.ref (a_m 0)] : List Value).toArray below meth c H locs 0 0 (MQ below (va_Qi (fun r (_ : Unit) => r = ρ.1) (fun _ t => va_P D vwCl (wX8 cA a_m ρ.2.1 m_past ρ.2.2 m_text m_typed m_faceOfSide m_firstSide m_faces m_before m_endA m_endB m_from m_queue m_ring m_ringSize m_ringNodes m_rings m_path m_pathSize m_old m_lastRing m_bestNodes m_bestInside m_bestFits m_far m_xs m_ys) t.heap ∧ va_D A (wX8 cA a_m ρ.2.1 m_past ρ.2.2 m_text m_typed m_faceOfSide m_firstSide m_faces m_before m_endA m_endB m_from m_queue m_ring m_ringSize m_ringNodes m_rings m_path m_pathSize m_old m_lastRing m_bestNodes m_bestInside m_bestFits m_far m_xs m_ys)) A) ([.ref (a_m 0)] : List Value).toArray s 0 0 A) (F0 m 22 ls []) := by
    intro n22
    induction n22 with
    | zero =>
      intro x1 m_s m_pasts H locs ls hl hP hD hS hf
      cases (show (none : Option (Int32 × (Nat → Int32) × Int32)) = some ρ from hf)
    | succ n22 ih22 =>
      intro x1 m_s m_pasts H locs ls hl hP hD hS hf
      refine lv_iload_n hx hb dX8_undo_22 rfl (lv_at hl 1 rfl) ?_
      refine lv_bipush (v := 124) hx hb dX8_undo_23 (by decide) ?_
      refine lv_icmp_ge (tgt := 54) hx hb dX8_undo_25 (by decide) (fun c_2 => ?_) (fun c_2 => ?_)
      · have hf := ite_t c_2 hf
        refine lv_aload_n hx hb dX8_undo_54 rfl (lv_at hl 0 rfl) ?_
        refine va_get (D := D) (ci := 8) (C := RX8) (T := TX8) (N := 27) hx hb hT kwX8 hown hK.1 hP 0 rfl rfl 2 (by decide) (hT _ kf_X8_66) (fun _ h9 => h9) rfl dX8_undo_55 ?_
        have eR := some_i hf
        exact W.iret hx hb hr (fun t ht hW => ⟨⟨m_pasts, (), rfl, fst_e eR, by rw [← eR, ht]; exact hP, by rw [← eR]; exact hD⟩, hS.F ht⟩) hS.2.2 dX8_undo_58 (hlocks := hlk)
      · have hf := ite_f c_2 hf
        refine lv_aload_n hx hb dX8_undo_28 rfl (lv_at hl 0 rfl) ?_
        refine va_get (D := D) (ci := 8) (C := RX8) (T := TX8) (N := 27) hx hb hT kwX8 hown hK.1 hP 0 rfl rfl 0 (by decide) (hT _ kf_X8_7) (fun _ h9 => h9) rfl dX8_undo_29 ?_
        refine lv_iload_n hx hb dX8_undo_32 rfl (lv_at hl 1 rfl) ?_
        refine lv_aload_n hx hb dX8_undo_33 rfl (lv_at hl 0 rfl) ?_
        refine va_get (D := D) (ci := 8) (C := RX8) (T := TX8) (N := 27) hx hb hT kwX8 hown hK.1 hP 0 rfl rfl 1 (by decide) (hT _ kf_X8_13) (fun _ h9 => h9) rfl dX8_undo_34 ?_
        refine lv_bipush (v := 124) hx hb dX8_undo_37 (by decide) ?_
        refine lv_aload_n hx hb dX8_undo_39 rfl (lv_at hl 0 rfl) ?_
        refine va_get (D := D) (ci := 8) (C := RX8) (T := TX8) (N := 27) hx hb hT kwX8 hown hK.1 hP 0 rfl rfl 2 (by decide) (hT _ kf_X8_66) (fun _ h9 => h9) rfl dX8_undo_40 ?_
        refine lv_imul hx hb dX8_undo_43 ?_
        refine lv_iload_n hx hb dX8_undo_44 rfl (lv_at hl 1 rfl) ?_
        refine lv_iadd hx hb dX8_undo_45 ?_
        obtain ⟨h_3, hf⟩ := chk_s hf
        refine va_iald hx hb hK.1 hP 2 0 rfl rfl (inb_in h_3) dX8_undo_46 ?_
        obtain ⟨h_4, hf⟩ := chk_s hf
        refine va_iast hx hb hK.1 hP hD hS 1 0 rfl rfl (inb_in h_4) dX8_undo_47 (fun H locs hP hD hS => ?_)
        have hP : va_P D vwCl (wX8 cA a_m (upd m_s x1.toNatClampNeg (m_past ((124 * m_pasts) + x1).toNatClampNeg)) m_past m_pasts m_text m_typed m_faceOfSide m_firstSide m_faces m_before m_endA m_endB m_from m_queue m_ring m_ringSize m_ringNodes m_rings m_path m_pathSize m_old m_lastRing m_bestNodes m_bestInside m_bestFits m_far m_xs m_ys) H := hP
        have hD : va_D A (wX8 cA a_m (upd m_s x1.toNatClampNeg (m_past ((124 * m_pasts) + x1).toNatClampNeg)) m_past m_pasts m_text m_typed m_faceOfSide m_firstSide m_faces m_before m_endA m_endB m_from m_queue m_ring m_ringSize m_ringNodes m_rings m_path m_pathSize m_old m_lastRing m_bestNodes m_bestInside m_bestFits m_far m_xs m_ys) := hD
        refine lv_iinc (v := (x1 + 1)) (lv' := [(1, .int (x1 + 1)), (0, .ref (a_m 0))]) hx hb dX8_undo_48 hl (k := 1) rfl rfl (by decide) rfl (fun ls hl => ?_)
        refine lv_goto (tgt := 22) hx hb dX8_undo_51 (by decide) ?_
        exact ih22 (x1 + 1) (upd m_s x1.toNatClampNeg (m_past ((124 * m_pasts) + x1).toNatClampNeg)) m_pasts _ _ _ (lv_sub hl [1, 0] rfl) hP hD hS hf
  refine lv_aload_n hx hb dX8_undo_0 rfl (lv_at hl 0 rfl) ?_
  refine va_get (D := D) (ci := 8) (C := RX8) (T := TX8) (N := 27) hx hb hT kwX8 hown hK.1 hP 0 rfl rfl 2 (by decide) (hT _ kf_X8_66) (fun _ h9 => h9) rfl dX8_undo_1 ?_
  refine lv_if_ne (tgt := 10) hx hb dX8_undo_4 (by decide) (fun c_1 => ?_) (fun c_1 => ?_)
  · have hf := ite_t c_1 hf
    refine lv_aload_n hx hb dX8_undo_10 rfl (lv_at hl 0 rfl) ?_
    refine lv_dup hx hb dX8_undo_11 rfl ?_
    refine va_get (D := D) (ci := 8) (C := RX8) (T := TX8) (N := 27) hx hb hT kwX8 hown hK.1 hP 0 rfl rfl 2 (by decide) (hT _ kf_X8_66) (fun _ h9 => h9) rfl dX8_undo_12 ?_
    refine lv_iconst (v := 1) hx hb dX8_undo_15 (by decide) ?_
    refine lv_isub hx hb dX8_undo_16 ?_
    refine va_put (D := D) (ci := 8) (v := .int (m_pasts - 1)) (ty := .int) (C := RX8) (T := TX8) (N := 27) hx hb hT kwX8 tyX8 tyX8_ok nmX8 hown hK.1 hP hD hS 0 rfl rfl 2 (by decide) (hT _ kf_X8_66) (fun _ h9 => h9) rfl (by decide +kernel) rfl rfl (Nat.le_of_ble_eq_true rfl) dX8_undo_17 (fun H locs hP hD hS => ?_)
    have hP : va_P D vwCl (wX8 cA a_m m_s m_past (m_pasts - 1) m_text m_typed m_faceOfSide m_firstSide m_faces m_before m_endA m_endB m_from m_queue m_ring m_ringSize m_ringNodes m_rings m_path m_pathSize m_old m_lastRing m_bestNodes m_bestInside m_bestFits m_far m_xs m_ys) H := hP
    have hD : va_D A (wX8 cA a_m m_s m_past (m_pasts - 1) m_text m_typed m_faceOfSide m_firstSide m_faces m_before m_endA m_endB m_from m_queue m_ring m_ringSize m_ringNodes m_rings m_path m_pathSize m_old m_lastRing m_bestNodes m_bestInside m_bestFits m_far m_xs m_ys) := hD
    refine lv_iconst (v := 0) hx hb dX8_undo_20 (by decide) ?_
    refine lv_istore_n (lv' := [(1, .int 0), (0, .ref (a_m 0))]) hx hb dX8_undo_21 rfl hl (by decide) rfl (fun ls hl => ?_)
    exact B22 N 0 m_s (m_pasts - 1) _ _ _ (lv_sub hl [1, 0] rfl) hP hD hS hf
  · have hf := ite_fn c_1 hf
    refine lv_bipush (v := (-2)) hx hb dX8_undo_7 (by decide) ?_
    have eR := some_i hf
    exact W.iret hx hb hr (fun t ht hW => ⟨⟨(-2), (), rfl, fst_e eR, by rw [← eR, ht]; exact hP, by rw [← eR]; exact hD⟩, hS.F ht⟩) hS.2.2 dX8_undo_9 (hlocks := hlk)
set_option maxRecDepth 100000 in
set_option maxHeartbeats 4000000 in
theorem c_X8_walk (l : Launch) (D : va_G) (cA : Nat → ClassId) (a_m : Nat → Nat) (m_s : Nat → Int32) (m_past : Nat → Int32) (m_pasts : Int32) (m_text : Nat → Int32) (m_typed : Int32) (m_faceOfSide : Nat → Int32) (m_firstSide : Nat → Int32) (m_faces : Int32) (m_before : Nat → Int32) (m_endA : Nat → Int32) (m_endB : Nat → Int32) (m_from : Nat → Int32) (m_queue : Nat → Int32) (m_ring : Nat → Int32) (m_ringSize : Nat → Int32) (m_ringNodes : Nat → Int32) (m_rings : Int32) (m_path : Nat → Int32) (m_pathSize : Int32) (m_old : Nat → Int32) (m_lastRing : Int32) (m_bestNodes : Int32) (m_bestInside : Int32) (m_bestFits : Int32) (m_far : Nat → Int32) (m_xs : Nat → UInt32) (m_ys : Nat → UInt32) (p1 : Int32) (p2 : Int32) (sz N : Nat) (ρ : Int32 × (Nat → Int32) × (Nat → Int32) × Int32) (hf : f_X8_walk N m_s m_faceOfSide m_firstSide m_faces p1 p2 = some ρ) : Met l yX8_walk (Cond.code yX8_walk cX8_walk 5 (Option.some Jvm.ClassFile.FieldType.int) :: lw_g) ({ frames := 4, cells := 0, slots := 0, locals := 91 } : Room) (PcW D (tyA cA) (wX8 cA a_m m_s m_past m_pasts m_text m_typed m_faceOfSide m_firstSide m_faces m_before m_endA m_endB m_from m_queue m_ring m_ringSize m_ringNodes m_rings m_path m_pathSize m_old m_lastRing m_bestNodes m_bestInside m_bestFits m_far m_xs m_ys) sz [.ref (a_m 0), .int p1, .int p2]) (va_Qi (fun r (_ : Unit) => r = ρ.1) (fun _ t => va_P D vwCl (wX8 cA a_m m_s m_past m_pasts m_text m_typed ρ.2.1 ρ.2.2.1 ρ.2.2.2 m_before m_endA m_endB m_from m_queue m_ring m_ringSize m_ringNodes m_rings m_path m_pathSize m_old m_lastRing m_bestNodes m_bestInside m_bestFits m_far m_xs m_ys) t.heap ∧ va_D (va_A (wX8 cA a_m m_s m_past m_pasts m_text m_typed m_faceOfSide m_firstSide m_faces m_before m_endA m_endB m_from m_queue m_ring m_ringSize m_ringNodes m_rings m_path m_pathSize m_old m_lastRing m_bestNodes m_bestInside m_bestFits m_far m_xs m_ys) sz) (wX8 cA a_m m_s m_past m_pasts m_text m_typed ρ.2.1 ρ.2.2.1 ρ.2.2.2 m_before m_endA m_endB m_from m_queue m_ring m_ringSize m_ringNodes m_rings m_path m_pathSize m_old m_lastRing m_bestNodes m_bestInside m_bestFits m_far m_xs m_ys)) (va_A (wX8 cA a_m m_s m_past m_pasts m_text m_typed m_faceOfSide m_firstSide m_faces m_before m_endA m_endB m_from m_queue m_ring m_ringSize m_ringNodes m_rings m_path m_pathSize m_old m_lastRing m_bestNodes m_bestInside m_bestFits m_far m_xs m_ys) sz)) 0 0 (va_A (wX8 cA a_m m_s m_past m_pasts m_text m_typed m_faceOfSide m_firstSide m_faces m_before m_endA m_endB m_from m_queue m_ring m_ringSize m_ringNodes m_rings m_path m_pathSize m_old m_lastRing m_bestNodes m_bestInside m_bestFits m_far m_xs m_ys) sz) := by
  refine mkW (QQ := fun A => va_Qi (fun r (_ : Unit) => r = ρ.1) (fun _ t => va_P D vwCl (wX8 cA a_m m_s m_past m_pasts m_text m_typed ρ.2.1 ρ.2.2.1 ρ.2.2.2 m_before m_endA m_endB m_from m_queue m_ring m_ringSize m_ringNodes m_rings m_path m_pathSize m_old m_lastRing m_bestNodes m_bestInside m_bestFits m_far m_xs m_ys) t.heap ∧ va_D A (wX8 cA a_m m_s m_past m_pasts m_text m_typed ρ.2.1 ρ.2.2.1 ρ.2.2.2 m_before m_endA m_endB m_from m_queue m_ring m_ringSize m_ringNodes m_rings m_path m_pathSize m_old m_lastRing m_bestNodes m_bestInside m_bestFits m_far m_xs m_ys)) A) (by decide) (Nat.le_of_ble_eq_true rfl) fun p e s m below meth c ls A C hl hP hK hD hA hS => ?_
  obtain ⟨hx, hb, hml, hown, hT, hr, hlk⟩ := id C
  have hl : lv_has ls 5 [(0, .ref (a_m 0)), (1, .int p1), (2, .int p2)] := hl
  have B46 : ∀ (n46 : Nat), ∀ (x2 : Int32) (x3 : Int32) (x4 : Int32) (m_faceOfSide : Nat → Int32) (m_firstSide : Nat → Int32) (m_faces : Int32) (H : Heap) (locs : List Loc) (ls : Array Slot), lv_has ls 5 [(0, .ref (a_m 0)), (2, .int x2), (3, .int x3), (4, .int x4)] → va_P D vwCl (wX8 cA a_m m_s m_past m_pasts m_text m_typed m_faceOfSide m_firstSide m_faces m_before m_endA m_endB m_from m_queue m_ring m_ringSize m_ringNodes m_rings m_path m_pathSize m_old m_lastRing m_bestNodes m_bestInside m_bestFits m_far m_xs m_ys) H → va_D A (wX8 cA a_m m_s m_past m_pasts m_text m_typed m_faceOfSide m_firstSide m_faces m_before m_endA m_endB m_from m_queue m_ring m_ringSize m_ringNodes m_rings m_path m_pathSize m_old m_lastRing m_bestNodes m_bestInside m_bestFits m_far m_xs m_ys) → va_S A s.heap H locs → f_X8_walk_b46 N m_s n46 x2 x3 x4 m_faceOfSide m_firstSide m_faces = some ρ → W p l e ({ frames := 4, cells := 0, slots := 0, locals := 91 } : Room) s m ([.ref (a_m 0), .int p1, .int p2] : List Value).toArray below meth c H locs 0 0 (MQ below (va_Qi (fun r (_ : Unit) => r = ρ.1) (fun _ t => va_P D vwCl (wX8 cA a_m m_s m_past m_pasts m_text m_typed ρ.2.1 ρ.2.2.1 ρ.2.2.2 m_before m_endA m_endB m_from m_queue m_ring m_ringSize m_ringNodes m_rings m_path m_pathSize m_old m_lastRing m_bestNodes m_bestInside m_bestFits m_far m_xs m_ys) t.heap ∧ va_D A (wX8 cA a_m m_s m_past m_pasts m_text m_typed ρ.2.1 ρ.2.2.1 ρ.2.2.2 m_before m_endA m_endB m_from m_queue m_ring m_ringSize m_ringNodes m_rings m_path m_pathSize m_old m_lastRing m_bestNodes m_bestInside m_bestFits m_far m_xs m_ys)) A) ([.ref (a_m 0), .int p1, .int p2] : List Value).toArray s 0 0 A) (F0 m 46 ls []) := by
    intro n46
    induction n46 with
    | zero =>
      intro x2 x3 x4 m_faceOfSide m_firstSide m_faces H locs ls hl hP hD hS hf
      cases (show (none : Option (Int32 × (Nat → Int32) × (Nat → Int32) × Int32)) = some ρ from hf)
    | succ n46 ih46 =>
      intro x2 x3 x4 m_faceOfSide m_firstSide m_faces H locs ls hl hP hD hS hf
      refine lv_iload hx hb dX8_walk_46 (lv_at hl 3 rfl) ?_
      refine lv_iload_n hx hb dX8_walk_48 rfl (lv_at hl 1 rfl) ?_
      refine lv_icmp_ge (tgt := 64) hx hb dX8_walk_49 (by decide) (fun c_9 => ?_) (fun c_9 => ?_)
      · have hf := ite_t c_9 hf
        refine lv_iload_n hx hb dX8_walk_64 rfl (lv_at hl 2 rfl) ?_
        have eR := some_i hf
        exact W.iret hx hb hr (fun t ht hW => ⟨⟨x3, (), rfl, fst_e eR, by rw [← eR, ht]; exact hP, by rw [← eR]; exact hD⟩, hS.F ht⟩) hS.2.2 dX8_walk_65 (hlocks := hlk)
      · have hf := ite_f c_9 hf
        refine lv_aload_n hx hb dX8_walk_52 rfl (lv_at hl 0 rfl) ?_
        refine lv_iload_n hx hb dX8_walk_53 rfl (lv_at hl 2 rfl) ?_
        obtain ⟨r_10, hcr_10, hf⟩ := bd1_s hf
        refine backI (runV0 C (c_X8_follows l D cA a_m m_s m_past m_pasts m_text m_typed m_faceOfSide m_firstSide m_faces m_before m_endA m_endB m_from m_queue m_ring m_ringSize m_ringNodes m_rings m_path m_pathSize m_old m_lastRing m_bestNodes m_bestInside m_bestFits m_far m_xs m_ys x3 N r_10 hcr_10) cf_X8_follows km_X8_130 ⟨rfl, rfl, by decide, by decide⟩ ⟨Nat.zero_le _, Nat.zero_le _⟩ (va_recv hK.1 hP (ci := 8) (q0 := 0) rfl rfl) (hP.sub [0, 1, 2, 3, 4, 5, 6, 7, 8, 9, 10, 11, 12, 13, 14, 15, 16, 17, 18] rfl) hK hl.1 rfl rfl (Nat.le_of_ble_eq_true rfl) dX8_walk_54) ?_
        refine lv_istore_n (lv' := [(3, .int r_10), (0, .ref (a_m 0)), (2, .int x2), (4, .int x4)]) hx hb dX8_walk_57 rfl hl (by decide) rfl (fun ls hl => ?_)
        refine lv_iinc (v := (x4 + 1)) (lv' := [(4, .int (x4 + 1)), (3, .int r_10), (0, .ref (a_m 0)), (2, .int x2)]) hx hb dX8_walk_58 hl (k := 3) rfl rfl (by decide) rfl (fun ls hl => ?_)
        refine lv_goto (tgt := 46) hx hb dX8_walk_61 (by decide) ?_
        exact ih46 x2 r_10 (x4 + 1) m_faceOfSide m_firstSide m_faces _ _ _ (lv_sub hl [2, 3, 1, 0] rfl) hP hD hS hf
  refine lv_aload_n hx hb dX8_walk_0 rfl (lv_at hl 0 rfl) ?_
  obtain ⟨r_1, hcr_1, hf⟩ := bd1_s hf
  refine backWv (w2 := (wX8 cA a_m m_s m_past m_pasts m_text m_typed r_1.1 r_1.2.1 r_1.2.2 m_before m_endA m_endB m_from m_queue m_ring m_ringSize m_ringNodes m_rings m_path m_pathSize m_old m_lastRing m_bestNodes m_bestInside m_bestFits m_far m_xs m_ys)) (runVw C (c_X8_walks l D cA a_m m_s m_past m_pasts m_text m_typed m_faceOfSide m_firstSide m_faces m_before m_endA m_endB m_from m_queue m_ring m_ringSize m_ringNodes m_rings m_path m_pathSize m_old m_lastRing m_bestNodes m_bestInside m_bestFits m_far m_xs m_ys _ N r_1 hcr_1) cf_X8_walks km_X8_117 ⟨rfl, rfl, by decide, by decide⟩ ⟨Nat.zero_le _, Nat.zero_le _⟩ (va_recv hK.1 hP (ci := 8) (q0 := 0) rfl rfl) (hP.sub [0, 1, 2, 3, 4, 5, 6, 7, 8, 9, 10, 11, 12, 13, 14, 15, 16, 17, 18] rfl) (hD.sub [0, 1, 2, 3, 4, 5, 6, 7, 8, 9, 10, 11, 12, 13, 14, 15, 16, 17, 18] rfl rfl) hK hl.1 rfl rfl (Nat.le_of_ble_eq_true rfl) dX8_walk_1) hP hD hS hA [0, 1, 2, 3, 4, 5, 6, 7, 8, 9, 10, 11, 12, 13, 14, 15, 16, 17, 18] rfl [] rfl rfl (by decide) [0, 1, 2, 3, 4, 5, 6, 7, 8, 9, 10, 11, 12, 13, 14, 15, 16, 17, 18] rfl rfl (fun H locs hP hD hS => ?_)
  refine lv_iload_n hx hb dX8_walk_4 rfl (lv_at hl 1 rfl) ?_
  refine lv_iconst (v := 0) hx hb dX8_walk_5 (by decide) ?_
  refine lv_aload_n hx hb dX8_walk_6 rfl (lv_at hl 0 rfl) ?_
  refine va_get (D := D) (ci := 8) (C := RX8) (T := TX8) (N := 27) hx hb hT kwX8 hown hK.1 hP 0 rfl rfl 7 (by decide) (hT _ kf_X8_120) (fun _ h9 => h9) rfl dX8_walk_7 ?_
  refine lv_iconst (v := 1) hx hb dX8_walk_10 (by decide) ?_
  refine lv_isub hx hb dX8_walk_11 ?_
  obtain ⟨r_2, hcr_2, hf⟩ := bd1_s hf
  refine backI (runS0 C (c_X8_in l D cA p1 0 (r_1.2.2 - 1) N r_2 hcr_2) cf_X8_in km_X8_70 ⟨rfl, rfl, by decide, by decide⟩ ⟨Nat.zero_le _, Nat.zero_le _⟩ (hP.sub [] rfl) hK hl.1 rfl rfl (Nat.le_of_ble_eq_true rfl) dX8_walk_12) ?_
  refine lv_if_eq (tgt := 22) hx hb dX8_walk_15 (by decide) (fun c_3 => ?_) (fun c_3 => ?_)
  · have hf := ite_t c_3 hf
    refine lv_iconst (v := (-1)) hx hb dX8_walk_22 (by decide) ?_
    have eR := some_i hf
    exact W.iret hx hb hr (fun t ht hW => ⟨⟨(-1), (), rfl, fst_e eR, by rw [← eR, ht]; exact hP, by rw [← eR]; exact hD⟩, hS.F ht⟩) hS.2.2 dX8_walk_23 (hlocks := hlk)
  · have hf := ite_f c_3 hf
    refine lv_iload_n hx hb dX8_walk_18 rfl (lv_at hl 2 rfl) ?_
    refine lv_if_ge (tgt := 24) hx hb dX8_walk_19 (by decide) (fun c_4 => ?_) (fun c_4 => ?_)
    · have hf := ite_t c_4 hf
      refine lv_iload_n hx hb dX8_walk_24 rfl (lv_at hl 2 rfl) ?_
      refine lv_aload_n hx hb dX8_walk_25 rfl (lv_at hl 0 rfl) ?_
      refine lv_iload_n hx hb dX8_walk_26 rfl (lv_at hl 1 rfl) ?_
      obtain ⟨r_5, hcr_5, hf⟩ := bd1_s hf
      refine backI (runV0 C (c_X8_lengthOf l D cA a_m m_s m_past m_pasts m_text m_typed r_1.1 r_1.2.1 r_1.2.2 m_before m_endA m_endB m_from m_queue m_ring m_ringSize m_ringNodes m_rings m_path m_pathSize m_old m_lastRing m_bestNodes m_bestInside m_bestFits m_far m_xs m_ys p1 N r_5 hcr_5) cf_X8_lengthOf km_X8_154 ⟨rfl, rfl, by decide, by decide⟩ ⟨Nat.zero_le _, Nat.zero_le _⟩ (va_recv hK.1 hP (ci := 8) (q0 := 0) rfl rfl) (hP.sub [0, 1, 2, 3, 4, 5, 6, 7, 8, 9, 10, 11, 12, 13, 14, 15, 16, 17, 18] rfl) hK hl.1 rfl rfl (Nat.le_of_ble_eq_true rfl) dX8_walk_27) ?_
      refine lv_icmp_lt (tgt := 36) hx hb dX8_walk_30 (by decide) (fun c_6 => ?_) (fun c_6 => ?_)
      · have hf := ite_t c_6 hf
        refine lv_aload_n hx hb dX8_walk_36 rfl (lv_at hl 0 rfl) ?_
        refine va_get (D := D) (ci := 8) (C := RX8) (T := TX8) (N := 27) hx hb hT kwX8 hown hK.1 hP 0 rfl rfl 6 (by decide) (hT _ kf_X8_23) (fun _ h9 => h9) rfl dX8_walk_37 ?_
        refine lv_iload_n hx hb dX8_walk_40 rfl (lv_at hl 1 rfl) ?_
        obtain ⟨h_7, hf⟩ := chk_s hf
        refine va_iald hx hb hK.1 hP 5 0 rfl rfl (inb_in h_7) dX8_walk_41 ?_
        refine lv_topi (fun x3_8 ex3_8 => ?_)
        have hf := nm_t ex3_8 hf
        refine lv_istore_n (lv' := [(3, .int x3_8), (0, .ref (a_m 0)), (1, .int p1), (2, .int p2)]) hx hb dX8_walk_42 rfl hl (by decide) rfl (fun ls hl => ?_)
        refine lv_iconst (v := 0) hx hb dX8_walk_43 (by decide) ?_
        refine lv_istore (lv' := [(4, .int 0), (3, .int x3_8), (0, .ref (a_m 0)), (1, .int p1), (2, .int p2)]) hx hb dX8_walk_44 hl (by decide) rfl (fun ls hl => ?_)
        exact B46 N p2 x3_8 0 r_1.1 r_1.2.1 r_1.2.2 _ _ _ (lv_sub hl [2, 4, 1, 0] rfl) hP hD hS hf
      · have hf := ite_f c_6 hf
        refine lv_bipush (v := (-9)) hx hb dX8_walk_33 (by decide) ?_
        have eR := some_i hf
        exact W.iret hx hb hr (fun t ht hW => ⟨⟨(-9), (), rfl, fst_e eR, by rw [← eR, ht]; exact hP, by rw [← eR]; exact hD⟩, hS.F ht⟩) hS.2.2 dX8_walk_35 (hlocks := hlk)
    · have hf := ite_f c_4 hf
      refine lv_iconst (v := (-1)) hx hb dX8_walk_22 (by decide) ?_
      have eR := some_i hf
      exact W.iret hx hb hr (fun t ht hW => ⟨⟨(-1), (), rfl, fst_e eR, by rw [← eR, ht]; exact hP, by rw [← eR]; exact hD⟩, hS.F ht⟩) hS.2.2 dX8_walk_23 (hlocks := hlk)
