/-! Arrays.fill of ints -/
set_option maxRecDepth 100000 in
set_option maxHeartbeats 4000000 in
theorem c_J7_fill_53178 (l : Launch) (D : va_G) (cA : Nat → ClassId) (a : Nat) (n : Nat) (hn : n < 2 ^ 31) (f : Nat → Int32) (v : Int32) (sz : Nat) : Met l yJ7_fill_53178 (Cond.code yJ7_fill_53178 cJ7_fill_53178 4 (Option.none : Option Jvm.ClassFile.FieldType) :: lw_g) ({ frames := 0, cells := 0, slots := 0, locals := 0 } : Room) (PcW D (tyA cA) [(a, .inl (cA 0, n, .inl f))] sz [.ref a, .int v]) (va_Qv (fun (_ : Unit) => True) (fun _ t => va_P D vwCl [(a, .inl (cA 0, n, .inl (filled n v f)))] t.heap ∧ va_D (va_A [(a, .inl (cA 0, n, .inl f))] sz) [(a, .inl (cA 0, n, .inl (filled n v f)))]) (va_A [(a, .inl (cA 0, n, .inl f))] sz)) 0 0 (va_A [(a, .inl (cA 0, n, .inl f))] sz) := by
  refine mkW (QQ := fun A => va_Qv (fun (_ : Unit) => True) (fun _ t => va_P D vwCl [(a, .inl (cA 0, n, .inl (filled n v f)))] t.heap ∧ va_D A [(a, .inl (cA 0, n, .inl (filled n v f)))]) A) (by decide) (Nat.le_of_ble_eq_true rfl) fun p e s m below meth c ls A C hl hP hK hD hA hS => ?_
  obtain ⟨hx, hb, hml, hown, hT, hr, hlk⟩ := id C
  have hl : lv_has ls 4 [(0, .ref a), (1, .int v)] := hl
  have B5 : ∀ (k j : Nat) (H : Heap) (locs : List Loc) (ls : Array Slot), j ≤ n → n - j < k → lv_has ls 4 [(0, .ref a), (1, .int v), (2, .int (nI j)), (3, .int (nI n))] → va_P D vwCl [(a, .inl (cA 0, n, .inl (filled j v f)))] H → va_D A [(a, .inl (cA 0, n, .inl (filled j v f)))] → va_S A s.heap H locs → W p l e ({ frames := 0, cells := 0, slots := 0, locals := 0 } : Room) s m ([.ref a, .int v] : List Value).toArray below meth c H locs 0 0 (MQ below (va_Qv (fun (_ : Unit) => True) (fun _ t => va_P D vwCl [(a, .inl (cA 0, n, .inl (filled n v f)))] t.heap ∧ va_D A [(a, .inl (cA 0, n, .inl (filled n v f)))]) A) ([.ref a, .int v] : List Value).toArray s 0 0 A) (F0 m 5 ls []) := by
    intro k
    induction k with
    | zero => intro j H locs ls h1 h2; omega
    | succ k ih =>
      intro j H locs ls hj hk hl hP hD hS
      refine lv_iload_n hx hb dJ7_fill_53178_5 rfl (lv_at hl 2 rfl) ?_
      refine lv_iload_n hx hb dJ7_fill_53178_6 rfl (lv_at hl 3 rfl) ?_
      refine lv_icmp_ge (tgt := 20) hx hb dJ7_fill_53178_7 (by decide) (fun c1 => ?_) (fun c1 => ?_)
      · have e : j = n := by
          rcases Nat.lt_or_ge j n with q | q
          · exact absurd c1 (nI_ge q hn)
          · omega
        subst e
        exact W.vret hx hb hr (fun t ht hW => ⟨⟨(), rfl, trivial, by rw [ht]; exact hP, hD⟩, hS.F ht⟩) hS.2.2 dJ7_fill_53178_20 (hlocks := hlk)
      · have q : j < n := by
          rcases Nat.lt_or_ge j n with q | q
          · exact q
          · exact absurd (nI_le q (by omega)) c1
        refine lv_aload_n hx hb dJ7_fill_53178_10 rfl (lv_at hl 0 rfl) ?_
        refine lv_iload_n hx hb dJ7_fill_53178_11 rfl (lv_at hl 2 rfl) ?_
        refine lv_iload_n hx hb dJ7_fill_53178_12 rfl (lv_at hl 1 rfl) ?_
        refine va_iast hx hb hK.1 hP hD hS 0 0 rfl rfl (vp_in_nI q hn) dJ7_fill_53178_13 (fun H locs hP hD hS => ?_)
        have e : upd (filled j v f) (nI j).toNatClampNeg v = filled (j + 1) v f := by
          rw [nI_clamp (by omega)]
          funext i
          unfold upd filled
          by_cases h1 : i = j
          · simp [h1]
          · by_cases h2 : i < j
            · simp [h1, h2, Nat.lt_succ_of_lt h2]
            · have h3 : ¬ i < j + 1 := by omega
              simp [h1, h2, h3]
        rw [e] at hP hD
        have hP : va_P D vwCl [(a, .inl (cA 0, n, .inl (filled (j + 1) v f)))] H := hP
        have hD : va_D A [(a, .inl (cA 0, n, .inl (filled (j + 1) v f)))] := hD
        refine lv_iinc (v := nI (j + 1)) (lv' := [(2, .int (nI (j + 1))), (0, .ref a), (1, .int v), (3, .int (nI n))]) hx hb dJ7_fill_53178_14 hl (k := 2) rfl (nI_1 j) (by decide) rfl (fun ls hl => ?_)
        refine lv_goto (tgt := 5) hx hb dJ7_fill_53178_17 (by decide) ?_
        exact ih (j + 1) _ _ _ (by omega) (by omega) (lv_sub hl [1, 2, 0, 3] rfl) hP hD hS
  refine lv_iconst (v := 0) hx hb dJ7_fill_53178_0 (by decide) ?_
  refine lv_istore_n (lv' := [(2, .int 0), (0, .ref a), (1, .int v)]) hx hb dJ7_fill_53178_1 rfl hl (by decide) rfl (fun ls hl => ?_)
  refine lv_aload_n hx hb dJ7_fill_53178_2 rfl (lv_at hl 1 rfl) ?_
  refine va_alen hx hb hK.1 hP 0 0 rfl rfl (v := nI n) rfl dJ7_fill_53178_3 ?_
  refine lv_istore_n (lv' := [(3, .int (nI n)), (2, .int 0), (0, .ref a), (1, .int v)]) hx hb dJ7_fill_53178_4 rfl hl (by decide) rfl (fun ls hl => ?_)
  have e0 : filled 0 v f = f := by
    funext i
    simp [filled]
  exact B5 (n + 1) 0 _ _ _ (by omega) (by omega) (lv_sub hl [2, 3, 1, 0] rfl) (by rw [e0]; exact hP) (by rw [e0]; exact hD) hS
/-! Arrays.fill of floats -/
set_option maxRecDepth 100000 in
set_option maxHeartbeats 4000000 in
theorem c_J7_fill_e525d (l : Launch) (D : va_G) (cA : Nat → ClassId) (a : Nat) (n : Nat) (hn : n < 2 ^ 31) (f : Nat → UInt32) (v : UInt32) (sz : Nat) : Met l yJ7_fill_e525d (Cond.code yJ7_fill_e525d cJ7_fill_e525d 4 (Option.none : Option Jvm.ClassFile.FieldType) :: lw_g) ({ frames := 0, cells := 0, slots := 0, locals := 0 } : Room) (PcW D (tyA cA) [(a, .inl (cA 1, n, .inr (.inr (.inl f))))] sz [.ref a, .float v]) (va_Qv (fun (_ : Unit) => True) (fun _ t => va_P D vwCl [(a, .inl (cA 1, n, .inr (.inr (.inl (filledF n v f)))))] t.heap ∧ va_D (va_A [(a, .inl (cA 1, n, .inr (.inr (.inl f))))] sz) [(a, .inl (cA 1, n, .inr (.inr (.inl (filledF n v f)))))]) (va_A [(a, .inl (cA 1, n, .inr (.inr (.inl f))))] sz)) 0 0 (va_A [(a, .inl (cA 1, n, .inr (.inr (.inl f))))] sz) := by
  refine mkW (QQ := fun A => va_Qv (fun (_ : Unit) => True) (fun _ t => va_P D vwCl [(a, .inl (cA 1, n, .inr (.inr (.inl (filledF n v f)))))] t.heap ∧ va_D A [(a, .inl (cA 1, n, .inr (.inr (.inl (filledF n v f)))))]) A) (by decide) (Nat.le_of_ble_eq_true rfl) fun p e s m below meth c ls A C hl hP hK hD hA hS => ?_
  obtain ⟨hx, hb, hml, hown, hT, hr, hlk⟩ := id C
  have hl : lv_has ls 4 [(0, .ref a), (1, .float v)] := hl
  have B5 : ∀ (k j : Nat) (H : Heap) (locs : List Loc) (ls : Array Slot), j ≤ n → n - j < k → lv_has ls 4 [(0, .ref a), (1, .float v), (2, .int (nI j)), (3, .int (nI n))] → va_P D vwCl [(a, .inl (cA 1, n, .inr (.inr (.inl (filledF j v f)))))] H → va_D A [(a, .inl (cA 1, n, .inr (.inr (.inl (filledF j v f)))))] → va_S A s.heap H locs → W p l e ({ frames := 0, cells := 0, slots := 0, locals := 0 } : Room) s m ([.ref a, .float v] : List Value).toArray below meth c H locs 0 0 (MQ below (va_Qv (fun (_ : Unit) => True) (fun _ t => va_P D vwCl [(a, .inl (cA 1, n, .inr (.inr (.inl (filledF n v f)))))] t.heap ∧ va_D A [(a, .inl (cA 1, n, .inr (.inr (.inl (filledF n v f)))))]) A) ([.ref a, .float v] : List Value).toArray s 0 0 A) (F0 m 5 ls []) := by
    intro k
    induction k with
    | zero => intro j H locs ls h1 h2; omega
    | succ k ih =>
      intro j H locs ls hj hk hl hP hD hS
      refine lv_iload_n hx hb dJ7_fill_e525d_5 rfl (lv_at hl 2 rfl) ?_
      refine lv_iload_n hx hb dJ7_fill_e525d_6 rfl (lv_at hl 3 rfl) ?_
      refine lv_icmp_ge (tgt := 20) hx hb dJ7_fill_e525d_7 (by decide) (fun c1 => ?_) (fun c1 => ?_)
      · have e : j = n := by
          rcases Nat.lt_or_ge j n with q | q
          · exact absurd c1 (nI_ge q hn)
          · omega
        subst e
        exact W.vret hx hb hr (fun t ht hW => ⟨⟨(), rfl, trivial, by rw [ht]; exact hP, hD⟩, hS.F ht⟩) hS.2.2 dJ7_fill_e525d_20 (hlocks := hlk)
      · have q : j < n := by
          rcases Nat.lt_or_ge j n with q | q
          · exact q
          · exact absurd (nI_le q (by omega)) c1
        refine lv_aload_n hx hb dJ7_fill_e525d_10 rfl (lv_at hl 0 rfl) ?_
        refine lv_iload_n hx hb dJ7_fill_e525d_11 rfl (lv_at hl 2 rfl) ?_
        refine lv_fload_n hx hb dJ7_fill_e525d_12 rfl (lv_at hl 1 rfl) ?_
        refine va_fast hx hb hK.1 hP hD hS 0 1 rfl rfl (vp_in_nI q hn) dJ7_fill_e525d_13 (fun H locs hP hD hS => ?_)
        have e : vf_upd (filledF j v f) (nI j).toNatClampNeg v = filledF (j + 1) v f := by
          rw [nI_clamp (by omega)]
          funext i
          unfold vf_upd filledF
          by_cases h1 : i = j
          · simp [h1]
          · by_cases h2 : i < j
            · simp [h1, h2, Nat.lt_succ_of_lt h2]
            · have h3 : ¬ i < j + 1 := by omega
              simp [h1, h2, h3]
        rw [e] at hP hD
        have hP : va_P D vwCl [(a, .inl (cA 1, n, .inr (.inr (.inl (filledF (j + 1) v f)))))] H := hP
        have hD : va_D A [(a, .inl (cA 1, n, .inr (.inr (.inl (filledF (j + 1) v f)))))] := hD
        refine lv_iinc (v := nI (j + 1)) (lv' := [(2, .int (nI (j + 1))), (0, .ref a), (1, .float v), (3, .int (nI n))]) hx hb dJ7_fill_e525d_14 hl (k := 2) rfl (nI_1 j) (by decide) rfl (fun ls hl => ?_)
        refine lv_goto (tgt := 5) hx hb dJ7_fill_e525d_17 (by decide) ?_
        exact ih (j + 1) _ _ _ (by omega) (by omega) (lv_sub hl [1, 2, 0, 3] rfl) hP hD hS
  refine lv_iconst (v := 0) hx hb dJ7_fill_e525d_0 (by decide) ?_
  refine lv_istore_n (lv' := [(2, .int 0), (0, .ref a), (1, .float v)]) hx hb dJ7_fill_e525d_1 rfl hl (by decide) rfl (fun ls hl => ?_)
  refine lv_aload_n hx hb dJ7_fill_e525d_2 rfl (lv_at hl 1 rfl) ?_
  refine va_alen hx hb hK.1 hP 0 1 rfl rfl (v := nI n) rfl dJ7_fill_e525d_3 ?_
  refine lv_istore_n (lv' := [(3, .int (nI n)), (2, .int 0), (0, .ref a), (1, .float v)]) hx hb dJ7_fill_e525d_4 rfl hl (by decide) rfl (fun ls hl => ?_)
  have e0 : filledF 0 v f = f := by
    funext i
    simp [filledF]
  exact B5 (n + 1) 0 _ _ _ (by omega) (by omega) (lv_sub hl [2, 3, 1, 0] rfl) (by rw [e0]; exact hP) (by rw [e0]; exact hD) hS
