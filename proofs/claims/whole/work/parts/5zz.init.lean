/-! ===== the start; all calls ===== -/
def G0 : Gr := (4, [], fun _ => [], 0)
theorem G0_adj {v u : Nat} : ¬ adj G0 v u := by
  rintro ⟨e, h, _⟩
  exact absurd h (Nat.not_lt_zero e)
theorem G0_W : WF G0 := by
  refine ⟨by decide, by decide, by decide, fun q hq => (by cases hq), List.nodup_nil, fun v => List.nodup_nil, fun v e => ⟨fun h => (by cases h), fun h => absurd h.1 (Nat.not_lt_zero e)⟩, by decide⟩
theorem G0_conn {u v : Nat} (h : conn G0 u v) : v = u := h (fun x => x = u) rfl (fun a b _ q => absurd q G0_adj)
theorem G0_nC : nC G0 = 4 := by
  unfold nC
  refine fb_ct_all.mpr (fun k hk => ?_)
  refine (rep_iff G0_W hk).mpr (fun u hu q => ?_)
  have := G0_conn q
  omega
theorem G0_tw : ∀ i, tw G0 i = 0
  | 0 => rfl
  | i + 1 => by
    show tw G0 i + (if repB G0 i = true ∧ 0 < (gR G0 i).length then 2 - nI (csz G0 i) else 0) = 0
    rw [G0_tw i, if_neg (fun q => absurd q.2 (Nat.lt_irrefl 0))]
    rfl
theorem G0_nF : nF G0 = 0 := rfl
theorem G0_gen : genI G0 = 0 := by
  unfold genI
  rw [G0_tw, G0_nF]
  show ((nI 0 - nI 0) + 0) / 2 = 0
  decide
theorem inv_0 : Inv x_0 m_0 := by
  refine ⟨G0, 0, fun _ => G0, 0, fun _ => 0, ⟨G0_W, Or.inl rfl, by decide, fun k hk => absurd hk (Nat.not_lt_zero k)⟩, ?_, ?_, ?_, ?_, ?_, ?_, ?_⟩
  · refine ⟨rfl, rfl, rfl, fun e he => absurd he (Nat.not_lt_zero e), fun v hv => rfl, fun v k hv hk => absurd hk (Nat.not_lt_zero k)⟩
  · refine ⟨by rw [G0_nF]; rfl, by rw [G0_nC]; rfl, by rw [G0_gen]; rfl, fun d hd => absurd hd (Nat.not_lt_zero d), fun d hd => absurd hd (Nat.not_lt_zero d), fun f hf => ?_, fun f hf => ?_, fun f hf => ?_, fun v hv b => ?_⟩
    · rw [G0_nF] at hf; omega
    · rw [G0_nF] at hf; omega
    · rw [G0_nF] at hf; omega
    · refine ⟨fun q => ?_, fun q => absurd q G0_adj⟩
      have : bt 0 b = true := q
      rw [b_0] at this; cases this
  · exact ⟨rfl, fun k hk => absurd hk (Nat.not_lt_zero k)⟩
  · exact ⟨by decide, rfl, fun k hk => absurd hk (Nat.not_lt_zero k)⟩
  · refine ⟨rfl, rfl, rfl, fun e he => absurd he (Nat.not_lt_zero e), fun v hv => ?_, fun v k hv hk => absurd hk (Nat.not_lt_zero k)⟩
    show upd (fun _ => 0) 0 4 (43 + v) = nI 0
    rw [pk_un (by omega)]; rfl
  · exact ⟨rfl, fun k hk => absurd hk (Nat.not_lt_zero k)⟩
  · exact ⟨rfl, fun k hk => absurd hk (Nat.not_lt_zero k)⟩
theorem all_ok (N : Nat) (hN : 1000 < N) : AllOK Inv N :=
  ⟨ok_setNodes N hN, ok_addEdge N hN, ok_addInFace N hN, ok_removeEdge N hN, ok_swap N hN, ok_mirror N hN, ok_rotation N, ok_edge N, ok_count N hN, ok_appendCharacter N, ok_clearText N, ok_load N hN, ok_face N hN, ok_walk N hN, ok_faceOf N hN, ok_commonFace N hN, ok_isPlanar N hN, ok_canAdd N hN, ok_obstruction N hN, ok_branching N hN, ok_guiltyEdges N hN, ok_insertionCost N hN, ok_crossed N hN, ok_setOuter N hN, ok_depth N hN, ok_position N hN, ok_crossings N hN, ok_extent N hN, ok_undo N hN⟩
