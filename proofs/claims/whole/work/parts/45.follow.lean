/-! ===== tail and the directed edge behind ===== -/
theorem nI_op : ∀ d, d < 64 → nI d ^^^ 1 = nI (op d) := by decide +kernel
abbrev Ends (G : Gr) (lo hi : Nat → Int32) : Prop := ∀ e, e < (gE G).length → lo e = nI (gEnd G e).1 ∧ hi e = nI (gEnd G e).2
abbrev Degs (G : Gr) (de : Nat → Int32) : Prop := ∀ v, v < 9 → de v = nI (gR G v).length
abbrev Tuns (G : Gr) (tu : Nat → Int32) : Prop := ∀ v k, v < 9 → k < (gR G v).length → tu (8 * v + k) = nI ((gR G v).getD k 0)
section FOL
variable {G : Gr}
theorem X1_tailOf (hW : WF G) {lo hi : Nat → Int32} (h : Ends G lo hi) (N : Nat) {d : Nat} (hd : d < 2 * (gE G).length) : f_X1_tailOf N lo hi (nI d) = some (nI (tl G d)) := by
  have hm := hW.2.2.1
  refine Ok_of ?_
  unfold f_X1_tailOf tl
  rw [nI_mod2 (by omega), nI_div2 (by omega), nI_clamp (by omega), (h (d / 2) (by omega)).1, (h (d / 2) (by omega)).2]
  by_cases c : d % 2 = 0
  · rw [if_neg (by rw [c]; exact fun q => q rfl), if_pos c]
    exact Ok_chk.mpr ⟨inb_nI (by omega) (by decide), Ok_some.mpr rfl⟩
  · rw [if_pos (nI_ne0 (n := d % 2) (by omega) (by omega)), if_neg c]
    exact Ok_chk.mpr ⟨inb_nI (by omega) (by decide), Ok_some.mpr rfl⟩
theorem X1_following (hW : WF G) {lo hi de tu : Nat → Int32} (h : Ends G lo hi) (h2 : Degs G de) (h3 : Tuns G tu) (N : Nat) (hN : 30 < N) {d : Nat} (hd : d < 2 * (gE G).length) : f_X1_following N lo hi de tu (nI d) = some (nI (nx G d)) := by
  have hm := hW.2.2.1
  have hn := hW.2.1
  have hv := tl_lt hW (op_lt hd)
  have hin := op_at hW hd
  have hp := plc_lt hin
  have h8 := WF_deg hW (tl G (op d))
  have hne := nx_edge hW hd
  have hnl := (rot_lt hW hne).1
  refine Ok_of ?_
  unfold f_X1_following
  rw [nI_op d (by omega), X1_tailOf hW h N (op_lt hd), nI_div2 (by omega)]
  refine Ok_bd1.mpr (Ok_some.mpr ?_)
  rw [X1_slotOf hW h2 h3 N _ _ hN (by omega) hin]
  refine Ok_bd1.mpr (Ok_some.mpr (Ok_nm.mpr (Ok_chk.mpr ⟨inb_nI (by omega) (by decide), ?_⟩)))
  rw [nI_clamp (by omega), h2 _ (by omega), nI_1]
  have fin : ∀ k, k = (plc (gR G (tl G (op d))) (d / 2) + 1) % (gR G (tl G (op d))).length → Ok (f_X1_following_b36 N lo hi de tu (nI (tl G (op d))) (nI (tl G (op d))) (nI k)) (fun b => b = nI (nx G d)) := by
    intro k hk
    unfold f_X1_following_b36
    have hkl : k < (gR G (tl G (op d))).length := by rw [hk]; exact Nat.mod_lt _ (by omega)
    rw [X1_edgeAt hW h3 N _ k (by omega) hkl]
    refine Ok_bd1.mpr (Ok_some.mpr ?_)
    rw [← hk] at hnl
    have he := WF_end hW hnl
    rw [nI_clamp (by omega), (h _ hnl).1]
    refine Ok_chk.mpr ⟨inb_nI (by omega) (by decide), ?_⟩
    unfold nx
    rw [← hk]
    by_cases c : (gEnd G ((gR G (tl G (op d))).getD k 0)).1 = tl G (op d)
    · rw [if_neg (by rw [c]; exact fun q => q rfl), if_pos c, two_nI]
      exact Ok_some.mpr rfl
    · rw [if_pos (fun q => c ((nI_eq (by omega) (by omega)).mp q)), if_neg c, two_nI, nI_1]
      exact Ok_some.mpr rfl
  refine Ok_ife (nI_leI (by omega) (by omega)) (fun c => ?_) (fun c => ?_)
  · refine fin 0 ?_
    rw [show plc (gR G (tl G (op d))) (d / 2) + 1 = (gR G (tl G (op d))).length from by omega, Nat.mod_self]
  · refine fin _ ?_
    rw [Nat.mod_eq_of_lt (by omega)]
theorem X8_tail (hW : WF G) {s : Nat → Int32} (h : RM G s) (N : Nat) {d : Nat} (hd : d < 2 * (gE G).length) : f_X8_tail N s (nI d) = some (nI (tl G d)) := by
  have hm := hW.2.2.1
  have x4 := h.2.2.2.1 (d / 2) (by omega)
  have e3 : (3 : Int32) + nI (d / 2) = nI (3 + d / 2) := nI_add 3 _
  have e23 : (23 : Int32) + nI (d / 2) = nI (23 + d / 2) := nI_add 23 _
  refine Ok_of ?_
  unfold f_X8_tail tl
  rw [nI_mod2 (by omega), nI_div2 (by omega), e3, e23, nI_clamp (by omega), nI_clamp (by omega), x4.1, x4.2]
  by_cases c : d % 2 = 0
  · rw [if_neg (by rw [c]; exact fun q => q rfl), if_pos c]
    exact Ok_chk.mpr ⟨inb_nI (by omega) (by decide), Ok_some.mpr rfl⟩
  · rw [if_pos (nI_ne0 (n := d % 2) (by omega) (by omega)), if_neg c]
    exact Ok_chk.mpr ⟨inb_nI (by omega) (by decide), Ok_some.mpr rfl⟩
theorem X8_across (hW : WF G) {s : Nat → Int32} (h : RM G s) (N : Nat) {e : Nat} (he : e < (gE G).length) (v : Nat) (hv : v < 9) : f_X8_across N s (nI e) (nI v) = some (nI (gOth G v e)) := by
  have hm := hW.2.2.1
  have hn := hW.2.1
  have x4 := h.2.2.2.1 e he
  have we := WF_end hW he
  have e3 : (3 : Int32) + nI e = nI (3 + e) := nI_add 3 _
  have e23 : (23 : Int32) + nI e = nI (23 + e) := nI_add 23 _
  refine Ok_of ?_
  unfold f_X8_across gOth
  rw [e3, e23, nI_clamp (by omega), nI_clamp (by omega), x4.1, x4.2]
  refine Ok_chk.mpr ⟨inb_nI (by omega) (by decide), ?_⟩
  by_cases c : (gEnd G e).1 = v
  · rw [if_neg (by rw [c]; exact fun q => q rfl), if_pos c]
    exact Ok_chk.mpr ⟨inb_nI (by omega) (by decide), Ok_some.mpr rfl⟩
  · rw [if_pos (fun q => c ((nI_eq (by omega) (by omega)).mp q)), if_neg c]
    exact Ok_chk.mpr ⟨inb_nI (by omega) (by decide), Ok_some.mpr rfl⟩
theorem oth_tl (hW : WF G) {d : Nat} (hd : d < 2 * (gE G).length) : gOth G (tl G d) (d / 2) = tl G (op d) := by
  have we := WF_end hW (e := d / 2) (by omega)
  unfold gOth tl
  rw [op_half]
  by_cases c : d % 2 = 0
  · rw [if_pos c, if_neg (fun q => (op_par d).mp q c), if_pos rfl]
  · rw [if_neg c, if_pos ((op_par d).mpr c), if_neg (by omega)]
theorem X8_follows (hW : WF G) {s : Nat → Int32} (h : RM G s) (N : Nat) (hN : 30 < N) {d : Nat} (hd : d < 2 * (gE G).length) : f_X8_follows N s (nI d) = some (nI (nx G d)) := by
  have hm := hW.2.2.1
  have hn := hW.2.1
  have hv := tl_lt hW (op_lt hd)
  have hv0 := tl_lt hW hd
  have hin := op_at hW hd
  have hp := plc_lt hin
  have h8 := WF_deg hW (tl G (op d))
  have hne := nx_edge hW hd
  have hnl := (rot_lt hW hne).1
  have we := WF_end hW hnl
  have hkl : (plc (gR G (tl G (op d))) (d / 2) + 1) % (gR G (tl G (op d))).length < (gR G (tl G (op d))).length := Nat.mod_lt _ (by omega)
  refine Ok_of ?_
  unfold f_X8_follows
  rw [nI_div2 (by omega)]
  refine Ok_nm.mpr ?_
  rw [X8_tail hW h N hd]
  refine Ok_bd1.mpr (Ok_some.mpr ?_)
  rw [X8_across hW h N (by omega) _ (by omega), oth_tl hW hd]
  refine Ok_bd1.mpr (Ok_some.mpr ?_)
  rw [X8_place hW h.2.2.2.2.2 N _ _ hN (by omega) hin]
  have e43 : (43 + nI (tl G (op d))) = nI (43 + tl G (op d)) := nI_add 43 _
  refine Ok_bd1.mpr (Ok_some.mpr ?_)
  rw [e43, nI_clamp (by omega), h.2.2.2.2.1 _ (by omega), nI_1, pk_rem (by omega) (by omega) (by omega)]
  refine Ok_chk.mpr ⟨inb_nI (by omega) (by decide), Ok_chk.mpr ⟨?_, ?_⟩⟩
  · unfold nz
    exact decide_eq_true (nI_ne0 (by omega) (by omega))
  · rw [X8_turn hW h.2.2.2.2.2 N _ _ (by omega) hkl]
    refine Ok_bd1.mpr (Ok_some.mpr ?_)
    have e3 : (3 : Int32) + nI ((gR G (tl G (op d))).getD ((plc (gR G (tl G (op d))) (d / 2) + 1) % (gR G (tl G (op d))).length) 0) = nI (3 + (gR G (tl G (op d))).getD ((plc (gR G (tl G (op d))) (d / 2) + 1) % (gR G (tl G (op d))).length) 0) := nI_add 3 _
    rw [e3, nI_clamp (by omega), (h.2.2.2.1 _ hnl).1]
    refine Ok_chk.mpr ⟨inb_nI (by omega) (by decide), ?_⟩
    unfold nx
    by_cases c : (gEnd G ((gR G (tl G (op d))).getD ((plc (gR G (tl G (op d))) (d / 2) + 1) % (gR G (tl G (op d))).length) 0)).1 = tl G (op d)
    · rw [if_neg (by rw [c]; exact fun q => q rfl), if_pos c, two_nI]
      exact Ok_some.mpr (nI_add _ 0)
    · rw [if_pos (fun q => c ((nI_eq (by omega) (by omega)).mp q)), if_neg c, two_nI, nI_1]
      exact Ok_some.mpr rfl
end FOL
