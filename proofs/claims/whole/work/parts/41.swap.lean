/-! ===== places, swap, mirror ===== -/
def plc (l : List Nat) (e : Nat) : Nat := l.idxOf e
theorem plc_lt {l : List Nat} {e : Nat} (h : e ∈ l) : plc l e < l.length := List.idxOf_lt_length_of_mem h
theorem plc_get {l : List Nat} {e : Nat} (h : e ∈ l) : l.getD (plc l e) 0 = e := by
  rw [List.getD_eq_getElem?_getD, List.getElem?_eq_getElem (plc_lt h)]
  exact List.getElem_idxOf (plc_lt h)
theorem getD_mem {l : List Nat} {k : Nat} (h : k < l.length) : l.getD k 0 ∈ l := by
  rw [List.getD_eq_getElem?_getD, List.getElem?_eq_getElem h]
  exact List.getElem_mem h
theorem nd_getD {l : List Nat} (hn : l.Nodup) {i j : Nat} (hi : i < l.length) (hj : j < l.length) (h : l.getD i 0 = l.getD j 0) : i = j := by
  rw [List.getD_eq_getElem?_getD, List.getElem?_eq_getElem hi, List.getD_eq_getElem?_getD, List.getElem?_eq_getElem hj] at h
  rw [List.nodup_iff_pairwise_ne, List.pairwise_iff_getElem] at hn
  rcases Nat.lt_trichotomy i j with q | q | q
  · exact absurd h (hn i j hi hj q)
  · exact q
  · exact absurd h.symm (hn j i hj hi q)
theorem plc_un {l : List Nat} (hn : l.Nodup) {k e : Nat} (hk : k < l.length) (h : l.getD k 0 = e) : k = plc l e := by
  have he : e ∈ l := by rw [← h]; exact getD_mem hk
  exact nd_getD hn hk (plc_lt he) (by rw [h, plc_get he])
theorem rot_lt {G : Gr} (hW : WF G) {v e : Nat} (h : e ∈ gR G v) : e < (gE G).length ∧ v < gN G := by
  have q := (hW.2.2.2.2.2.2.1 v e).mp h
  have := WF_end hW q.1
  refine ⟨q.1, ?_⟩
  rcases q.2 with q | q <;> omega
theorem X1_slotOf {G : Gr} (hW : WF G) {de tu : Nat → Int32} (hd : ∀ v, v < 9 → de v = nI (gR G v).length) (h : ∀ v k, v < 9 → k < (gR G v).length → tu (8 * v + k) = nI ((gR G v).getD k 0)) (N v e : Nat) (hN : 30 < N) (hv : v < 9) (he : e ∈ gR G v) : f_X1_slotOf N de tu (nI v) (nI e) = some (nI (plc (gR G v) e)) := by
  have h8 := WF_deg hW v
  have hm := hW.2.2.1
  have hlt : ∀ k, k < (gR G v).length → (gR G v).getD k 0 < 20 := fun k hk => by have := (rot_lt hW (getD_mem hk)).1; omega
  have he2 := (rot_lt hW he).1
  refine Ok_of (Ok_mono (X1_slotL hW hd h N v (nI e) hv N 0 (Nat.zero_le _) (by omega)) ?_)
  rintro r (⟨k, -, q2, q3, rfl⟩ | ⟨-, q⟩)
  · have q4 := (nI_eq (by have := hlt k q2; omega) (by omega)).mp q3
    rw [plc_un (hW.2.2.2.2.2.1 v) q2 q4]
  · exact absurd (by rw [plc_get he]) (q _ (Nat.zero_le _) (plc_lt he))
theorem X1_slotNo {G : Gr} (hW : WF G) {de tu : Nat → Int32} (hd : ∀ v, v < 9 → de v = nI (gR G v).length) (h : ∀ v k, v < 9 → k < (gR G v).length → tu (8 * v + k) = nI ((gR G v).getD k 0)) (N v : Nat) (hN : 30 < N) (hv : v < 9) : f_X1_slotOf N de tu (nI v) (-1) = some (-1) := by
  have h8 := WF_deg hW v
  have hm := hW.2.2.1
  refine Ok_of (Ok_mono (X1_slotL hW hd h N v (-1) hv N 0 (Nat.zero_le _) (by omega)) ?_)
  rintro r (⟨k, -, q2, q3, rfl⟩ | ⟨q, -⟩)
  · have := (rot_lt hW (getD_mem q2)).1
    have q4 := congrArg Int32.toInt q3
    rw [nI_toInt (by omega), show (-1 : Int32).toInt = -1 from by decide] at q4
    omega
  · exact q
theorem X8_place {G : Gr} (hW : WF G) {s : Nat → Int32} (h : ∀ v k, v < 9 → k < (gR G v).length → s (52 + 8 * v + k) = nI ((gR G v).getD k 0)) (N v e : Nat) (hN : 30 < N) (hv : v < 9) (he : e ∈ gR G v) : f_X8_place N s (nI v) (nI e) = some (nI (plc (gR G v) e)) := by
  have h8 := WF_deg hW v
  have hm := hW.2.2.1
  have he2 := (rot_lt hW he).1
  refine Ok_of (Ok_mono (X8_placeL hW h N v (nI e) hv N 0 ⟨plc (gR G v) e, Nat.zero_le _, plc_lt he, by rw [plc_get he]⟩ (by omega)) ?_)
  rintro r ⟨k, -, q2, q3, rfl⟩
  have := (rot_lt hW (getD_mem q2)).1
  have q4 := (nI_eq (by omega) (by omega)).mp q3
  rw [plc_un (hW.2.2.2.2.2.1 v) q2 q4]
/-! swap -/
def swp (f s x : Nat) : Nat := if x = f then s else if x = s then f else x
theorem swp_swp (f s x : Nat) : swp f s (swp f s x) = x := by
  unfold swp
  by_cases h1 : x = f
  · by_cases h2 : s = f
    · simp [h1, h2]
    · simp [h1, h2]
  · by_cases h2 : x = s
    · simp [h1, h2]
    · simp [h1, h2]
theorem map_getD (g : Nat → Nat) (l : List Nat) {k : Nat} (h : k < l.length) : (l.map g).getD k 0 = g (l.getD k 0) := by
  rw [List.getD_eq_getElem?_getD, List.getElem?_map, List.getElem?_eq_getElem h, List.getD_eq_getElem?_getD, List.getElem?_eq_getElem h]
  rfl
def gSwap (G : Gr) (v f s : Nat) : Gr := (gN G, gE G, (fun u => if u = v then (gR G v).map (swp f s) else gR G u), 0)
theorem gSwap_rot {G : Gr} {v f s : Nat} (u : Nat) : gR (gSwap G v f s) u = if u = v then (gR G v).map (swp f s) else gR G u := rfl
theorem WF_swap {G : Gr} {v f s : Nat} (hW : WF G) (hf : f ∈ gR G v) (hs : s ∈ gR G v) : WF (gSwap G v f s) := by
  obtain ⟨h1, h2, h3, h4, h5, h6, h7, h8⟩ := hW
  refine ⟨h1, h2, h3, h4, h5, ?_, ?_, (by decide : 0 < 100)⟩
  · intro u
    rw [gSwap_rot]
    split
    · have h9 := h6 v
      rw [List.nodup_iff_pairwise_ne] at h9 ⊢
      rw [List.pairwise_map]
      refine h9.imp (fun {a b} hab q => hab ?_)
      rw [← swp_swp f s a, q, swp_swp]
    · exact h6 u
  · intro u e
    rw [gSwap_rot]
    show _ ↔ gAt G e u
    rw [← h7 u e]
    split
    · rename_i q; subst q
      rw [List.mem_map]
      constructor
      · rintro ⟨x, hx, rfl⟩
        unfold swp
        split
        · exact hs
        · split
          · exact hf
          · exact hx
      · intro he
        refine ⟨swp f s e, ?_, swp_swp f s e⟩
        unfold swp
        split
        · exact hs
        · split
          · exact hf
          · exact he
    · exact Iff.rfl
/-- what two writes do to a row -/
theorem Row_swap {t : Nat → Int32} {b f s : Nat} {l : List Nat} (hn : l.Nodup) (hr : Row t b l) (hf : f ∈ l) (hs : s ∈ l) : Row (upd (upd t (b + plc l f) (nI s)) (b + plc l s) (nI f)) b (l.map (swp f s)) := by
  intro k hk
  rw [List.length_map] at hk
  rw [map_getD _ _ hk, upd_at, upd_at]
  unfold swp
  by_cases h1 : k = plc l s
  · rw [if_pos (by omega), h1, plc_get hs]
    by_cases h2 : s = f
    · rw [if_pos h2, h2]
    · rw [if_neg h2, if_pos rfl]
  · rw [if_neg (by omega)]
    by_cases h2 : k = plc l f
    · rw [if_pos (by omega), h2, plc_get hf, if_pos rfl]
    · rw [if_neg (by omega), if_neg (fun q => h2 (plc_un hn hk q)), if_neg (fun q => h1 (plc_un hn hk q))]
      exact hr k hk
theorem X1_exchange {G : Gr} {v f s : Nat} (hW : WF G) (hf : f ∈ gR G v) (hs : s ∈ gR G v) {g : TG} (hX : RX G g) (N : Nat) (hN : 30 < N) :
    Ok (f_X1_exchange N g.2.2.2.2.2.1 g.2.2.2.2.2.2 (nI v) (nI f) (nI s)) (fun r => RX (gSwap G v f s) (g.1, g.2.1, 0, g.2.2.2.1, g.2.2.2.2.1, g.2.2.2.2.2.1, r)) := by
  obtain ⟨x1, x2, x3, x4, x5, x6⟩ := hX
  have hn := hW.2.1
  have h8 := WF_deg hW v
  have hv := (rot_lt hW hf).2
  have p1 := plc_lt hf
  have p2 := plc_lt hs
  unfold f_X1_exchange
  rw [X1_slotOf hW x5 x6 N v f hN (by omega) hf, X1_slotOf hW x5 x6 N v s hN (by omega) hs]
  refine Ok_bd1.mpr (Ok_some.mpr (Ok_bd1.mpr (Ok_some.mpr ?_)))
  have e8 : nI v * 8 = nI (8 * v) := by rw [show (8 : Int32) = nI 8 from rfl, pk_mul, Nat.mul_comm]
  rw [if_neg (nI_pos (by omega)), if_neg (nI_pos (by omega)), e8, nI_add, nI_add, nI_clamp (by omega), nI_clamp (by omega)]
  refine Ok_chk.mpr ⟨inb_nI (by omega) (by decide), Ok_chk.mpr ⟨inb_nI (by omega) (by decide), Ok_some.mpr ⟨x1, x2, rfl, x4, ?_, ?_⟩⟩⟩
  · intro u hu
    rw [gSwap_rot]
    show g.2.2.2.2.2.1 u = _
    split
    · rename_i q; rw [List.length_map, q]; exact x5 v (by omega)
    · exact x5 u hu
  · intro u k hu hk
    rw [gSwap_rot] at hk ⊢
    show upd (upd g.2.2.2.2.2.2 _ _) _ _ _ = _
    by_cases q : u = v
    · rw [if_pos q] at hk ⊢
      rw [q]
      exact Row_swap (hW.2.2.2.2.2.1 v) (fun k hk => x6 v k (by omega) hk) hf hs k hk
    · rw [if_neg q] at hk ⊢
      have := WF_deg hW u
      rw [pk_un (by omega), pk_un (by omega)]
      exact x6 u k hu hk
theorem X8_swapRM {G : Gr} {v f s : Nat} (hW : WF G) (hf : f ∈ gR G v) (hs : s ∈ gR G v) {m : Nat → Int32} (hX : RM G m) : RM (gSwap G v f s) (upd (upd (upd m (52 + 8 * v + plc (gR G v) f) (nI s)) (52 + 8 * v + plc (gR G v) s) (nI f)) 2 0) := by
  obtain ⟨x1, x2, x3, x4, x5, x6⟩ := hX
  have hn := hW.2.1
  have hm := hW.2.2.1
  have h8 := WF_deg hW v
  have hv := (rot_lt hW hf).2
  have p1 := plc_lt hf
  have p2 := plc_lt hs
  refine ⟨?_, ?_, ?_, ?_, ?_, ?_⟩
  · rw [pk_un (by omega), pk_un (by omega), pk_un (by omega)]; exact x1
  · rw [pk_un (by omega), pk_un (by omega), pk_un (by omega)]; exact x2
  · rw [pk_us]; rfl
  · intro e he
    have he2 : e < (gE G).length := he
    rw [pk_un (j := 3 + e) (by omega), pk_un (j := 3 + e) (by omega), pk_un (j := 3 + e) (by omega), pk_un (j := 23 + e) (by omega), pk_un (j := 23 + e) (by omega), pk_un (j := 23 + e) (by omega)]
    exact x4 e he
  · intro u hu
    rw [pk_un (by omega), pk_un (by omega), pk_un (by omega), gSwap_rot]
    split
    · rename_i q; rw [List.length_map, q]; exact x5 v (by omega)
    · exact x5 u hu
  · intro u k hu hk
    rw [gSwap_rot] at hk ⊢
    rw [pk_un (by omega)]
    by_cases q : u = v
    · rw [if_pos q] at hk ⊢
      rw [q]
      exact Row_swap (hW.2.2.2.2.2.1 v) (fun k hk => x6 v k (by omega) hk) hf hs k hk
    · rw [if_neg q] at hk ⊢
      have := WF_deg hW u
      rw [pk_un (by omega), pk_un (by omega)]
      exact x6 u k hu hk
