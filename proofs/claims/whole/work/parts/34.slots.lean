/-! ===== places in rotations ===== -/
theorem nd_le : ∀ (n : Nat) (l : List Nat), l.Nodup → (∀ x ∈ l, x < n) → l.length ≤ n
  | 0, l, _, h => by
    cases l with
    | nil => exact Nat.le_refl 0
    | cons a t => exact absurd (h a List.mem_cons_self) (Nat.not_lt_zero a)
  | n + 1, l, hn, h => by
    have h1 : (l.erase n).length ≤ n := nd_le n (l.erase n) (hn.erase n) (fun x hx => by
      have h2 := (hn.mem_erase_iff).mp hx
      have h3 := h x h2.2
      have := h2.1
      omega)
    have h4 : l.length ≤ (l.erase n).length + 1 := by
      rw [List.length_erase]
      split <;> omega
    omega
/-- the other end of an edge at v -/
def gOth (G : Gr) (v e : Nat) : Nat := if (gEnd G e).1 = v then (gEnd G e).2 else (gEnd G e).1
theorem WF_one {G : Gr} (hW : WF G) {e f : Nat} (he : e < (gE G).length) (hf : f < (gE G).length) (h : gEnd G e = gEnd G f) : e = f := by
  have hn := hW.2.2.2.2.1
  unfold gEnd at h
  rw [List.getD_eq_getElem?_getD, List.getElem?_eq_getElem he, List.getD_eq_getElem?_getD, List.getElem?_eq_getElem hf] at h
  rw [List.nodup_iff_pairwise_ne, List.pairwise_iff_getElem] at hn
  rcases Nat.lt_trichotomy e f with q | q | q
  · exact absurd h (hn e f he hf q)
  · exact q
  · exact absurd h.symm (hn f e hf he q)
theorem WF_oth {G : Gr} (hW : WF G) {v e f : Nat} (he : gAt G e v) (hf : gAt G f v) (h : gOth G v e = gOth G v f) : e = f := by
  obtain ⟨h1, h2⟩ := he
  obtain ⟨h3, h4⟩ := hf
  have e1 := WF_end hW h1
  have e2 := WF_end hW h3
  refine WF_one hW h1 h3 ?_
  unfold gOth at h
  refine Prod.ext ?_ ?_
  · split at h <;> split at h <;> omega
  · split at h <;> split at h <;> omega
theorem WF_deg {G : Gr} (hW : WF G) (v : Nat) : (gR G v).length ≤ 8 := by
  have hN := hW.2.1
  have hn := hW.2.2.2.2.2.1 v
  have hr := hW.2.2.2.2.2.2.1 v
  cases hl : gR G v with
  | nil => simp
  | cons e0 t0 =>
    rw [← hl]
    have h0 : gAt G e0 v := (hr e0).mp (by rw [hl]; exact List.mem_cons_self)
    have hv : v < gN G := by
      have := WF_end hW h0.1
      rcases h0.2 with q | q <;> omega
    have hnd : ((gR G v).map (gOth G v)).Nodup := by
      rw [List.nodup_iff_pairwise_ne, List.pairwise_map]
      rw [List.nodup_iff_pairwise_ne] at hn
      exact hn.imp_of_mem (fun {a b} ha hb hab q => hab (WF_oth hW ((hr a).mp ha) ((hr b).mp hb) q))
    have hall : ∀ x ∈ v :: (gR G v).map (gOth G v), x < gN G := by
      intro x hx
      rcases List.mem_cons.mp hx with rfl | hx
      · exact hv
      · obtain ⟨e, he, rfl⟩ := List.mem_map.mp hx
        have h1 := (hr e).mp he
        have h2 := WF_end hW h1.1
        unfold gOth
        split <;> omega
    have hnd2 : (v :: (gR G v).map (gOth G v)).Nodup := by
      refine List.nodup_cons.mpr ⟨fun hx => ?_, hnd⟩
      obtain ⟨e, he, hq⟩ := List.mem_map.mp hx
      have h1 := (hr e).mp he
      have h2 := WF_end hW h1.1
      unfold gOth at hq
      rcases h1.2 with q | q
      · rw [if_pos q] at hq; omega
      · rw [if_neg (by omega)] at hq; omega
    have := nd_le (gN G) _ hnd2 hall
    simp only [List.length_cons, List.length_map] at this
    omega
