/-! ===== position, extent ===== -/
theorem X7_rounds (N : Nat) (p : Int32) : f_X7_isRounds N p = some (if p < 0 then 0 else if 50 < p then 0 else 1) := X8_inI N p 0 50
theorem rounds_cases (p : Int32) : ((if p < 0 then (0 : Int32) else if 50 < p then 0 else 1) = 0) ∨ ((if p < 0 then (0 : Int32) else if 50 < p then 0 else 1) = 1 ∧ ∃ r, r ≤ 50 ∧ p = nI r) := by
  by_cases c : p < 0
  · rw [if_pos c]; exact Or.inl rfl
  · rw [if_neg c]
    by_cases c2 : 50 < p
    · rw [if_pos c2]; exact Or.inl rfl
    · rw [if_neg c2]
      obtain ⟨r, hr, rfl⟩ := nI_of c
      exact Or.inr ⟨rfl, r, (nI_leI (b := 50) hr (by decide)).mp (i_nlt.mp c2), rfl⟩
section CALLS4
variable {G : Gr}
theorem out_ok (hW : WF G) (hO : GO G) (h : (gE G).length ≠ 0) : gO G < nF G := by
  have := lab_lt hW (d := 0) (by omega)
  rcases hO with q | q
  · omega
  · exact q
theorem Bd_Ag {S T : FS} (h : Bd S) (h2 : Ag S T) : Bd T := fun v hv => by
  rw [← (h2 v hv).1, ← (h2 v hv).2]
  exact h v hv
theorem ok_position (N : Nat) (hN : 1000 < N) : OK_position Inv N := by
  intro x m p1 p2 p3 hi
  have hi2 := hi
  obtain ⟨G, n, hs, l, cs, hS, hX, hF, hH, hT, hM, hHM, hTM⟩ := hi
  have hW := hS.1
  have h9 := hW.2.1
  have h20 := hW.2.2.1
  have x1 := hX.1
  have x2 := hX.2.1
  refine OK_mk ?_
  unfold f_X7_position f_X8_position
  rw [show f_X1_hasNode N x.1.1 p1 = some (bI (inb p1 (gN G))) from by rw [x1]; exact X1_hasNode N _ (by omega) p1, X8_isNode N _ (by omega) m.1 hM.1, X8_inI N p2 0 1, X8_inI N p3 0 50, X7_rounds]
  refine Ok_bd1.mpr (Ok_some.mpr (Ok_sw.mpr (Ok_bd1.mpr (Ok_some.mpr (Ok_sw.mpr ?_)))))
  cases hb : inb p1 (gN G) with
  | false =>
    rw [if_pos bF0, if_pos bF0]
    exact Ok_some.mpr (Ok_some.mpr (OK_end rfl hi2))
  | true =>
    obtain ⟨v, hv, rfl⟩ := inb_of hb (by omega)
    rw [if_neg bT0, if_neg bT0]
    refine Ok_sw.mpr (Ok_bd1.mpr (Ok_some.mpr (Ok_sw.mpr ?_)))
    by_cases c1 : p2 < 0
    · rw [if_pos c1, if_pos c1, if_pos rfl]
      exact Ok_some.mpr (Ok_some.mpr (OK_end rfl hi2))
    · rw [if_neg c1, if_neg c1]
      by_cases c2 : 1 < p2
      · rw [if_pos c2, if_pos c2, if_pos rfl]
        exact Ok_some.mpr (Ok_some.mpr (OK_end rfl hi2))
      · rw [if_neg c2, if_neg c2, if_neg i10]
        refine Ok_bd1.mpr (Ok_some.mpr (Ok_sw.mpr (Ok_bd1.mpr (Ok_some.mpr (Ok_sw.mpr ?_)))))
        rcases rounds_cases p3 with hr | ⟨hr, r, hr2, rfl⟩
        · rw [hr, if_neg i00, if_neg i00]
          exact Ok_some.mpr (Ok_some.mpr (OK_end rfl hi2))
        · rw [hr, if_pos i10, if_pos i10, show (1 : Int32).toNatClampNeg = 1 from rfl, hM.2.1]
          refine Ok_sw.mpr (Ok_chk.mpr ⟨by decide, Ok_sw.mpr ?_⟩)
          by_cases ce : (gE G).length = 0
          · rw [if_neg (fun q => q (by rw [x2, ce]; rfl)), if_neg (fun q => q (by rw [ce]; rfl))]
            exact Ok_some.mpr (Ok_some.mpr (OK_end rfl hi2))
          · have ne : ¬ nI (gE G).length = 0 := nI_ne0 (by omega) (by omega)
            rw [if_pos (by rw [x2]; exact ne), if_pos ne]
            have hf := out_ok hW hS.2.1 ce
            refine Ok_bd1.mpr (Ok_mono (lay_both hW hf hF hX hM N hN _ _ _ _ _ _ _ hr2) (fun a ha => Ok_sw.mpr (Ok_bd1.mpr (Ok_mono ha (fun q hq => Ok_sw.mpr ?_)))))
            obtain ⟨q1, q2, q3⟩ := hq
            have hin : inb (nI v) 9 = true := inb_nI (by omega) (by decide)
            have hav := q3 v (by omega)
            have hbv := q2 v (by omega)
            rw [nI_clamp (by omega)]
            by_cases c3 : p2 = 0
            · rw [if_neg (fun q => q c3), if_neg (fun q => q c3)]
              unfold f_X7_position_b83 f_X8_position_b65
              have e1 : q.2.2.2.1 v = a.1 v := hav.1.symm
              rw [e1, (bits_same N hN (NB_mono hbv.1 (by decide))).1, (bits_same N hN (NB_mono hbv.1 (by decide))).2]
              exact Ok_chk.mpr ⟨hin, Ok_bd1.mpr (Ok_some.mpr (Ok_some.mpr (Ok_chk.mpr ⟨hin, Ok_bd1.mpr (Ok_some.mpr (Ok_some.mpr (OK_end rfl ⟨G, n, hs, l, cs, hS, hX, hF, hH, hT, hM, hHM, hTM⟩)))⟩)))⟩
            · rw [if_pos c3, if_pos c3]
              unfold f_X7_position_b83 f_X8_position_b65
              have e1 : q.2.2.2.2 v = a.2 v := hav.2.symm
              rw [e1, (bits_same N hN (NB_mono hbv.2 (by decide))).1, (bits_same N hN (NB_mono hbv.2 (by decide))).2]
              exact Ok_chk.mpr ⟨hin, Ok_bd1.mpr (Ok_some.mpr (Ok_some.mpr (Ok_chk.mpr ⟨hin, Ok_bd1.mpr (Ok_some.mpr (Ok_some.mpr (OK_end rfl ⟨G, n, hs, l, cs, hS, hX, hF, hH, hT, hM, hHM, hTM⟩)))⟩)))⟩
theorem ok_extent (N : Nat) (hN : 1000 < N) : OK_extent Inv N := by
  intro x m p1 hi
  have hi2 := hi
  obtain ⟨G, n, hs, l, cs, hS, hX, hF, hH, hT, hM, hHM, hTM⟩ := hi
  have hW := hS.1
  have h20 := hW.2.2.1
  have x2 := hX.2.1
  refine OK_mk ?_
  unfold f_X7_extent f_X8_extent
  rw [X8_inI N p1 0 50, X7_rounds]
  refine Ok_bd1.mpr (Ok_some.mpr (Ok_sw.mpr (Ok_bd1.mpr (Ok_some.mpr (Ok_sw.mpr ?_)))))
  rcases rounds_cases p1 with hr | ⟨hr, r, hr2, rfl⟩
  · rw [hr, if_neg i00, if_neg i00]
    exact Ok_some.mpr (Ok_some.mpr (OK_end rfl hi2))
  · rw [hr, if_pos i10, if_pos i10, show (1 : Int32).toNatClampNeg = 1 from rfl, hM.2.1]
    refine Ok_sw.mpr (Ok_chk.mpr ⟨by decide, Ok_sw.mpr ?_⟩)
    by_cases ce : (gE G).length = 0
    · rw [if_neg (fun q => q (by rw [x2, ce]; rfl)), if_neg (fun q => q (by rw [ce]; rfl))]
      exact Ok_some.mpr (Ok_some.mpr (OK_end rfl hi2))
    · have ne : ¬ nI (gE G).length = 0 := nI_ne0 (by omega) (by omega)
      rw [if_pos (by rw [x2]; exact ne), if_pos ne]
      have hf := out_ok hW hS.2.1 ce
      refine Ok_bd1.mpr (Ok_mono (lay_both hW hf hF hX hM N hN _ _ _ _ _ _ _ hr2) (fun a ha => Ok_sw.mpr (Ok_bd1.mpr (Ok_mono ha (fun q hq => Ok_nm.mpr (Ok_sw.mpr ?_))))))
      obtain ⟨q1, q2, q3⟩ := hq
      have hB2 : Bd (q.2.2.2.1, q.2.2.2.2) := Bd_Ag q2 q3
      have hl8 := X8_lengths hW hM N hN hB2 q.1 q.2.1 q.2.2.1
      dsimp only at hl8
      rw [hl8, ← lsum_Ag hW q3 (gE G).length (Nat.le_refl _), x2, X3_addLengths hW hX.2.2.2.1 N hN q2]
      refine Ok_bd1.mpr (Ok_some.mpr ?_)
      have hnb := NB_mono (lsum_NB hW q2 (gE G).length (Nat.le_refl _)) (by omega : 64 * (gE G).length ≤ 1300)
      unfold f_X8_extent_b133
      rw [(bits_same N hN hnb).1, (bits_same N hN hnb).2]
      exact Ok_bd1.mpr (Ok_some.mpr (Ok_some.mpr (Ok_bd1.mpr (Ok_some.mpr (Ok_some.mpr (OK_end rfl ⟨G, n, hs, l, cs, hS, hX, hF, hH, hT, hM, hHM, hTM⟩))))))
end CALLS4
