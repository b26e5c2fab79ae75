/-! ===== what holds between calls ===== -/
def GO (G : Gr) : Prop := gO G = 0 ∨ gO G < nF G
def St (G : Gr) (n : Nat) (hs : Nat → Gr) : Prop := WF G ∧ GO G ∧ n ≤ 6 ∧ ∀ k, k < n → WF (hs k) ∧ GO (hs k)
def TX (l : Nat) (cs : Nat → Nat) (t : TT) : Prop := l ≤ 100 ∧ t.1 = nI l ∧ ∀ k, k < l → cs k < 256 ∧ t.2.1 k = nI (cs k)
def TM (l : Nat) (cs : Nat → Nat) (t : Nat → Int32) (ty : Int32) : Prop := ty = nI l ∧ ∀ k, k < l → t k = vp_nar .byte ((nI (cs k)).toInt8.toInt32)
def Inv (x : XS) (m : MS) : Prop := ∃ (G : Gr) (n : Nat) (hs : Nat → Gr) (l : Nat) (cs : Nat → Nat), St G n hs ∧ RX G x.1 ∧ FR G x.2.2.1 ∧ HX n hs x.2.2.2.2.2.2.2.2 ∧ TX l cs x.2.2.2.1 ∧ RM G m.1 ∧ HM n hs m.2.1 m.2.2.1 ∧ TM l cs m.2.2.2.1 m.2.2.2.2.1
theorem OK_mk {α β : Type} {A : Option α} {B : Option β} {fX : α → Option (Int32 × XS)} {fM : β → Option (Int32 × MS)} (h : Ok A (fun a => Ok B (fun b => ∃ r x2 m2, fX a = some (r, x2) ∧ fM b = some (r, m2) ∧ Inv x2 m2))) : ∃ r x2 m2, bd1 A fX = some (r, x2) ∧ bd1 B fM = some (r, m2) ∧ Inv x2 m2 := by
  obtain ⟨a, rfl, b, rfl, h2⟩ := h
  exact h2
theorem OK_qq {A B : Option Int32} {x : XS} {m : MS} (hi : Inv x m) (h : Ok A (fun a => Ok B (fun b => b = a))) : ∃ r x2 m2, (bd1 A fun r => some (r, x)) = some (r, x2) ∧ (bd1 B fun r => some (r, m)) = some (r, m2) ∧ Inv x2 m2 := by
  obtain ⟨a, rfl, b, rfl, rfl⟩ := h
  exact ⟨_, x, m, rfl, rfl, hi⟩
theorem Ok_sc {α β : Type} {P : α → β → Prop} {a : α} {B : Option β} : Ok (some a) (fun a => Ok B (P a)) ↔ Ok B (P a) := Ok_some
theorem Ok_sw {α β : Type} {P : α → β → Prop} {A : Option α} {B : Option β} : Ok A (fun a => Ok B (P a)) ↔ Ok B (fun b => Ok A (fun a => P a b)) := ⟨fun ⟨a, h1, b, h2, h3⟩ => ⟨b, h2, a, h1, h3⟩, fun ⟨b, h2, a, h1, h3⟩ => ⟨a, h1, b, h2, h3⟩⟩
theorem OK_end {r r' : Int32} {x2 : XS} {m2 : MS} (h : r' = r) (hi : Inv x2 m2) : ∃ (ρ : Int32) (x2' : XS) (m2' : MS), some (r, x2) = some (ρ, x2') ∧ some (r', m2) = some (ρ, m2') ∧ Inv x2' m2' := ⟨r, x2, m2, rfl, by rw [h], hi⟩
theorem i_nlt {a b : Int32} : ¬ a < b ↔ b ≤ a := by
  rw [Int32.lt_iff_toInt_lt, Int32.le_iff_toInt_le]
  omega
theorem i_nle {a b : Int32} : ¬ a ≤ b ↔ b < a := by
  rw [Int32.lt_iff_toInt_lt, Int32.le_iff_toInt_le]
  omega
theorem X8_inI (N : Nat) (p a b : Int32) : f_X8_in N p a b = some (if p < a then 0 else if b < p then 0 else 1) := by
  unfold f_X8_in
  by_cases h : p < a
  · rw [if_pos h, if_pos h]
  · rw [if_neg h, if_neg h]
    by_cases h2 : b < p
    · rw [if_pos h2, if_pos h2]
    · rw [if_neg h2, if_neg h2]
theorem bF0 : bI false = 0 := rfl
theorem bT0 : ¬ bI true = 0 := by decide
theorem i00 : ¬ ¬ (0 : Int32) = 0 := fun q => q rfl
theorem i10 : ¬ (1 : Int32) = 0 := by decide
section CALLS1
variable (N : Nat) (hN : 1000 < N)
theorem ok_rotation : OK_rotation Inv N := by
  intro x m p1 p2 hi
  refine OK_qq hi ?_
  obtain ⟨G, n, hs, l, cs, hS, hX, hF, hH, hT, hM, hHM, hTM⟩ := hi
  have hW := hS.1
  have h9 := hW.2.1
  unfold f_X7_rotation f_X8_rotation
  rw [hX.1, X1_hasNode N _ (by omega), X8_isNode N _ (by omega) m.1 hM.1]
  refine Ok_bd1.mpr (Ok_some.mpr (Ok_sw.mpr (Ok_bd1.mpr (Ok_some.mpr ?_))))
  cases hb : inb p1 (gN G) with
  | false =>
    rw [if_pos bF0, if_pos bF0]
    exact Ok_some.mpr (Ok_some.mpr rfl)
  | true =>
    obtain ⟨v, hv, rfl⟩ := inb_of hb (by omega)
    rw [if_neg bT0, if_neg bT0]
    by_cases c : 0 ≤ p2
    · rw [if_pos c, if_pos c]
      obtain ⟨k, hk, rfl⟩ := nI_of (i_nlt.mpr c)
      have h8 := WF_deg hW v
      have e43 : (43 + nI v) = nI (43 + v) := nI_add 43 _
      rw [e43, nI_clamp (by omega), nI_clamp (by omega), hX.2.2.2.2.1 v (by omega), hM.2.2.2.2.1 v (by omega)]
      refine Ok_chk.mpr ⟨inb_nI (by omega) (by decide), Ok_sw.mpr (Ok_chk.mpr ⟨inb_nI (by omega) (by decide), ?_⟩)⟩
      by_cases c2 : nI (gR G v).length ≤ nI k
      · rw [if_pos c2, if_pos c2]
        exact Ok_some.mpr (Ok_some.mpr rfl)
      · rw [if_neg c2, if_neg c2]
        have c3 : k < (gR G v).length := by
          rw [nI_leI (by omega) hk] at c2
          omega
        rw [X1_edgeAt hW hX.2.2.2.2.2 N v k (by omega) c3, X8_turn hW hM.2.2.2.2.2 N v k (by omega) c3]
        exact Ok_bd1.mpr (Ok_some.mpr (Ok_some.mpr (Ok_bd1.mpr (Ok_some.mpr (Ok_some.mpr rfl)))))
    · rw [if_neg c, if_neg c]
      exact Ok_some.mpr (Ok_some.mpr rfl)
theorem ok_edge : OK_edge Inv N := by
  intro x m p1 p2 hi
  refine OK_qq hi ?_
  obtain ⟨G, n, hs, l, cs, hS, hX, hF, hH, hT, hM, hHM, hTM⟩ := hi
  have hW := hS.1
  have h20 := hW.2.2.1
  unfold f_X7_edge f_X8_edge
  rw [hX.2.1, X1_hasEdge N _ (by omega), X8_isEdge N _ (by omega) m.1 hM.2.1, X8_inI]
  refine Ok_bd1.mpr (Ok_some.mpr (Ok_sw.mpr (Ok_bd1.mpr (Ok_some.mpr (Ok_sw.mpr ?_)))))
  cases hb : inb p1 (gE G).length with
  | false =>
    rw [if_pos bF0, if_pos bF0]
    exact Ok_some.mpr (Ok_some.mpr rfl)
  | true =>
    obtain ⟨e, he, rfl⟩ := inb_of hb (by omega)
    rw [if_neg bT0, if_neg bT0]
    refine Ok_sw.mpr (Ok_bd1.mpr (Ok_some.mpr (Ok_sw.mpr ?_)))
    by_cases c : p2 < 0
    · rw [if_pos c, if_pos c, if_neg i00]
      exact Ok_some.mpr (Ok_some.mpr rfl)
    · rw [if_neg c, if_neg c]
      by_cases c2 : p2 ≤ 1
      · rw [if_pos c2, if_neg (i_nlt.mpr c2), if_pos i10]
        have e3 : (3 + nI e) = nI (3 + e) := nI_add 3 _
        have e23 : (23 + nI e) = nI (23 + e) := nI_add 23 _
        rw [e3, e23, nI_clamp (by omega), nI_clamp (by omega), nI_clamp (by omega), (hX.2.2.2.1 e he).1, (hX.2.2.2.1 e he).2, (hM.2.2.2.1 e he).1, (hM.2.2.2.1 e he).2]
        by_cases c3 : p2 = 0
        · rw [if_neg (fun q => q c3), if_neg (fun q => q c3)]
          exact Ok_chk.mpr ⟨inb_nI (by omega) (by decide), Ok_some.mpr (Ok_chk.mpr ⟨inb_nI (by omega) (by decide), Ok_some.mpr rfl⟩)⟩
        · rw [if_pos c3, if_pos c3]
          exact Ok_chk.mpr ⟨inb_nI (by omega) (by decide), Ok_some.mpr (Ok_chk.mpr ⟨inb_nI (by omega) (by decide), Ok_some.mpr rfl⟩)⟩
      · rw [if_neg c2, if_pos (i_nle.mp c2), if_neg i00]
        exact Ok_some.mpr (Ok_some.mpr rfl)
theorem ok_count (hN : 1000 < N) : OK_count Inv N := by
  intro x m p1 hi
  obtain ⟨G, n, hs, l, cs, hS, hX, hF, hH, hT, hM, hHM, hTM⟩ := hi
  have hW := hS.1
  refine OK_mk ?_
  unfold f_X7_count f_X8_count
  by_cases c0 : p1 = 0
  · rw [if_pos c0, if_pos c0]
    exact Ok_some.mpr (Ok_chk.mpr ⟨by decide, Ok_some.mpr ⟨_, _, _, rfl, by rw [hX.1, ← hM.1]; rfl, ⟨G, n, hs, l, cs, hS, hX, hF, hH, hT, hM, hHM, hTM⟩⟩⟩)
  rw [if_neg c0, if_neg c0]
  by_cases c1 : p1 = 1
  · rw [if_pos c1, if_pos c1]
    exact Ok_some.mpr (Ok_chk.mpr ⟨by decide, Ok_some.mpr ⟨_, _, _, rfl, by rw [hX.2.1, ← hM.2.1]; rfl, ⟨G, n, hs, l, cs, hS, hX, hF, hH, hT, hM, hHM, hTM⟩⟩⟩)
  rw [if_neg c1, if_neg c1]
  by_cases c2 : p1 = 2
  · rw [if_pos c2, if_pos c2, X8_components hW hM N (by omega)]
    exact Ok_some.mpr (Ok_bd1.mpr (Ok_some.mpr (Ok_some.mpr ⟨_, _, _, rfl, by rw [hF.2.1], ⟨G, n, hs, l, cs, hS, hX, hF, hH, hT, hM, hHM, hTM⟩⟩)))
  rw [if_neg c2, if_neg c2]
  by_cases c3 : p1 = 3
  · rw [if_pos c3, if_pos c3]
    exact Ok_some.mpr (Ok_bd1.mpr (Ok_mono (X8_walks hW hM N (by omega) _ _ _) (fun b hb => Ok_some.mpr (OK_end (by rw [hF.1]; exact hb.2.2) ⟨G, n, hs, l, cs, hS, hX, hF, hH, hT, hM, hHM, hTM⟩))))
  rw [if_neg c3, if_neg c3]
  by_cases c4 : p1 = 4
  · rw [if_pos c4, if_pos c4]
    exact Ok_some.mpr (Ok_bd1.mpr (Ok_mono (X8_genus hW hM N (by omega) _ _ _) (fun b hb => Ok_some.mpr (OK_end (by rw [hF.2.2.1]; exact hb.1) ⟨G, n, hs, l, cs, hS, hX, hF, hH, hT, hM, hHM, hTM⟩))))
  rw [if_neg c4, if_neg c4]
  by_cases c5 : p1 = 5
  · rw [if_pos c5, if_pos c5]
    exact Ok_some.mpr (Ok_chk.mpr ⟨by decide, Ok_some.mpr ⟨_, _, _, rfl, by rw [hX.2.2.1, ← hM.2.2.1]; rfl, ⟨G, n, hs, l, cs, hS, hX, hF, hH, hT, hM, hHM, hTM⟩⟩⟩)
  rw [if_neg c5, if_neg c5]
  by_cases c6 : p1 = 6
  · rw [if_pos c6, if_pos c6]
    exact Ok_some.mpr (Ok_some.mpr ⟨_, _, _, rfl, by rw [hT.2.1, ← hTM.1], ⟨G, n, hs, l, cs, hS, hX, hF, hH, hT, hM, hHM, hTM⟩⟩)
  rw [if_neg c6, if_neg c6]
  by_cases c7 : p1 = 7
  · rw [if_pos c7, if_pos c7]
    exact Ok_some.mpr (Ok_some.mpr ⟨_, _, _, rfl, by rw [hH.1, ← hHM.1], ⟨G, n, hs, l, cs, hS, hX, hF, hH, hT, hM, hHM, hTM⟩⟩)
  rw [if_neg c7, if_neg c7]
  exact Ok_some.mpr (Ok_some.mpr ⟨_, _, _, rfl, rfl, ⟨G, n, hs, l, cs, hS, hX, hF, hH, hT, hM, hHM, hTM⟩⟩)
theorem ok_appendCharacter : OK_appendCharacter Inv N := by
  intro x m p1 hi
  obtain ⟨G, n, hs, l, cs, hS, hX, hF, hH, hT, hM, hHM, hTM⟩ := hi
  refine OK_mk ?_
  have hl := hT.1
  unfold f_X7_appendCharacter f_X8_appendCharacter
  rw [X8_inI, hT.2.1, hTM.1]
  refine Ok_sw.mpr (Ok_bd1.mpr (Ok_some.mpr (Ok_sw.mpr ?_)))
  by_cases c : p1 < 0
  · rw [if_pos c, if_pos c, if_neg i00]
    exact Ok_some.mpr (Ok_some.mpr ⟨_, _, _, rfl, rfl, ⟨G, n, hs, l, cs, hS, hX, hF, hH, ⟨hT.1, rfl, hT.2.2⟩, hM, hHM, ⟨rfl, hTM.2⟩⟩⟩)
  · rw [if_neg c, if_neg c]
    by_cases c2 : p1 ≤ 255
    · rw [if_pos c2, if_neg (i_nlt.mpr c2), if_pos i10]
      by_cases c3 : l = 100
      · rw [c3, if_neg (by decide : ¬ nI 100 < 100), if_neg (by decide : ¬ ¬ nI 100 = 100)]
        rw [c3] at hT hTM
        exact Ok_some.mpr (Ok_some.mpr ⟨_, _, _, rfl, rfl, ⟨G, n, hs, 100, cs, hS, hX, hF, hH, ⟨hT.1, rfl, hT.2.2⟩, hM, hHM, ⟨rfl, hTM.2⟩⟩⟩)
      · obtain ⟨k, hk, rfl⟩ := nI_of c
        have hk2 : k ≤ 255 := (nI_leI (b := 255) hk (by omega)).mp c2
        have c4 : nI l < 100 := (nI_ltI (b := 100) (by omega) (by omega)).mpr (by omega)
        have c5 : ¬ nI l = 100 := fun q => c3 ((nI_eq (b := 100) (by omega) (by omega)).mp q)
        rw [if_pos c4, if_pos c5]
        unfold f_X5_add
        rw [nI_clamp (by omega)]
        refine Ok_bd1.mpr (Ok_chk.mpr ⟨inb_nI (by omega) (by decide), Ok_some.mpr (Ok_some.mpr (Ok_chk.mpr ⟨inb_nI (by omega) (by decide), Ok_some.mpr ?_⟩))⟩)
        refine ⟨_, _, _, rfl, rfl, ⟨G, n, hs, l + 1, (fun j => if j = l then k else cs j), hS, hX, hF, hH, ⟨by omega, nI_1 l, fun j hj => ?_⟩, hM, hHM, ⟨nI_1 l, fun j hj => ?_⟩⟩⟩
        · show (if j = l then k else cs j) < 256 ∧ upd _ _ _ j = nI (if j = l then k else cs j)
          rw [upd_at]
          by_cases e : j = l
          · rw [if_pos e, if_pos e]; exact ⟨by omega, rfl⟩
          · rw [if_neg e, if_neg e]; exact hT.2.2 j (by omega)
        · show upd _ _ _ j = vp_nar .byte ((nI (if j = l then k else cs j)).toInt8.toInt32)
          rw [upd_at]
          by_cases e : j = l
          · rw [if_pos e, if_pos e]
          · rw [if_neg e, if_neg e]; exact hTM.2 j (by omega)
    · rw [if_neg c2, if_pos (i_nle.mp c2), if_neg i00]
      exact Ok_some.mpr (Ok_some.mpr ⟨_, _, _, rfl, rfl, ⟨G, n, hs, l, cs, hS, hX, hF, hH, ⟨hT.1, rfl, hT.2.2⟩, hM, hHM, ⟨rfl, hTM.2⟩⟩⟩)
theorem ok_clearText : OK_clearText Inv N := by
  intro x m hi
  obtain ⟨G, n, hs, l, cs, hS, hX, hF, hH, hT, hM, hHM, hTM⟩ := hi
  refine OK_mk (Ok_some.mpr (Ok_some.mpr ⟨x.2.2.2.1.1, (x.1, x.2.1, x.2.2.1, (0, x.2.2.2.1.2), x.2.2.2.2), (m.1, m.2.1, m.2.2.1, m.2.2.2.1, 0, m.2.2.2.2.2), rfl, by rw [hT.2.1, ← hTM.1], ⟨G, n, hs, 0, cs, hS, hX, hF, hH, ⟨Nat.zero_le _, rfl, fun k hk => absurd hk (Nat.not_lt_zero k)⟩, hM, hHM, ⟨rfl, fun k hk => absurd hk (Nat.not_lt_zero k)⟩⟩⟩))
end CALLS1
