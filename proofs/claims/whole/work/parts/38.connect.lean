/-! ===== a new edge ===== -/
def gAdd (G : Gr) (a b ka kb : Nat) : Gr := (gN G, gE G ++ [(if b < a then b else a, if a < b then b else a)], (fun v => if v = a then ins (gR G a) ka (gE G).length else if v = b then ins (gR G b) kb (gE G).length else gR G v), 0)
section ADD
variable {G : Gr} {a b ka kb : Nat}
theorem gAdd_len : (gE (gAdd G a b ka kb)).length = (gE G).length + 1 := by
  show (gE G ++ [_]).length = _
  rw [List.length_append, List.length_singleton]
theorem gAdd_end {e : Nat} (he : e < (gE G).length) : gEnd (gAdd G a b ka kb) e = gEnd G e := by
  show (gE G ++ [_]).getD e (0, 0) = (gE G).getD e (0, 0)
  rw [List.getD_eq_getElem?_getD, List.getElem?_append, if_pos he, List.getD_eq_getElem?_getD]
theorem gAdd_new : gEnd (gAdd G a b ka kb) (gE G).length = (if b < a then b else a, if a < b then b else a) := by
  show (gE G ++ [_]).getD (gE G).length (0, 0) = _
  rw [List.getD_eq_getElem?_getD, List.getElem?_append, if_neg (Nat.lt_irrefl _), Nat.sub_self]
  rfl
theorem gAdd_at {e v : Nat} (hab : a ≠ b) : gAt (gAdd G a b ka kb) e v ↔ gAt G e v ∨ (e = (gE G).length ∧ (v = a ∨ v = b)) := by
  unfold gAt
  rw [gAdd_len]
  constructor
  · rintro ⟨h1, h2⟩
    rcases Nat.lt_or_ge e (gE G).length with h3 | h3
    · rw [gAdd_end h3] at h2
      exact Or.inl ⟨h3, h2⟩
    · obtain rfl : e = (gE G).length := by omega
      rw [gAdd_new] at h2
      refine Or.inr ⟨rfl, ?_⟩
      dsimp only at h2
      split at h2 <;> split at h2 <;> omega
  · rintro (⟨h1, h2⟩ | ⟨rfl, h2⟩)
    · rw [gAdd_end h1]
      exact ⟨by omega, h2⟩
    · rw [gAdd_new]
      refine ⟨by omega, ?_⟩
      dsimp only
      split <;> split <;> omega
theorem gAdd_rot (v : Nat) : gR (gAdd G a b ka kb) v = if v = a then ins (gR G a) ka (gE G).length else if v = b then ins (gR G b) kb (gE G).length else gR G v := rfl
theorem WF_add (hW : WF G) (hm : (gE G).length < 20) (ha : a < gN G) (hb : b < gN G) (hab : a ≠ b) (hj : ¬ joined G a b) : WF (gAdd G a b ka kb) := by
  obtain ⟨h1, h2, h3, h4, h5, h6, h7, h8⟩ := hW
  have hno : ∀ v, (gE G).length ∉ gR G v := fun v q => Nat.lt_irrefl _ ((h7 v _).mp q).1
  refine ⟨h1, h2, ?_, ?_, ?_, ?_, ?_, (by decide : 0 < 100)⟩
  · rw [gAdd_len]; omega
  · intro q hq
    rcases List.mem_append.mp hq with hq | hq
    · exact h4 q hq
    · rw [List.mem_singleton.mp hq]
      show (if b < a then b else a) < (if a < b then b else a) ∧ (if a < b then b else a) < gN G
      split <;> split <;> omega
  · show (gE G ++ [_]).Nodup
    rw [List.nodup_append]
    refine ⟨h5, List.nodup_cons.mpr ⟨List.not_mem_nil, List.nodup_nil⟩, ?_⟩
    intro x hx y hy hxy
    rw [List.mem_singleton.mp hy] at hxy
    obtain ⟨i, hi, hq⟩ := List.getElem_of_mem hx
    refine hj ⟨i, hi, decide_eq_true ?_⟩
    unfold gEnd
    rw [List.getD_eq_getElem?_getD, List.getElem?_eq_getElem hi, ← hxy, ← hq]
    rfl
  · intro v
    rw [gAdd_rot]
    split
    · exact ins_nodup (h6 a) (hno a)
    · split
      · exact ins_nodup (h6 b) (hno b)
      · exact h6 v
  · intro v e
    rw [gAdd_rot, gAdd_at hab, ← h7 v e]
    split
    · rename_i q; subst q
      rw [ins_mem]
      constructor
      · rintro (q | q)
        · exact Or.inr ⟨q, Or.inl rfl⟩
        · exact Or.inl q
      · rintro (q | q)
        · exact Or.inr q
        · exact Or.inl q.1
    · rename_i q0
      split
      · rename_i q; subst q
        rw [ins_mem]
        constructor
        · rintro (q | q)
          · exact Or.inr ⟨q, Or.inr rfl⟩
          · exact Or.inl q
        · rintro (q | q)
          · exact Or.inr q
          · exact Or.inl q.1
      · rename_i q1
        constructor
        · exact Or.inl
        · rintro (q | q)
          · exact q
          · rcases q.2 with q | q
            · exact absurd q q0
            · exact absurd q q1
theorem WF_room (hW : WF G) (hm : (gE G).length < 20) (ha : a < gN G) (hb : b < gN G) (hab : a ≠ b) (hj : ¬ joined G a b) : (gR G a).length ≤ 7 ∧ (gR G b).length ≤ 7 := by
  have hW2 : WF (gAdd G a b 0 0) := WF_add hW hm ha hb hab hj
  have e1 := WF_deg hW2 a
  have e2 := WF_deg hW2 b
  rw [gAdd_rot, if_pos rfl, ins_length (Nat.zero_le _)] at e1
  rw [gAdd_rot, if_neg (fun q => hab q.symm), if_pos rfl, ins_length (Nat.zero_le _)] at e2
  omega
theorem X1_connect (hW : WF G) (hm : (gE G).length < 20) (ha : a < gN G) (hb : b < gN G) (hab : a ≠ b) (hj : ¬ joined G a b) (hka : ka ≤ (gR G a).length) (hkb : kb ≤ (gR G b).length) {g : TG} (hX : RX G g) (N : Nat) (hN : 30 < N) :
    Ok (f_X1_connect N g.2.1 g.2.2.2.1 g.2.2.2.2.1 g.2.2.2.2.2.1 g.2.2.2.2.2.2 (nI a) (nI b) (nI ka) (nI kb)) (fun r => r.1 = nI (gE G).length ∧ RX (gAdd G a b ka kb) (g.1, r.2.1, 0, r.2.2.1, r.2.2.2.1, r.2.2.2.2.1, r.2.2.2.2.2)) := by
  obtain ⟨x1, x2, x3, x4, x5, x6⟩ := hX
  have hn := hW.2.1
  obtain ⟨da, db⟩ := WF_room hW hm ha hb hab hj
  unfold f_X1_connect
  rw [x2, nI_clamp (by omega), X1_open N a ka _ hN (by omega) hka da _ _ _ (x5 a (by omega))]
  refine Ok_chk.mpr ⟨inb_nI hm (by decide), Ok_chk.mpr ⟨inb_nI hm (by decide), Ok_bd1.mpr (Ok_some.mpr ?_)⟩⟩
  dsimp only
  rw [X1_open N b kb (gR G b).length hN (by omega) hkb db _ _ _ (by rw [pk_un (fun q => hab q.symm)]; exact x5 b (by omega))]
  refine Ok_bd1.mpr (Ok_some.mpr (Ok_some.mpr ⟨rfl, x1, ?_, rfl, ?_, ?_, ?_⟩))
  · show nI (gE G).length + 1 = _
    rw [nI_1, gAdd_len]
  · intro e he
    rw [gAdd_len] at he
    show upd _ _ _ e = _ ∧ upd _ _ _ e = _
    rw [upd_at, upd_at]
    by_cases h : e = (gE G).length
    · rw [if_pos h, if_pos h, h, gAdd_new, nI_min (by omega) (by omega), nI_max (by omega) (by omega)]
      exact ⟨rfl, rfl⟩
    · rw [if_neg h, if_neg h, gAdd_end (by omega)]
      exact x4 e (by omega)
  · intro v hv
    show upd (upd _ _ _) _ _ v = _
    rw [gAdd_rot, upd_at, upd_at]
    by_cases h1 : v = a
    · rw [if_neg (by omega), if_pos h1, if_pos h1, ins_length hka]
    · rw [if_neg h1, if_neg h1]
      by_cases h2 : v = b
      · rw [if_pos h2, if_pos h2, ins_length hkb]
      · rw [if_neg h2, if_neg h2]; exact x5 v hv
  · intro v k hv hk
    show opn (opn _ _ _ _ _) _ _ _ _ (8 * v + k) = _
    rw [gAdd_rot] at hk ⊢
    have rw0 : ∀ u, u < 9 → Row g.2.2.2.2.2.2 (8 * u) (gR G u) := fun u hu j hj => x6 u j hu hj
    by_cases h1 : v = a
    · rw [if_pos h1] at hk ⊢
      rw [opn_out hkb (by rw [ins_length hka] at hk; omega), h1]
      exact Row_opn (rw0 a (by omega)) hka k hk
    · rw [if_neg h1] at hk ⊢
      by_cases h2 : v = b
      · rw [if_pos h2] at hk ⊢
        rw [h2]
        refine Row_opn (l := gR G b) (fun j hj => ?_) hkb k hk
        rw [opn_out hka (by omega)]
        exact rw0 b (by omega) j hj
      · rw [if_neg h2] at hk ⊢
        have := WF_deg hW v
        rw [opn_out hkb (by omega), opn_out hka (by omega)]
        exact x6 v k hv hk
theorem X8_joins (hW : WF G) (hm : (gE G).length < 20) (ha : a < gN G) (hb : b < gN G) (hab : a ≠ b) (hj : ¬ joined G a b) (hka : ka ≤ (gR G a).length) (hkb : kb ≤ (gR G b).length) {s : Nat → Int32} (hX : RM G s) (N : Nat) (hN : 30 < N) :
    Ok (f_X8_joins N s (nI a) (nI b) (nI ka) (nI kb)) (fun r => r.1 = nI (gE G).length ∧ RM (gAdd G a b ka kb) r.2) := by
  obtain ⟨x1, x2, x3, x4, x5, x6⟩ := hX
  have hn := hW.2.1
  obtain ⟨da, db⟩ := WF_room hW hm ha hb hab hj
  have e3 : (3 : Int32) + nI (gE G).length = nI (3 + (gE G).length) := nI_add 3 _
  have e23 : (23 : Int32) + nI (gE G).length = nI (23 + (gE G).length) := nI_add 23 _
  have key : ∀ (lo hi : Int32), lo = nI (if b < a then b else a) → hi = nI (if a < b then b else a) → Ok (f_X8_joins_b46 N (nI a) (nI b) (nI ka) (nI kb) (nI (gE G).length) (nI (23 + (gE G).length)) hi (upd s (3 + (gE G).length) lo)) (fun r => r.1 = nI (gE G).length ∧ RM (gAdd G a b ka kb) r.2) := by
    intro lo hi hlo hhi
    unfold f_X8_joins_b46
    rw [nI_clamp (by omega)]
    refine Ok_chk.mpr ⟨inb_nI (by omega) (by decide), ?_⟩
    rw [X8_puts N a ka (gR G a).length hN (by omega) hka da _ _ (by rw [pk_un (by omega), pk_un (by omega)]; exact x5 a (by omega))]
    refine Ok_bd1.mpr (Ok_some.mpr ?_)
    rw [X8_puts N b kb (gR G b).length hN (by omega) hkb db _ _ (by rw [pk_un (by omega), opn_out hka (by omega), pk_un (by omega), pk_un (by omega)]; exact x5 b (by omega))]
    refine Ok_bd1.mpr (Ok_some.mpr (Ok_chk.mpr ⟨by decide, Ok_chk.mpr ⟨by decide, Ok_chk.mpr ⟨by decide, Ok_some.mpr ⟨rfl, ?_⟩⟩⟩⟩))
    rw [show (1 : Int32).toNatClampNeg = 1 from rfl, show (2 : Int32).toNatClampNeg = 2 from rfl]
    have out : ∀ x, x ≠ 43 + a → x ≠ 43 + b → (x < 52 + 8 * a ∨ 52 + 8 * a + (gR G a).length < x) → (x < 52 + 8 * b ∨ 52 + 8 * b + (gR G b).length < x) → upd (opn (upd (opn (upd (upd s (3 + (gE G).length) lo) (23 + (gE G).length) hi) (52 + 8 * a) (gR G a).length ka (nI (gE G).length)) (43 + a) (nI ((gR G a).length + 1))) (52 + 8 * b) (gR G b).length kb (nI (gE G).length)) (43 + b) (nI ((gR G b).length + 1)) x = if x = 23 + (gE G).length then hi else if x = 3 + (gE G).length then lo else s x := by
      intro x q1 q2 q3 q4
      rw [pk_un q2, opn_out hkb q4, pk_un q1, opn_out hka q3, upd_at, upd_at]
    dsimp only
    refine ⟨?_, ?_, ?_, ?_, ?_, ?_⟩
    · rw [pk_un (by decide), pk_un (by decide), out 0 (by omega) (by omega) (by omega) (by omega), if_neg (by omega), if_neg (by omega)]
      exact x1
    · rw [pk_un (by decide), pk_us, out 1 (by omega) (by omega) (by omega) (by omega), if_neg (by omega), if_neg (by omega), x2, nI_1, gAdd_len]
    · rw [pk_us]; rfl
    · intro e he
      rw [gAdd_len] at he
      rw [pk_un (j := 3 + e) (by omega), pk_un (j := 3 + e) (by omega), out (3 + e) (by omega) (by omega) (by omega) (by omega), pk_un (j := 23 + e) (by omega), pk_un (j := 23 + e) (by omega), out (23 + e) (by omega) (by omega) (by omega) (by omega)]
      by_cases h : e = (gE G).length
      · rw [h, if_neg (by omega), if_pos rfl, if_pos rfl, gAdd_new]
        exact ⟨hlo, hhi⟩
      · rw [if_neg (by omega), if_neg (by omega), if_neg (by omega), if_neg (by omega), gAdd_end (by omega)]
        exact x4 e (by omega)
    · intro v hv
      rw [pk_un (by omega), pk_un (by omega), gAdd_rot]
      by_cases h1 : v = a
      · rw [h1, if_pos rfl, ins_length hka, pk_un (by omega), opn_out hkb (by omega), pk_us]
      · rw [if_neg h1]
        by_cases h2 : v = b
        · rw [h2, if_pos rfl, ins_length hkb, pk_us]
        · rw [if_neg h2, out _ (by omega) (by omega) (by omega) (by omega), if_neg (by omega), if_neg (by omega)]
          exact x5 v hv
    · intro v k hv hk
      have h8 := WF_deg hW v
      rw [pk_un (by omega), pk_un (by omega), pk_un (by omega)]
      rw [gAdd_rot] at hk ⊢
      have rw0 : ∀ u, u < 9 → Row s (52 + 8 * u) (gR G u) := fun u hu j hj => x6 u j hu hj
      by_cases h1 : v = a
      · rw [if_pos h1] at hk ⊢
        rw [opn_out hkb (by rw [ins_length hka] at hk; omega), pk_un (by omega), h1]
        refine Row_opn (l := gR G a) (fun j hj => ?_) hka k hk
        rw [pk_un (by omega), pk_un (by omega)]
        exact rw0 a (by omega) j hj
      · rw [if_neg h1] at hk ⊢
        by_cases h2 : v = b
        · rw [if_pos h2] at hk ⊢
          rw [h2]
          refine Row_opn (l := gR G b) (fun j hj => ?_) hkb k hk
          rw [pk_un (by omega), opn_out hka (by omega), pk_un (by omega), pk_un (by omega)]
          exact rw0 b (by omega) j hj
        · rw [if_neg h2] at hk ⊢
          rw [opn_out hkb (by omega), pk_un (by omega), opn_out hka (by omega), pk_un (by omega), pk_un (by omega)]
          exact x6 v k hv hk
  unfold f_X8_joins
  refine Ok_chk.mpr ⟨by decide, Ok_nm.mpr ?_⟩
  rw [show (1 : Int32).toNatClampNeg = 1 from rfl, x2, e3]
  refine Ok_ife (nI_leI (by omega) (by omega)) (fun c => ?_) (fun c => ?_)
  · unfold f_X8_joins_b26
    rw [nI_clamp (by omega), e23]
    refine Ok_chk.mpr ⟨inb_nI (by omega) (by decide), Ok_ife (nI_leI (by omega) (by omega)) (fun c2 => ?_) (fun c2 => absurd c c2)⟩
    exact key _ _ (by rw [if_pos (by omega)]) (by rw [if_neg (by omega)])
  · unfold f_X8_joins_b26
    rw [nI_clamp (by omega), e23]
    refine Ok_chk.mpr ⟨inb_nI (by omega) (by decide), Ok_ife (nI_leI (by omega) (by omega)) (fun c2 => absurd c2 c) (fun c2 => ?_)⟩
    exact key _ _ (by rw [if_neg (by omega)]) (by rw [if_pos (by omega)])
end ADD
