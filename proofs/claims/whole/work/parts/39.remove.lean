/-! ===== an edge goes ===== -/
def sh (e f : Nat) : Nat := if e < f then f - 1 else f
def rm (e : Nat) (l : List Nat) : List Nat := (l.filter (fun f => decide (f ≠ e))).map (sh e)
theorem rm_snoc (e x : Nat) (l : List Nat) : rm e (l ++ [x]) = rm e l ++ (if x = e then [] else [sh e x]) := by
  unfold rm
  rw [List.filter_append, List.map_append]
  by_cases h : x = e
  · simp [h]
  · simp [h]
theorem rm_take {e i : Nat} {l : List Nat} (h : i < l.length) : rm e (l.take (i + 1)) = rm e (l.take i) ++ (if l.getD i 0 = e then [] else [sh e (l.getD i 0)]) := by
  rw [List.take_add_one, List.getElem?_eq_getElem h, List.getD_eq_getElem?_getD, List.getElem?_eq_getElem h]
  exact rm_snoc e l[i] (l.take i)
theorem rm_le (e : Nat) (l : List Nat) : (rm e l).length ≤ l.length := by
  unfold rm
  rw [List.length_map]
  exact List.length_filter_le _ _
theorem Row_snoc {t : Nat → Int32} {b x : Nat} {l : List Nat} (h : Row t b l) (hx : t (b + l.length) = nI x) : Row t b (l ++ [x]) := by
  intro k hk
  rw [List.length_append, List.length_singleton] at hk
  rw [List.getD_eq_getElem?_getD, List.getElem?_append]
  by_cases h1 : k < l.length
  · rw [if_pos h1, ← List.getD_eq_getElem?_getD]
    exact h k h1
  · obtain rfl : k = l.length := by omega
    rw [if_neg h1, Nat.sub_self]
    exact hx
/-- the row t at b while edge e is taken out: the first i places are done -/
def RmI (t0 : Nat → Int32) (b e : Nat) (l : List Nat) (i kept : Nat) (t : Nat → Int32) : Prop :=
  kept = (rm e (l.take i)).length ∧ Row t b (rm e (l.take i)) ∧ (∀ j, i ≤ j → j < l.length → t (b + j) = nI (l.getD j 0)) ∧ ∀ x, x < b ∨ b + 8 ≤ x → t x = t0 x
theorem RmI_le {t0 t : Nat → Int32} {b e i kept : Nat} {l : List Nat} (h : RmI t0 b e l i kept t) : kept ≤ i := by
  rw [h.1]
  refine Nat.le_trans (rm_le e _) ?_
  rw [List.length_take]
  omega
theorem RmI_skip {t0 t : Nat → Int32} {b e i kept : Nat} {l : List Nat} (h : RmI t0 b e l i kept t) (hi : i < l.length) (he : l.getD i 0 = e) : RmI t0 b e l (i + 1) kept t := by
  obtain ⟨h1, h2, h3, h4⟩ := h
  have q : rm e (l.take (i + 1)) = rm e (l.take i) := by rw [rm_take hi, if_pos he, List.append_nil]
  refine ⟨by rw [q]; exact h1, by rw [q]; exact h2, fun j a b => h3 j (by omega) b, h4⟩
theorem RmI_junk {t0 t : Nat → Int32} {b e i kept : Nat} {l : List Nat} (y : Int32) (h : RmI t0 b e l i kept t) (hl : l.length ≤ 8) (hi : i < l.length) (he : l.getD i 0 = e) : RmI t0 b e l (i + 1) kept (upd t (b + kept) y) := by
  have hk := RmI_le h
  obtain ⟨h1, h2, h3, h4⟩ := RmI_skip h hi he
  refine ⟨h1, fun k q => ?_, fun j a c => ?_, fun x c => ?_⟩
  · rw [pk_un (by omega)]; exact h2 k q
  · rw [pk_un (by omega)]; exact h3 j a c
  · rw [pk_un (by omega)]; exact h4 x c
theorem RmI_keep {t0 t : Nat → Int32} {b e i kept : Nat} {l : List Nat} (h : RmI t0 b e l i kept t) (hl : l.length ≤ 8) (hi : i < l.length) (he : ¬ l.getD i 0 = e) : RmI t0 b e l (i + 1) (kept + 1) (upd t (b + kept) (nI (sh e (l.getD i 0)))) := by
  have hk := RmI_le h
  obtain ⟨h1, h2, h3, h4⟩ := h
  have q : rm e (l.take (i + 1)) = rm e (l.take i) ++ [sh e (l.getD i 0)] := by rw [rm_take hi, if_neg he]
  refine ⟨by rw [q, List.length_append, List.length_singleton, h1], ?_, fun j a c => ?_, fun x c => ?_⟩
  · rw [q]
    refine Row_snoc (fun k hk => ?_) ?_
    · rw [pk_un (by omega)]; exact h2 k hk
    · rw [← h1, pk_us]
  · rw [pk_un (by omega)]; exact h3 j (by omega) c
  · rw [pk_un (by omega)]; exact h4 x c
theorem nI_sh {e f : Nat} (hf : f < 2 ^ 31) (he : e < 2 ^ 31) (hne : ¬ f = e) : (nI f ≤ nI e → nI f = nI (sh e f)) ∧ (¬ nI f ≤ nI e → nI f - 1 = nI (sh e f)) := by
  unfold sh
  constructor
  · intro h
    rw [nI_leI hf he] at h
    rw [if_neg (by omega)]
  · intro h
    rw [nI_leI hf he] at h
    rw [if_pos (by omega), nI_sub1 (by omega)]
theorem X1_close (N v e : Nat) (l : List Nat) (hN : 30 < N) (hv : v < 9) (hl : l.length ≤ 8) (he : e < 20) (hm : ∀ f ∈ l, f < 20) (de tu : Nat → Int32) (h : de v = nI l.length) (hr : Row tu (8 * v) l) :
    Ok (f_X1_closeSlots N de tu (nI v) (nI e)) (fun r => r.1 = upd de v (nI (rm e l).length) ∧ Row r.2 (8 * v) (rm e l) ∧ ∀ x, x < 8 * v ∨ 8 * v + 8 ≤ x → r.2 x = tu x) := by
  unfold f_X1_closeSlots
  have e8 : nI v * 8 = nI (8 * v) := by rw [show (8 : Int32) = nI 8 from rfl, pk_mul, Nat.mul_comm]
  refine Ok_nm.mpr ?_
  rw [e8]
  refine lpU (σ := Nat × (Nat → Int32)) (fun n i s => f_X1_closeSlots_b11 N n (nI v) (nI e) (nI (8 * v)) (nI s.1) (nI i) de s.2) (fun i s => RmI tu (8 * v) e l i s.1 s.2) l.length ?_ ?_ N 0 (0, tu) (Nat.zero_le _) (by omega) ⟨by simp [rm], by intro k hk; simp [rm] at hk, fun j _ hj => hr j hj, fun x _ => rfl⟩
  · rintro n ⟨kept, t⟩ hI
    have hk := RmI_le hI
    obtain ⟨h1, h2, h3, h4⟩ := hI
    rw [List.take_length] at h1 h2
    dsimp only at h1 h2 h3 h4 hk
    simp only [f_X1_closeSlots_b11, f_X1_closeSlots_b72]
    rw [nI_clamp (by omega), h]
    refine Ok_chk.mpr ⟨inb_nI hv (by decide), Ok_ife (nI_leI (by omega) (by omega)) (fun _ => ?_) (fun c => absurd (Nat.le_refl _) c)⟩
    refine Ok_chk.mpr ⟨inb_nI hv (by decide), Ok_some.mpr ⟨?_, h2, h4⟩⟩
    dsimp only
    rw [h1]
  · rintro n i ⟨kept, t⟩ hi hI ih
    have hk := RmI_le hI
    have hI2 := hI
    obtain ⟨h1, h2, h3, h4⟩ := hI
    dsimp only at h1 h2 h3 h4 hk hI2
    have hf : l.getD i 0 < 20 := by
      rw [List.getD_eq_getElem?_getD, List.getElem?_eq_getElem hi]
      exact hm _ (List.getElem_mem hi)
    simp only [f_X1_closeSlots_b11, f_X1_closeSlots_b66, f_X1_closeSlots_b62]
    rw [nI_clamp (n := v) (by omega), h]
    refine Ok_chk.mpr ⟨inb_nI hv (by decide), Ok_ife (nI_leI (by omega) (by omega)) (fun c => absurd c (by omega)) (fun _ => ?_)⟩
    rw [nI_add, nI_add, nI_clamp (n := 8 * v + i) (by omega), nI_clamp (n := 8 * v + kept) (by omega), nI_1, nI_1, h3 i (Nat.le_refl i) hi]
    refine Ok_chk.mpr ⟨inb_nI (by omega) (by decide), Ok_nm.mpr (Ok_ife (nI_eq (by omega) (by omega)) (fun c => ?_) (fun c => ?_))⟩
    · exact ih (kept, t) (RmI_skip hI2 hi c)
    · have hs := nI_sh (f := l.getD i 0) (e := e) (by omega) (by omega) c
      have hkp := RmI_keep hI2 hl hi c
      refine Ok_ite.mpr ⟨fun c2 => Ok_chk.mpr ⟨inb_nI (by omega) (by decide), ?_⟩, fun c2 => Ok_chk.mpr ⟨inb_nI (by omega) (by decide), ?_⟩⟩
      · rw [hs.1 c2]
        exact ih (kept + 1, _) hkp
      · rw [hs.2 c2]
        exact ih (kept + 1, _) hkp
/-- the graph without edge e -/
def gDel (G : Gr) (e : Nat) : Gr := (gN G, (gE G).eraseIdx e, (fun v => rm e (gR G v)), 0)
section DEL
variable {G : Gr} {e : Nat}
theorem gDel_len (he : e < (gE G).length) : (gE (gDel G e)).length = (gE G).length - 1 := by
  show ((gE G).eraseIdx e).length = _
  rw [List.length_eraseIdx, if_pos he]
theorem gDel_end (f : Nat) : gEnd (gDel G e) f = gEnd G (if f < e then f else f + 1) := by
  show ((gE G).eraseIdx e).getD f (0, 0) = (gE G).getD _ (0, 0)
  rw [List.getD_eq_getElem?_getD, List.getElem?_eraseIdx, List.getD_eq_getElem?_getD]
  split <;> rfl
theorem WF_del (hW : WF G) (he : e < (gE G).length) : WF (gDel G e) := by
  obtain ⟨h1, h2, h3, h4, h5, h6, h7, h8⟩ := hW
  refine ⟨h1, h2, ?_, ?_, ?_, ?_, ?_, (by decide : 0 < 100)⟩
  · rw [gDel_len he]; omega
  · intro q hq
    exact h4 q (List.mem_of_mem_eraseIdx hq)
  · exact (List.eraseIdx_sublist (gE G) e).nodup h5
  · intro v
    show (List.map (sh e) _).Nodup
    have h9 : ((gR G v).filter (fun f => decide (f ≠ e))).Nodup := (List.filter_sublist).nodup (h6 v)
    rw [List.nodup_iff_pairwise_ne] at h9 ⊢
    rw [List.pairwise_map]
    refine h9.imp_of_mem (fun {a b} ha hb hab q => hab ?_)
    have ha2 : a ≠ e := of_decide_eq_true (List.mem_filter.mp ha).2
    have hb2 : b ≠ e := of_decide_eq_true (List.mem_filter.mp hb).2
    unfold sh at q
    split at q <;> split at q <;> omega
  · intro v f
    show f ∈ List.map (sh e) _ ↔ _
    rw [List.mem_map]
    unfold gAt
    rw [gDel_len he, gDel_end]
    constructor
    · rintro ⟨f0, hf0, rfl⟩
      obtain ⟨q1, q2⟩ := List.mem_filter.mp hf0
      have q2 : f0 ≠ e := of_decide_eq_true q2
      obtain ⟨q3, q4⟩ := (h7 v f0).mp q1
      have q5 : (if sh e f0 < e then sh e f0 else sh e f0 + 1) = f0 := by
        unfold sh
        split <;> split <;> omega
      rw [q5]
      refine ⟨?_, q4⟩
      unfold sh
      split <;> omega
    · rintro ⟨q1, q2⟩
      refine ⟨if f < e then f else f + 1, List.mem_filter.mpr ⟨(h7 v _).mpr ⟨?_, q2⟩, decide_eq_true ?_⟩, ?_⟩
      · split <;> omega
      · split <;> omega
      · unfold sh
        split <;> split <;> omega
theorem X1_shift (N m e : Nat) (hm : m < 20) (he : e ≤ m) (hN : 30 < N) (no : Int32) (lo hi de tu : Nat → Int32) :
    f_X1_removeAt_b34 N no N (nI e) (nI m) lo hi de tu = some (nI m, (fun x => if e ≤ x ∧ x < m then lo (x + 1) else lo x), (fun x => if e ≤ x ∧ x < m then hi (x + 1) else hi x), de, tu) := by
  refine Ok_of ?_
  refine lpU (σ := (Nat → Int32) × (Nat → Int32)) (fun n i s => f_X1_removeAt_b34 N no n (nI i) (nI m) s.1 s.2 de tu) (fun i s => e ≤ i ∧ (∀ x, s.1 x = if e ≤ x ∧ x < i then lo (x + 1) else lo x) ∧ (∀ x, s.2 x = if e ≤ x ∧ x < i then hi (x + 1) else hi x)) m ?_ ?_ N e (lo, hi) he (by omega) ⟨Nat.le_refl e, fun x => by rw [if_neg (by omega)], fun x => by rw [if_neg (by omega)]⟩
  · rintro n ⟨lo', hi'⟩ ⟨h1, h2, h3⟩
    simp only [f_X1_removeAt_b34]
    refine Ok_ife (nI_leI (by omega) (by omega)) (fun _ => Ok_some.mpr ?_) (fun c => absurd (Nat.le_refl _) c)
    rw [show lo' = _ from funext h2, show hi' = _ from funext h3]
  · rintro n i ⟨lo', hi'⟩ hi0 ⟨h1, h2, h3⟩ ih
    dsimp only at h1 h2 h3
    simp only [f_X1_removeAt_b34]
    refine Ok_ife (nI_leI (by omega) (by omega)) (fun c => absurd c (by omega)) (fun _ => ?_)
    rw [nI_1, nI_clamp (by omega), nI_clamp (by omega)]
    refine Ok_chk.mpr ⟨inb_nI (by omega) (by decide), Ok_chk.mpr ⟨inb_nI (by omega) (by decide), Ok_chk.mpr ⟨inb_nI (by omega) (by decide), Ok_chk.mpr ⟨inb_nI (by omega) (by decide), ?_⟩⟩⟩⟩
    refine ih (upd lo' i (lo' (i + 1)), upd hi' i (hi' (i + 1))) ⟨by omega, fun x => ?_, fun x => ?_⟩
    · show upd lo' i (lo' (i + 1)) x = _
      rw [upd_at, h2, h2]
      by_cases hx : x = i
      · rw [if_pos hx, if_neg (by omega), if_pos (by omega), hx]
      · rw [if_neg hx]
        by_cases c : e ≤ x ∧ x < i
        · rw [if_pos c, if_pos (by omega)]
        · rw [if_neg c, if_neg (by omega)]
    · show upd hi' i (hi' (i + 1)) x = _
      rw [upd_at, h3, h3]
      by_cases hx : x = i
      · rw [if_pos hx, if_neg (by omega), if_pos (by omega), hx]
      · rw [if_neg hx]
        by_cases c : e ≤ x ∧ x < i
        · rw [if_pos c, if_pos (by omega)]
        · rw [if_neg c, if_neg (by omega)]
theorem X1_removeAt (hW : WF G) (he : e < (gE G).length) {g : TG} (hX : RX G g) (N : Nat) (hN : 30 < N) :
    Ok (f_X1_removeAt N g.1 g.2.1 g.2.2.2.1 g.2.2.2.2.1 g.2.2.2.2.2.1 g.2.2.2.2.2.2 (nI e)) (fun r => RX (gDel G e) (g.1, r.1, 0, r.2.1, r.2.2.1, r.2.2.2.1, r.2.2.2.2)) := by
  obtain ⟨x1, x2, x3, x4, x5, x6⟩ := hX
  have hn := hW.2.1
  have hm := hW.2.2.1
  unfold f_X1_removeAt
  rw [x1, x2]
  refine lpU (σ := (Nat → Int32) × (Nat → Int32)) (fun n i s => f_X1_removeAt_b2 N (nI (gN G)) n (nI e) (nI i) (nI (gE G).length) g.2.2.2.1 g.2.2.2.2.1 s.1 s.2) (fun i s => ∀ v, v < 9 → s.1 v = nI (if v < i then rm e (gR G v) else gR G v).length ∧ Row s.2 (8 * v) (if v < i then rm e (gR G v) else gR G v)) (gN G) ?_ ?_ N 0 (g.2.2.2.2.2.1, g.2.2.2.2.2.2) (Nat.zero_le _) (by omega) (fun v hv => by rw [if_neg (by omega)]; exact ⟨x5 v hv, fun k hk => x6 v k hv hk⟩)
  · rintro n ⟨de, tu⟩ hI
    dsimp only at hI
    simp only [f_X1_removeAt_b2, f_X1_removeAt_b22]
    refine Ok_ife (nI_leI (by omega) (by omega)) (fun _ => ?_) (fun c => absurd (Nat.le_refl _) c)
    rw [nI_sub1 (by omega), X1_shift N _ e (by omega) (by omega) hN]
    have hall : ∀ v, v < 9 → (if v < gN G then rm e (gR G v) else gR G v) = rm e (gR G v) := by
      intro v hv
      by_cases c : v < gN G
      · rw [if_pos c]
      · rw [if_neg c]
        cases hl : gR G v with
        | nil => rfl
        | cons f t =>
          have q : gAt G f v := (hW.2.2.2.2.2.2.1 v f).mp (by rw [hl]; exact List.mem_cons_self)
          have := WF_end hW q.1
          rcases q.2 with q | q <;> omega
    refine Ok_some.mpr ⟨rfl, ?_, rfl, ?_, ?_, ?_⟩
    · show _ = nI (gE (gDel G e)).length
      rw [gDel_len he]
    · intro f hf
      rw [gDel_len he] at hf
      rw [gDel_end]
      dsimp only
      by_cases c : f < e
      · rw [if_pos c, if_neg (by omega), if_neg (by omega)]
        exact x4 f (by omega)
      · rw [if_neg c, if_pos (by omega), if_pos (by omega)]
        exact x4 (f + 1) (by omega)
    · intro v hv
      have := (hI v hv).1
      rw [hall v hv] at this
      exact this
    · intro v k hv hk
      have := (hI v hv).2
      rw [hall v hv] at this
      exact this k hk
  · rintro n i ⟨de, tu⟩ hi hI ih
    dsimp only at hI
    simp only [f_X1_removeAt_b2]
    refine Ok_ife (nI_leI (by omega) (by omega)) (fun c => absurd c (by omega)) (fun _ => ?_)
    have hIi := hI i (by omega)
    rw [if_neg (Nat.lt_irrefl i)] at hIi
    refine Ok_bd1.mpr (Ok_mono (X1_close N i e (gR G i) hN (by omega) (WF_deg hW i) (by omega) (fun f hf => by have := ((hW.2.2.2.2.2.2.1 i f).mp hf).1; omega) de tu hIi.1 hIi.2) ?_)
    rintro ⟨de2, tu2⟩ ⟨q1, q2, q3⟩
    dsimp only at q1 q2 q3
    rw [nI_1]
    refine ih (de2, tu2) (fun v hv => ?_)
    have h8 := WF_deg hW v
    have h9 := rm_le e (gR G v)
    dsimp only
    by_cases c : v = i
    · rw [c, if_pos (by omega), q1, pk_us]
      exact ⟨rfl, q2⟩
    · have e1 : (if v < i + 1 then rm e (gR G v) else gR G v) = (if v < i then rm e (gR G v) else gR G v) := by
        by_cases c2 : v < i
        · rw [if_pos c2, if_pos (by omega)]
        · rw [if_neg c2, if_neg (by omega)]
      have h10 : (if v < i then rm e (gR G v) else gR G v).length ≤ 8 := by split <;> omega
      rw [e1, q1, pk_un c]
      refine ⟨(hI v hv).1, fun k hk => ?_⟩
      rw [q3 _ (by omega)]
      exact (hI v hv).2 k hk
end DEL
