/-! ===== what is saved ===== -/
theorem RX_congr {G : Gr} (hW : WF G) {g g' : TG} (h : RX G g) (h1 : g'.1 = g.1) (h2 : g'.2.1 = g.2.1) (h3 : g'.2.2.1 = g.2.2.1) (h4 : ∀ x, x < 20 → g'.2.2.2.1 x = g.2.2.2.1 x) (h5 : ∀ x, x < 20 → g'.2.2.2.2.1 x = g.2.2.2.2.1 x) (h6 : ∀ x, x < 9 → g'.2.2.2.2.2.1 x = g.2.2.2.2.2.1 x) (h7 : ∀ x, x < 72 → g'.2.2.2.2.2.2 x = g.2.2.2.2.2.2 x) : RX G g' := by
  obtain ⟨x1, x2, x3, x4, x5, x6⟩ := h
  have hm := hW.2.2.1
  refine ⟨by rw [h1]; exact x1, by rw [h2]; exact x2, by rw [h3]; exact x3, fun e he => ?_, fun v hv => ?_, fun v k hv hk => ?_⟩
  · rw [h4 e (by omega), h5 e (by omega)]; exact x4 e he
  · rw [h6 v hv]; exact x5 v hv
  · have := WF_deg hW v
    rw [h7 _ (by omega)]; exact x6 v k hv hk
theorem RM_congr {G : Gr} (hW : WF G) {s s' : Nat → Int32} (h : RM G s) (h1 : ∀ x, x < 124 → s' x = s x) : RM G s' := by
  obtain ⟨x1, x2, x3, x4, x5, x6⟩ := h
  have hm := hW.2.2.1
  refine ⟨by rw [h1 0 (by omega)]; exact x1, by rw [h1 1 (by omega)]; exact x2, by rw [h1 2 (by omega)]; exact x3, fun e he => ?_, fun v hv => ?_, fun v k hv hk => ?_⟩
  · rw [h1 _ (by omega), h1 _ (by omega)]; exact x4 e he
  · rw [h1 _ (by omega)]; exact x5 v hv
  · have := WF_deg hW v
    rw [h1 _ (by omega)]; exact x6 v k hv hk
theorem cpy0 {f g : Nat → Int32} {n x : Nat} (h : x < n) : va_cpy f g 0 0 n x = f x := by
  rw [pk_cpy_in (Nat.zero_le _) (by omega), Nat.sub_zero, Nat.zero_add]
theorem X1_copyFrom {G : Gr} (hW : WF G) {g : TG} (hX : RX G g) (N : Nat) (a1 a2 a3 : Int32) (a4 a5 a6 a7 : Nat → Int32) : Ok (f_X1_copyFrom N a1 a2 a3 a4 a5 a6 a7 g.1 g.2.1 g.2.2.1 g.2.2.2.1 g.2.2.2.2.1 g.2.2.2.2.2.1 g.2.2.2.2.2.2) (fun r => RX G r) := by
  unfold f_X1_copyFrom
  refine Ok_chk.mpr ⟨by decide, Ok_chk.mpr ⟨by decide, Ok_chk.mpr ⟨by decide, Ok_chk.mpr ⟨by decide, Ok_some.mpr ?_⟩⟩⟩⟩
  exact RX_congr hW hX rfl rfl rfl (fun x hx => cpy0 hx) (fun x hx => cpy0 hx) (fun x hx => cpy0 hx) (fun x hx => cpy0 hx)
abbrev hAt (h : TH) (k : Nat) : TG := (h.2.1 k, h.2.2.1 k, h.2.2.2.1 k, h.2.2.2.2.1 k, h.2.2.2.2.2.1 k, h.2.2.2.2.2.2.1 k, h.2.2.2.2.2.2.2 k)
def HX (n : Nat) (hs : Nat → Gr) (h : TH) : Prop := h.1 = nI n ∧ ∀ k, k < n → RX (hs k) (hAt h k)
def HM (n : Nat) (hs : Nat → Gr) (past : Nat → Int32) (ps : Int32) : Prop := ps = nI n ∧ ∀ k, k < n → RM (hs k) (fun j => past (124 * k + j))
/-- the saved graphs behind one more -/
def pshN (n : Nat) : Nat := if n = 6 then 6 else n + 1
def pshG (n : Nat) (hs : Nat → Gr) (G : Gr) : Nat → Gr := if n = 6 then (fun k => if k = 5 then G else hs (k + 1)) else (fun k => if k = n then G else hs k)
theorem X2_save1 {G : Gr} (hW : WF G) {g : TG} (hX : RX G g) {n : Nat} (hn : n < 6) {hs : Nat → Gr} {h : TH} (hh : HX n hs h) (N : Nat) :
    Ok (f_X2_save1 N h.1 h.2.1 h.2.2.1 h.2.2.2.1 h.2.2.2.2.1 h.2.2.2.2.2.1 h.2.2.2.2.2.2.1 h.2.2.2.2.2.2.2 g.1 g.2.1 g.2.2.1 g.2.2.2.1 g.2.2.2.2.1 g.2.2.2.2.2.1 g.2.2.2.2.2.2) (fun r => HX (n + 1) (fun k => if k = n then G else hs k) r) := by
  obtain ⟨h1, h2⟩ := hh
  unfold f_X2_save1
  rw [h1, nI_clamp (by omega)]
  refine Ok_chk.mpr ⟨inb_nI hn (by decide), Ok_bd1.mpr (Ok_mono (X1_copyFrom hW hX N _ _ _ _ _ _ _) ?_)⟩
  intro r hr
  refine Ok_some.mpr ⟨nI_1 n, fun k hk => ?_⟩
  dsimp only [hAt]
  by_cases c : k = n
  · subst c
    rw [if_pos rfl]
    rw [va_up_self, va_up_self, va_up_self, va_up_self, va_up_self, va_up_self, va_up_self]
    exact hr
  · rw [if_neg c]
    rw [va_up_ne _ _ c, va_up_ne _ _ c, va_up_ne _ _ c, va_up_ne _ _ c, va_up_ne _ _ c, va_up_ne _ _ c, va_up_ne _ _ c]
    exact h2 k (by omega)
theorem rot_lt5 {α : Type} (f : Nat → α) {k : Nat} (h : k < 5) : rot f k = f (k + 1) := if_pos h
theorem X2_save {G : Gr} (hW : WF G) {g : TG} (hX : RX G g) {n : Nat} (hn : n ≤ 6) {hs : Nat → Gr} {h : TH} (hh : HX n hs h) (N : Nat) :
    Ok (f_X2_save N h.1 h.2.1 h.2.2.1 h.2.2.2.1 h.2.2.2.2.1 h.2.2.2.2.2.1 h.2.2.2.2.2.2.1 h.2.2.2.2.2.2.2 g.1 g.2.1 g.2.2.1 g.2.2.2.1 g.2.2.2.2.1 g.2.2.2.2.2.1 g.2.2.2.2.2.2) (fun r => HX (pshN n) (pshG n hs G) r) := by
  unfold f_X2_save pshN pshG
  by_cases c : n = 6
  · rw [if_neg (by rw [hh.1, c]; decide), if_pos c, if_pos c]
    refine Ok_mono (X2_save1 (n := 5) (hs := fun k => hs (k + 1)) (h := (5, rot h.2.1, rot h.2.2.1, rot h.2.2.2.1, rot h.2.2.2.2.1, rot h.2.2.2.2.2.1, rot h.2.2.2.2.2.2.1, rot h.2.2.2.2.2.2.2)) hW hX (by omega) ⟨rfl, fun k hk => ?_⟩ N) (fun r hr => hr)
    dsimp only [hAt]
    rw [rot_lt5 _ hk, rot_lt5 _ hk, rot_lt5 _ hk, rot_lt5 _ hk, rot_lt5 _ hk, rot_lt5 _ hk, rot_lt5 _ hk]
    exact hh.2 (k + 1) (by omega)
  · rw [if_pos (by rw [hh.1, show (6 : Int32) = nI 6 from rfl, nI_eq (by omega) (by omega)]; exact c), if_neg c, if_neg c]
    exact X2_save1 hW hX (by omega) hh N
theorem X2_restore {n : Nat} (h0 : 0 < n) (hn : n ≤ 6) {hs : Nat → Gr} {h : TH} (hh : HX n hs h) (hW : WF (hs (n - 1))) (N : Nat) (g : TG) :
    Ok (f_X2_restore N g.1 g.2.1 g.2.2.1 g.2.2.2.1 g.2.2.2.2.1 g.2.2.2.2.2.1 g.2.2.2.2.2.2 h.1 h.2.1 h.2.2.1 h.2.2.2.1 h.2.2.2.2.1 h.2.2.2.2.2.1 h.2.2.2.2.2.2.1 h.2.2.2.2.2.2.2) (fun r => RX (hs (n - 1)) (r.1, r.2.1, r.2.2.1, r.2.2.2.1, r.2.2.2.2.1, r.2.2.2.2.2.1, r.2.2.2.2.2.2.1) ∧ r.2.2.2.2.2.2.2 = nI (n - 1)) := by
  obtain ⟨h1, h2⟩ := hh
  unfold f_X2_restore
  rw [h1, nI_sub1 h0, nI_clamp (by omega)]
  refine Ok_chk.mpr ⟨inb_nI (by omega) (by decide), Ok_bd1.mpr (Ok_mono (X1_copyFrom hW (h2 (n - 1) (by omega)) N _ _ _ _ _ _ _) ?_)⟩
  intro r hr
  exact Ok_some.mpr ⟨hr, rfl⟩
/-! the reference -/
theorem X8_notes51 (N : Nat) (hN : 1000 < N) (s past : Nat → Int32) (n : Nat) (hn : n < 6) : f_X8_notes_b51 N s N 0 past (nI n) = some ((fun x => if 124 * n ≤ x ∧ x < 124 * n + 124 then s (x - 124 * n) else past x), nI (n + 1)) := by
  refine Ok_of ?_
  refine lpU (fun m i p => f_X8_notes_b51 N s m (nI i) p (nI n)) (fun i p => ∀ x, p x = if 124 * n ≤ x ∧ x < 124 * n + i then s (x - 124 * n) else past x) 124 ?_ ?_ N 0 past (Nat.zero_le _) (by omega) (fun x => by rw [if_neg (by omega)])
  · intro m p hI
    simp only [f_X8_notes_b51, f_X8_notes_b83]
    rw [show nI 124 = (124 : Int32) from rfl, if_pos (by decide), nI_1]
    rw [show p = _ from funext hI]
    exact Ok_some.mpr rfl
  · intro m i p hi hI ih
    simp only [f_X8_notes_b51]
    have e124 : (124 : Int32) * nI n = nI (124 * n) := pk_mul 124 n
    refine Ok_ife (nI_leI (a := 124) (b := i) (by omega) (by omega)) (fun c => absurd c (by omega)) (fun _ => ?_)
    rw [e124, nI_add, nI_clamp (by omega), nI_clamp (by omega), nI_1]
    refine Ok_chk.mpr ⟨inb_nI hi (by decide), Ok_chk.mpr ⟨inb_nI (by omega) (by decide), ih _ (fun x => ?_)⟩⟩
    rw [upd_at, hI]
    by_cases c : x = 124 * n + i
    · rw [if_pos c, if_pos (by omega), c, Nat.add_sub_cancel_left]
    · rw [if_neg c]
      by_cases c2 : 124 * n ≤ x ∧ x < 124 * n + i
      · rw [if_pos c2, if_pos (by omega)]
      · rw [if_neg c2, if_neg (by omega)]
theorem X8_notes {G : Gr} (hW : WF G) {s : Nat → Int32} (hX : RM G s) {n : Nat} (hn : n ≤ 6) {hs : Nat → Gr} {past : Nat → Int32} {ps : Int32} (hh : HM n hs past ps) (hws : ∀ k, k < n → WF (hs k)) (N : Nat) (hN : 1000 < N) :
    Ok (f_X8_notes N s past ps) (fun r => HM (pshN n) (pshG n hs G) r.1 r.2) := by
  obtain ⟨h1, h2⟩ := hh
  unfold f_X8_notes pshN pshG
  rw [h1]
  have fin : ∀ (m : Nat) (p : Nat → Int32) (gs : Nat → Gr), m < 6 → (∀ k, k < m → RM (gs k) (fun j => p (124 * k + j))) → (∀ k, k < m → WF (gs k)) → Ok (f_X8_notes_b49 N s p (nI m)) (fun r => HM (m + 1) (fun k => if k = m then G else gs k) r.1 r.2) := by
    intro m p gs hm hp hg
    unfold f_X8_notes_b49
    rw [X8_notes51 N hN s p m hm]
    refine Ok_some.mpr ⟨rfl, fun k hk => ?_⟩
    dsimp only
    by_cases c : k = m
    · rw [if_pos c]
      refine RM_congr hW hX (fun x hx => ?_)
      rw [if_pos (by omega)]
      congr 1
      omega
    · rw [if_neg c]
      refine RM_congr (hg k (by omega)) (hp k (by omega)) (fun x hx => ?_)
      rw [if_neg (by omega)]
  by_cases c : n = 6
  · rw [if_neg (by rw [c]; decide), if_pos c, if_pos c]
    refine lpU (fun m i p => f_X8_notes_b11 N s m (nI i) p (nI n)) (fun i p => ∀ x, p x = if x < i then past (x + 124) else past x) 620 ?_ ?_ N 0 past (Nat.zero_le _) (by omega) (fun x => by rw [if_neg (by omega)])
    · intro m p hI
      simp only [f_X8_notes_b11, f_X8_notes_b39]
      rw [show nI 620 = (620 : Int32) from rfl, if_pos (by decide), c, nI_sub1 (by omega)]
      refine fin 5 p (fun k => hs (k + 1)) (by omega) (fun k hk => ?_) (fun k hk => hws (k + 1) (by omega))
      refine RM_congr (hws (k + 1) (by omega)) (h2 (k + 1) (by omega)) (fun x hx => ?_)
      rw [hI, if_pos (by omega)]
      congr 1
      omega
    · intro m i p hi hI ih
      simp only [f_X8_notes_b11]
      refine Ok_ife (nI_leI (a := 620) (b := i) (by omega) (by omega)) (fun c => absurd c (by omega)) (fun _ => ?_)
      have e124 : nI i + 124 = nI (i + 124) := nI_add i 124
      rw [e124, nI_clamp (by omega), nI_clamp (by omega), nI_1]
      refine Ok_chk.mpr ⟨inb_nI (by omega) (by decide), Ok_chk.mpr ⟨inb_nI (by omega) (by decide), ih _ (fun x => ?_)⟩⟩
      rw [upd_at, hI, hI]
      by_cases c : x = i
      · rw [if_pos c, if_neg (by omega), if_pos (by omega), c]
      · rw [if_neg c]
        by_cases c2 : x < i
        · rw [if_pos c2, if_pos (by omega)]
        · rw [if_neg c2, if_neg (by omega)]
  · rw [if_pos (by rw [show (6 : Int32) = nI 6 from rfl, nI_eq (by omega) (by omega)]; exact c), if_neg c, if_neg c]
    exact fin n past hs (by omega) h2 hws
theorem X8_undoL {n : Nat} (h0 : 0 < n) (hn : n ≤ 6) {hs : Nat → Gr} {past : Nat → Int32} {ps : Int32} (hh : HM n hs past ps) (hW : WF (hs (n - 1))) (N : Nat) (hN : 1000 < N) (s : Nat → Int32) :
    Ok (f_X8_undo N s past ps) (fun r => r.1 = nI (n - 1) ∧ RM (hs (n - 1)) r.2.1 ∧ r.2.2 = nI (n - 1)) := by
  obtain ⟨h1, h2⟩ := hh
  unfold f_X8_undo
  rw [h1, if_pos (by rw [show (0 : Int32) = nI 0 from rfl, nI_eq (by omega) (by omega)]; omega), nI_sub1 h0]
  refine lpU (fun m i p => f_X8_undo_b22 N past m (nI i) p (nI (n - 1))) (fun i p => ∀ x, p x = if x < i then past (124 * (n - 1) + x) else s x) 124 ?_ ?_ N 0 s (Nat.zero_le _) (by omega) (fun x => by rw [if_neg (by omega)])
  · intro m p hI
    simp only [f_X8_undo_b22]
    rw [show nI 124 = (124 : Int32) from rfl, if_pos (by decide)]
    refine Ok_some.mpr ⟨rfl, ?_, rfl⟩
    exact RM_congr hW (h2 (n - 1) (by omega)) (fun x hx => by dsimp only; rw [hI, if_pos hx])
  · intro m i p hi hI ih
    simp only [f_X8_undo_b22]
    have e124 : (124 : Int32) * nI (n - 1) = nI (124 * (n - 1)) := pk_mul 124 _
    refine Ok_ife (nI_leI (a := 124) (b := i) (by omega) (by omega)) (fun c => absurd c (by omega)) (fun _ => ?_)
    rw [e124, nI_add, nI_clamp (by omega), nI_clamp (by omega), nI_1]
    refine Ok_chk.mpr ⟨inb_nI (by omega) (by decide), Ok_chk.mpr ⟨inb_nI hi (by decide), ih _ (fun x => ?_)⟩⟩
    rw [upd_at, hI]
    by_cases c : x = i
    · rw [if_pos c, if_pos (by omega), c]
    · rw [if_neg c]
      by_cases c2 : x < i
      · rw [if_pos c2, if_pos (by omega)]
      · rw [if_neg c2, if_neg (by omega)]
/-! no edges -/
def gNew (n : Nat) : Gr := (n, [], (fun _ => []), 0)
theorem WF_new {n : Nat} (h : 2 ≤ n) (h2 : n ≤ 9) : WF (gNew n) := by
  refine ⟨h, h2, Nat.zero_le _, fun q hq => absurd hq List.not_mem_nil, List.nodup_nil, fun v => List.nodup_nil, fun v e => ⟨fun hq => absurd hq List.not_mem_nil, fun hq => absurd hq.1 (Nat.not_lt_zero e)⟩, (by decide : 0 < 100)⟩
theorem RX_new (N n : Nat) (g : TG) : Ok (f_X1_makeEmpty N g.1 g.2.1 g.2.2.2.2.2.1 (nI n)) (fun r => RX (gNew n) (r.1, r.2.1, 0, g.2.2.2.1, g.2.2.2.2.1, r.2.2, g.2.2.2.2.2.2)) := by
  refine Ok_some.mpr ⟨rfl, rfl, rfl, fun e he => absurd he (Nat.not_lt_zero e), fun v hv => if_pos hv, fun v k hv hk => absurd hk (Nat.not_lt_zero k)⟩
theorem X8_empties (N : Nat) (hN : 1000 < N) (n : Nat) (s : Nat → Int32) : Ok (f_X8_empties N s (nI n)) (fun r => RM (gNew n) r) := by
  unfold f_X8_empties
  refine lpU (fun m i p => f_X8_empties_b2 N m (nI n) (nI i) p) (fun i p => ∀ x, x < i → p x = 0) 124 ?_ ?_ N 0 s (Nat.zero_le _) (by omega) (fun x hx => absurd hx (Nat.not_lt_zero x))
  · intro m p hI
    simp only [f_X8_empties_b2, f_X8_empties_b21]
    rw [show nI 124 = (124 : Int32) from rfl, if_pos (by decide)]
    refine Ok_chk.mpr ⟨by decide, Ok_some.mpr ?_⟩
    rw [show (0 : Int32).toNatClampNeg = 0 from rfl]
    refine ⟨pk_us, ?_, ?_, fun e he => absurd he (Nat.not_lt_zero e), fun v hv => ?_, fun v k hv hk => absurd hk (Nat.not_lt_zero k)⟩
    · rw [pk_un (by decide), hI 1 (by decide)]; rfl
    · rw [pk_un (by decide), hI 2 (by decide)]; rfl
    · rw [pk_un (by omega), hI _ (by omega)]; rfl
  · intro m i p hi hI ih
    simp only [f_X8_empties_b2]
    refine Ok_ife (nI_leI (a := 124) (b := i) (by omega) (by omega)) (fun c => absurd c (by omega)) (fun _ => ?_)
    rw [nI_clamp (by omega), nI_1]
    refine Ok_chk.mpr ⟨inb_nI hi (by decide), ih _ (fun x hx => ?_)⟩
    rw [upd_at]
    by_cases c : x = i
    · rw [if_pos c]
    · rw [if_neg c, hI x (by omega)]
