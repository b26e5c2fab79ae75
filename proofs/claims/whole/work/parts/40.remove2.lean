/-! ===== an edge goes: the reference ===== -/
theorem X8_close (N v e : Nat) (l : List Nat) (hN : 30 < N) (hv : v < 9) (hl : l.length ≤ 8) (he : e < 20) (hm : ∀ f ∈ l, f < 20) (s0 pa : Nat → Int32) (ps : Int32) (h : s0 (43 + v) = nI l.length) (hr : Row s0 (52 + 8 * v) l)
    (k16 : Int32 → Int32 → (Nat → Int32) → (Nat → Int32) → Int32 → Option (Int32 × (Nat → Int32) × (Nat → Int32) × Int32)) (Q : Int32 × (Nat → Int32) × (Nat → Int32) × Int32 → Prop)
    (hk : ∀ s, Row s (52 + 8 * v) (rm e l) → (∀ x, x < 52 + 8 * v ∨ 52 + 8 * v + 8 ≤ x → s x = s0 x) → Ok (k16 (nI e) (nI (v + 1)) (upd s (43 + v) (nI (rm e l).length)) pa ps) Q) :
    Ok (f_X8_removeEdge_b31 N k16 N (nI e) (nI v) 0 0 s0 pa ps) Q := by
  have e8 : (52 + 8 * nI v) = nI (52 + 8 * v) := by rw [show (8 : Int32) = nI 8 from rfl, show (52 : Int32) = nI 52 from rfl, pk_mul, nI_add]
  have e43 : (43 + nI v) = nI (43 + v) := by rw [show (43 : Int32) = nI 43 from rfl, nI_add]
  refine lpU2 (fun n i kp t => f_X8_removeEdge_b31 N k16 n (nI e) (nI v) (nI kp) (nI i) t pa ps) (fun i kp t => RmI s0 (52 + 8 * v) e l i kp t) l.length ?_ ?_ N 0 0 s0 (Nat.zero_le _) (by omega) ⟨by simp [rm], by intro k hk; simp [rm] at hk, fun j _ hj => hr j hj, fun x _ => rfl⟩
  · intro n kept t hI
    have hkp := RmI_le hI
    obtain ⟨h1, h2, h3, h4⟩ := hI
    rw [List.take_length] at h1 h2
    simp only [f_X8_removeEdge_b31, f_X8_removeEdge_b103]
    rw [e43, nI_clamp (by omega), h4 (43 + v) (by omega), h]
    refine Ok_chk.mpr ⟨inb_nI (by omega) (by decide), Ok_ife (nI_leI (by omega) (by omega)) (fun _ => ?_) (fun c => absurd (Nat.le_refl _) c)⟩
    refine Ok_chk.mpr ⟨inb_nI (by omega) (by decide), ?_⟩
    rw [nI_1, h1]
    exact hk t h2 h4
  · intro n i kept t hi hI ih
    have hkp := RmI_le hI
    have hI2 := hI
    obtain ⟨h1, h2, h3, h4⟩ := hI
    have hf : l.getD i 0 < 20 := by
      rw [List.getD_eq_getElem?_getD, List.getElem?_eq_getElem hi]
      exact hm _ (List.getElem_mem hi)
    simp only [f_X8_removeEdge_b31, f_X8_turn]
    rw [e43, nI_clamp (n := 43 + v) (by omega), h4 (43 + v) (by omega), h]
    refine Ok_chk.mpr ⟨inb_nI (by omega) (by decide), Ok_ife (nI_leI (by omega) (by omega)) (fun c => absurd c (by omega)) (fun _ => ?_)⟩
    rw [e8, nI_add, nI_add, nI_clamp (n := 52 + 8 * v + i) (by omega), h3 i (Nat.le_refl i) hi]
    refine Ok_bd1.mpr (Ok_chk.mpr ⟨inb_nI (by omega) (by decide), Ok_some.mpr ?_⟩)
    have fin : ∀ y2, (l.getD i 0 ≠ e → y2 = nI (sh e (l.getD i 0))) → Ok (f_X8_removeEdge_b82 N k16 (f_X8_removeEdge_b31 N k16 n) (nI e) (nI v) (nI kept) (nI i) (nI (l.getD i 0)) (nI (52 + 8 * v + kept)) y2 t pa ps) Q := by
      intro y2 hy
      unfold f_X8_removeEdge_b82 f_X8_removeEdge_b95
      rw [nI_clamp (by omega), nI_1, nI_1, show (0 : Int32) = nI 0 from rfl, nI_add]
      refine Ok_chk.mpr ⟨inb_nI (by omega) (by decide), ?_⟩
      by_cases c : l.getD i 0 = e
      · rw [if_neg (by rw [c]; exact fun q => q rfl)]
        exact ih kept _ (RmI_junk y2 hI2 hl hi c)
      · rw [if_pos (fun q => c ((nI_eq (by omega) (by omega)).mp q)), hy c]
        exact ih (kept + 1) _ (RmI_keep hI2 hl hi c)
    refine Ok_ite.mpr ⟨fun c2 => ?_, fun c2 => ?_⟩
    · exact fin _ (fun c => (nI_sh (by omega) (by omega) c).1 c2)
    · exact fin _ (fun c => (nI_sh (by omega) (by omega) c).2 c2)
theorem X8_shift (N m e : Nat) (hm : m < 20) (he : e ≤ m) (hN : 30 < N) (s pa : Nat → Int32) (ps : Int32) (h1 : s 1 = nI m) :
    f_X8_removeEdge_b131 N N (nI e) s pa ps = some (nI m, upd (fun x => if (3 + e ≤ x ∧ x < 3 + m) ∨ (23 + e ≤ x ∧ x < 23 + m) then s (x + 1) else s x) 2 0, pa, ps) := by
  refine Ok_of ?_
  refine lpU (σ := Nat → Int32) (fun n i t => f_X8_removeEdge_b131 N n (nI i) t pa ps) (fun i t => e ≤ i ∧ ∀ x, t x = if (3 + e ≤ x ∧ x < 3 + i) ∨ (23 + e ≤ x ∧ x < 23 + i) then s (x + 1) else s x) m ?_ ?_ N e s he (by omega) ⟨Nat.le_refl e, fun x => by rw [if_neg (by omega)]⟩
  · rintro n t ⟨h2, h3⟩
    have ht1 : t 1 = nI m := by rw [h3 1, if_neg (by omega), h1]
    simp only [f_X8_removeEdge_b131, f_X8_removeEdge_b185]
    rw [show (1 : Int32).toNatClampNeg = 1 from rfl, show (2 : Int32).toNatClampNeg = 2 from rfl, pk_un (by decide), ht1]
    refine Ok_chk.mpr ⟨by decide, Ok_ife (nI_leI (by omega) (by omega)) (fun _ => Ok_chk.mpr ⟨by decide, Ok_chk.mpr ⟨by decide, Ok_some.mpr ?_⟩⟩) (fun c => absurd (Nat.le_refl _) c)⟩
    rw [show t = _ from funext h3]
  · rintro n i t hi ⟨h2, h3⟩ ih
    have ht1 : t 1 = nI m := by rw [h3 1, if_neg (by omega), h1]
    simp only [f_X8_removeEdge_b131]
    have e3 : (3 : Int32) + nI i = nI (3 + i) := nI_add 3 i
    have e23 : (23 : Int32) + nI i = nI (23 + i) := nI_add 23 i
    rw [show (1 : Int32).toNatClampNeg = 1 from rfl, ht1, e3, e23, nI_1, nI_1, nI_1, nI_clamp (by omega), nI_clamp (by omega), nI_clamp (by omega), nI_clamp (by omega)]
    refine Ok_chk.mpr ⟨by decide, Ok_ife (nI_leI (by omega) (by omega)) (fun c => absurd c (by omega)) (fun _ => ?_)⟩
    refine Ok_chk.mpr ⟨inb_nI (by omega) (by decide), Ok_chk.mpr ⟨inb_nI (by omega) (by decide), Ok_chk.mpr ⟨inb_nI (by omega) (by decide), Ok_chk.mpr ⟨inb_nI (by omega) (by decide), ?_⟩⟩⟩⟩
    refine ih _ ⟨by omega, fun x => ?_⟩
    show upd (upd t (3 + i) (t (3 + i + 1))) (23 + i) (upd t (3 + i) (t (3 + i + 1)) (23 + i + 1)) x = _
    rw [upd_at, upd_at, upd_at, if_neg (by omega : ¬ 23 + i + 1 = 3 + i), h3 x, h3 (3 + i + 1), h3 (23 + i + 1), if_neg (by omega : ¬ ((3 + e ≤ 23 + i + 1 ∧ 23 + i + 1 < 3 + i) ∨ (23 + e ≤ 23 + i + 1 ∧ 23 + i + 1 < 23 + i))), if_neg (by omega : ¬ ((3 + e ≤ 3 + i + 1 ∧ 3 + i + 1 < 3 + i) ∨ (23 + e ≤ 3 + i + 1 ∧ 3 + i + 1 < 23 + i)))]
    by_cases c1 : x = 23 + i
    · rw [if_pos c1, if_pos (by omega), c1]
    · rw [if_neg c1]
      by_cases c2 : x = 3 + i
      · rw [if_pos c2, if_pos (by omega), c2]
      · rw [if_neg c2]
        by_cases c3 : (3 + e ≤ x ∧ x < 3 + i) ∨ (23 + e ≤ x ∧ x < 23 + i)
        · rw [if_pos c3, if_pos (by omega)]
        · rw [if_neg c3, if_neg (by omega)]
theorem rm_all {G : Gr} (hW : WF G) (e v : Nat) : (if v < gN G then rm e (gR G v) else gR G v) = rm e (gR G v) := by
  by_cases c : v < gN G
  · rw [if_pos c]
  · rw [if_neg c]
    cases hl : gR G v with
    | nil => rfl
    | cons f t =>
      have q : gAt G f v := (hW.2.2.2.2.2.2.1 v f).mp (by rw [hl]; exact List.mem_cons_self)
      have := WF_end hW q.1
      rcases q.2 with q | q <;> omega
theorem X8_remove {G : Gr} {e : Nat} (hW : WF G) (he : e < (gE G).length) {s : Nat → Int32} (hX : RM G s) (pa : Nat → Int32) (ps : Int32) (N : Nat) (hN : 30 < N) :
    Ok (f_X8_removeEdge_b16 N N (nI e) 0 s pa ps) (fun r => r.1 = nI ((gE G).length - 1) ∧ RM (gDel G e) r.2.1 ∧ r.2.2.1 = pa ∧ r.2.2.2 = ps) := by
  obtain ⟨x1, x2, x3, x4, x5, x6⟩ := hX
  have hn := hW.2.1
  have hm := hW.2.2.1
  refine lpU (σ := Nat → Int32) (fun n i t => f_X8_removeEdge_b16 N n (nI e) (nI i) t pa ps) (fun i t => (∀ x, x < 43 → t x = s x) ∧ ∀ v, v < 9 → t (43 + v) = nI (if v < i then rm e (gR G v) else gR G v).length ∧ Row t (52 + 8 * v) (if v < i then rm e (gR G v) else gR G v)) (gN G) ?_ ?_ N 0 s (Nat.zero_le _) (by omega) ⟨fun x _ => rfl, fun v hv => by rw [if_neg (by omega)]; exact ⟨x5 v hv, fun k hk => x6 v k hv hk⟩⟩
  · rintro n t ⟨hI0, hI⟩
    simp only [f_X8_removeEdge_b16, f_X8_removeEdge_b119]
    rw [show (0 : Int32).toNatClampNeg = 0 from rfl, show (1 : Int32).toNatClampNeg = 1 from rfl, hI0 0 (by omega), hI0 1 (by omega), x1, x2, nI_sub1 (by omega)]
    refine Ok_chk.mpr ⟨by decide, Ok_ife (nI_leI (by omega) (by omega)) (fun _ => Ok_chk.mpr ⟨by decide, Ok_chk.mpr ⟨by decide, ?_⟩⟩) (fun c => absurd (Nat.le_refl _) c)⟩
    rw [X8_shift N _ e (by omega) (by omega) hN _ pa ps pk_us]
    refine Ok_some.mpr ⟨rfl, ⟨?_, ?_, ?_, ?_, ?_, ?_⟩, rfl, rfl⟩
    · dsimp only
      rw [pk_un (by decide), if_neg (by omega), pk_un (by decide), hI0 0 (by omega)]
      exact x1
    · dsimp only
      rw [pk_un (by decide), if_neg (by omega), pk_us, gDel_len he]
    · dsimp only
      rw [pk_us]; rfl
    · intro f hf
      rw [gDel_len he] at hf
      rw [gDel_end]
      dsimp only
      rw [pk_un (k := 2) (j := 3 + f) (by omega), pk_un (k := 2) (j := 23 + f) (by omega)]
      by_cases c : f < e
      · rw [if_pos c, if_neg (by omega), if_neg (by omega), pk_un (by omega), pk_un (by omega), hI0 _ (by omega), hI0 _ (by omega)]
        exact x4 f (by omega)
      · rw [if_neg c, if_pos (by omega), if_pos (by omega), pk_un (by omega), pk_un (by omega), hI0 _ (by omega), hI0 _ (by omega)]
        exact x4 (f + 1) (by omega)
    · intro v hv
      have := (hI v hv).1
      rw [rm_all hW e v] at this
      dsimp only
      rw [pk_un (by omega), if_neg (by omega), pk_un (by omega)]
      exact this
    · intro v k hv hk
      have := (hI v hv).2
      rw [rm_all hW e v] at this
      dsimp only
      rw [pk_un (by omega), if_neg (by omega), pk_un (by omega)]
      exact this k hk
  · rintro n i t hi ⟨hI0, hI⟩ ih
    simp only [f_X8_removeEdge_b16]
    rw [show (0 : Int32).toNatClampNeg = 0 from rfl, hI0 0 (by omega), x1]
    refine Ok_chk.mpr ⟨by decide, Ok_ife (nI_leI (by omega) (by omega)) (fun c => absurd c (by omega)) (fun _ => ?_)⟩
    have hIi := hI i (by omega)
    rw [if_neg (Nat.lt_irrefl i)] at hIi
    refine X8_close N i e (gR G i) hN (by omega) (WF_deg hW i) (by omega) (fun f hf => by have := ((hW.2.2.2.2.2.2.1 i f).mp hf).1; omega) t pa ps hIi.1 hIi.2 _ _ ?_
    intro t2 q2 q3
    have h9i := rm_le e (gR G i)
    have h8i := WF_deg hW i
    refine ih _ ⟨fun x hx => ?_, fun v hv => ?_⟩
    · rw [pk_un (by omega), q3 x (by omega)]
      exact hI0 x hx
    · have h8 := WF_deg hW v
      have h9 := rm_le e (gR G v)
      by_cases c : v = i
      · rw [c, if_pos (by omega), pk_us]
        refine ⟨rfl, fun k hk => ?_⟩
        rw [pk_un (by omega)]
        exact q2 k hk
      · have e1 : (if v < i + 1 then rm e (gR G v) else gR G v) = (if v < i then rm e (gR G v) else gR G v) := by
          by_cases c2 : v < i
          · rw [if_pos c2, if_pos (by omega)]
          · rw [if_neg c2, if_neg (by omega)]
        have h10 : (if v < i then rm e (gR G v) else gR G v).length ≤ 8 := by split <;> omega
        rw [e1, pk_un (by omega), q3 _ (by omega)]
        refine ⟨(hI v hv).1, fun k hk => ?_⟩
        rw [pk_un (by omega), q3 _ (by omega)]
        exact (hI v hv).2 k hk
