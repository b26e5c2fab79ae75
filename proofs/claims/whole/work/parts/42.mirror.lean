/-! ===== mirror ===== -/
def gMir (G : Gr) : Gr := (gN G, gE G, (fun u => (gR G u).reverse), 0)
theorem rev_getD {l : List Nat} {k : Nat} (h : k < l.length) : l.reverse.getD k 0 = l.getD (l.length - 1 - k) 0 := by
  rw [List.getD_eq_getElem?_getD, List.getElem?_reverse h, List.getD_eq_getElem?_getD]
theorem WF_mir {G : Gr} (hW : WF G) : WF (gMir G) := by
  obtain ⟨h1, h2, h3, h4, h5, h6, h7, h8⟩ := hW
  refine ⟨h1, h2, h3, h4, h5, fun u => ?_, fun u e => ?_, (by decide : 0 < 100)⟩
  · exact (List.reverse_perm (gR G u)).nodup_iff.mpr (h6 u)
  · show e ∈ (gR G u).reverse ↔ gAt G e u
    rw [List.mem_reverse]
    exact h7 u e
/-- the row t at b while it is turned around: i pairs are done -/
def RvI (t0 : Nat → Int32) (b : Nat) (l : List Nat) (i : Nat) (t : Nat → Int32) : Prop :=
  2 * i ≤ l.length ∧ (∀ k, k < l.length → t (b + k) = nI (if k < i ∨ l.length ≤ k + i then l.getD (l.length - 1 - k) 0 else l.getD k 0)) ∧ ∀ x, x < b ∨ b + 8 ≤ x → t x = t0 x
theorem RvI_0 {t0 : Nat → Int32} {b : Nat} {l : List Nat} (h : Row t0 b l) : RvI t0 b l 0 t0 := by
  refine ⟨by omega, fun k hk => ?_, fun x _ => rfl⟩
  rw [if_neg (by omega)]
  exact h k hk
theorem RvI_end {t0 t : Nat → Int32} {b i : Nat} {l : List Nat} (h : RvI t0 b l i t) (hi : l.length ≤ 2 * i + 1) : Row t b l.reverse := by
  intro k hk
  rw [List.length_reverse] at hk
  rw [rev_getD hk, h.2.1 k hk]
  by_cases c : k < i ∨ l.length ≤ k + i
  · rw [if_pos c]
  · rw [if_neg c]
    congr 2
    omega
theorem RvI_step {t0 t : Nat → Int32} {b i : Nat} {l : List Nat} (h : RvI t0 b l i t) (hl : l.length ≤ 8) (hi : 2 * i + 1 < l.length) : RvI t0 b l (i + 1) (upd (upd t (b + i) (t (b + (l.length - 1 - i)))) (b + (l.length - 1 - i)) (t (b + i))) := by
  obtain ⟨h1, h2, h3⟩ := h
  refine ⟨by omega, fun k hk => ?_, fun x hx => ?_⟩
  · rw [upd_at, upd_at]
    by_cases c1 : k = l.length - 1 - i
    · rw [if_pos (by omega), if_pos (by omega), h2 i (by omega), if_neg (by omega)]
      congr 2
      omega
    · rw [if_neg (by omega)]
      by_cases c2 : k = i
      · rw [if_pos (by omega), if_pos (by omega), h2 _ (by omega), if_neg (by omega), c2]
      · rw [if_neg (by omega), h2 k hk]
        by_cases c3 : k < i ∨ l.length ≤ k + i
        · rw [if_pos c3, if_pos (by omega)]
        · rw [if_neg c3, if_neg (by omega)]
  · rw [pk_un (by omega), pk_un (by omega)]
    exact h3 x hx
theorem X1_rev1 (N v : Nat) (l : List Nat) (hN : 30 < N) (hv : v < 9) (hl : l.length ≤ 8) (no : Int32) (de t0 : Nat → Int32) (hr : Row t0 (8 * v) l) (k2 : Int32 → (Nat → Int32) → Option (Nat → Int32)) (Q : (Nat → Int32) → Prop)
    (hk : ∀ t, Row t (8 * v) l.reverse → (∀ x, x < 8 * v ∨ 8 * v + 8 ≤ x → t x = t0 x) → Ok (k2 (nI (v + 1)) t) Q) :
    Ok (f_X1_reverseAll_b26 N no de k2 N (nI v) (nI (8 * v)) ((nI (8 * v) + nI l.length) - 1) t0) Q := by
  rcases Nat.eq_zero_or_pos l.length with h0 | h0
  · obtain ⟨M, rfl⟩ : ∃ M, N = M + 1 := ⟨N - 1, by omega⟩
    rw [h0]
    simp only [f_X1_reverseAll_b26, f_X1_reverseAll_b68]
    have hle : nI (8 * v) + nI 0 - 1 ≤ nI (8 * v) := (by decide +kernel : ∀ v, v < 9 → nI (8 * v) + nI 0 - 1 ≤ nI (8 * v)) v hv
    rw [if_pos hle, nI_1]
    refine hk t0 ?_ (fun x _ => rfl)
    have : l = [] := List.eq_nil_of_length_eq_zero h0
    rw [this]
    intro k hk
    exact absurd hk (Nat.not_lt_zero k)
  · have e1 : (nI (8 * v) + nI l.length) - 1 = nI (8 * v + (l.length - 1 - 0)) := by
      rw [nI_add, nI_sub1 (by omega)]
      congr 1
      omega
    rw [e1]
    refine lpM2 (fun n i t => f_X1_reverseAll_b26 N no de k2 n (nI v) (nI (8 * v + i)) (nI (8 * v + (l.length - 1 - i))) t) (fun i t => RvI t0 (8 * v) l i t) (fun i t => l.length - i) ?_ N 0 t0 (RvI_0 hr) (by omega)
    intro n i t hI ih
    have h2i := hI.1
    simp only [f_X1_reverseAll_b26, f_X1_reverseAll_b68]
    refine Ok_ife (nI_leI (by omega) (by omega)) (fun c => ?_) (fun c => ?_)
    · rw [nI_1]
      exact hk t (RvI_end hI (by omega)) hI.2.2
    · rw [nI_clamp (by omega), nI_clamp (by omega), nI_1, nI_m1 (by omega)]
      refine Ok_chk.mpr ⟨inb_nI (by omega) (by decide), Ok_nm.mpr (Ok_chk.mpr ⟨inb_nI (by omega) (by decide), Ok_chk.mpr ⟨inb_nI (by omega) (by decide), Ok_chk.mpr ⟨inb_nI (by omega) (by decide), ?_⟩⟩⟩)⟩
      have := ih (i + 1) _ (RvI_step hI hl (by omega)) (by omega)
      rw [show 8 * v + (i + 1) = 8 * v + i + 1 from rfl, show 8 * v + (l.length - 1 - (i + 1)) = 8 * v + (l.length - 1 - i) - 1 from by omega] at this
      exact this
theorem rev_all {G : Gr} (hW : WF G) (v : Nat) : (if v < gN G then (gR G v).reverse else gR G v) = (gR G v).reverse := by
  by_cases c : v < gN G
  · rw [if_pos c]
  · rw [if_neg c]
    cases hl : gR G v with
    | nil => rfl
    | cons f t =>
      have := (rot_lt hW (v := v) (e := f) (by rw [hl]; exact List.mem_cons_self)).2
      omega
theorem X1_reverseAll {G : Gr} (hW : WF G) {g : TG} (hX : RX G g) (N : Nat) (hN : 30 < N) :
    Ok (f_X1_reverseAll N g.1 g.2.2.2.2.2.1 g.2.2.2.2.2.2) (fun r => RX (gMir G) (g.1, g.2.1, 0, g.2.2.2.1, g.2.2.2.2.1, g.2.2.2.2.2.1, r)) := by
  obtain ⟨x1, x2, x3, x4, x5, x6⟩ := hX
  have hn := hW.2.1
  unfold f_X1_reverseAll
  rw [x1]
  refine lpU (fun n i t => f_X1_reverseAll_b2 N (nI (gN G)) g.2.2.2.2.2.1 n (nI i) t) (fun i t => ∀ v, v < 9 → Row t (8 * v) (if v < i then (gR G v).reverse else gR G v)) (gN G) ?_ ?_ N 0 g.2.2.2.2.2.2 (Nat.zero_le _) (by omega) (fun v hv => by rw [if_neg (by omega)]; exact fun k hk => x6 v k hv hk)
  · intro n t hI
    simp only [f_X1_reverseAll_b2]
    refine Ok_ife (nI_leI (by omega) (by omega)) (fun _ => ?_) (fun c => absurd (Nat.le_refl _) c)
    refine Ok_some.mpr ⟨rfl, x2, rfl, x4, ?_, ?_⟩
    · intro v hv
      show _ = nI (gR G v).reverse.length
      rw [List.length_reverse]
      exact x5 v hv
    · intro v k hv hk
      have := hI v hv
      rw [rev_all hW v] at this
      exact this k hk
  · intro n i t hi hI ih
    simp only [f_X1_reverseAll_b2]
    refine Ok_ife (nI_leI (by omega) (by omega)) (fun c => absurd c (by omega)) (fun _ => ?_)
    have e8 : nI i * 8 = nI (8 * i) := by rw [show (8 : Int32) = nI 8 from rfl, pk_mul, Nat.mul_comm]
    rw [e8, nI_clamp (by omega), x5 i (by omega)]
    refine Ok_nm.mpr (Ok_chk.mpr ⟨inb_nI (by omega) (by decide), Ok_nm.mpr ?_⟩)
    have hIi := hI i (by omega)
    rw [if_neg (Nat.lt_irrefl i)] at hIi
    refine X1_rev1 N i (gR G i) hN (by omega) (WF_deg hW i) _ _ t hIi _ _ ?_
    intro t2 q2 q3
    refine ih _ (fun v hv => ?_)
    have h8 := WF_deg hW v
    by_cases c : v = i
    · rw [c, if_pos (by omega)]
      exact q2
    · have e1 : (if v < i + 1 then (gR G v).reverse else gR G v) = (if v < i then (gR G v).reverse else gR G v) := by
        by_cases c2 : v < i
        · rw [if_pos c2, if_pos (by omega)]
        · rw [if_neg c2, if_neg (by omega)]
      have h10 : (if v < i then (gR G v).reverse else gR G v).length ≤ 8 := by
        split
        · rw [List.length_reverse]; omega
        · omega
      rw [e1]
      intro k hk
      rw [q3 _ (by omega)]
      exact hI v hv k hk
section MIR8
variable {ρ : Type}
theorem X8_rev1 (N v : Nat) (l : List Nat) (hN : 30 < N) (hv : v < 9) (hl : l.length ≤ 8) (t0 pa : Nat → Int32) (ps : Int32) (fo fs : Nat → Int32) (nf : Int32) (hr : Row t0 (52 + 8 * v) l)
    (k6 : Int32 → (Nat → Int32) → (Nat → Int32) → Int32 → (Nat → Int32) → (Nat → Int32) → Int32 → Option (Int32 × (Nat → Int32) × (Nat → Int32) × Int32 × (Nat → Int32) × (Nat → Int32) × Int32)) (Q : Int32 × (Nat → Int32) × (Nat → Int32) × Int32 × (Nat → Int32) × (Nat → Int32) × Int32 → Prop)
    (hk : ∀ t, Row t (52 + 8 * v) l.reverse → (∀ x, x < 52 + 8 * v ∨ 52 + 8 * v + 8 ≤ x → t x = t0 x) → Ok (k6 (nI (v + 1)) t pa ps fo fs nf) Q) :
    Ok (f_X8_mirror_b28 N k6 N (nI v) (nI l.length) 0 t0 pa ps fo fs nf) Q := by
  have e8 : (52 + 8 * nI v) = nI (52 + 8 * v) := by rw [show (8 : Int32) = nI 8 from rfl, show (52 : Int32) = nI 52 from rfl, pk_mul, nI_add]
  refine lpU (fun n i t => f_X8_mirror_b28 N k6 n (nI v) (nI l.length) (nI i) t pa ps fo fs nf) (fun i t => RvI t0 (52 + 8 * v) l i t) (l.length / 2) ?_ ?_ N 0 t0 (Nat.zero_le _) (by omega) (RvI_0 hr)
  · intro n t hI
    simp only [f_X8_mirror_b28, f_X8_mirror_b93]
    rw [nI_div2 (by omega)]
    refine Ok_ife (nI_leI (by omega) (by omega)) (fun _ => ?_) (fun c => absurd (Nat.le_refl _) c)
    rw [nI_1]
    exact hk t (RvI_end hI (by omega)) hI.2.2
  · intro n i t hi hI ih
    simp only [f_X8_mirror_b28, f_X8_turn]
    rw [nI_div2 (by omega)]
    refine Ok_ife (nI_leI (by omega) (by omega)) (fun c => absurd c (by omega)) (fun _ => ?_)
    rw [e8, nI_add, nI_sub1 (by omega), pk_sub (by omega), nI_add, nI_add, nI_sub1 (by omega), pk_sub (by omega), nI_1, nI_clamp (n := 52 + 8 * v + i) (by omega), nI_clamp (n := 52 + 8 * v + (l.length - 1 - i)) (by omega), nI_clamp (n := 52 + 8 * v + l.length - 1 - i) (by omega)]
    refine Ok_bd1.mpr (Ok_chk.mpr ⟨inb_nI (by omega) (by decide), Ok_some.mpr (Ok_bd1.mpr (Ok_chk.mpr ⟨inb_nI (by omega) (by decide), Ok_some.mpr (Ok_chk.mpr ⟨inb_nI (by omega) (by decide), Ok_chk.mpr ⟨inb_nI (by omega) (by decide), ?_⟩⟩)⟩))⟩)
    rw [show 52 + 8 * v + l.length - 1 - i = 52 + 8 * v + (l.length - 1 - i) from by omega]
    exact ih _ (RvI_step hI hl (by omega))
theorem X8_revAll {G : Gr} (hW : WF G) {s : Nat → Int32} (hX : RM G s) (N : Nat) (hN : 30 < N) (pa : Nat → Int32) (ps : Int32) (fo fs : Nat → Int32) (nf : Int32) (Q : Int32 × (Nat → Int32) × (Nat → Int32) × Int32 × (Nat → Int32) × (Nat → Int32) × Int32 → Prop)
    (hk : ∀ t, RM (gMir G) (upd t 2 0) → Ok (f_X8_mirror_b99 N t pa ps fo fs nf) Q) : Ok (f_X8_mirror_b6 N N 0 s pa ps fo fs nf) Q := by
  obtain ⟨x1, x2, x3, x4, x5, x6⟩ := hX
  have hn := hW.2.1
  have hm := hW.2.2.1
  refine lpU (fun n i t => f_X8_mirror_b6 N n (nI i) t pa ps fo fs nf) (fun i t => (∀ x, x < 52 → t x = s x) ∧ ∀ v, v < 9 → Row t (52 + 8 * v) (if v < i then (gR G v).reverse else gR G v)) (gN G) ?_ ?_ N 0 s (Nat.zero_le _) (by omega) ⟨fun x _ => rfl, fun v hv => by rw [if_neg (by omega)]; exact fun k hk => x6 v k hv hk⟩
  · rintro n t ⟨hI0, hI⟩
    simp only [f_X8_mirror_b6]
    rw [show (0 : Int32).toNatClampNeg = 0 from rfl, hI0 0 (by omega), x1]
    refine Ok_chk.mpr ⟨by decide, Ok_ife (nI_leI (by omega) (by omega)) (fun _ => ?_) (fun c => absurd (Nat.le_refl _) c)⟩
    refine hk t ⟨?_, ?_, ?_, ?_, ?_, ?_⟩
    · rw [pk_un (by decide), hI0 0 (by omega)]; exact x1
    · rw [pk_un (by decide), hI0 1 (by omega)]; exact x2
    · rw [pk_us]; rfl
    · intro e he
      have he2 : e < (gE G).length := he
      rw [pk_un (j := 3 + e) (by omega), pk_un (j := 23 + e) (by omega), hI0 _ (by omega), hI0 _ (by omega)]
      exact x4 e he
    · intro v hv
      rw [pk_un (by omega), hI0 _ (by omega)]
      show _ = nI (gR G v).reverse.length
      rw [List.length_reverse]
      exact x5 v hv
    · intro v k hv hk
      have := hI v hv
      rw [rev_all hW v] at this
      rw [pk_un (by omega)]
      exact this k hk
  · rintro n i t hi ⟨hI0, hI⟩ ih
    simp only [f_X8_mirror_b6]
    have e43 : (43 + nI i) = nI (43 + i) := by rw [show (43 : Int32) = nI 43 from rfl, nI_add]
    rw [show (0 : Int32).toNatClampNeg = 0 from rfl, hI0 0 (by omega), x1, e43, nI_clamp (by omega), hI0 _ (by omega), x5 i (by omega)]
    refine Ok_chk.mpr ⟨by decide, Ok_ife (nI_leI (by omega) (by omega)) (fun c => absurd c (by omega)) (fun _ => ?_)⟩
    refine Ok_chk.mpr ⟨inb_nI (by omega) (by decide), Ok_nm.mpr ?_⟩
    have hIi := hI i (by omega)
    rw [if_neg (Nat.lt_irrefl i)] at hIi
    refine X8_rev1 N i (gR G i) hN (by omega) (WF_deg hW i) t pa ps fo fs nf hIi _ _ ?_
    intro t2 q2 q3
    refine ih _ ⟨fun x hx => by rw [q3 x (by omega)]; exact hI0 x hx, fun v hv => ?_⟩
    have h8 := WF_deg hW v
    by_cases c : v = i
    · rw [c, if_pos (by omega)]
      exact q2
    · have e1 : (if v < i + 1 then (gR G v).reverse else gR G v) = (if v < i then (gR G v).reverse else gR G v) := by
        by_cases c2 : v < i
        · rw [if_pos c2, if_pos (by omega)]
        · rw [if_neg c2, if_neg (by omega)]
      have h10 : (if v < i then (gR G v).reverse else gR G v).length ≤ 8 := by
        split
        · rw [List.length_reverse]; omega
        · omega
      rw [e1]
      intro k hk
      rw [q3 _ (by omega)]
      exact hI v hv k hk
end MIR8
