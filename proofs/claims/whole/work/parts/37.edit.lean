/-! ===== rows of rotations: putting an edge in ===== -/
def Row (t : Nat → Int32) (b : Nat) (l : List Nat) : Prop := ∀ k, k < l.length → t (b + k) = nI (l.getD k 0)
def opn (t : Nat → Int32) (b d k : Nat) (e : Int32) : Nat → Int32 := fun x => if x = b + k then e else if b + k < x ∧ x ≤ b + d then t (x - 1) else t x
theorem X1_open (N v k d : Nat) (hN : 30 < N) (hv : v < 9) (hk : k ≤ d) (hd : d ≤ 7) (e : Int32) (de tu : Nat → Int32) (h : de v = nI d) : f_X1_openSlot N de tu (nI v) (nI k) e = some (upd de v (nI (d + 1)), opn tu (8 * v) d k e) := by
  refine Ok_of ?_
  unfold f_X1_openSlot
  have e8 : nI v * 8 = nI (8 * v) := by rw [show (8 : Int32) = nI 8 from rfl, pk_mul, Nat.mul_comm]
  have iv : inb (nI v) 9 = true := inb_nI hv (by decide)
  rw [if_neg (nI_pos (by omega) : ¬ nI k < 0), e8, nI_clamp (by omega), h]
  refine Ok_chk.mpr ⟨iv, Ok_ife (nI_ltI (by omega) (by omega)) (fun c => absurd c (by omega)) (fun _ => Ok_chk.mpr ⟨iv, Ok_ife (nI_ltI (b := 8) (by omega) (by omega)) (fun _ => Ok_nm.mpr (Ok_chk.mpr ⟨iv, Ok_nm.mpr ?_⟩)) (fun c => absurd (by omega : d < 8) c)⟩)⟩
  refine lpM (σ := Nat × (Nat → Int32)) (fun n s => f_X1_openSlot_b40 N n (nI v) (nI k) e (nI (8 * v)) (nI s.1) de s.2) (fun s => k ≤ s.1 ∧ s.1 ≤ d ∧ ∀ x, s.2 x = if 8 * v + s.1 < x ∧ x ≤ 8 * v + d then tu (x - 1) else tu x) (fun s => s.1 - k) ?_ N (d, tu) ⟨hk, Nat.le_refl d, fun x => by rw [if_neg (by omega)]⟩ (by show d - k < N; omega)
  rintro n ⟨i, t⟩ ⟨h1, h2, h3⟩ ih
  dsimp only at h1 h2 h3
  simp only [f_X1_openSlot_b40, f_X1_openSlot_b74]
  refine Ok_ife (nI_leI (by omega) (by omega)) (fun c => ?_) (fun c => ?_)
  · obtain rfl : i = k := by omega
    rw [nI_add, nI_clamp (by omega), nI_clamp (by omega)]
    refine Ok_chk.mpr ⟨inb_nI (by omega) (by decide), Ok_chk.mpr ⟨inb_nI hv (by decide), Ok_chk.mpr ⟨inb_nI hv (by decide), Ok_some.mpr ?_⟩⟩⟩
    rw [h, nI_1]
    refine Prod.ext rfl (funext fun x => ?_)
    show upd t (8 * v + i) e x = _
    rw [upd_at, h3 x]
    rfl
  · rw [nI_add, nI_sub1 (by omega), nI_clamp (by omega), nI_clamp (by omega), nI_m1 (by omega)]
    refine Ok_chk.mpr ⟨inb_nI (by omega) (by decide), Ok_chk.mpr ⟨inb_nI (by omega) (by decide), ?_⟩⟩
    refine ih (i - 1, _) ⟨by show k ≤ i - 1; omega, by show i - 1 ≤ d; omega, fun x => ?_⟩ (by show i - 1 - k < i - k; omega)
    show upd t (8 * v + i) (t (8 * v + i - 1)) x = if 8 * v + (i - 1) < x ∧ x ≤ 8 * v + d then tu (x - 1) else tu x
    rw [upd_at, h3, h3]
    by_cases hx : x = 8 * v + i
    · subst hx
      rw [if_pos rfl, if_neg (by omega), if_pos (by omega)]
    · rw [if_neg hx]
      by_cases c2 : 8 * v + i < x ∧ x ≤ 8 * v + d
      · rw [if_pos c2, if_pos (by omega)]
      · rw [if_neg c2, if_neg (by omega)]
theorem X8_puts (N v k d : Nat) (hN : 30 < N) (hv : v < 9) (hk : k ≤ d) (hd : d ≤ 7) (e : Int32) (s : Nat → Int32) (h : s (43 + v) = nI d) : f_X8_puts N s (nI v) (nI k) e = some (upd (opn s (52 + 8 * v) d k e) (43 + v) (nI (d + 1))) := by
  refine Ok_of ?_
  unfold f_X8_puts
  have e8 : (52 + 8 * nI v) = nI (52 + 8 * v) := by rw [show (8 : Int32) = nI 8 from rfl, show (52 : Int32) = nI 52 from rfl, pk_mul, nI_add]
  have e43 : (43 + nI v) = nI (43 + v) := by rw [show (43 : Int32) = nI 43 from rfl, nI_add]
  rw [e43, nI_clamp (by omega), h]
  refine Ok_chk.mpr ⟨inb_nI (by omega) (by decide), Ok_nm.mpr ?_⟩
  refine lpM (σ := Nat × (Nat → Int32)) (fun n s => f_X8_puts_b11 N n (nI v) (nI k) e (nI s.1) s.2) (fun q => k ≤ q.1 ∧ q.1 ≤ d ∧ ∀ x, q.2 x = if 52 + 8 * v + q.1 < x ∧ x ≤ 52 + 8 * v + d then s (x - 1) else s x) (fun s => s.1 - k) ?_ N (d, s) ⟨hk, Nat.le_refl d, fun x => by rw [if_neg (by omega)]⟩ (by show d - k < N; omega)
  rintro n ⟨i, t⟩ ⟨h1, h2, h3⟩ ih
  dsimp only at h1 h2 h3
  simp only [f_X8_puts_b11, f_X8_puts_b55]
  refine Ok_ife (nI_leI (by omega) (by omega)) (fun c => ?_) (fun c => ?_)
  · obtain rfl : i = k := by omega
    rw [e8, e43, nI_add, nI_clamp (by omega), nI_clamp (by omega)]
    refine Ok_chk.mpr ⟨inb_nI (by omega) (by decide), Ok_chk.mpr ⟨inb_nI (by omega) (by decide), Ok_chk.mpr ⟨inb_nI (by omega) (by decide), Ok_some.mpr ?_⟩⟩⟩
    rw [pk_un (by omega), h3, if_neg (by omega), h, nI_1]
    congr 1
    funext x
    show upd t (52 + 8 * v + i) e x = _
    rw [upd_at, h3 x]
    rfl
  · rw [e8, nI_add, nI_sub1 (by omega), nI_clamp (by omega), nI_clamp (by omega), nI_m1 (by omega)]
    refine Ok_chk.mpr ⟨inb_nI (by omega) (by decide), Ok_chk.mpr ⟨inb_nI (by omega) (by decide), ?_⟩⟩
    refine ih (i - 1, _) ⟨by show k ≤ i - 1; omega, by show i - 1 ≤ d; omega, fun x => ?_⟩ (by show i - 1 - k < i - k; omega)
    show upd t (52 + 8 * v + i) (t (52 + 8 * v + i - 1)) x = if 52 + 8 * v + (i - 1) < x ∧ x ≤ 52 + 8 * v + d then s (x - 1) else s x
    rw [upd_at, h3, h3]
    by_cases hx : x = 52 + 8 * v + i
    · subst hx
      rw [if_pos rfl, if_neg (by omega), if_pos (by omega)]
    · rw [if_neg hx]
      by_cases c2 : 52 + 8 * v + i < x ∧ x ≤ 52 + 8 * v + d
      · rw [if_pos c2, if_pos (by omega)]
      · rw [if_neg c2, if_neg (by omega)]
/-- a list with e at place k -/
def ins (l : List Nat) (k e : Nat) : List Nat := l.take k ++ e :: l.drop k
theorem ins_length {l : List Nat} {k e : Nat} (h : k ≤ l.length) : (ins l k e).length = l.length + 1 := by
  unfold ins
  rw [List.length_append, List.length_cons, List.length_take, List.length_drop]
  omega
theorem ins_getD {l : List Nat} {k e : Nat} (h : k ≤ l.length) (j : Nat) : (ins l k e).getD j 0 = if j = k then e else if k < j then l.getD (j - 1) 0 else l.getD j 0 := by
  unfold ins
  rw [List.getD_eq_getElem?_getD, List.getElem?_append, List.length_take, Nat.min_eq_left h]
  by_cases h1 : j < k
  · rw [if_pos h1, if_neg (by omega), if_neg (by omega), List.getElem?_take, if_pos h1, List.getD_eq_getElem?_getD]
  · rw [if_neg h1, List.getElem?_cons]
    by_cases h2 : j = k
    · rw [if_pos (by omega), if_pos h2]; rfl
    · rw [if_neg (by omega), if_neg h2, if_pos (by omega), List.getElem?_drop, List.getD_eq_getElem?_getD]
      congr 2
      omega
theorem ins_perm (l : List Nat) (k e : Nat) : (ins l k e).Perm (e :: l) := by
  have h := @List.perm_middle Nat e (l.take k) (l.drop k)
  rw [List.take_append_drop] at h
  exact h
theorem ins_mem {l : List Nat} {k e x : Nat} : x ∈ ins l k e ↔ x = e ∨ x ∈ l := by
  rw [(ins_perm l k e).mem_iff, List.mem_cons]
theorem ins_nodup {l : List Nat} {k e : Nat} (h : l.Nodup) (he : e ∉ l) : (ins l k e).Nodup := by
  rw [(ins_perm l k e).nodup_iff, List.nodup_cons]
  exact ⟨he, h⟩
theorem Row_opn {t : Nat → Int32} {b k e : Nat} {l : List Nat} (h : Row t b l) (hk : k ≤ l.length) : Row (opn t b l.length k (nI e)) b (ins l k e) := by
  intro j hj
  rw [ins_length hk] at hj
  rw [ins_getD hk]
  unfold opn
  by_cases h1 : j = k
  · rw [if_pos (by omega), if_pos h1]
  · rw [if_neg (by omega), if_neg h1]
    by_cases h2 : k < j
    · rw [if_pos (by omega), if_pos h2, ← h (j - 1) (by omega)]
      congr 1
      omega
    · rw [if_neg (by omega), if_neg h2, ← h j (by omega)]
theorem opn_out {t : Nat → Int32} {b d k : Nat} {e : Int32} {x : Nat} (hk : k ≤ d) (h : x < b ∨ b + d < x) : opn t b d k e x = t x := by
  unfold opn
  rw [if_neg (by omega), if_neg (by omega)]
