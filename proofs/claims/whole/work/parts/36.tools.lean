/-! ===== loops, numbers, bits (the rows on bits and counts begin with the kit's texts to paste) ===== -/
section LOOPS
variable {σ β : Type} {Q : β → Prop}
theorem lpM (F : Nat → σ → Option β) (I : σ → Prop) (μ : σ → Nat) (hs : ∀ n s, I s → (∀ s', I s' → μ s' < μ s → Ok (F n s') Q) → Ok (F (n + 1) s) Q) : ∀ n s, I s → μ s < n → Ok (F n s) Q := by
  intro n
  induction n with
  | zero => intro s _ h; omega
  | succ n ih => exact fun s h1 h2 => hs n s h1 (fun s' h3 h4 => ih s' h3 (by omega))
theorem lpU (F : Nat → Nat → σ → Option β) (I : Nat → σ → Prop) (m : Nat) (hx : ∀ n s, I m s → Ok (F (n + 1) m s) Q) (hs : ∀ n i s, i < m → I i s → (∀ s', I (i + 1) s' → Ok (F n (i + 1) s') Q) → Ok (F (n + 1) i s) Q) : ∀ n i s, i ≤ m → m - i < n → I i s → Ok (F n i s) Q := by
  intro n
  induction n with
  | zero => intro i s _ h; omega
  | succ n ih =>
    intro i s h1 h2 h3
    rcases Nat.eq_or_lt_of_le h1 with rfl | h4
    · exact hx n s h3
    · exact hs n i s h4 h3 (fun s' h5 => ih (i + 1) s' h4 (by omega) h5)
theorem lpM2 {σ2 : Type} (F : Nat → σ → σ2 → Option β) (I : σ → σ2 → Prop) (μ : σ → σ2 → Nat) (hs : ∀ n a b, I a b → (∀ a' b', I a' b' → μ a' b' < μ a b → Ok (F n a' b') Q) → Ok (F (n + 1) a b) Q) : ∀ n a b, I a b → μ a b < n → Ok (F n a b) Q :=
  fun n a b h1 h2 => lpM (σ := σ × σ2) (fun n s => F n s.1 s.2) (fun s => I s.1 s.2) (fun s => μ s.1 s.2) (fun n s h ih => hs n s.1 s.2 h (fun a' b' => ih (a', b'))) n (a, b) h1 h2
theorem lpM3 {σ2 σ3 : Type} (F : Nat → σ → σ2 → σ3 → Option β) (I : σ → σ2 → σ3 → Prop) (μ : σ → σ2 → σ3 → Nat) (hs : ∀ n a b c, I a b c → (∀ a' b' c', I a' b' c' → μ a' b' c' < μ a b c → Ok (F n a' b' c') Q) → Ok (F (n + 1) a b c) Q) : ∀ n a b c, I a b c → μ a b c < n → Ok (F n a b c) Q :=
  fun n a b c h1 h2 => lpM (σ := σ × σ2 × σ3) (fun n s => F n s.1 s.2.1 s.2.2) (fun s => I s.1 s.2.1 s.2.2) (fun s => μ s.1 s.2.1 s.2.2) (fun n s h ih => hs n s.1 s.2.1 s.2.2 h (fun a' b' c' => ih (a', b', c'))) n (a, b, c) h1 h2
theorem lpU2 {σ2 : Type} (F : Nat → Nat → σ → σ2 → Option β) (I : Nat → σ → σ2 → Prop) (m : Nat) (hx : ∀ n a b, I m a b → Ok (F (n + 1) m a b) Q) (hs : ∀ n i a b, i < m → I i a b → (∀ a' b', I (i + 1) a' b' → Ok (F n (i + 1) a' b') Q) → Ok (F (n + 1) i a b) Q) : ∀ n i a b, i ≤ m → m - i < n → I i a b → Ok (F n i a b) Q :=
  fun n i a b h1 h2 h3 => lpU (σ := σ × σ2) (fun n i s => F n i s.1 s.2) (fun i s => I i s.1 s.2) m (fun n s h => hx n s.1 s.2 h) (fun n i s h0 h ih => hs n i s.1 s.2 h0 h (fun a' b' => ih (a', b'))) n i (a, b) h1 h2 h3
theorem lpU3 {σ2 σ3 : Type} (F : Nat → Nat → σ → σ2 → σ3 → Option β) (I : Nat → σ → σ2 → σ3 → Prop) (m : Nat) (hx : ∀ n a b c, I m a b c → Ok (F (n + 1) m a b c) Q) (hs : ∀ n i a b c, i < m → I i a b c → (∀ a' b' c', I (i + 1) a' b' c' → Ok (F n (i + 1) a' b' c') Q) → Ok (F (n + 1) i a b c) Q) : ∀ n i a b c, i ≤ m → m - i < n → I i a b c → Ok (F n i a b c) Q :=
  fun n i a b c h1 h2 h3 => lpU (σ := σ × σ2 × σ3) (fun n i s => F n i s.1 s.2.1 s.2.2) (fun i s => I i s.1 s.2.1 s.2.2) m (fun n s h => hx n s.1 s.2.1 s.2.2 h) (fun n i s h0 h ih => hs n i s.1 s.2.1 s.2.2 h0 h (fun a' b' c' => ih (a', b', c'))) n i (a, b, c) h1 h2 h3
end LOOPS
theorem fa_lit (n : Nat) : (OfNat.ofNat n : Int32) = nI n := rfl
theorem Ok_ife {α : Type} {P : α → Prop} {c : Prop} [Decidable c] {d : Prop} {x y : Option α} (hc : c ↔ d) (h1 : d → Ok x P) (h2 : ¬ d → Ok y P) : Ok (if c then x else y) P := Ok_ite.mpr ⟨fun h => h1 (hc.mp h), fun h => h2 (fun q => h (hc.mpr q))⟩
theorem nI_sub1 {a : Nat} (h : 0 < a) : nI a - 1 = nI (a - 1) := pk_sub (b := 1) h
theorem nI_m1 {a : Nat} (h : 0 < a) : nI a + (-1) = nI (a - 1) := by
  obtain ⟨b, rfl⟩ : ∃ b, a = b + 1 := ⟨a - 1, by omega⟩
  exact pk_m1 b
theorem nI_mod2 {a : Nat} (ha : a < 2 ^ 31) : nI a - nI a / 2 * 2 = nI (a % 2) := pk_rem (d := 2) ha (by decide) (by decide)
theorem nI_div2 {a : Nat} (ha : a < 2 ^ 31) : nI a / 2 = nI (a / 2) := pk_div (d := 2) ha (by decide) (by decide)
theorem upd_at {f : Nat → Int32} {k j : Nat} {x : Int32} : upd f k x j = if j = k then x else f j := by
  by_cases h : j = k
  · rw [h, pk_us, if_pos rfl]
  · rw [pk_un h, if_neg h]
/-! ===== Int32 by its bits: bt x i ===== -/
def bt (x : Int32) (i : Nat) : Bool := x.toBitVec.getLsbD i
theorem b_ext {x y : Int32} (h : ∀ i, i < 32 → bt x i = bt y i) : x = y := Int32.toBitVec_inj.mp (BitVec.eq_of_getLsbD_eq (fun i hi => h i hi))
theorem b_or (x y : Int32) (i : Nat) : bt (x ||| y) i = (bt x i || bt y i) := by unfold bt; rw [Int32.toBitVec_or, BitVec.getLsbD_or]
theorem b_and (x y : Int32) (i : Nat) : bt (x &&& y) i = (bt x i && bt y i) := by unfold bt; rw [Int32.toBitVec_and, BitVec.getLsbD_and]
theorem b_xor (x y : Int32) (i : Nat) : bt (x ^^^ y) i = (bt x i ^^ bt y i) := by unfold bt; rw [Int32.toBitVec_xor, BitVec.getLsbD_xor]
theorem b_big {x : Int32} {i : Nat} (h : 32 ≤ i) : bt x i = false := BitVec.getLsbD_of_ge _ _ h
theorem b_255 (i : Nat) : bt 255 i = decide (i < 8) := by
  rcases Nat.lt_or_ge i 32 with h | h
  · exact (by decide +kernel : ∀ i, i < 32 → bt 255 i = decide (i < 8)) i h
  · rw [b_big h, decide_eq_false (by omega)]
theorem b_65535 (i : Nat) : bt 65535 i = decide (i < 16) := by
  rcases Nat.lt_or_ge i 32 with h | h
  · exact (by decide +kernel : ∀ i, i < 32 → bt 65535 i = decide (i < 16)) i h
  · rw [b_big h, decide_eq_false (by omega)]
theorem b_m1 : ∀ i, i < 32 → bt (-1) i = true := by decide +kernel
theorem b_0 (i : Nat) : bt 0 i = false := BitVec.getLsbD_zero
theorem s_l : ∀ n, n < 32 → ((nI n &&& 31).toBitVec.smod 32).toNat = n := by decide +kernel
theorem s_u : ∀ n, n < 32 → (((nI n).toUInt32 &&& Int32.toUInt32 31).toBitVec % 32).toNat = n := by decide +kernel
theorem b_shl (n : Nat) (hn : n < 32) (x : Int32) {i : Nat} (hi : i < 32) : bt (x <<< (nI n &&& 31)) i = (decide (n ≤ i) && bt x (i - n)) := by
  unfold bt
  rw [Int32.toBitVec_shiftLeft]
  show (x.toBitVec <<< ((nI n &&& 31).toBitVec.smod 32).toNat).getLsbD i = _
  rw [s_l n hn, BitVec.getLsbD_shiftLeft]
  rcases Nat.lt_or_ge i n with h | h
  · simp [h, Nat.not_le.mpr h]
  · simp [hi, h, Nat.not_lt.mpr h]
theorem b_ushr (n : Nat) (hn : n < 32) (x : Int32) (i : Nat) : bt ((x.toUInt32 >>> ((nI n).toUInt32 &&& Int32.toUInt32 31)).toInt32) i = bt x (n + i) := by
  show (x.toUInt32 >>> ((nI n).toUInt32 &&& Int32.toUInt32 31)).toBitVec.getLsbD i = x.toUInt32.toBitVec.getLsbD (n + i)
  rw [UInt32.toBitVec_shiftRight]
  show (x.toUInt32.toBitVec >>> (((nI n).toUInt32 &&& Int32.toUInt32 31).toBitVec % 32).toNat).getLsbD i = _
  rw [s_u n hn, BitVec.getLsbD_ushiftRight]
theorem b_sshr (n : Nat) (hn : n < 32) (x : Int32) {i : Nat} (hi : i < 32) : bt (x >>> (nI n &&& 31)) i = if n + i < 32 then bt x (n + i) else bt x 31 := by
  unfold bt
  rw [Int32.toBitVec_shiftRight]
  show (x.toBitVec.sshiftRight ((nI n &&& 31).toBitVec.smod 32).toNat).getLsbD i = _
  rw [s_l n hn, BitVec.getLsbD_sshiftRight, BitVec.msb_eq_getLsbD_last]
  simp [hi]
theorem b_1 (i : Nat) : bt 1 i = decide (i = 0) := by
  rcases Nat.lt_or_ge i 32 with h | h
  · exact (by decide +kernel : ∀ i, i < 32 → bt 1 i = decide (i = 0)) i h
  · rw [b_big h, decide_eq_false (by omega)]
theorem b_bit {k i : Nat} (hk : k < 32) : bt ((1 : Int32) <<< (nI k &&& 31)) i = decide (i = k) := by
  rcases Nat.lt_or_ge i 32 with h | h
  · rw [b_shl k hk 1 h, b_1]
    by_cases h2 : i = k
    · simp [h2]
    · rw [decide_eq_false h2]
      by_cases h3 : k ≤ i
      · rw [decide_eq_false (by omega : ¬ i - k = 0), Bool.and_false]
      · rw [decide_eq_false h3, Bool.false_and]
  · rw [b_big h, decide_eq_false (by omega)]
theorem b_zero {x : Int32} : x = 0 ↔ ∀ i, i < 32 → bt x i = false := by
  constructor
  · rintro rfl i _; exact b_0 i
  · intro h; exact b_ext (fun i hi => by rw [h i hi, b_0])
theorem b_has {x : Int32} {k : Nat} (hk : k < 32) : ((x >>> (nI k &&& 31)) &&& 1) = 0 ↔ bt x k = false := by
  rw [b_zero]
  constructor
  · intro h
    have h0 := h 0 (by decide)
    rw [b_and, b_1, b_sshr k hk x (by decide), if_pos (by omega)] at h0
    simpa using h0
  · intro h i hi
    rw [b_and, b_1]
    by_cases h0 : i = 0
    · subst h0
      rw [b_sshr k hk x (by decide), if_pos (by omega), Nat.add_zero, h, Bool.false_and]
    · rw [decide_eq_false h0, Bool.and_false]
theorem b_not (x : Int32) {i : Nat} (hi : i < 32) : bt (x ^^^ (-1)) i = !bt x i := by
  rw [b_xor, b_m1 i hi, Bool.xor_true]
theorem X7_contains (N : Nat) {x : Int32} {k : Nat} (hk : k < 32) : f_X7_contains N x (nI k) = some (bI (bt x k)) := by
  unfold f_X7_contains
  cases hb : bt x k with
  | false => rw [if_pos ((b_has hk).mpr hb)]; rfl
  | true => rw [if_neg (fun q => by rw [(b_has hk).mp q] at hb; cases hb)]; rfl
theorem X7_bit (N : Nat) (p : Int32) : f_X7_bit N p = some ((1 : Int32) <<< (p &&& 31)) := rfl
def fb_ct (p : Nat → Bool) : Nat → Nat
  | 0 => 0
  | n + 1 => fb_ct p n + (if p n then 1 else 0)
theorem fb_ct_succ (p : Nat → Bool) (n : Nat) : fb_ct p (n + 1) = fb_ct p n + (if p n then 1 else 0) := rfl
theorem fb_ct_le (p : Nat → Bool) : ∀ n, fb_ct p n ≤ n
  | 0 => Nat.le_refl _
  | n + 1 => by
    have h := fb_ct_le p n
    rw [fb_ct_succ]
    split <;> omega
theorem fb_ct_step (p : Nat → Bool) (m : Nat) : ∀ n, fb_ct p m ≤ fb_ct p (m + n)
  | 0 => Nat.le_refl _
  | n + 1 => by
    have h := fb_ct_step p m n
    show fb_ct p m ≤ fb_ct p (m + n + 1)
    rw [fb_ct_succ]
    omega
theorem fb_ct_mono (p : Nat → Bool) {m n : Nat} (h : m ≤ n) : fb_ct p m ≤ fb_ct p n := by
  have := fb_ct_step p m (n - m)
  rwa [Nat.add_sub_cancel' h] at this
theorem fb_ct_cong {p q : Nat → Bool} : ∀ {n : Nat}, (∀ k, k < n → p k = q k) → fb_ct p n = fb_ct q n
  | 0, _ => rfl
  | n + 1, h => by
    rw [fb_ct_succ, fb_ct_succ, fb_ct_cong (fun k hk => h k (by omega)), h n (by omega)]
/-- one place changed -/
theorem fb_ct_out (p : Nat → Bool) (b : Bool) {i n : Nat} (h : n ≤ i) : fb_ct (fun k => if k = i then b else p k) n = fb_ct p n :=
  fb_ct_cong fun k hk => if_neg (by omega)
theorem fb_ct_upd (p : Nat → Bool) (b : Bool) {i : Nat} : ∀ {n : Nat}, i < n → fb_ct (fun k => if k = i then b else p k) n + (if p i then 1 else 0) = fb_ct p n + (if b then 1 else 0)
  | 0, h => absurd h (Nat.not_lt_zero i)
  | n + 1, h => by
    rw [fb_ct_succ, fb_ct_succ]
    rcases Nat.lt_or_ge i n with q | q
    · have := fb_ct_upd p b q
      have e : (if n = i then b else p n) = p n := if_neg (by omega)
      rw [e]
      omega
    · have e : i = n := by omega
      subst e
      rw [fb_ct_out p b (Nat.le_refl _)]
      simp only [if_true]
      omega
theorem fb_ct_sub {p q : Nat → Bool} : ∀ {n : Nat}, (∀ k, k < n → p k = true → q k = true) → fb_ct p n ≤ fb_ct q n
  | 0, _ => Nat.le_refl _
  | n + 1, h => by
    have h1 := fb_ct_sub (n := n) (p := p) (q := q) (fun k hk => h k (by omega))
    have h2 := h n (by omega)
    rw [fb_ct_succ, fb_ct_succ]
    cases hp : p n <;> cases hq : q n <;> simp_all <;> omega
theorem fb_ct_or {p q : Nat → Bool} : ∀ {n : Nat}, (∀ k, k < n → ¬ (p k = true ∧ q k = true)) → fb_ct (fun k => p k || q k) n = fb_ct p n + fb_ct q n
  | 0, _ => rfl
  | n + 1, h => by
    have h1 := fb_ct_or (n := n) (p := p) (q := q) (fun k hk => h k (by omega))
    have h2 := h n (by omega)
    rw [fb_ct_succ, fb_ct_succ, fb_ct_succ, h1]
    cases hp : p n <;> cases hq : q n <;> simp_all <;> omega
theorem fb_ct_not (p : Nat → Bool) : ∀ n, fb_ct p n + fb_ct (fun k => !p k) n = n
  | 0 => rfl
  | n + 1 => by
    have h := fb_ct_not p n
    rw [fb_ct_succ, fb_ct_succ]
    cases p n <;> simp <;> omega
theorem fb_ct_split (p : Nat → Bool) (m : Nat) : ∀ n, fb_ct p (m + n) = fb_ct p m + fb_ct (fun k => p (m + k)) n
  | 0 => rfl
  | n + 1 => by
    have h := fb_ct_split p m n
    show fb_ct p (m + n + 1) = _
    rw [fb_ct_succ, fb_ct_succ, h, Nat.add_assoc]
theorem fb_ct_zero {p : Nat → Bool} : ∀ {n : Nat}, fb_ct p n = 0 ↔ ∀ k, k < n → p k = false
  | 0 => ⟨fun _ k hk => absurd hk (Nat.not_lt_zero k), fun _ => rfl⟩
  | n + 1 => by
    have h := fb_ct_zero (p := p) (n := n)
    rw [fb_ct_succ]
    constructor
    · intro e k hk
      have e1 : fb_ct p n = 0 := by omega
      rcases Nat.lt_or_ge k n with q | q
      · exact h.mp e1 k q
      · have ek : k = n := by omega
        subst ek
        cases hp : p k
        · rfl
        · simp [hp] at e
    · intro a
      rw [h.mpr (fun k hk => a k (by omega)), a n (by omega)]
      rfl
theorem fb_ct_pos {p : Nat → Bool} {n : Nat} : 0 < fb_ct p n ↔ ∃ k, k < n ∧ p k = true := by
  constructor
  · intro h
    refine Classical.byContradiction fun hx => ?_
    have := fb_ct_zero.mpr (fun k hk => by
      cases hp : p k
      · rfl
      · exact absurd ⟨k, hk, hp⟩ hx : ∀ k, k < n → p k = false)
    omega
  · rintro ⟨k, hk, hp⟩
    rcases Nat.eq_zero_or_pos (fb_ct p n) with e | e
    · have := fb_ct_zero.mp e k hk
      rw [this] at hp
      cases hp
    · exact e
theorem fb_ct_all {p : Nat → Bool} {n : Nat} : fb_ct p n = n ↔ ∀ k, k < n → p k = true := by
  have h := fb_ct_not p n
  constructor
  · intro e k hk
    have z : fb_ct (fun k => !p k) n = 0 := by omega
    have := fb_ct_zero.mp z k hk
    cases hp : p k
    · simp [hp] at this
    · rfl
  · intro a
    have z : fb_ct (fun k => !p k) n = 0 := fb_ct_zero.mpr (fun k hk => by simp [a k hk])
    omega
