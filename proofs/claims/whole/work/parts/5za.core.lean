/-! ===== the course of drawing: its start, its steps, its ends; how many rings there are ===== -/
def Dm (G H : Nat → Bool) (nr : Nat) (rg : Nat → List Nat) : Prop := GW G ∧ Iv H nr rg ∧ Sb H G ∧ (Pl G → ∃ col, Ex G H nr rg col)
theorem Dm_start {G : Nat → Bool} {l : List Nat} (hG : GW G) (hC : Cy l) (hs : Sb (cs l) G) : Dm G (cs l) 2 (fun _ => l) := ⟨hG, Iv_start hC, hs, fun h => Ex_start h hC hs⟩
theorem Dm_step {G H : Nat → Bool} {nr : Nat} {rg : Nat → List Nat} {f a b : Nat} {s t m : List Nat} (h : Dm G H nr rg) (hS : Sp H nr rg f a b s t m) (hP : ∀ e, wk a (m ++ [b]) e = true → G e = true) (hfit : ∀ e, wk a (m ++ [b]) e = true → ∀ c, En G H e c → c ∈ rg f) (hR : (∃ k, k < nr ∧ k ≠ f ∧ ∀ e, wk a (m ++ [b]) e = true → ∀ c, En G H e c → c ∈ rg k) → CRule G H nr rg) : Dm G (xs H (wk a (m ++ [b]))) (nr + 1) (rgN nr rg f a b s t m) := by
  refine ⟨h.1, Iv_step h.2.1 hS, fun e he => ?_, fun hp => Ex_next h.1 h.2.1 h.2.2.1 hS hP hfit hR (h.2.2.2 hp)⟩
  change (H e ^^ wk a (m ++ [b]) e) = true at he
  cases c : H e with
  | true => exact h.2.2.1 e c
  | false => rw [c, Bool.false_xor] at he; exact hP e he
theorem Dm_no {G H : Nat → Bool} {nr : Nat} {rg : Nat → List Nat} (h : Dm G H nr rg) {e a b : Nat} (he : G e = true) (heH : H e = false) (ha : VH H a) (hi : inc a e = true) (hb : En G H e b) (hab : a ≠ b) (hno : ∀ k, k < nr → ∃ c, En G H e c ∧ c ∉ rg k) : ¬ Pl G := by
  intro hp
  obtain ⟨k, hk, q⟩ := Ex_fit h.1 h.2.1 h.2.2.1 (h.2.2.2 hp) he heH ha hi hb hab
  obtain ⟨c, c1, c2⟩ := hno k hk
  exact c2 (q c c1)
/-- where every piece has one end at most, the drawn part stands alone -/
theorem sep_ev {G H : Nat → Bool} (hG : GW G) (hsG : Sb H G) (hE : ∀ e, G e = true → H e = false → ∀ a b, En G H e a → En G H e b → a = b) {X : Nat → Bool} (hs : Sb X G) (hX : ev X) : ev (fun e => X e && !H e) := by
  intro x
  by_cases hx : VH H x
  · have eB : ev (fun e => (X e && !H e) && cb (En G H e x)) := by
      refine odd_none (u := x) (fun y hy => ?_)
      by_cases hv : VH H y
      · refine dg_no (fun e _ hi => ?_)
        cases c : ((X e && !H e) && cb (En G H e x)) with
        | false => rfl
        | true =>
          rw [Bool.and_eq_true, Bool.and_eq_true, Bool.not_eq_true', cb_t] at c
          exact absurd (hE e (hs e c.1.1) c.1.2 y x ⟨hv, Or.inl hi⟩ c.2) hy
      · have noH : ∀ e, inc y e = true → H e = false := fun e hi => by
          cases c : H e with
          | false => rfl
          | true => exact absurd ⟨e, c, hi⟩ hv
        by_cases q : ∃ e0, X e0 = true ∧ inc y e0 = true ∧ En G H e0 x
        · obtain ⟨e0, q1, q2, q3⟩ := q
          rw [← hX y]
          refine dg_cong (fun e _ hi => ?_)
          show ((X e && !H e) && cb (En G H e x)) = X e
          rw [noH e hi]
          cases c : X e with
          | false => rfl
          | true =>
            rw [cb_t.mpr (En_share hG (hs e0 q1) (hs e c) q2 hi hv q3)]; rfl
        · refine dg_no (fun e _ hi => ?_)
          cases c : ((X e && !H e) && cb (En G H e x)) with
          | false => rfl
          | true =>
            rw [Bool.and_eq_true, Bool.and_eq_true, cb_t] at c
            exact absurd ⟨e, c.1.1, hi, c.2⟩ q
    rw [← eB x]
    refine dg_cong (fun e _ hi => ?_)
    show (X e && !H e) = ((X e && !H e) && cb (En G H e x))
    have hen : En G H e x := ⟨hx, Or.inl hi⟩
    rw [cb_t.mpr hen, Bool.and_true]
  · rw [← hX x]
    refine dg_cong (fun e _ hi => ?_)
    have : H e = false := by
      cases c : H e with
      | false => rfl
      | true => exact absurd ⟨e, c, hi⟩ hx
    show (X e && !H e) = X e
    rw [this, Bool.not_false, Bool.and_true]
theorem Dm_end {G H : Nat → Bool} {nr : Nat} {rg : Nat → List Nat} (h : Dm G H nr rg) (hE : ∀ e, G e = true → H e = false → ∀ a b, En G H e a → En G H e b → a = b) : Pl G ↔ Pl (fun e => G e && !H e) := by
  constructor
  · exact Pl_del (fun e he => by rw [Bool.and_eq_true] at he; exact he.1)
  · refine Pl_sum h.2.2.1 (fun X h1 h2 => ?_) (Iv_Pl h.2.1)
    refine ev_cong (fun e => ?_) (ev_xs h2 (sep_ev h.1 h.2.2.1 hE h1 h2))
    show (X e ^^ (X e && !H e)) = (X e && H e)
    cases X e <;> cases H e <;> rfl
/-- all drawn -/
theorem Dm_all {G H : Nat → Bool} {nr : Nat} {rg : Nat → List Nat} (h : Dm G H nr rg) (hE : ∀ e, G e = true → H e = true) : Pl G := by
  refine Pl_cong (fun e => ?_) (Iv_Pl h.2.1)
  cases c : G e with
  | true => exact hE e c
  | false =>
    cases c2 : H e with
    | false => rfl
    | true => rw [h.2.2.1 e c2] at c; cases c
def tot (rg : Nat → List Nat) : Nat → Nat
  | 0 => 0
  | n + 1 => tot rg n + (rg n).length
theorem tot_cong {rg rg' : Nat → List Nat} : ∀ n, (∀ k, k < n → (rg k).length = (rg' k).length) → tot rg n = tot rg' n
  | 0, _ => rfl
  | n + 1, h => by
    show tot rg n + (rg n).length = tot rg' n + (rg' n).length
    rw [tot_cong n (fun k hk => h k (by omega)), h n (by omega)]
theorem tot_one {rg rg' : Nat → List Nat} {f : Nat} : ∀ n, f < n → (∀ k, k < n → k ≠ f → (rg k).length = (rg' k).length) → tot rg' n + (rg f).length = tot rg n + (rg' f).length
  | 0, h, _ => by omega
  | n + 1, h, hk => by
    show tot rg' n + (rg' n).length + (rg f).length = tot rg n + (rg n).length + (rg' f).length
    rcases Nat.lt_or_ge f n with c | c
    · have := tot_one n c (fun k h1 h2 => hk k (by omega) h2)
      have := hk n (by omega) (by omega)
      omega
    · obtain rfl : f = n := by omega
      have := tot_cong (rg := rg) (rg' := rg') f (fun k h1 => hk k (by omega) (by omega))
      omega
theorem tot_le {rg : Nat → List Nat} : ∀ n, (∀ k, k < n → 3 ≤ (rg k).length) → 3 * n ≤ tot rg n
  | 0, _ => Nat.zero_le _
  | n + 1, h => by
    have := tot_le n (fun k hk => h k (by omega))
    have := h n (by omega)
    show 3 * (n + 1) ≤ tot rg n + (rg n).length
    omega
def Eu (H : Nat → Bool) (nr : Nat) (rg : Nat → List Nat) : Prop := ∃ pl : List Nat, pl.Nodup ∧ (∀ x, x ∈ pl ↔ VH H x) ∧ tot rg nr + 4 = 2 * nr + 2 * pl.length
theorem Eu_start {l : List Nat} (h : Cy l) : Eu (cs l) 2 (fun _ => l) := by
  refine ⟨l, h.1, fun x => (VH_cs h).symm, ?_⟩
  show 0 + l.length + l.length + 4 = 2 * 2 + 2 * l.length
  omega
theorem Eu_step {H : Nat → Bool} {nr : Nat} {rg : Nat → List Nat} {f a b : Nat} {s t m : List Nat} (hI : Iv H nr rg) (hS : Sp H nr rg f a b s t m) (h : Eu H nr rg) : Eu (xs H (wk a (m ++ [b]))) (nr + 1) (rgN nr rg f a b s t m) := by
  obtain ⟨pl, h1, h2, h3⟩ := h
  have hf := hS.1
  refine ⟨m ++ pl, List.nodup_append.mpr ⟨hS.2.2.1, h1, fun x hx y hy q => ?_⟩, fun x => ?_, ?_⟩
  · rw [q] at hx
    exact (hS.2.2.2.1 y hx).2 ((h2 y).mp hy)
  · rw [List.mem_append, h2 x, Sp_VH hI hS]
    exact Or.comm
  · have l1 : (rg f).length = s.length + t.length + 2 := by
      obtain ⟨u, v, e1, e2⟩ := hS.2.1
      have := congrArg List.length e2
      rw [e1]
      simp only [List.length_append, List.length_cons] at this ⊢
      omega
    have l2 : (rgN nr rg f a b s t m f).length = s.length + m.length + 2 := by
      rw [rgN_f f rfl]
      simp only [List.length_append, List.length_cons, List.length_reverse]
      omega
    have l3 : (rgN nr rg f a b s t m nr).length = t.length + m.length + 2 := by
      rw [rgN_n (by omega)]
      simp only [List.length_append, List.length_cons]
      omega
    have l4 := tot_one (rg := rg) (rg' := rgN nr rg f a b s t m) nr hf (fun k k1 k2 => by rw [rgN_o k2 (by omega)])
    show tot (rgN nr rg f a b s t m) nr + (rgN nr rg f a b s t m nr).length + 4 = 2 * (nr + 1) + 2 * (m ++ pl).length
    rw [List.length_append]
    omega
theorem Eu_le {H : Nat → Bool} {nr : Nat} {rg : Nat → List Nat} (hI : Iv H nr rg) (h : Eu H nr rg) : nr ≤ 14 := by
  obtain ⟨pl, h1, h2, h3⟩ := h
  have := tot_le nr (fun k hk => (hI.1 k hk).2.1)
  have := nd_le 9 pl h1 (fun x hx => VH_lt hI ((h2 x).mp hx))
  omega
/-! ===== kinds of pieces ===== -/
theorem rc_self {G H : Nat → Bool} (x : Nat) : rc G H x x := fun _ h _ => h
theorem rc_step {G H : Nat → Bool} {x u w : Nat} (h : rc G H x u) (hw : w < 9) (hne : u ≠ w) (hg : G (cd u w) = true) (hv : ¬ VH H w) : rc G H x w := fun T h1 h2 => h2 u w (h T h1 h2) hw hne hg hv
theorem rc_trans {G H : Nat → Bool} {x y z : Nat} (h : rc G H x y) (g : rc G H y z) : rc G H x z := fun T h1 h2 => g T (h T h1 h2) h2
theorem rc_off {G H : Nat → Bool} {x y : Nat} (hx : ¬ VH H x) (h : rc G H x y) : ¬ VH H y := h (fun z => ¬ VH H z) hx (fun _ _ _ _ _ _ q => q)
theorem rc_lt {G H : Nat → Bool} {x y : Nat} (hx : x < 9) (h : rc G H x y) : y < 9 := h (fun z => z < 9) hx (fun _ _ _ q _ _ _ => q)
theorem rc_symm {G H : Nat → Bool} {x y : Nat} (h9 : x < 9) (hx : ¬ VH H x) (h : rc G H x y) : rc G H y x := by
  intro T h1 h2
  refine Classical.byContradiction (fun hn => ?_)
  have := h (fun u => u < 9 ∧ ¬ VH H u ∧ ¬ T u) ⟨h9, hx, hn⟩ (fun u w ⟨a1, a2, a3⟩ b1 b2 b3 b4 => ⟨b1, b4, fun q => a3 (h2 w u q a1 (Ne.symm b2) (by rw [cd_comm]; exact b3) a2)⟩)
  exact this.2.2 h1
theorem En_edge {G H : Nat → Bool} {e c : Nat} (hv : ∀ x, inc x e = true → VH H x) (h : En G H e c) : inc c e = true := by
  rcases h.2 with q | ⟨x, y, q1, q2, _⟩
  · exact q
  · exact absurd (hv x q1) q2
theorem En_part {G H : Nat → Bool} (hG : GW G) {v x e : Nat} (hv9 : v < 9) (hv : ¬ VH H v) (hx : rc G H v x) (he : G e = true) (hi : inc x e = true) (c : Nat) : En G H e c ↔ VH H c ∧ ∃ y, rc G H v y ∧ G (cd y c) = true := by
  have hxv := rc_off hv hx
  have hx9 := rc_lt hv9 hx
  constructor
  · rintro ⟨h1, h2 | ⟨z, y, a1, a2, a3, a4⟩⟩
    · have hne : x ≠ c := fun q => hxv (by rw [q]; exact h1)
      obtain ⟨w1, w2, w3⟩ := GW_two hG he hi h2 hne
      exact ⟨h1, x, hx, by rw [← w1]; exact he⟩
    · by_cases q : z = x
      · rw [q] at a3
        exact ⟨h1, y, rc_trans hx a3, a4⟩
      · obtain ⟨w1, w2, w3⟩ := GW_two hG he hi a1 (Ne.symm q)
        exact ⟨h1, y, rc_trans (rc_step hx w3 (Ne.symm q) (by rw [← w1]; exact he) a2) a3, a4⟩
  · rintro ⟨h1, y, a1, a2⟩
    exact ⟨h1, Or.inr ⟨x, y, hi, hxv, rc_trans (rc_symm hv9 hv hx) a1, a2⟩⟩
