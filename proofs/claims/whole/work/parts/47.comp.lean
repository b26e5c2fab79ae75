/-! ===== neighbours and components ===== -/
def adjI (G : Gr) (i v u : Nat) : Prop := ∃ e, e < i ∧ (gEnd G e = (v, u) ∨ gEnd G e = (u, v))
def adj (G : Gr) (v u : Nat) : Prop := adjI G (gE G).length v u
theorem adj_comm {G : Gr} {v u : Nat} (h : adj G v u) : adj G u v := by
  obtain ⟨e, h1, h2⟩ := h
  exact ⟨e, h1, h2.symm⟩
theorem adj_lt {G : Gr} (hW : WF G) {v u : Nat} (h : adj G v u) : v < gN G ∧ u < gN G ∧ v ≠ u := by
  obtain ⟨e, h1, h2⟩ := h
  have := WF_end hW h1
  rcases h2 with h2 | h2
  · rw [h2] at this; dsimp only at this; omega
  · rw [h2] at this; dsimp only at this; omega
/-- what near holds: the neighbours of each node -/
def Near (G : Gr) (a : Nat → Int32) : Prop := ∀ v, v < 9 → ∀ b, bt (a v) b = true ↔ adj G v b
theorem X1_fillLinks {G : Gr} (hW : WF G) {lo hi : Nat → Int32} (h : Ends G lo hi) (N : Nat) (hN : 100 < N) (a : Nat → Int32) : Ok (f_X1_fillLinks N (nI (gE G).length) lo hi a) (fun r => Near G r) := by
  have hm := hW.2.2.1
  have hn := hW.2.1
  unfold f_X1_fillLinks
  refine lpU (fun n i a => f_X1_fillLinks_b7 N (nI (gE G).length) lo hi n (nI i) a) (fun i a => ∀ v, v < 9 → ∀ b, bt (a v) b = true ↔ adjI G i v b) (gE G).length ?_ ?_ N 0 _ (Nat.zero_le _) (by omega) ?_
  · intro n a hI
    simp only [f_X1_fillLinks_b7]
    exact Ok_ife (nI_leI (by omega) (by omega)) (fun _ => Ok_some.mpr hI) (fun c => absurd (Nat.le_refl _) c)
  · intro n i a hi hI ih
    have we := WF_end hW hi
    have hh := h i hi
    simp only [f_X1_fillLinks_b7]
    refine Ok_ife (nI_leI (by omega) (by omega)) (fun c => absurd c (by omega)) (fun _ => ?_)
    rw [nI_clamp (n := i) (by omega), hh.1, hh.2, X7_bit, X7_bit, nI_clamp (n := (gEnd G i).1) (by omega), nI_clamp (n := (gEnd G i).2) (by omega), nI_1]
    have i1 : inb (nI i) 20 = true := inb_nI (by omega) (by decide)
    have i2 : inb (nI (gEnd G i).1) 9 = true := inb_nI (by omega) (by decide)
    have i3 : inb (nI (gEnd G i).2) 9 = true := inb_nI (by omega) (by decide)
    refine Ok_chk.mpr ⟨i1, Ok_chk.mpr ⟨i2, Ok_chk.mpr ⟨i1, Ok_bd1.mpr (Ok_some.mpr (Ok_chk.mpr ⟨i2, Ok_chk.mpr ⟨i1, Ok_chk.mpr ⟨i3, Ok_chk.mpr ⟨i1, Ok_bd1.mpr (Ok_some.mpr (Ok_chk.mpr ⟨i3, ?_⟩))⟩⟩⟩⟩))⟩⟩⟩
    refine ih _ (fun v hv b => ?_)
    have step : adjI G (i + 1) v b ↔ adjI G i v b ∨ (v = (gEnd G i).1 ∧ b = (gEnd G i).2) ∨ (v = (gEnd G i).2 ∧ b = (gEnd G i).1) := by
      constructor
      · rintro ⟨e, q1, q2⟩
        rcases Nat.lt_or_ge e i with q3 | q3
        · exact Or.inl ⟨e, q3, q2⟩
        · obtain rfl : e = i := by omega
          rcases q2 with q2 | q2
          · rw [q2]; exact Or.inr (Or.inl ⟨rfl, rfl⟩)
          · rw [q2]; exact Or.inr (Or.inr ⟨rfl, rfl⟩)
      · rintro (⟨e, q1, q2⟩ | ⟨q1, q2⟩ | ⟨q1, q2⟩)
        · exact ⟨e, by omega, q2⟩
        · exact ⟨i, by omega, Or.inl (by rw [q1, q2])⟩
        · exact ⟨i, by omega, Or.inr (by rw [q1, q2])⟩
    rw [step, upd_at, pk_un (by omega : (gEnd G i).2 ≠ (gEnd G i).1)]
    by_cases c1 : v = (gEnd G i).2
    · rw [if_pos c1, b_or, Bool.or_eq_true, b_bit (by omega), decide_eq_true_eq, ← c1, hI v hv b]
      constructor
      · rintro (q | q)
        · exact Or.inl q
        · exact Or.inr (Or.inr ⟨rfl, q⟩)
      · rintro (q | ⟨q, _⟩ | ⟨_, q⟩)
        · exact Or.inl q
        · omega
        · exact Or.inr q
    · rw [if_neg c1, upd_at]
      by_cases c2 : v = (gEnd G i).1
      · rw [if_pos c2, b_or, Bool.or_eq_true, b_bit (by omega), decide_eq_true_eq, ← c2, hI v hv b]
        constructor
        · rintro (q | q)
          · exact Or.inl q
          · exact Or.inr (Or.inl ⟨rfl, q⟩)
        · rintro (q | ⟨_, q⟩ | ⟨q, _⟩)
          · exact Or.inl q
          · exact Or.inr q
          · exact absurd q c1
      · rw [if_neg c2, hI v hv b]
        constructor
        · exact Or.inl
        · rintro (q | ⟨q, _⟩ | ⟨q, _⟩)
          · exact q
          · exact absurd q c2
          · exact absurd q c1
  · intro v hv b
    show bt (filled 9 0 a v) b = true ↔ _
    unfold filled
    rw [if_pos hv, b_0]
    exact ⟨fun q => absurd q (by decide), fun ⟨e, q, _⟩ => absurd q (Nat.not_lt_zero e)⟩
theorem X7_neigh (N : Nat) (hN : 30 < N) (near : Nat → Int32) (x : Int32) : Ok (f_X7_neighboursOf N near x) (fun r => ∀ b, bt r b = true ↔ ∃ v, v < 9 ∧ bt x v = true ∧ bt (near v) b = true) := by
  unfold f_X7_neighboursOf
  refine lpU (fun n i a => f_X7_neighboursOf_b4 N near n x a (nI i)) (fun i a => ∀ b, bt a b = true ↔ ∃ v, v < i ∧ bt x v = true ∧ bt (near v) b = true) 9 ?_ ?_ N 0 0 (Nat.zero_le _) (by omega) (fun b => by rw [b_0]; exact ⟨fun q => absurd q (by decide), fun ⟨e, q, _⟩ => absurd q (Nat.not_lt_zero e)⟩)
  · intro n a hI
    simp only [f_X7_neighboursOf_b4]
    rw [show nI 9 = (9 : Int32) from rfl, if_pos (by decide)]
    exact Ok_some.mpr hI
  · intro n i a hi hI ih
    simp only [f_X7_neighboursOf_b4, f_X7_neighboursOf_b24]
    refine Ok_ife (nI_leI (a := 9) (b := i) (by omega) (by omega)) (fun c => absurd c (by omega)) (fun _ => ?_)
    rw [X7_contains N (by omega), nI_clamp (by omega), nI_1]
    refine Ok_bd1.mpr (Ok_some.mpr (Ok_ife bI_0 (fun c => ih _ (fun b => ?_)) (fun c => Ok_chk.mpr ⟨inb_nI hi (by decide), Ok_nm.mpr (ih _ (fun b => ?_))⟩)))
    · rw [hI b]
      constructor
      · rintro ⟨v, q1, q2, q3⟩; exact ⟨v, by omega, q2, q3⟩
      · rintro ⟨v, q1, q2, q3⟩
        rcases Nat.lt_or_ge v i with q | q
        · exact ⟨v, q, q2, q3⟩
        · obtain rfl : v = i := by omega
          rw [c] at q2; cases q2
    · rw [Bool.not_eq_false] at c
      rw [b_or, Bool.or_eq_true, hI b]
      constructor
      · rintro (⟨v, q1, q2, q3⟩ | q)
        · exact ⟨v, by omega, q2, q3⟩
        · exact ⟨i, by omega, c, q⟩
      · rintro ⟨v, q1, q2, q3⟩
        rcases Nat.lt_or_ge v i with q | q
        · exact Or.inl ⟨v, q, q2, q3⟩
        · obtain rfl : v = i := by omega
          exact Or.inr q3
theorem ct_lt {p q : Nat → Bool} {n k : Nat} (h : ∀ j, j < n → p j = true → q j = true) (hk : k < n) (h1 : p k = false) (h2 : q k = true) : fb_ct p n < fb_ct q n := by
  have e1 := fb_ct_upd p true hk
  rw [h1] at e1
  simp only [Bool.false_eq_true, if_false, if_true] at e1
  have e2 : fb_ct (fun j => if j = k then true else p j) n ≤ fb_ct q n := by
    refine fb_ct_sub (fun j hj hp => ?_)
    by_cases c : j = k
    · rw [c]; exact h2
    · simp only [if_neg c] at hp
      exact h j hj hp
  omega
def Cl (near : Nat → Int32) (al : Int32) (T : Nat → Prop) : Prop := ∀ u w, u < 9 → T u → bt (near u) w = true → bt al w = true → T w
theorem X7_spread (N : Nat) (hN : 30 < N) (near : Nat → Int32) (al : Int32) (hnear : ∀ u, u < 9 → ∀ b, bt (near u) b = true → b < 9) (v : Nat) (hv : v < 9) :
    Ok (f_X7_spread N near (nI v) al) (fun r => bt r v = true ∧ (∀ b, bt r b = true → b < 9) ∧ Cl near al (fun u => bt r u = true) ∧ ∀ T : Nat → Prop, T v → Cl near al T → ∀ b, bt r b = true → T b) := by
  unfold f_X7_spread
  rw [X7_bit]
  refine Ok_bd1.mpr (Ok_some.mpr ?_)
  refine lpU (fun n i x => f_X7_spread_b8 N near n al x (nI i)) (fun i x => bt x v = true ∧ (∀ b, bt x b = true → b < 9) ∧ (∀ T : Nat → Prop, T v → Cl near al T → ∀ b, bt x b = true → T b) ∧ i + 1 ≤ fb_ct (bt x) 9) 9 ?_ ?_ N 0 _ (Nat.zero_le _) (by omega) ⟨by rw [b_bit (by omega)]; exact decide_eq_true rfl, fun b hb => by rw [b_bit (by omega), decide_eq_true_eq] at hb; omega, fun T hT _ b hb => by rw [b_bit (by omega), decide_eq_true_eq] at hb; rw [hb]; exact hT, ?_⟩
  · rintro n x ⟨-, -, -, h4⟩
    have := fb_ct_le (bt x) 9
    omega
  · rintro n i x hi ⟨h1, h2, h3, h4⟩ ih
    simp only [f_X7_spread_b8]
    refine Ok_ife (nI_leI (a := 9) (b := i) (by omega) (by omega)) (fun c => absurd c (by omega)) (fun _ => ?_)
    refine Ok_bd1.mpr (Ok_mono (X7_neigh N hN near x) (fun r hr => Ok_nm.mpr ?_))
    have hw : ∀ b, bt (x ||| (r &&& al)) b = true ↔ bt x b = true ∨ ((∃ v, v < 9 ∧ bt x v = true ∧ bt (near v) b = true) ∧ bt al b = true) := by
      intro b
      rw [b_or, b_and, Bool.or_eq_true, Bool.and_eq_true, hr b]
    refine Ok_ite.mpr ⟨fun c => ?_, fun c => ?_⟩
    · rw [nI_1]
      refine ih _ ⟨(hw v).mpr (Or.inl h1), fun b hb => ?_, fun T hT hC b hb => ?_, ?_⟩
      · rcases (hw b).mp hb with q | ⟨⟨u, q1, q2, q3⟩, _⟩
        · exact h2 b q
        · exact hnear u q1 b q3
      · rcases (hw b).mp hb with q | ⟨⟨u, q1, q2, q3⟩, q4⟩
        · exact h3 T hT hC b q
        · exact hC u b q1 (h3 T hT hC u q2) q3 q4
      · have : ∃ b, b < 9 ∧ bt x b = false ∧ bt (x ||| (r &&& al)) b = true := by
          refine Classical.byContradiction (fun q => c (b_ext (fun b hb => ?_)))
          cases hx : bt x b with
          | true => rw [(hw b).mpr (Or.inl hx)]
          | false =>
            cases hy : bt (x ||| (r &&& al)) b with
            | false => rfl
            | true =>
              refine absurd ⟨b, ?_, hx, hy⟩ q
              rcases (hw b).mp hy with q | ⟨⟨u, q1, q2, q3⟩, _⟩
              · exact h2 b q
              · exact hnear u q1 b q3
        obtain ⟨b, q1, q2, q3⟩ := this
        have := ct_lt (p := bt x) (q := bt (x ||| (r &&& al))) (n := 9) (fun j _ hj => (hw j).mpr (Or.inl hj)) q1 q2 q3
        omega
    · have hxe : x ||| (r &&& al) = x := Decidable.not_not.mp c
      refine Ok_some.mpr ⟨h1, h2, fun u w hu hT hnw haw => ?_, h3⟩
      have := (hw w).mpr (Or.inr ⟨⟨u, hu, hT, hnw⟩, haw⟩)
      rw [hxe] at this
      exact this
  · show 0 + 1 ≤ _
    have : 0 < fb_ct (bt ((1 : Int32) <<< (nI v &&& 31))) 9 := fb_ct_pos.mpr ⟨v, hv, by rw [b_bit (by omega)]; exact decide_eq_true rfl⟩
    omega
/-- the nodes that are connected with v -/
def conn (G : Gr) (v u : Nat) : Prop := ∀ T : Nat → Prop, T v → (∀ a b, T a → adj G a b → T b) → T u
theorem conn_self (G : Gr) (v : Nat) : conn G v v := fun _ h _ => h
theorem conn_step {G : Gr} {v a b : Nat} (h : conn G v a) (h2 : adj G a b) : conn G v b := fun T h3 h4 => h4 a b (h T h3 h4) h2
theorem conn_comm {G : Gr} {v u : Nat} (h : conn G v u) : conn G u v := by
  refine Classical.byContradiction (fun q => ?_)
  refine h (fun w => ¬ conn G u w) q (fun a b h1 h2 h3 => h1 (conn_step h3 (adj_comm h2))) (conn_self G u)
theorem conn_trans {G : Gr} {u v w : Nat} (h : conn G u v) (h2 : conn G v w) : conn G u w := h2 (fun x => conn G u x) h (fun _ _ h3 h4 => conn_step h3 h4)
theorem conn_lt {G : Gr} (hW : WF G) {v u : Nat} (hv : v < gN G) (h : conn G v u) : u < gN G := h (fun w => w < gN G) hv (fun _ _ _ q => (adj_lt hW q).2.1)
noncomputable def cp (G : Gr) (v : Nat) : Int32 := Classical.epsilon (fun x => ∀ b, bt x b = true ↔ conn G v b)
theorem X7_comp {G : Gr} (hW : WF G) {near : Nat → Int32} (hn : Near G near) (N : Nat) (hN : 30 < N) (v : Nat) (hv : v < gN G) : f_X7_spread N near (nI v) (-1) = some (cp G v) ∧ ∀ b, bt (cp G v) b = true ↔ conn G v b := by
  have h9 := hW.2.1
  obtain ⟨r, h1, h2, h3, h4, h5⟩ := X7_spread N hN near (-1) (fun u hu b hb => by have := (adj_lt hW ((hn u hu b).mp hb)).2.1; omega) v (by omega)
  have hr : ∀ b, bt r b = true ↔ conn G v b := by
    intro b
    constructor
    · intro hb
      refine h5 (fun x => conn G v x) (conn_self G v) (fun u w hu hT hnw _ => ?_) b hb
      exact conn_step hT ((hn u hu w).mp hnw)
    · intro hc
      refine hc (fun x => bt r x = true) h2 (fun a b ha hab => ?_)
      have := adj_lt hW hab
      exact h4 a b (by omega) ha ((hn a (by omega) b).mpr hab) (b_m1 b (by omega))
  have hs := Classical.epsilon_spec (p := fun x : Int32 => ∀ b, bt x b = true ↔ conn G v b) ⟨r, hr⟩
  have : r = cp G v := b_ext (fun b _ => by
    have e1 := hr b
    have e2 := hs b
    cases hx : bt r b with
    | true => exact ((hs b).mpr ((hr b).mp hx)).symm
    | false =>
      cases hy : bt (cp G v) b with
      | false => rfl
      | true =>
        rw [(hr b).mpr ((hs b).mp hy)] at hx; cases hx)
  exact ⟨by rw [h1, this], hs⟩
