/-! ===== the class's rows of neighbours as a graph; nodes with one or two edges; few edges ===== -/
def Sy (rest : Nat → Int32) : Prop := ∀ u, u < 9 → ∀ v, bt (rest u) v = true → v < 9 ∧ v ≠ u ∧ bt (rest v) u = true
def gx (rest : Nat → Int32) : Nat → Bool := fun e => decide (e < 81) && (decide (e / 9 < e % 9) && bt (rest (e / 9)) (e % 9))
theorem cd_of {e : Nat} (h : e / 9 < e % 9) : e = cd (e / 9) (e % 9) := by
  unfold cd; rw [if_pos h]; omega
theorem gx_GW (rest : Nat → Int32) : GW (gx rest) := by
  intro e he
  unfold gx at he
  rw [Bool.and_eq_true, Bool.and_eq_true, decide_eq_true_eq, decide_eq_true_eq] at he
  exact ⟨he.1, he.2.1⟩
theorem gx_lt {rest : Nat → Int32} {u v : Nat} (huv : u < v) (hv : v < 9) : gx rest (cd u v) = bt (rest u) v := by
  unfold gx cd
  rw [if_pos huv, show (9 * u + v) / 9 = u by omega, show (9 * u + v) % 9 = v by omega, decide_eq_true (by omega), decide_eq_true huv]
  rfl
theorem Sy_c {rest : Nat → Int32} (h : Sy rest) {u v : Nat} (hu : u < 9) (hv : v < 9) : bt (rest u) v = bt (rest v) u := by
  cases c : bt (rest u) v with
  | true => exact (h u hu v c).2.2.symm
  | false =>
    cases c2 : bt (rest v) u with
    | false => rfl
    | true => rw [(h v hv u c2).2.2] at c; cases c
theorem gx_cd {rest : Nat → Int32} (h : Sy rest) {u v : Nat} (hu : u < 9) (hv : v < 9) (hne : u ≠ v) : gx rest (cd u v) = bt (rest u) v := by
  rcases Nat.lt_or_ge u v with c | c
  · exact gx_lt c hv
  · rw [cd_comm, gx_lt (by omega) hu, Sy_c h hu hv]
theorem gx_ext {G : Nat → Bool} {r : Nat → Int32} (hG : GW G) (h : ∀ u w, u < w → w < 9 → G (cd u w) = bt (r u) w) (e : Nat) : G e = gx r e := by
  by_cases c : e < 81 ∧ e / 9 < e % 9
  · rw [cd_of c.2, h _ _ c.2 (by omega), gx_lt c.2 (by omega)]
  · have h1 : G e = false := by
      cases q : G e with
      | false => rfl
      | true => exact absurd (hG e q) c
    have h2 : gx r e = false := by
      cases q : gx r e with
      | false => rfl
      | true => exact absurd (gx_GW r e q) c
    rw [h1, h2]
theorem X7_small (N : Nat) (hN : 30 < N) (x : Int32) : Ok (f_X7_smallestOf N x) (fun r => (∃ v, v < 9 ∧ bt x v = true ∧ r = nI v) ∨ (r = -1 ∧ ∀ v, v < 9 → bt x v = false)) := by
  unfold f_X7_smallestOf
  refine lpU (fun n i (_ : Unit) => f_X7_smallestOf_b2 N n x (nI i)) (fun i _ => ∀ v, v < i → bt x v = false) 9 ?_ ?_ N 0 () (Nat.zero_le _) (by omega) (fun v hv => by omega)
  · intro n _ hI
    simp only [f_X7_smallestOf_b2]
    rw [show nI 9 = (9 : Int32) from rfl, if_pos (by decide)]
    exact Ok_some.mpr (Or.inr ⟨rfl, hI⟩)
  · intro n i _ hi hI ih
    simp only [f_X7_smallestOf_b2]
    refine Ok_ife (nI_leI (a := 9) (b := i) (by omega) (by omega)) (fun c => absurd c (by omega)) (fun _ => ?_)
    rw [X7_contains N (by omega), nI_1]
    refine Ok_bd1.mpr (Ok_some.mpr (Ok_ife bI_0 (fun c => ih () (fun v hv => ?_)) (fun c => Ok_some.mpr (Or.inl ⟨i, hi, by rw [Bool.not_eq_false] at c; exact c, rfl⟩))))
    rcases Nat.lt_or_ge v i with q | q
    · exact hI v q
    · rw [show v = i by omega]; exact c
theorem X7_toggle (N : Nat) (a : Nat → Int32) {u v : Nat} (hu : u < 9) (hv : v < 9) (hne : u ≠ v) : Ok (f_X7_toggleLink N a (nI u) (nI v)) (fun r => ∀ x y, bt (r x) y = (bt (a x) y ^^ (decide (x = u ∧ y = v) || decide (x = v ∧ y = u)))) := by
  unfold f_X7_toggleLink
  rw [nI_clamp (n := u) (by omega), nI_clamp (n := v) (by omega), X7_bit, X7_bit]
  have i1 : inb (nI u) 9 = true := inb_nI hu (by decide)
  have i2 : inb (nI v) 9 = true := inb_nI hv (by decide)
  refine Ok_chk.mpr ⟨i1, Ok_bd1.mpr (Ok_some.mpr (Ok_chk.mpr ⟨i1, Ok_chk.mpr ⟨i2, Ok_bd1.mpr (Ok_some.mpr (Ok_chk.mpr ⟨i2, Ok_some.mpr (fun x y => ?_)⟩))⟩⟩))⟩
  rw [pk_un (Ne.symm hne), upd_at]
  by_cases c1 : x = v
  · rw [if_pos c1, b_xor, b_bit (by omega), c1, decide_eq_false (p := v = u ∧ y = v) (fun q => hne q.1.symm), Bool.false_or]
    congr 1
    exact decide_eq_decide.mpr ⟨fun q => ⟨rfl, q⟩, fun q => q.2⟩
  · rw [if_neg c1, upd_at]
    by_cases c2 : x = u
    · rw [if_pos c2, b_xor, b_bit (by omega), c2, decide_eq_false (p := u = v ∧ y = u) (fun q => hne q.1), Bool.or_false]
      congr 1
      exact decide_eq_decide.mpr ⟨fun q => ⟨rfl, q⟩, fun q => q.2⟩
    · rw [if_neg c2, decide_eq_false (fun q => c2 q.1), decide_eq_false (fun q => c1 q.1), Bool.or_false, Bool.xor_false]
def Br (rest r : Nat → Int32) (v : Nat) : Prop := ∀ u, u < 9 → ∀ b, b < 32 → bt (r u) b = if u = v then false else if bt (rest v) u = true then ((bt (rest u) b && !decide (b = v)) || (bt (rest v) b && !decide (b = u))) else bt (rest u) b
theorem X4_bridge (N : Nat) (hN : 30 < N) {rest : Nat → Int32} (hS : Sy rest) {v : Nat} (hv : v < 9) : Ok (f_X4_bridgeOver N rest (nI v)) (fun r => Br rest r v) := by
  unfold f_X4_bridgeOver
  rw [nI_clamp (n := v) (by omega)]
  have i1 : inb (nI v) 9 = true := inb_nI hv (by decide)
  refine Ok_chk.mpr ⟨i1, Ok_nm.mpr (Ok_chk.mpr ⟨i1, ?_⟩)⟩
  have hvv : bt (rest v) v = false := by
    cases c : bt (rest v) v with
    | false => rfl
    | true => exact absurd rfl (hS v hv v c).2.1
  refine lpU (fun n i r => f_X4_bridgeOver_b16 N n (nI v) (rest v) (nI i) r) (fun i r => ∀ u, u < 9 → ∀ b, b < 32 → bt (r u) b = if u = v then false else if u < i ∧ bt (rest v) u = true then ((bt (rest u) b && !decide (b = v)) || (bt (rest v) b && !decide (b = u))) else bt (rest u) b) 9 ?_ ?_ N 0 _ (Nat.zero_le _) (by omega) ?_
  · intro n r hI
    simp only [f_X4_bridgeOver_b16]
    rw [show nI 9 = (9 : Int32) from rfl, if_pos (by decide)]
    refine Ok_some.mpr (fun u hu b hb => ?_)
    rw [hI u hu b hb]
    by_cases c : bt (rest v) u = true
    · rw [if_pos c, if_pos (⟨hu, c⟩ : u < 9 ∧ bt (rest v) u = true)]
    · rw [if_neg c, if_neg (fun q : u < 9 ∧ bt (rest v) u = true => c q.2)]
  · intro n i r hi hI ih
    simp only [f_X4_bridgeOver_b16, f_X4_bridgeOver_b58]
    refine Ok_ife (nI_leI (a := 9) (b := i) (by omega) (by omega)) (fun c => absurd c (by omega)) (fun _ => ?_)
    rw [X7_contains N (by omega), nI_1, nI_clamp (n := i) (by omega), X7_bit, X7_bit]
    refine Ok_bd1.mpr (Ok_some.mpr (Ok_ife bI_0 (fun c => ih _ (fun u hu b hb => ?_)) (fun c => Ok_chk.mpr ⟨inb_nI hi (by decide), Ok_bd1.mpr (Ok_some.mpr (Ok_bd1.mpr (Ok_some.mpr (Ok_chk.mpr ⟨inb_nI hi (by decide), ih _ (fun u hu b hb => ?_)⟩))))⟩)))
    · rw [hI u hu b hb]
      by_cases c1 : u = v
      · rw [if_pos c1, if_pos c1]
      · rw [if_neg c1, if_neg c1]
        by_cases c2 : u < i ∧ bt (rest v) u = true
        · rw [if_pos c2, if_pos (⟨by omega, c2.2⟩ : u < i + 1 ∧ bt (rest v) u = true)]
        · rw [if_neg c2, if_neg]
          intro q
          rcases Nat.lt_or_ge u i with k | k
          · exact c2 ⟨k, q.2⟩
          · rw [show u = i by omega, c] at q; cases q.2
    · rw [Bool.not_eq_false] at c
      have hiv : i ≠ v := fun q => by rw [q, hvv] at c; cases c
      rw [upd_at]
      by_cases c0 : u = i
      · have hIi := hI i hi b hb
        rw [if_neg hiv, if_neg (fun q : i < i ∧ bt (rest v) i = true => by omega)] at hIi
        rw [if_pos c0, c0, if_neg hiv, if_pos (⟨by omega, c⟩ : i < i + 1 ∧ bt (rest v) i = true), b_or, b_and, b_and, b_not _ hb, b_not _ hb, b_bit (by omega), b_bit (by omega), hIi]
      · rw [if_neg c0, hI u hu b hb]
        by_cases c1 : u = v
        · rw [if_pos c1, if_pos c1]
        · rw [if_neg c1, if_neg c1]
          by_cases c2 : u < i ∧ bt (rest v) u = true
          · rw [if_pos c2, if_pos (⟨by omega, c2.2⟩ : u < i + 1 ∧ bt (rest v) u = true)]
          · rw [if_neg c2, if_neg]
            intro q
            exact c2 ⟨by omega, q.2⟩
  · intro u hu b hb
    rw [upd_at]
    by_cases c1 : u = v
    · rw [if_pos c1, if_pos c1, b_0]
    · rw [if_neg c1, if_neg c1, if_neg (fun q : u < 0 ∧ bt (rest v) u = true => by omega)]
/-- a set of one or two -/
theorem bt_two {x : Int32} (h0 : ¬ x = 0) (h9 : ∀ b, bt x b = true → b < 9) (h2 : fb_ct (bt x) 20 ≤ 2) : (∃ a, bt x a = true ∧ ∀ b, bt x b = true → b = a) ∨ ∃ a b, a ≠ b ∧ bt x a = true ∧ bt x b = true ∧ ∀ c, bt x c = true → c = a ∨ c = b := by
  have : ∃ a, bt x a = true := by
    refine Classical.byContradiction (fun hn => h0 (b_zero.mpr (fun i _ => ?_)))
    cases c : bt x i with
    | false => rfl
    | true => exact absurd ⟨i, c⟩ hn
  obtain ⟨a, ha⟩ := this
  by_cases c : ∀ b, bt x b = true → b = a
  · exact Or.inl ⟨a, ha, c⟩
  · have : ∃ b, bt x b = true ∧ b ≠ a := by
      refine Classical.byContradiction (fun hn => c (fun b hb => Classical.byContradiction (fun q => hn ⟨b, hb, q⟩)))
    obtain ⟨b, hb, hba⟩ := this
    refine Or.inr ⟨a, b, Ne.symm hba, ha, hb, fun d hd => ?_⟩
    refine Classical.byContradiction (fun hn => ?_)
    have n1 : d ≠ a := fun q => hn (Or.inl q)
    have n2 : d ≠ b := fun q => hn (Or.inr q)
    have := ct_list (p := bt x) (n := 20) (l := [a, b, d]) (by simp [Ne.symm hba, Ne.symm n1, Ne.symm n2]) (fun y hy => by
      simp only [List.mem_cons, List.not_mem_nil, or_false] at hy
      rcases hy with q | q | q
      · rw [q]; exact ⟨by have := h9 a ha; omega, ha⟩
      · rw [q]; exact ⟨by have := h9 b hb; omega, hb⟩
      · rw [q]; exact ⟨by have := h9 d hd; omega, hd⟩)
    have e : [a, b, d].length = 3 := rfl
    omega
theorem Br_out {rest r : Nat → Int32} {v : Nat} (hS : Sy rest) (hv : v < 9) (h0 : ¬ rest v = 0) (h2 : fb_ct (bt (rest v)) 20 ≤ 2) (hr : Br rest r v) : Sy r ∧ ((Pl (gx rest) ↔ Pl (gx r)) ∧ fb_ct (gx r) 81 ≤ fb_ct (gx rest) 81) ∧ (∀ u, u < 9 → rest u = 0 → r u = 0) ∧ r v = 0 := by
  have lt32 : ∀ {x : Int32} {b : Nat}, bt x b = true → b < 32 := fun {x b} h => by
    rcases Nat.lt_or_ge b 32 with q | q
    · exact q
    · rw [b_big q] at h; cases h
  have zv : r v = 0 := b_zero.mpr (fun i hi => by rw [hr v hv i hi, if_pos rfl])
  have zo : ∀ u, u < 9 → rest u = 0 → r u = 0 := by
    intro u hu hz
    refine b_zero.mpr (fun i hi => ?_)
    rw [hr u hu i hi]
    by_cases c : u = v
    · rw [if_pos c]
    · rw [if_neg c, if_neg (fun q => ?_), hz, b_0]
      have := (hS v hv u q).2.2
      rw [hz, b_0] at this; cases this
  have sy : Sy r := by
    intro u hu w hw
    have h32 := lt32 hw
    rw [hr u hu w h32] at hw
    by_cases c : u = v
    · rw [if_pos c] at hw; cases hw
    · rw [if_neg c] at hw
      by_cases c2 : bt (rest v) u = true
      · rw [if_pos c2, Bool.or_eq_true, Bool.and_eq_true, Bool.and_eq_true, Bool.not_eq_true', Bool.not_eq_true', decide_eq_false_iff_not, decide_eq_false_iff_not] at hw
        rcases hw with ⟨q1, q2⟩ | ⟨q1, q2⟩
        · have s := hS u hu w q1
          refine ⟨s.1, s.2.1, ?_⟩
          rw [hr w s.1 u (by omega), if_neg q2]
          by_cases c3 : bt (rest v) w = true
          · rw [if_pos c3, s.2.2, decide_eq_false c]; rfl
          · rw [if_neg c3]; exact s.2.2
        · have s := hS v hv w q1
          refine ⟨s.1, q2, ?_⟩
          rw [hr w s.1 u (by omega), if_neg s.2.1, if_pos q1, c2, decide_eq_false (Ne.symm q2), Bool.not_false, Bool.true_and, Bool.or_true]
      · rw [if_neg c2] at hw
        have s := hS u hu w hw
        have hwv : w ≠ v := fun q => c2 (by rw [← q]; exact s.2.2)
        refine ⟨s.1, s.2.1, ?_⟩
        rw [hr w s.1 u (by omega), if_neg hwv]
        by_cases c3 : bt (rest v) w = true
        · rw [if_pos c3, s.2.2, decide_eq_false c]; rfl
        · rw [if_neg c3]; exact s.2.2
  refine ⟨sy, ?_, zo, zv⟩
  have h9 : ∀ b, bt (rest v) b = true → b < 9 := fun b hb => (hS v hv b hb).1
  have at1 : ∀ (x : Nat → Prop) e, gx rest e = true → inc v e = true → (∀ b, bt (rest v) b = true → x b) → ∃ b, x b ∧ b < 9 ∧ e = cd v b := by
    intro x e he hi hx
    have g := gx_GW rest e he
    have hc := cd_of g.2
    obtain ⟨q, _⟩ := inc_t hi
    rcases q with q | q
    · have : bt (rest v) (e % 9) = true := by rw [q, ← gx_lt g.2 (by omega), ← hc]; exact he
      exact ⟨e % 9, hx _ this, by omega, by rw [q]; exact hc⟩
    · have : bt (rest v) (e / 9) = true := by rw [q, Sy_c hS (by omega) (by omega), ← gx_lt g.2 (by omega), ← hc]; exact he
      exact ⟨e / 9, hx _ this, by omega, by rw [q, cd_comm]; exact hc⟩
  rcases bt_two h0 h9 h2 with ⟨a, ha, hb⟩ | ⟨a, b, hab, ha, hb, hc⟩
  · have sa := hS v hv a ha
    have ga : gx rest (cd v a) = true := by rw [gx_cd hS hv sa.1 (Ne.symm sa.2.1)]; exact ha
    have k := Pl_leaf (G := gx rest) (v := v) (e0 := cd v a) (by rw [inc_cd hv sa.1, decide_eq_true rfl, decide_eq_false (Ne.symm sa.2.1)]; rfl) (cd_lt hv sa.1) ga (fun e he hi => by
      obtain ⟨y, y1, _, y2⟩ := at1 (fun b => b = a) e he hi hb
      rw [y2, y1])
    rw [k]
    have e : ∀ e, (gx rest e && !decide (e = cd v a)) = gx r e := gx_ext (fun e he => gx_GW rest e (by rw [Bool.and_eq_true] at he; exact he.1)) (fun u w huw hw => by
      rw [gx_lt huw hw, hr u (by omega) w (by omega)]
      by_cases c : u = v
      · rw [if_pos c]
        cases q : bt (rest u) w with
        | false => rfl
        | true =>
          rw [c] at q
          rw [c, hb w q, decide_eq_true rfl]; rfl
      · rw [if_neg c]
        by_cases c2 : bt (rest v) u = true
        · have := hb u c2
          rw [if_pos c2]
          have e2 : (bt (rest v) w && !decide (w = u)) = false := by
            cases q : bt (rest v) w with
            | false => rfl
            | true => rw [hb w q, this, decide_eq_true rfl]; rfl
          rw [e2, Bool.or_false]
          congr 2
          rw [this]
          refine decide_eq_decide.mpr ⟨fun q => ?_, fun q => by rw [q, cd_comm]⟩
          rcases cd_inj sa.1 hw hv sa.1 q with z | z
          · exact absurd z.1 sa.2.1
          · exact z.2
        · rw [if_neg c2, decide_eq_false, Bool.not_false, Bool.and_true]
          intro q
          rcases cd_inj (by omega) hw hv sa.1 q with z | z
          · exact c z.1
          · rw [z.1] at c2; exact c2 ha)
    exact ⟨⟨Pl_cong e, Pl_cong (fun x => (e x).symm)⟩, fb_ct_sub (fun x _ hx => by rw [← e x, Bool.and_eq_true] at hx; exact hx.1)⟩
  · have sa := hS v hv a ha
    have sb := hS v hv b hb
    have k := Pl_brg (G := gx rest) hv sa.1 sb.1 (Ne.symm sa.2.1) (Ne.symm sb.2.1) hab (by rw [gx_cd hS hv sa.1 (Ne.symm sa.2.1)]; exact ha) (by rw [gx_cd hS hv sb.1 (Ne.symm sb.2.1)]; exact hb) (fun e he hi => by
      obtain ⟨y, y1, _, y2⟩ := at1 (fun c => c = a ∨ c = b) e he hi hc
      rcases y1 with q | q
      · left; rw [y2, q]
      · right; rw [y2, q])
    rw [k]
    have gw : GW (brg (gx rest) v a b) := by
      intro e he
      unfold brg at he
      rw [Bool.or_eq_true, Bool.and_eq_true, decide_eq_true_eq] at he
      rcases he with q | q
      · exact gx_GW rest e q.1
      · rw [q]
        refine ⟨cd_lt sa.1 sb.1, ?_⟩
        have := sa.1
        have := sb.1
        unfold cd
        split <;> omega
    have e : ∀ e, brg (gx rest) v a b e = gx r e := gx_ext gw (fun u w huw hw => by
      rw [hr u (by omega) w (by omega)]
      show ((gx rest (cd u w) && (!decide (cd u w = cd v a) && !decide (cd u w = cd v b))) || decide (cd u w = cd a b)) = _
      have F : ∀ {p q : Nat}, p < 9 → q < 9 → decide (cd u w = cd p q) = decide ((u = p ∧ w = q) ∨ (u = q ∧ w = p)) := by
        intro p q h3 h4
        refine decide_eq_decide.mpr ⟨cd_inj (by omega) hw h3 h4, ?_⟩
        rintro (⟨q1, q2⟩ | ⟨q1, q2⟩)
        · rw [q1, q2]
        · rw [q1, q2, cd_comm]
      rw [gx_lt huw hw, F hv sa.1, F hv sb.1, F sa.1 sb.1]
      have hva := sa.2.1
      have hvb := sb.2.1
      by_cases c : u = v
      · have d1 : decide ((u = a ∧ w = b) ∨ (u = b ∧ w = a)) = false := decide_eq_false (by omega)
        rw [if_pos c, d1, Bool.or_false]
        cases q : bt (rest u) w with
        | false => rfl
        | true =>
          rw [c] at q
          rcases hc w q with z | z
          · rw [decide_eq_true (Or.inl ⟨c, z⟩)]; rfl
          · rw [decide_eq_true (p := (u = v ∧ w = b) ∨ (u = b ∧ w = v)) (Or.inl ⟨c, z⟩)]; simp
      · rw [if_neg c]
        by_cases c2 : bt (rest v) u = true
        · rw [if_pos c2]
          rcases hc u c2 with z | z
          · have d1 : decide ((u = v ∧ w = a) ∨ (u = a ∧ w = v)) = decide (w = v) := decide_eq_decide.mpr (by omega)
            have d2 : decide ((u = v ∧ w = b) ∨ (u = b ∧ w = v)) = false := decide_eq_false (by omega)
            have d3 : decide ((u = a ∧ w = b) ∨ (u = b ∧ w = a)) = decide (w = b) := decide_eq_decide.mpr (by omega)
            have d4 : (bt (rest v) w && !decide (w = u)) = decide (w = b) := by
              by_cases y : w = b
              · rw [y, hb, decide_eq_true rfl, decide_eq_false (by omega)]; rfl
              · rw [decide_eq_false y]
                cases q : bt (rest v) w with
                | false => rfl
                | true =>
                  rcases hc w q with x | x
                  · rw [decide_eq_true (by omega)]; rfl
                  · exact absurd x y
            rw [d1, d2, d3, d4, Bool.not_false, Bool.and_true]
          · have d1 : decide ((u = v ∧ w = a) ∨ (u = a ∧ w = v)) = false := decide_eq_false (by omega)
            have d2 : decide ((u = v ∧ w = b) ∨ (u = b ∧ w = v)) = decide (w = v) := decide_eq_decide.mpr (by omega)
            have d3 : decide ((u = a ∧ w = b) ∨ (u = b ∧ w = a)) = decide (w = a) := decide_eq_decide.mpr (by omega)
            have d4 : (bt (rest v) w && !decide (w = u)) = decide (w = a) := by
              by_cases y : w = a
              · rw [y, ha, decide_eq_true rfl, decide_eq_false (by omega)]; rfl
              · rw [decide_eq_false y]
                cases q : bt (rest v) w with
                | false => rfl
                | true =>
                  rcases hc w q with x | x
                  · exact absurd x y
                  · rw [decide_eq_true (by omega)]; rfl
            rw [d1, d2, d3, d4, Bool.not_false, Bool.true_and]
        · have na : u ≠ a := fun q => c2 (by rw [q]; exact ha)
          have nb : u ≠ b := fun q => c2 (by rw [q]; exact hb)
          have d1 : decide ((u = v ∧ w = a) ∨ (u = a ∧ w = v)) = false := decide_eq_false (by omega)
          have d2 : decide ((u = v ∧ w = b) ∨ (u = b ∧ w = v)) = false := decide_eq_false (by omega)
          have d3 : decide ((u = a ∧ w = b) ∨ (u = b ∧ w = a)) = false := decide_eq_false (by omega)
          rw [if_neg c2, d1, d2, d3]; simp)
    refine ⟨⟨Pl_cong e, Pl_cong (fun x => (e x).symm)⟩, ?_⟩
    have ga : gx rest (cd v a) = true := by rw [gx_cd hS hv sa.1 (Ne.symm sa.2.1)]; exact ha
    have c1 := fb_ct_upd (gx rest) false (n := 81) (cd_lt hv sa.1)
    have c2 := fb_ct_upd (fun x => if x = cd v a then false else gx rest x) true (n := 81) (cd_lt sa.1 sb.1)
    rw [ga, if_pos rfl] at c1
    have c3 : fb_ct (gx r) 81 ≤ fb_ct (fun x => if x = cd a b then true else if x = cd v a then false else gx rest x) 81 := fb_ct_sub (fun x _ hx => by
      rw [← e x] at hx
      unfold brg at hx
      show (if x = cd a b then true else if x = cd v a then false else gx rest x) = true
      by_cases q1 : x = cd a b
      · rw [if_pos q1]
      · rw [if_neg q1]
        rw [decide_eq_false q1, Bool.or_false, Bool.and_eq_true, Bool.and_eq_true, Bool.not_eq_true', decide_eq_false_iff_not] at hx
        rw [if_neg hx.2.1]; exact hx.1)
    simp only [Bool.false_eq_true, if_false, if_true] at c1 c2
    omega
