/-! ===== how many edges lie between a face and a node ===== -/
noncomputable def RS (G : Gr) (b : Nat) : Nat → Int32
  | 0 => stS (fun f => f < nF G ∧ NS G f b)
  | k + 1 => stS (fun f => bt (RS G b k) f = true ∨ ∃ d, d < 2 * (gE G).length ∧ lab G d = f ∧ bt (RS G b k) (lab G (op d)) = true)
def rch (G : Gr) (b f : Nat) : Prop := ∃ k, bt (RS G b k) f = true
noncomputable def dst (G : Gr) (b f : Nat) : Nat := Classical.epsilon (fun k => bt (RS G b k) f = true ∧ ∀ j, j < k → ¬ bt (RS G b j) f = true)
section WAY
variable {G : Gr} {b : Nat}
theorem RS_0 (hW : WF G) (f : Nat) : bt (RS G b 0) f = true ↔ f < nF G ∧ NS G f b := by
  have := nF_20 hW
  show bt (stS _) f = true ↔ _
  rw [stS_sp]
  exact ⟨fun q => q.2, fun q => ⟨by omega, q⟩⟩
theorem RS_S (hW : WF G) (k f : Nat) : bt (RS G b (k + 1)) f = true ↔ (bt (RS G b k) f = true ∨ ∃ d, d < 2 * (gE G).length ∧ lab G d = f ∧ bt (RS G b k) (lab G (op d)) = true) := by
  have h20 := nF_20 hW
  show bt (stS _) f = true ↔ _
  rw [stS_sp]
  refine ⟨fun q => q.2, fun q => ⟨?_, q⟩⟩
  rcases q with q | ⟨d, q1, q2, _⟩
  · rcases Nat.lt_or_ge f 32 with h | h
    · exact h
    · rw [b_big h] at q; cases q
  · have := lab_lt hW q1
    omega
theorem RS_lt (hW : WF G) : ∀ k f, bt (RS G b k) f = true → f < nF G
  | 0, f, h => ((RS_0 hW f).mp h).1
  | k + 1, f, h => by
    rcases (RS_S hW k f).mp h with q | ⟨d, q1, q2, _⟩
    · exact RS_lt hW k f q
    · rw [← q2]; exact lab_lt hW q1
theorem RS_up (hW : WF G) {k j f : Nat} (h : bt (RS G b k) f = true) : bt (RS G b (k + j)) f = true := by
  induction j with
  | zero => exact h
  | succ j ih => exact (RS_S hW (k + j) f).mpr (Or.inl ih)
theorem RS_stay {k : Nat} (h : RS G b (k + 1) = RS G b k) : ∀ j, RS G b (k + j) = RS G b k
  | 0 => rfl
  | j + 1 => by
    have e : RS G b (k + (j + 1)) = RS G b (k + 1) := by
      show stS (fun f => bt (RS G b (k + j)) f = true ∨ ∃ d, d < 2 * (gE G).length ∧ lab G d = f ∧ bt (RS G b (k + j)) (lab G (op d)) = true) = stS (fun f => bt (RS G b k) f = true ∨ ∃ d, d < 2 * (gE G).length ∧ lab G d = f ∧ bt (RS G b k) (lab G (op d)) = true)
      rw [RS_stay h j]
    rw [e, h]
theorem RS_dich (hW : WF G) : ∀ k, (∃ j, j ≤ k ∧ RS G b (j + 1) = RS G b j) ∨ k ≤ fb_ct (bt (RS G b k)) (nF G)
  | 0 => Or.inr (Nat.zero_le _)
  | k + 1 => by
    rcases RS_dich hW k with ⟨j, h1, h2⟩ | h
    · exact Or.inl ⟨j, by omega, h2⟩
    · by_cases c : RS G b (k + 1) = RS G b k
      · exact Or.inl ⟨k, by omega, c⟩
      · refine Or.inr ?_
        have : ∃ f, f < nF G ∧ bt (RS G b k) f = false ∧ bt (RS G b (k + 1)) f = true := by
          refine Classical.byContradiction (fun q => c (b_ext (fun f hf => ?_)))
          cases hx : bt (RS G b k) f with
          | true => exact RS_up hW (j := 1) hx
          | false =>
            cases hy : bt (RS G b (k + 1)) f with
            | false => rfl
            | true => exact absurd ⟨f, RS_lt hW _ f hy, hx, hy⟩ q
        obtain ⟨f, b1, b2, b3⟩ := this
        have := ct_lt (p := bt (RS G b k)) (q := bt (RS G b (k + 1))) (n := nF G) (fun i _ hi => RS_up hW (j := 1) hi) b1 b2 b3
        omega
theorem RS_end (hW : WF G) {k f : Nat} (h : bt (RS G b k) f = true) : bt (RS G b (nF G)) f = true := by
  have hst : ∃ j, j ≤ nF G ∧ ∀ i, RS G b (j + i) = RS G b j := by
    rcases RS_dich hW (b := b) (nF G + 1) with ⟨j, h1, h2⟩ | h
    · rcases Nat.lt_or_ge j (nF G + 1) with q | q
      · exact ⟨j, by omega, RS_stay h2⟩
      · refine ⟨nF G, Nat.le_refl _, ?_⟩
        rcases RS_dich hW (b := b) (nF G) with ⟨i, h3, h4⟩ | h3
        · intro t
          have e1 := RS_stay h4 (nF G - i + t)
          have e2 := RS_stay h4 (nF G - i)
          rw [show i + (nF G - i + t) = nF G + t from by omega] at e1
          rw [show i + (nF G - i) = nF G from by omega] at e2
          rw [e1, e2]
        · have hall : ∀ f, f < nF G → bt (RS G b (nF G)) f = true := by
            have := fb_ct_le (bt (RS G b (nF G))) (nF G)
            exact fb_ct_all.mp (by omega)
          refine RS_stay (b_ext2 (fun f hf => ⟨fun q => hall f (RS_lt hW _ f q), fun q => RS_up hW (j := 1) q⟩))
    · have := fb_ct_le (bt (RS G b (nF G + 1))) (nF G)
      omega
  obtain ⟨j, h1, h2⟩ := hst
  have h3 := h2 (nF G - j)
  rw [show j + (nF G - j) = nF G from by omega] at h3
  rcases Nat.lt_or_ge k j with q | q
  · have := RS_up hW (j := j - k) h
    rw [show k + (j - k) = j from by omega] at this
    rw [h3]; exact this
  · have := h2 (k - j)
    rw [show j + (k - j) = k from by omega] at this
    rw [h3, ← this]; exact h
theorem dst_sp {f : Nat} (h : rch G b f) : bt (RS G b (dst G b f)) f = true ∧ ∀ j, j < dst G b f → ¬ bt (RS G b j) f = true := Classical.epsilon_spec (pk_least (fun k => bt (RS G b k) f = true) h)
theorem RS_dst (hW : WF G) {k f : Nat} : bt (RS G b k) f = true ↔ rch G b f ∧ dst G b f ≤ k := by
  constructor
  · intro h
    refine ⟨⟨k, h⟩, ?_⟩
    rcases Nat.lt_or_ge k (dst G b f) with q | q
    · exact absurd h ((dst_sp ⟨k, h⟩).2 k q)
    · exact q
  · rintro ⟨h1, h2⟩
    have := RS_up hW (j := k - dst G b f) (dst_sp h1).1
    rw [show dst G b f + (k - dst G b f) = k from by omega] at this
    exact this
theorem dst_le (hW : WF G) {f : Nat} (h : rch G b f) : dst G b f ≤ nF G := by
  obtain ⟨k, hk⟩ := h
  exact ((RS_dst hW).mp (RS_end hW hk)).2
theorem rch_lt (hW : WF G) {f : Nat} (h : rch G b f) : f < nF G := by
  obtain ⟨k, hk⟩ := h
  exact RS_lt hW k f hk
/-- one step towards the node -/
theorem dst_step (hW : WF G) {f k : Nat} (h : rch G b f) (hk : dst G b f = k + 1) : ∃ d, d < 2 * (gE G).length ∧ lab G d = f ∧ rch G b (lab G (op d)) ∧ dst G b (lab G (op d)) = k := by
  have h1 := (dst_sp h).1
  rw [hk] at h1
  rcases (RS_S hW k f).mp h1 with q | ⟨d, q1, q2, q3⟩
  · have := ((RS_dst hW).mp q).2
    omega
  · obtain ⟨q4, q5⟩ := (RS_dst hW).mp q3
    refine ⟨d, q1, q2, q4, ?_⟩
    rcases Nat.lt_or_ge (dst G b (lab G (op d))) k with q | q
    · have : bt (RS G b (dst G b (lab G (op d)) + 1)) f = true := (RS_S hW _ f).mpr (Or.inr ⟨d, q1, q2, (dst_sp q4).1⟩)
      have := ((RS_dst hW).mp this).2
      omega
    · omega
theorem rch_nb (hW : WF G) {d : Nat} (hd : d < 2 * (gE G).length) (h : rch G b (lab G (op d))) : rch G b (lab G d) := by
  obtain ⟨k, hk⟩ := h
  exact ⟨k + 1, (RS_S hW k _).mpr (Or.inr ⟨d, hd, rfl, hk⟩)⟩
/-- all faces at a node, if one -/
theorem rch_turn (hW : WF G) {d : Nat} (hd : d < 2 * (gE G).length) (h : rch G b (lab G d)) : rch G b (lab G (nx G (op d))) := by
  have h1 : lab G (nx G (op d)) = lab G (op d) := by
    rw [lab_eq hW (nx_lt hW (op_lt hd)) (op_lt hd)]
    exact mn_it hW (op_lt hd) 1
  rw [h1]
  refine rch_nb hW (op_lt hd) ?_
  rw [op_op]
  exact h
theorem rch_node (hW : WF G) {d e : Nat} (hd : d < 2 * (gE G).length) (he : e < 2 * (gE G).length) (hde : tl G d = tl G e) (h : rch G b (lab G d)) : rch G b (lab G e) := by
  have key : ∀ j x, x < 2 * (gE G).length → tl G x = tl G e → (plc (gR G (tl G e)) (x / 2) + j) % (gR G (tl G e)).length = plc (gR G (tl G e)) (e / 2) → rch G b (lab G x) → rch G b (lab G e) := by
    intro j
    induction j with
    | zero =>
      intro x hx ht hp hr
      have hxm := tl_at hW hx
      have hem := tl_at hW he
      rw [ht] at hxm
      have p1 := plc_lt hxm
      rw [Nat.add_zero, Nat.mod_eq_of_lt p1] at hp
      have h2 : x / 2 = e / 2 := by rw [← plc_get hxm, hp, plc_get hem]
      have h5 : x = e ∨ x = op e := by
        unfold op
        split <;> omega
      rcases h5 with h5 | h5
      · rw [← h5]; exact hr
      · rw [h5] at ht
        exact absurd ht (tl_op hW he)
    | succ j ih =>
      intro x hx ht hp hr
      have hxm := tl_at hW hx
      rw [ht] at hxm
      have p1 := plc_lt hxm
      have hy := nx_lt hW (op_lt hx)
      have hyt : tl G (nx G (op x)) = tl G e := by rw [nx_tl hW (op_lt hx), op_op, ht]
      have hyh := nx_half (G := G) (op x)
      rw [op_op, op_half, ht] at hyh
      have hlt : (plc (gR G (tl G e)) (x / 2) + 1) % (gR G (tl G e)).length < (gR G (tl G e)).length := Nat.mod_lt _ (by omega)
      have hpl : plc (gR G (tl G e)) (nx G (op x) / 2) = (plc (gR G (tl G e)) (x / 2) + 1) % (gR G (tl G e)).length := (plc_un (hW.2.2.2.2.2.1 _) hlt hyh.symm).symm
      refine ih (nx G (op x)) hy hyt ?_ (rch_turn hW hx hr)
      rw [hpl, Nat.mod_add_mod, ← hp]
      congr 1
      omega
  have hdm := tl_at hW hd
  have hem := tl_at hW he
  rw [hde] at hdm
  have p1 := plc_lt hdm
  have p2 := plc_lt hem
  refine key ((gR G (tl G e)).length - plc (gR G (tl G e)) (d / 2) + plc (gR G (tl G e)) (e / 2)) d hd hde ?_ h
  rw [show plc (gR G (tl G e)) (d / 2) + ((gR G (tl G e)).length - plc (gR G (tl G e)) (d / 2) + plc (gR G (tl G e)) (e / 2)) = plc (gR G (tl G e)) (e / 2) + (gR G (tl G e)).length from by omega, Nat.add_mod_right, Nat.mod_eq_of_lt p2]
theorem adj_dir (hW : WF G) {u v : Nat} (h : adj G u v) : ∃ d, d < 2 * (gE G).length ∧ tl G d = u ∧ tl G (op d) = v := by
  obtain ⟨e, h1, h2⟩ := h
  rcases h2 with h2 | h2
  · refine ⟨2 * e, by omega, ?_, ?_⟩
    · unfold tl
      rw [if_pos (by omega), show 2 * e / 2 = e from by omega, h2]
    · rw [show op (2 * e) = 2 * e + 1 from by unfold op; rw [if_pos (by omega)]]
      unfold tl
      rw [if_neg (by omega), show (2 * e + 1) / 2 = e from by omega, h2]
  · refine ⟨2 * e + 1, by omega, ?_, ?_⟩
    · unfold tl
      rw [if_neg (by omega), show (2 * e + 1) / 2 = e from by omega, h2]
    · rw [show op (2 * e + 1) = 2 * e from by unfold op; rw [if_neg (by omega)]; omega]
      unfold tl
      rw [if_pos (by omega), show 2 * e / 2 = e from by omega, h2]
theorem rch_all (hW : WF G) {a : Nat} (h : conn G b a) : ∀ d, d < 2 * (gE G).length → tl G d = a → rch G b (lab G d) := by
  refine h (fun v => ∀ d, d < 2 * (gE G).length → tl G d = v → rch G b (lab G d)) ?_ ?_
  · intro d hd ht
    exact ⟨0, (RS_0 hW _).mpr ⟨lab_lt hW hd, d, hd, rfl, ht⟩⟩
  · intro u v hu huv d hd ht
    obtain ⟨x, h1, h2, h3⟩ := adj_dir hW huv
    have h4 := hu x h1 h2
    have h5 : rch G b (lab G (op x)) := rch_nb hW (op_lt h1) (by rw [op_op]; exact h4)
    exact rch_node hW (op_lt h1) hd (by rw [h3, ht]) h5
theorem conn_deg {u v : Nat} (h : conn G u v) (hne : u ≠ v) : ∃ w, adj G v w := by
  refine Classical.byContradiction (fun q => ?_)
  refine hne.symm (h (fun w => w ≠ v) hne (fun x y hx hxy => ?_) rfl).elim
  intro hy
  subst hy
  exact q ⟨x, adj_comm hxy⟩
theorem cost_ex (hW : WF G) {a : Nat} (h : conn G a b) (hne : a ≠ b) : ∃ f, f < nF G ∧ NS G f a ∧ rch G b f := by
  obtain ⟨w, hw⟩ := conn_deg (conn_comm h) (fun q => hne q.symm)
  obtain ⟨d, h1, h2, h3⟩ := adj_dir hW hw
  exact ⟨lab G d, lab_lt hW h1, ⟨d, h1, rfl, h2⟩, rch_all hW (conn_comm h) d h1 h2⟩
/-- the cost of the best way from a to b -/
def Cst (G : Gr) (a b c : Nat) : Prop := (∀ f, f < nF G → NS G f a → rch G b f → c ≤ dst G b f) ∧ ∃ f, f < nF G ∧ NS G f a ∧ rch G b f ∧ dst G b f = c
theorem Cst_un {a c e : Nat} (h : Cst G a b c) (h2 : Cst G a b e) : c = e := by
  obtain ⟨h1, f, f1, f2, f3, f4⟩ := h
  obtain ⟨h3, g, g1, g2, g3, g4⟩ := h2
  have := h1 g g1 g2 g3
  have := h3 f f1 f2 f3
  omega
/-! the class's distances -/
def DX (G : Gr) (b k : Nat) (di : Nat → Int32) : Prop := ∀ f, f < nF G → (bt (RS G b k) f = true → di f = nI (dst G b f)) ∧ (bt (RS G b k) f = false → di f = -1)
theorem X6_level (hW : WF G) {t : TF} (hF : FR G t) (N : Nat) (hN : 100 < N) {k : Nat} (hk : k ≤ 20) (di : Nat → Int32) (hD : DX G b k di) (k43 : Int32 → (Nat → Int32) → Option (Nat → Int32)) (Q : (Nat → Int32) → Prop) (hQ : ∀ di', DX G b (k + 1) di' → Ok (k43 (nI (k + 1)) di') Q) :
    Ok (f_X6_measure_b55 N t.1 t.2.2.2.2.1 t.2.2.2.2.2.2.2.1 (nI (gE G).length) k43 N (nI k) 0 di) Q := by
  have h20 := hW.2.2.1
  have hnf := nF_20 hW
  have ho := hF.2.2.2.2.1
  refine lpU (fun n i x => f_X6_measure_b55 N t.1 t.2.2.2.2.1 t.2.2.2.2.2.2.2.1 (nI (gE G).length) k43 n (nI k) (nI i) x) (fun i x => ∀ f, f < nF G → (bt (RS G b k) f = true → x f = nI (dst G b f)) ∧ (bt (RS G b k) f = false → ((∃ d, d < i ∧ lab G (op d) = f ∧ bt (RS G b k) (lab G d) = true) → x f = nI (k + 1)) ∧ (¬ (∃ d, d < i ∧ lab G (op d) = f ∧ bt (RS G b k) (lab G d) = true) → x f = -1))) (2 * (gE G).length) ?_ ?_ N 0 di (Nat.zero_le _) (by omega) (fun f hf => ⟨(hD f hf).1, fun q => ⟨fun ⟨d, q, _⟩ => absurd q (Nat.not_lt_zero d), fun _ => (hD f hf).2 q⟩⟩)
  · intro n x hI
    simp only [f_X6_measure_b55, f_X6_measure_b121]
    rw [two_nI, nI_1]
    refine Ok_ife (nI_leI (by omega) (by omega)) (fun _ => hQ x (fun f hf => ?_)) (fun c => absurd (Nat.le_refl _) c)
    obtain ⟨i1, i2⟩ := hI f hf
    have hS := RS_S hW k f (b := b)
    cases hb : bt (RS G b k) f with
    | true =>
      refine ⟨fun _ => i1 hb, fun q => ?_⟩
      rw [hS.mpr (Or.inl hb)] at q; cases q
    | false =>
      obtain ⟨i3, i4⟩ := i2 hb
      have hex : (∃ d, d < 2 * (gE G).length ∧ lab G (op d) = f ∧ bt (RS G b k) (lab G d) = true) ↔ bt (RS G b (k + 1)) f = true := by
        rw [hS]
        constructor
        · rintro ⟨d, q1, q2, q3⟩
          exact Or.inr ⟨op d, op_lt q1, q2, by rw [op_op]; exact q3⟩
        · rintro (q | ⟨d, q1, q2, q3⟩)
          · rw [hb] at q; cases q
          · exact ⟨op d, op_lt q1, by rw [op_op]; exact q2, q3⟩
      refine ⟨fun q => ?_, fun q => i4 (fun q2 => ?_)⟩
      · rw [i3 (hex.mpr q)]
        have h1 := (RS_dst hW).mp q
        have h2 : ¬ dst G b f ≤ k := fun q2 => by
          rw [(RS_dst hW).mpr ⟨h1.1, q2⟩] at hb; cases hb
        rw [show dst G b f = k + 1 from by omega]
      · rw [hex.mp q2] at q; cases q
  · intro n i x hi hI ih
    have hl := lab_lt hW hi
    have ho2 := op_lt hi
    have hl2 := lab_lt hW ho2
    simp only [f_X6_measure_b55, f_X6_measure_b115]
    rw [two_nI, nI_op i (by omega), nI_clamp (n := i) (by omega), nI_clamp (n := op i) (by omega), ho i hi, ho _ ho2, nI_clamp (n := lab G i) (by omega), nI_1]
    refine Ok_ife (nI_leI (by omega) (by omega)) (fun c => absurd c (by omega)) (fun _ => Ok_chk.mpr ⟨inb_nI (by omega) (by decide), Ok_nm.mpr (Ok_chk.mpr ⟨inb_nI (by omega) (by decide), Ok_chk.mpr ⟨inb_nI (by omega) (by decide), ?_⟩⟩)⟩)
    rw [nI_clamp (by omega)]
    obtain ⟨o1, o2⟩ := hI (lab G i) hl
    obtain ⟨t1, t2⟩ := hI (lab G (op i)) hl2
    have ho_k : x (lab G i) = nI k ↔ rch G b (lab G i) ∧ dst G b (lab G i) = k := by
      cases hb : bt (RS G b k) (lab G i) with
      | true =>
        have h1 := (RS_dst hW).mp hb
        rw [o1 hb, nI_eq (by omega) (by omega)]
        exact ⟨fun q => ⟨h1.1, q⟩, fun q => q.2⟩
      | false =>
        refine ⟨fun q => ?_, fun q => ?_⟩
        · exfalso
          by_cases c : ∃ d, d < i ∧ lab G (op d) = lab G i ∧ bt (RS G b k) (lab G d) = true
          · rw [(o2 hb).1 c, nI_eq (by omega) (by omega)] at q; omega
          · rw [(o2 hb).2 c] at q
            exact nI_m1ne (by omega : k < 2 ^ 31) q.symm
        · rw [(RS_dst hW).mpr ⟨q.1, by omega⟩] at hb; cases hb
    -- what changes: only the face on the other side
    have other : ∀ y : Int32, (bt (RS G b k) (lab G (op i)) = true → y = x (lab G (op i))) → (bt (RS G b k) (lab G (op i)) = false → ((∃ d, d < i + 1 ∧ lab G (op d) = lab G (op i) ∧ bt (RS G b k) (lab G d) = true) → y = nI (k + 1)) ∧ (¬ (∃ d, d < i + 1 ∧ lab G (op d) = lab G (op i) ∧ bt (RS G b k) (lab G d) = true) → y = -1)) → ∀ f, f < nF G → (bt (RS G b k) f = true → upd x (lab G (op i)) y f = nI (dst G b f)) ∧ (bt (RS G b k) f = false → ((∃ d, d < i + 1 ∧ lab G (op d) = f ∧ bt (RS G b k) (lab G d) = true) → upd x (lab G (op i)) y f = nI (k + 1)) ∧ (¬ (∃ d, d < i + 1 ∧ lab G (op d) = f ∧ bt (RS G b k) (lab G d) = true) → upd x (lab G (op i)) y f = -1)) := by
      intro y y1 y2 f hf
      rw [upd_at]
      by_cases c : f = lab G (op i)
      · subst c
        rw [if_pos rfl]
        exact ⟨fun q => by rw [y1 q]; exact t1 q, y2⟩
      · rw [if_neg c]
        have e : (∃ d, d < i + 1 ∧ lab G (op d) = f ∧ bt (RS G b k) (lab G d) = true) ↔ (∃ d, d < i ∧ lab G (op d) = f ∧ bt (RS G b k) (lab G d) = true) := by
          constructor
          · rintro ⟨d, q1, q2, q3⟩
            rcases Nat.lt_or_ge d i with q | q
            · exact ⟨d, q, q2, q3⟩
            · obtain rfl : d = i := by omega
              exact absurd q2.symm c
          · rintro ⟨d, q1, q2⟩; exact ⟨d, by omega, q2⟩
        rw [e]
        exact hI f hf
    have same : (bt (RS G b k) (lab G (op i)) = false → ((∃ d, d < i + 1 ∧ lab G (op d) = lab G (op i) ∧ bt (RS G b k) (lab G d) = true) ↔ (∃ d, d < i ∧ lab G (op d) = lab G (op i) ∧ bt (RS G b k) (lab G d) = true))) → ∀ f, f < nF G → (bt (RS G b k) f = true → x f = nI (dst G b f)) ∧ (bt (RS G b k) f = false → ((∃ d, d < i + 1 ∧ lab G (op d) = f ∧ bt (RS G b k) (lab G d) = true) → x f = nI (k + 1)) ∧ (¬ (∃ d, d < i + 1 ∧ lab G (op d) = f ∧ bt (RS G b k) (lab G d) = true) → x f = -1)) := by
      intro he f hf
      have := other (x (lab G (op i))) (fun _ => rfl) (fun q => by rw [he q]; exact t2 q) f hf
      rw [upd_at] at this
      by_cases c : f = lab G (op i)
      · rw [if_pos c, ← c] at this; exact this
      · rw [if_neg c] at this; exact this
    have more : (∃ d, d < i ∧ lab G (op d) = lab G (op i) ∧ bt (RS G b k) (lab G d) = true) → (∃ d, d < i + 1 ∧ lab G (op d) = lab G (op i) ∧ bt (RS G b k) (lab G d) = true) := fun ⟨d, q1, q2⟩ => ⟨d, by omega, q2⟩
    by_cases c1 : x (lab G i) = nI k
    · obtain ⟨r1, r2⟩ := ho_k.mp c1
      have hbo : bt (RS G b k) (lab G i) = true := (RS_dst hW).mpr ⟨r1, by omega⟩
      rw [if_neg (fun q => q c1)]
      refine Ok_chk.mpr ⟨inb_nI (by omega) (by decide), ?_⟩
      by_cases c2 : 0 ≤ x (lab G (op i))
      · rw [if_pos c2]
        refine ih _ (same (fun q => ⟨fun _ => ?_, more⟩))
        refine Classical.byContradiction (fun q2 => ?_)
        rw [(t2 q).2 q2] at c2
        exact absurd c2 (by decide)
      · rw [if_neg c2]
        refine Ok_chk.mpr ⟨inb_nI (by omega) (by decide), ih _ (other _ (fun q => ?_) (fun q => ⟨fun _ => nI_1 k ▸ rfl, fun q2 => absurd ⟨i, by omega, rfl, hbo⟩ q2⟩))⟩
        exfalso
        have h1 := (RS_dst hW).mp q
        rw [t1 q] at c2
        exact c2 (nI_pos' (by omega))
    · rw [if_pos c1]
      refine ih _ (same (fun q => ⟨?_, more⟩))
      rintro ⟨d, q1, q2, q3⟩
      rcases Nat.lt_or_ge d i with q4 | q4
      · exact ⟨d, q4, q2, q3⟩
      · obtain rfl : d = i := by omega
        exfalso
        have h1 := (RS_dst hW).mp q3
        have h2 : dst G b (lab G d) ≠ k := fun q5 => c1 (ho_k.mpr ⟨h1.1, q5⟩)
        have h3 : bt (RS G b (dst G b (lab G d) + 1)) (lab G (op d)) = true := (RS_S hW _ _).mpr (Or.inr ⟨op d, ho2, rfl, by rw [op_op]; exact (dst_sp h1.1).1⟩)
        have h4 := (RS_dst hW).mp h3
        rw [(RS_dst hW).mpr ⟨h4.1, by omega⟩] at q; cases q
theorem X6_measure (hW : WF G) {t : TF} (hF : FR G t) (N : Nat) (hN : 100 < N) (hb : b < 9) (di : Nat → Int32) : Ok (f_X6_measure N t.1 t.2.2.2.2.1 t.2.2.2.2.2.2.2.1 (nI (gE G).length) di (nI b)) (fun r => DX G b (nF G) r) := by
  have h20 := hW.2.2.1
  have hnf := nF_20 hW
  unfold f_X6_measure
  refine lpU (fun n i x => f_X6_measure_b3 N t.1 t.2.2.2.2.1 t.2.2.2.2.2.2.2.1 (nI (gE G).length) n (nI b) (nI i) x) (fun i x => ∀ f, f < i → x f = if bt (nsI G f) b = true then 0 else -1) (nF G) ?_ ?_ N 0 di (Nat.zero_le _) (by omega) (fun f hf => absurd hf (Nat.not_lt_zero f))
  · intro n x hI
    simp only [f_X6_measure_b3, f_X6_measure_b40]
    rw [hF.1]
    refine Ok_ife (nI_leI (by omega) (by omega)) (fun _ => ?_) (fun c => absurd (Nat.le_refl _) c)
    rw [← hF.1]
    refine lpU (fun n i x => f_X6_measure_b43 N t.1 t.2.2.2.2.1 t.2.2.2.2.2.2.2.1 (nI (gE G).length) n (nI i) x) (fun i x => DX G b i x) (nF G) ?_ ?_ N 0 x (Nat.zero_le _) (by omega) (fun f hf => ?_)
    · intro n x hD
      simp only [f_X6_measure_b43]
      rw [hF.1]
      exact Ok_ife (nI_leI (by omega) (by omega)) (fun _ => Ok_some.mpr hD) (fun c => absurd (Nat.le_refl _) c)
    · intro n i x hi hD ih
      simp only [f_X6_measure_b43]
      have hle : ¬ t.1 ≤ nI i := by rw [hF.1, nI_leI (by omega) (by omega)]; omega
      rw [if_neg hle]
      exact X6_level hW hF N hN (by omega) x hD _ _ (fun di' hd' => ih di' hd')
    · have h1 := hI f hf
      have h2 := RS_0 hW f (b := b)
      have h3 := ns_sp hW f b
      refine ⟨fun q => ?_, fun q => ?_⟩
      · have q2 := (h2.mp q).2
        rw [h1, if_pos (h3.mpr q2)]
        have := ((RS_dst hW).mp q).2
        rw [show dst G b f = 0 from by omega]
        rfl
      · rw [h1, if_neg]
        intro q2
        rw [h2.mpr ⟨hf, h3.mp q2⟩] at q; cases q
  · intro n i x hi hI ih
    have hle : ¬ t.1 ≤ nI i := by rw [hF.1, nI_leI (by omega) (by omega)]; omega
    simp only [f_X6_measure_b3, f_X6_measure_b33]
    rw [if_neg hle, X0_holds hW hF N hi hb, nI_clamp (by omega), nI_1]
    refine Ok_bd1.mpr (Ok_some.mpr (Ok_ife bI_0 (fun c => Ok_chk.mpr ⟨inb_nI (by omega) (by decide), ih _ (fun f hf => ?_)⟩) (fun c => Ok_chk.mpr ⟨inb_nI (by omega) (by decide), ih _ (fun f hf => ?_)⟩)))
    · rw [upd_at]
      by_cases e : f = i
      · rw [if_pos e, e, c, if_neg (by decide)]
      · rw [if_neg e]; exact hI f (by omega)
    · rw [Bool.not_eq_false] at c
      rw [upd_at]
      by_cases e : f = i
      · rw [if_pos e, e, c, if_pos rfl]
      · rw [if_neg e]; exact hI f (by omega)
end WAY
