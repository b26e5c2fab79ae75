/-! ===== the reference finds a way ===== -/
theorem X8_take (N : Nat) {org : Nat → Int32} {st : Nat} (hst : st < 9) : ∀ (l : List Nat) (y n : Nat) (P : List Nat) (p : Nat → Int32), Fo org st y l → st ∉ y :: l → (∀ x, x ∈ y :: l → x < 9) → PA p P → P.length + l.length + 2 ≤ 10 → l.length + 1 < n → Ok (f_X8_takesPath_b7 N org n (nI st) (nI y) p (nI P.length)) (fun r => PA r.1 (P ++ ((y :: l) ++ [st])) ∧ r.2 = nI (P ++ ((y :: l) ++ [st])).length) := by
  have fin : ∀ (n : Nat) (P : List Nat) (p : Nat → Int32), PA p P → P.length < 10 → 0 < n → Ok (f_X8_takesPath_b7 N org n (nI st) (nI st) p (nI P.length)) (fun r => PA r.1 (P ++ [st]) ∧ r.2 = nI (P ++ [st]).length) := by
    intro n P p hp hl hn
    obtain ⟨n, rfl⟩ : ∃ k, n = k + 1 := ⟨n - 1, by omega⟩
    simp only [f_X8_takesPath_b7, f_X8_takesPath_b42]
    rw [if_pos trivial, nI_clamp (n := P.length) (by omega), nI_1]
    exact Ok_chk.mpr ⟨inb_nI hl (by decide), Ok_some.mpr ⟨PA_snoc hp st, by rw [List.length_append]; rfl⟩⟩
  intro l
  induction l with
  | nil =>
    intro y n P p hF hs h9 hp h1 h3
    obtain ⟨n, rfl⟩ : ∃ k, n = k + 1 := ⟨n - 1, by omega⟩
    rw [List.length_nil] at h1 h3
    have y9 := h9 y List.mem_cons_self
    have hF' : org y = nI st := hF
    simp only [f_X8_takesPath_b7]
    rw [if_neg (fun q => hs (by rw [(nI_eq (by omega) (by omega)).mp q]; exact List.mem_cons_self)), nI_clamp (n := P.length) (by omega), nI_clamp (n := y) (by omega), hF', nI_1]
    refine Ok_chk.mpr ⟨inb_nI (by omega) (by decide), Ok_chk.mpr ⟨inb_nI (by omega) (by decide), Ok_nm.mpr ?_⟩⟩
    have e : P.length + 1 = (P ++ [y]).length := by rw [List.length_append]; rfl
    have := fin n (P ++ [y]) _ (PA_snoc hp y) (by rw [← e]; omega) (by omega)
    rw [← e, show (P ++ [y]) ++ [st] = P ++ (([y] : List Nat) ++ [st]) by rw [List.append_assoc]] at this
    exact this
  | cons z t ih =>
    intro y n P p hF hs h9 hp h1 h3
    obtain ⟨n, rfl⟩ : ∃ k, n = k + 1 := ⟨n - 1, by omega⟩
    rw [List.length_cons] at h1 h3
    have y9 := h9 y List.mem_cons_self
    simp only [f_X8_takesPath_b7]
    rw [if_neg (fun q => hs (by rw [(nI_eq (by omega) (by omega)).mp q]; exact List.mem_cons_self)), nI_clamp (n := P.length) (by omega), nI_clamp (n := y) (by omega), hF.1, nI_1]
    refine Ok_chk.mpr ⟨inb_nI (by omega) (by decide), Ok_chk.mpr ⟨inb_nI (by omega) (by decide), Ok_nm.mpr ?_⟩⟩
    have e : P.length + 1 = (P ++ [y]).length := by rw [List.length_append]; rfl
    have := ih z n (P ++ [y]) _ hF.2 (fun q => hs (List.mem_cons_of_mem _ q)) (fun x hx => h9 x (List.mem_cons_of_mem _ hx)) (PA_snoc hp y) (by rw [← e]; omega) (by omega)
    rw [← e, show (P ++ [y]) ++ ((z :: t) ++ [st]) = P ++ ((y :: z :: t) ++ [st]) by simp] at this
    exact this
def FI (A B : Nat → Nat) (M T Gs : Int32) (org queue : Nat → Int32) (x5 : Int32) (st : Nat) (Qs : List Nat) : Prop :=
  Qs.Nodup ∧ (∀ x, x ∈ Qs → x < 9) ∧ PA queue Qs ∧ x5 = nI Qs.length ∧ (∀ y, y < 9 → (org y = -9 ↔ y ∉ Qs)) ∧ st ∈ Qs ∧ (∀ y, y ∈ Qs → y ≠ st → bt Gs y = false) ∧ ∀ y, y ∈ Qs → y ≠ st → ∃ l, Fo org st y l ∧ (y :: l).Nodup ∧ (∀ z, z ∈ y :: l → z ∈ Qs ∧ z ≠ st ∧ bt T z = true) ∧ Lk (gm A B M) (y :: (l ++ [st]))
/-- the ends of an edge, seen from a node -/
def Ev (A B : Nat → Nat) (j w o : Nat) : Prop := (A j = w ∧ B j = o) ∨ (B j = w ∧ A j = o)
def Fnd (A B : Nat → Nat) (M T Gs : Int32) (st : Nat) (r : Int32 × (Nat → Int32) × (Nat → Int32)) : Prop :=
  (r.1 = -9 ∧ ∃ S : Nat → Prop, S st ∧ (∀ z, S z → z = st ∨ (bt T z = true ∧ bt Gs z = false)) ∧ ∀ w o j, bt M j = true → Ev A B j w o → S w → S o ∨ (bt T o = false ∧ bt Gs o = false)) ∨
  (∃ g l, r.1 = nI g ∧ g < 9 ∧ bt Gs g = true ∧ g ≠ st ∧ Fo r.2.1 st g l ∧ (g :: l).Nodup ∧ (∀ z, z ∈ l → z < 9 ∧ z ≠ st ∧ bt T z = true) ∧ Lk (gm A B M) (g :: (l ++ [st])))
section FND
variable {ea eb : Nat → Int32} {A B : Nat → Nat} {M T Gs : Int32}
theorem X8_findIn (N : Nat) (hE : EE ea eb A B M) {st w : Nat} (k45 : Int32 → Int32 → Int32 → Int32 → Int32 → (Nat → Int32) → (Nat → Int32) → Option (Int32 × (Nat → Int32) × (Nat → Int32))) (x6 : Int32) (Qs0 : List Nat)
    (hQ : ∀ Qs x5 org queue, FI A B M T Gs org queue x5 st Qs → (∃ t, Qs = Qs0 ++ t) → (∀ o j, bt M j = true → Ev A B j w o → o ∈ Qs ∨ (bt T o = false ∧ bt Gs o = false)) → Ok (k45 M T Gs x5 (x6 + 1) org queue) (Fnd A B M T Gs st)) :
    ∀ (n j : Nat) (Qs : List Nat) (x5 : Int32) (org queue : Nat → Int32), j ≤ 21 → 21 - j < n → FI A B M T Gs org queue x5 st Qs → w ∈ Qs → (∃ t, Qs = Qs0 ++ t) → (∀ o j', j' < j → bt M j' = true → Ev A B j' w o → o ∈ Qs ∨ (bt T o = false ∧ bt Gs o = false)) → Ok (f_X8_finds_b64 N ea eb k45 n M T Gs x5 x6 (nI w) (nI j) org queue) (Fnd A B M T Gs st) := by
  intro n
  induction n with
  | zero => intro j _ _ _ _ _ q; omega
  | succ n ih =>
    intro j Qs x5 org queue hj hm hB hw hx hd
    have hB' := hB
    obtain ⟨b1, b2, b3, b4, b5, b6, b8, b7⟩ := hB'
    have w9 := b2 w hw
    simp only [f_X8_finds_b64, f_X8_finds_b234, f_X8_finds_b108, f_X8_finds_b104, f_X8_finds_b109, f_X8_finds_b140, f_X8_finds_b181, f_X8_finds_b228, f_X8_finds_b169]
    refine Ok_ife (nI_leI (a := 21) (b := j) (by omega) (by omega)) (fun c => ?_) (fun c => ?_)
    · exact hQ Qs x5 org queue hB hx (fun o j' q1 q2 => hd o j' (by have := (hE.1 j' q1).1; omega) q1 q2)
    · have j21 : j < 21 := by omega
      have ij : inb (nI j) 21 = true := inb_nI j21 (by decide)
      rw [X8_has N (by omega), nI_1, nI_clamp (n := j) (by omega)]
      have next : (∀ o, bt M j = true → Ev A B j w o → o ∈ Qs ∨ (bt T o = false ∧ bt Gs o = false)) → Ok (f_X8_finds_b64 N ea eb k45 n M T Gs x5 x6 (nI w) (nI (j + 1)) org queue) (Fnd A B M T Gs st) := fun h => ih (j + 1) Qs x5 org queue (by omega) (by omega) hB hw hx (fun o j' q1 q2 q3 => by
        rcases Nat.lt_or_ge j' j with q | q
        · exact hd o j' q q2 q3
        · rw [show j' = j by omega] at q2 q3
          exact h o q2 q3)
      -- the edge j leads from w to o
      have act : ∀ o, o < 9 → bt M j = true → Ev A B j w o → Ok (chk (inb (nI o) 9) (if ¬ org (nI o).toNatClampNeg = -9 then (if (1 : Int32) = 0 then f_X8_finds_b64 N ea eb k45 n M T Gs x5 x6 (nI w) (nI (j + 1)) org queue else chk (inb (nI o) 9) (if ¬ org (nI o).toNatClampNeg = -9 then f_X8_finds_b64 N ea eb k45 n M T Gs x5 x6 (nI w) (nI (j + 1)) org queue else bd1 (f_X8_has N T (nI o)) fun r_28 => if r_28 = 0 then f_X8_finds_b64 N ea eb k45 n M T Gs x5 x6 (nI w) (nI (j + 1)) org queue else chk (inb (nI o) 9) (chk (inb x5 9) (f_X8_finds_b64 N ea eb k45 n M T Gs (x5 + 1) x6 (nI w) (nI (j + 1)) (upd org (nI o).toNatClampNeg (nI w)) (upd queue x5.toNatClampNeg (nI o)))))) else bd1 (f_X8_has N Gs (nI o)) fun r_22 => if r_22 = 0 then (if (1 : Int32) = 0 then f_X8_finds_b64 N ea eb k45 n M T Gs x5 x6 (nI w) (nI (j + 1)) org queue else chk (inb (nI o) 9) (if ¬ org (nI o).toNatClampNeg = -9 then f_X8_finds_b64 N ea eb k45 n M T Gs x5 x6 (nI w) (nI (j + 1)) org queue else bd1 (f_X8_has N T (nI o)) fun r_28 => if r_28 = 0 then f_X8_finds_b64 N ea eb k45 n M T Gs x5 x6 (nI w) (nI (j + 1)) org queue else chk (inb (nI o) 9) (chk (inb x5 9) (f_X8_finds_b64 N ea eb k45 n M T Gs (x5 + 1) x6 (nI w) (nI (j + 1)) (upd org (nI o).toNatClampNeg (nI w)) (upd queue x5.toNatClampNeg (nI o)))))) else chk (inb (nI o) 9) (some (nI o, upd org (nI o).toNatClampNeg (nI w), queue)))) (Fnd A B M T Gs st) := by
        intro o o9 hM hEv
        have io : inb (nI o) 9 = true := inb_nI o9 (by decide)
        have one : ∀ o', Ev A B j w o' → o' = o := fun o' q => by
          unfold Ev at hEv q
          have := (hE.1 j hM).2.2.2.2.2
          omega
        rw [nI_clamp (n := o) (by omega), X8_has N (by omega), X8_has N (by omega), if_neg i10]
        refine Ok_chk.mpr ⟨io, ?_⟩
        by_cases c1 : org o = -9
        · have c1' := (b5 o o9).mp c1
          rw [if_neg (fun q => q c1)]
          have ad : gm A B M (cd o w) = true := by
            refine gm_t.mpr ⟨j, hM, ?_⟩
            rcases hEv with q | q
            · rw [q.1, q.2, cd_comm]
            · rw [q.1, q.2]
          have os : o ≠ st := fun q => c1' (by rw [q]; exact b6)
          -- the chain of o
          have chain : ∃ l, Fo (upd org o (nI w)) st o l ∧ (o :: l).Nodup ∧ (∀ z, z ∈ l → z ∈ Qs ∧ z ≠ st ∧ bt T z = true) ∧ Lk (gm A B M) (o :: (l ++ [st])) := by
            by_cases ws : w = st
            · refine ⟨[], ?_, by simp, fun z hz => (by cases hz), ?_⟩
              · show upd org o (nI w) o = nI st
                rw [pk_us, ws]
              · rw [ws] at ad
                exact Lk_cons (Lk_one _ _) ad
            · obtain ⟨l, l1, l2, l3, l4⟩ := b7 w hw ws
              exact ⟨w :: l, ⟨pk_us, Fo_upd (fun z => c1' (l3 o z).1) l1⟩, List.nodup_cons.mpr ⟨fun z => c1' (l3 o z).1, l2⟩, l3, Lk_cons l4 ad⟩
          obtain ⟨l, l1, l2, l3, l4⟩ := chain
          refine Ok_bd1.mpr (Ok_some.mpr (Ok_ife bI_0 (fun c2 => ?_) (fun c2 => ?_)))
          · rw [if_neg (fun q => q c1)]
            refine Ok_chk.mpr ⟨io, Ok_bd1.mpr (Ok_some.mpr (Ok_ife bI_0 (fun c3 => next (fun o' _ q => Or.inr (by rw [one o' q]; exact ⟨c3, c2⟩))) (fun c3 => ?_)))⟩
            rw [Bool.not_eq_false] at c3
            have nq : (Qs ++ [o]).Nodup := List.nodup_append.mpr ⟨b1, by simp, fun a ha b hb q => c1' (by rw [List.mem_singleton] at hb; rw [← hb, ← q]; exact ha)⟩
            have m9 : ∀ x, x ∈ Qs ++ [o] → x < 9 := fun x hx => by
              rcases List.mem_append.mp hx with q | q
              · exact b2 x q
              · rw [List.mem_singleton] at q; rw [q]; exact o9
            have len9 := nd_le 9 _ nq m9
            rw [List.length_append, List.length_singleton] at len9
            rw [b4, nI_clamp (n := Qs.length) (by omega), nI_1]
            refine Ok_chk.mpr ⟨io, Ok_chk.mpr ⟨inb_nI (by omega) (by decide), ?_⟩⟩
            refine ih (j + 1) (Qs ++ [o]) _ _ _ (by omega) (by omega) ⟨nq, m9, PA_snoc b3 o, by rw [List.length_append]; rfl, fun y y9 => ?_, List.mem_append_left _ b6, fun y hy hys => ?_, fun y hy hys => ?_⟩ (List.mem_append_left _ hw) ?_ (fun o' j' q1 q2 q3 => ?_)
            · rw [upd_at]
              by_cases q : y = o
              · rw [if_pos q, q]
                refine ⟨fun z => ?_, fun z => absurd (List.mem_append_right _ (List.mem_singleton.mpr rfl)) z⟩
                exact absurd z (nI_m9 (by omega))
              · rw [if_neg q, b5 y y9, List.mem_append, List.mem_singleton]
                exact ⟨fun z w => w.elim z q, fun z w => z (Or.inl w)⟩
            · rcases List.mem_append.mp hy with q | q
              · exact b8 y q hys
              · rw [List.mem_singleton] at q; rw [q]; exact c2
            · rcases List.mem_append.mp hy with q | q
              · obtain ⟨l', k1, k2, k3, k4⟩ := b7 y q hys
                exact ⟨l', Fo_upd (fun z => c1' (k3 o z).1) k1, k2, fun z hz => ⟨List.mem_append_left _ (k3 z hz).1, (k3 z hz).2⟩, k4⟩
              · rw [List.mem_singleton] at q
                rw [q]
                refine ⟨l, l1, l2, fun z hz => ?_, l4⟩
                rcases List.mem_cons.mp hz with z1 | z1
                · rw [z1]; exact ⟨by simp, os, c3⟩
                · exact ⟨List.mem_append_left _ (l3 z z1).1, (l3 z z1).2⟩
            · obtain ⟨t, ht⟩ := hx
              exact ⟨t ++ [o], by rw [ht, List.append_assoc]⟩
            · rcases Nat.lt_or_ge j' j with q | q
              · exact (hd o' j' q q2 q3).imp (fun z => List.mem_append_left _ z) id
              · rw [show j' = j by omega] at q3
                rw [one o' q3]
                exact Or.inl (by simp)
          · rw [Bool.not_eq_false] at c2
            exact Ok_chk.mpr ⟨io, Ok_some.mpr (Or.inr ⟨o, l, rfl, o9, c2, os, l1, l2, fun z hz => ⟨b2 z (l3 z hz).1, (l3 z hz).2⟩, l4⟩)⟩
        · have c1' : o ∈ Qs := Classical.byContradiction (fun q => c1 ((b5 o o9).mpr q))
          rw [if_pos c1, if_pos c1]
          exact Ok_chk.mpr ⟨io, next (fun o' _ q => Or.inl (by rw [one o' q]; exact c1'))⟩
      refine Ok_bd1.mpr (Ok_some.mpr (Ok_ife bI_0 (fun c2 => ?_) (fun c2 => ?_)))
      · simp only [if_true]
        have nx := next (fun o q => by rw [c2] at q; cases q)
        exact Ok_chk.mpr ⟨ij, Ok_ite.mpr ⟨fun _ => Ok_chk.mpr ⟨ij, nx⟩, fun _ => Ok_chk.mpr ⟨ij, nx⟩⟩⟩
      · rw [Bool.not_eq_false] at c2
        obtain ⟨_, e1, e2, a9, b9, ne⟩ := hE.1 j c2
        rw [e1, e2]
        refine Ok_chk.mpr ⟨ij, ?_⟩
        by_cases c3 : A j = w
        · rw [if_pos (by rw [c3]), if_neg (fun q => q (by rw [c3]))]
          exact Ok_chk.mpr ⟨ij, Ok_chk.mpr ⟨ij, act (B j) b9 c2 (Or.inl ⟨c3, rfl⟩)⟩⟩
        · have c3' : ¬ nI (A j) = nI w := fun q => c3 ((nI_eq (by omega) (by omega)).mp q)
          rw [if_neg c3']
          refine Ok_chk.mpr ⟨ij, ?_⟩
          by_cases c4 : B j = w
          · rw [if_neg (fun q => q (by rw [c4])), if_pos c3']
            exact Ok_chk.mpr ⟨ij, Ok_chk.mpr ⟨ij, act (A j) a9 c2 (Or.inr ⟨c4, rfl⟩)⟩⟩
          · have c4' : ¬ nI (B j) = nI w := fun q => c4 ((nI_eq (by omega) (by omega)).mp q)
            rw [if_pos c4']
            simp only [if_true]
            have nx := next (fun o _ q => by
              rcases q with q | q
              · exact absurd q.1 c3
              · exact absurd q.1 c4)
            exact Ok_chk.mpr ⟨ij, Ok_ite.mpr ⟨fun _ => Ok_chk.mpr ⟨ij, nx⟩, fun _ => Ok_chk.mpr ⟨ij, nx⟩⟩⟩
theorem X8_finds (N : Nat) (hN : 30 < N) (hE : EE ea eb A B M) (T Gs : Int32) {st : Nat} (hst : st < 9) (org queue : Nat → Int32) : Ok (f_X8_finds N ea eb org queue (nI st) M T Gs) (Fnd A B M T Gs st) := by
  unfold f_X8_finds
  have out : ∀ (n i : Nat) (Qs : List Nat) (x5 : Int32) (org queue : Nat → Int32), i ≤ Qs.length → 9 - i < n → FI A B M T Gs org queue x5 st Qs → (∀ i', i' < i → ∀ o j, bt M j = true → Ev A B j (Qs.getD i' 0) o → o ∈ Qs ∨ (bt T o = false ∧ bt Gs o = false)) → Ok (f_X8_finds_b45 N ea eb n M T Gs x5 (nI i) org queue) (Fnd A B M T Gs st) := by
    intro n
    induction n with
    | zero => intro i Qs _ _ _ _ q; omega
    | succ n ih =>
      intro i Qs x5 org queue hi hm hB hd
      have hB' := hB
      obtain ⟨b1, b2, b3, b4, b5, b6, b8, b7⟩ := hB'
      have ql := nd_le 9 _ b1 b2
      simp only [f_X8_finds_b45]
      rw [b4]
      refine Ok_ife (nI_leI (by omega) (by omega)) (fun c => ?_) (fun c => ?_)
      · refine Ok_some.mpr (Or.inl ⟨rfl, fun z => z ∈ Qs, b6, fun z hz => ?_, fun w o j q1 q2 q3 => ?_⟩)
        · by_cases c2 : z = st
          · exact Or.inl c2
          · obtain ⟨l, _, _, l3, _⟩ := b7 z hz c2
            exact Or.inr ⟨(l3 z List.mem_cons_self).2.2, b8 z hz c2⟩
        obtain ⟨i', hi', e⟩ := List.getElem_of_mem q3
        have e2 : Qs.getD i' 0 = w := by rw [List.getD_eq_getElem?_getD, List.getElem?_eq_getElem hi']; exact e
        exact hd i' (by omega) o j q1 (by rw [e2]; exact q2)
      · have hil : i < Qs.length := by omega
        have wQ : Qs.getD i 0 ∈ Qs := gD_mem hil
        rw [nI_clamp (n := i) (by omega), b3 i hil]
        refine Ok_chk.mpr ⟨inb_nI (by omega) (by decide), Ok_nm.mpr ?_⟩
        refine X8_findIn N hE (f_X8_finds_b45 N ea eb n) (nI i) Qs (fun Qs' x5' org' queue' hB2 ⟨t, ht⟩ hall => ?_) N 0 Qs (nI Qs.length) org queue (by omega) (by omega) (by rw [← b4]; exact hB) wQ ⟨[], (List.append_nil _).symm⟩ (fun o j q => by omega)
        rw [nI_1]
        have hg : ∀ j, j < Qs.length → Qs'.getD j 0 = Qs.getD j 0 := fun j hj => by rw [ht, gD_l hj]
        refine ih (i + 1) Qs' x5' org' queue' (by rw [ht, List.length_append]; omega) (by omega) hB2 (fun i' q o j q1 q2 => ?_)
        rcases Nat.lt_or_ge i' i with w | w
        · rw [hg i' (by omega)] at q2
          exact (hd i' w o j q1 q2).imp (fun z => by rw [ht]; exact List.mem_append_left _ z) id
        · rw [show i' = i by omega, hg i hil] at q2
          exact hall o j q1 q2
  refine lpU (fun n i g => f_X8_finds_b3 N ea eb n (nI st) M T Gs (nI i) g queue) (fun i g => ∀ y, y < i → g y = -9) 9 ?_ ?_ N 0 _ (Nat.zero_le _) (by omega) (fun y q => by omega)
  · intro n g hg
    simp only [f_X8_finds_b3, f_X8_finds_b25]
    rw [show nI 9 = (9 : Int32) from rfl, if_pos (by decide), nI_clamp (n := st) (by omega)]
    refine Ok_chk.mpr ⟨inb_nI hst (by decide), Ok_chk.mpr ⟨by decide, ?_⟩⟩
    refine out N 0 [st] 1 _ _ (Nat.zero_le _) (by omega) ⟨by simp, fun x hx => by rw [List.mem_singleton] at hx; rw [hx]; exact hst, fun j hj => ?_, rfl, fun y y9 => ?_, by simp, fun y hy hys => absurd (List.mem_singleton.mp hy) hys, fun y hy hys => absurd (List.mem_singleton.mp hy) hys⟩ (fun j hj => by omega)
    · rw [List.length_singleton] at hj
      rw [show j = 0 by omega]
      exact pk_us
    · rw [upd_at, List.mem_singleton]
      by_cases q : y = st
      · rw [if_pos q]
        exact ⟨fun z => absurd z (nI_m9 (by omega)), fun z => absurd q z⟩
      · rw [if_neg q]
        exact ⟨fun _ => q, fun _ => hg y y9⟩
  · intro n i g hi hg ih
    simp only [f_X8_finds_b3]
    refine Ok_ife (nI_leI (a := 9) (b := i) (by omega) (by omega)) (fun c => absurd c (by omega)) (fun _ => ?_)
    rw [nI_1, nI_clamp (n := i) (by omega)]
    refine Ok_chk.mpr ⟨inb_nI hi (by decide), ih _ (fun y hy => ?_)⟩
    rw [upd_at]
    by_cases q : y = i
    · rw [if_pos q]
    · rw [if_neg q]; exact hg y (by omega)
end FND
