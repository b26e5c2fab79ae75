/-! ===== the class finds a path through a piece ===== -/
def Fo (org : Nat → Int32) (st : Nat) : Nat → List Nat → Prop
  | y, [] => org y = nI st
  | y, z :: t => org y = nI z ∧ Fo org st z t
theorem Fo_upd {org : Nat → Int32} {st o : Nat} {x : Int32} : ∀ {l : List Nat} {y : Nat}, o ∉ y :: l → Fo org st y l → Fo (upd org o x) st y l
  | [], y, hn, h => by
    show upd org o x y = nI st
    rw [pk_un (fun q => hn (by rw [q]; exact List.mem_cons_self))]; exact h
  | z :: t, y, hn, h => by
    refine ⟨?_, Fo_upd (fun q => hn (List.mem_cons_of_mem _ q)) h.2⟩
    rw [pk_un (fun q => hn (by rw [q]; exact List.mem_cons_self))]; exact h.1
theorem X4_trace (N : Nat) {org : Nat → Int32} {st : Nat} (hst : st < 9) (len : Int32) : ∀ (l : List Nat) (y n : Nat) (P : List Nat) (p : Nat → Int32), Fo org st y l → st ∉ y :: l → (∀ x, x ∈ y :: l → x < 9) → PA p P → P.length + l.length + 2 ≤ 9 → l.length + 1 < n → Ok (f_X4_tracePath_b13 N org n (nI st) (nI y) (nI P.length) p len) (fun r => PA r.1 (P ++ ((y :: l) ++ [st])) ∧ r.2 = nI (P ++ ((y :: l) ++ [st])).length) := by
  have lst : ∀ (P : List Nat) (p : Nat → Int32), PA p P → P.length < 9 → Ok (f_X4_tracePath_b50 N org (nI st) (nI P.length) p len) (fun r => PA r.1 (P ++ [st]) ∧ r.2 = nI (P ++ [st]).length) := by
    intro P p hp hl
    unfold f_X4_tracePath_b50
    rw [nI_clamp (n := P.length) (by omega), nI_1]
    exact Ok_chk.mpr ⟨inb_nI hl (by decide), Ok_some.mpr ⟨PA_snoc hp st, by rw [List.length_append]; rfl⟩⟩
  have fin : ∀ (n : Nat) (P : List Nat) (p : Nat → Int32), PA p P → P.length < 9 → 0 < n → Ok (f_X4_tracePath_b13 N org n (nI st) (nI st) (nI P.length) p len) (fun r => PA r.1 (P ++ [st]) ∧ r.2 = nI (P ++ [st]).length) := by
    intro n P p hp hl hn
    obtain ⟨n, rfl⟩ : ∃ k, n = k + 1 := ⟨n - 1, by omega⟩
    simp only [f_X4_tracePath_b13]
    refine Ok_ife (nI_leI (a := 8) (b := P.length) (by omega) (by omega)) (fun _ => lst P p hp hl) (fun _ => ?_)
    rw [if_pos trivial]
    exact lst P p hp hl
  intro l
  induction l with
  | nil =>
    intro y n P p hF hs h9 hp h1 h3
    obtain ⟨n, rfl⟩ : ∃ k, n = k + 1 := ⟨n - 1, by omega⟩
    rw [List.length_nil] at h1 h3
    have y9 := h9 y List.mem_cons_self
    have hF' : org y = nI st := hF
    simp only [f_X4_tracePath_b13]
    refine Ok_ife (nI_leI (a := 8) (b := P.length) (by omega) (by omega)) (fun c => absurd c (by omega)) (fun _ => ?_)
    rw [if_neg (fun q => hs (by rw [(nI_eq (by omega) (by omega)).mp q]; exact List.mem_cons_self)), nI_clamp (n := P.length) (by omega), nI_clamp (n := y) (by omega), hF', nI_1]
    refine Ok_chk.mpr ⟨inb_nI (by omega) (by decide), Ok_chk.mpr ⟨inb_nI (by omega) (by decide), Ok_nm.mpr ?_⟩⟩
    have e : P.length + 1 = (P ++ [y]).length := by rw [List.length_append]; rfl
    have := fin n (P ++ [y]) _ (PA_snoc hp y) (by rw [← e]; omega) (by omega)
    rw [← e, show (P ++ [y]) ++ [st] = P ++ (([y] : List Nat) ++ [st]) by rw [List.append_assoc]] at this
    exact this
  | cons z t ih =>
    intro y n P p hF hs h9 hp h1 h3
    obtain ⟨n, rfl⟩ : ∃ k, n = k + 1 := ⟨n - 1, by omega⟩
    rw [List.length_cons] at h1 h3
    have y9 := h9 y List.mem_cons_self
    simp only [f_X4_tracePath_b13]
    refine Ok_ife (nI_leI (a := 8) (b := P.length) (by omega) (by omega)) (fun c => absurd c (by omega)) (fun _ => ?_)
    rw [if_neg (fun q => hs (by rw [(nI_eq (by omega) (by omega)).mp q]; exact List.mem_cons_self)), nI_clamp (n := P.length) (by omega), nI_clamp (n := y) (by omega), hF.1, nI_1]
    refine Ok_chk.mpr ⟨inb_nI (by omega) (by decide), Ok_chk.mpr ⟨inb_nI (by omega) (by decide), Ok_nm.mpr ?_⟩⟩
    have e : P.length + 1 = (P ++ [y]).length := by rw [List.length_append]; rfl
    have := ih z n (P ++ [y]) _ hF.2 (fun q => hs (List.mem_cons_of_mem _ q)) (fun x hx => h9 x (List.mem_cons_of_mem _ hx)) (PA_snoc hp y) (by rw [← e]; omega) (by omega)
    rw [← e, show (P ++ [y]) ++ ((z :: t) ++ [st]) = P ++ ((y :: z :: t) ++ [st]) by simp] at this
    exact this
def BI (rest : Nat → Int32) (ins : Int32) (org queue : Nat → Int32) (x3 x4 : Int32) (st : Nat) (Qs : List Nat) : Prop :=
  Qs.Nodup ∧ (∀ x, x ∈ Qs → x < 9) ∧ PA queue Qs ∧ x3 = nI Qs.length ∧ (∀ b, bt x4 b = decide (b ∈ Qs)) ∧ st ∈ Qs ∧ ∀ y, y ∈ Qs → y ≠ st → ∃ l, Fo org st y l ∧ (y :: l).Nodup ∧ (∀ z, z ∈ y :: l → z ∈ Qs ∧ z ≠ st ∧ bt ins z = true) ∧ Lk (gx rest) (y :: (l ++ [st]))
theorem X4_findIn (N : Nat) {rest : Nat → Int32} (hS : Sy rest) {ins en : Int32} (hin : ∀ z, bt ins z = true → z < 9) {st w : Nat} (hst : bt ins st = false) (k68 : Int32 → Int32 → Int32 → Int32 → Int32 → (Nat → Int32) → Int32 → (Nat → Int32) → (Nat → Int32) → Option ((Nat → Int32) × Int32 × (Nat → Int32) × (Nat → Int32))) (x1 x2 x5 : Int32) (path : Nat → Int32) (len : Int32) (Q : (Nat → Int32) × Int32 × (Nat → Int32) × (Nat → Int32) → Prop) (Qs0 : List Nat)
    (hQ : ∀ Qs x3 x4 queue org, BI rest ins org queue x3 x4 st Qs → (∃ t, Qs = Qs0 ++ t) → (∀ o, bt (rest w) o = true → bt ins o = true → o ∈ Qs) → Ok (k68 x1 x2 x3 x4 (x5 + 1) path len queue org) Q) :
    ∀ (n o : Nat) (Qs : List Nat) (x3 x4 : Int32) (queue org : Nat → Int32), o ≤ 9 → 9 - o < n → BI rest ins org queue x3 x4 st Qs → w ∈ Qs → (∃ t, Qs = Qs0 ++ t) → (∀ o', o' < o → bt (rest w) o' = true → bt ins o' = true → o' ∈ Qs) → Ok (f_X4_findPath_b131 N rest ins en k68 n x1 x2 x3 x4 x5 (nI w) (nI o) path len queue org) Q := by
  intro n
  induction n with
  | zero => intro o _ _ _ _ _ _ q; omega
  | succ n ih =>
    intro o Qs x3 x4 queue org ho hm hB hw hx hd
    have hB' := hB
    obtain ⟨b1, b2, b3, b4, b5, b6, b7⟩ := hB'
    have w9 := b2 w hw
    simp only [f_X4_findPath_b131, f_X4_findPath_b205, f_X4_findPath_b199]
    refine Ok_ife (nI_leI (a := 9) (b := o) (by omega) (by omega)) (fun c => ?_) (fun c => ?_)
    · exact hQ Qs x3 x4 queue org hB hx (fun o' q1 q2 => hd o' (by have := hin o' q2; omega) q1 q2)
    · rw [nI_clamp (n := w) (by omega), X7_contains N (by omega), nI_1, nI_clamp (n := o) (by omega), X7_bit]
      have hbit : bt ((rest w &&& ins) &&& (x4 ^^^ (-1))) o = ((bt (rest w) o && bt ins o) && !decide (o ∈ Qs)) := by
        rw [b_and, b_and, b_not _ (by omega), b5]
      refine Ok_chk.mpr ⟨inb_nI w9 (by decide), Ok_bd1.mpr (Ok_some.mpr (Ok_ife bI_0 (fun c2 => ?_) (fun c2 => ?_)))⟩
      · refine ih (o + 1) Qs x3 x4 queue org (by omega) (by omega) hB hw hx (fun o' q1 q2 q3 => ?_)
        rcases Nat.lt_or_ge o' o with q | q
        · exact hd o' q q2 q3
        · have e : o' = o := by omega
          rw [hbit, ← e, q2, q3, Bool.and_self, Bool.true_and, Bool.not_eq_false', decide_eq_true_eq] at c2
          exact c2
      · rw [Bool.not_eq_false, hbit, Bool.and_eq_true, Bool.and_eq_true, Bool.not_eq_true', decide_eq_false_iff_not] at c2
        obtain ⟨⟨c3, c4⟩, c5⟩ := c2
        have so := hS w w9 o c3
        have nq : (Qs ++ [o]).Nodup := List.nodup_append.mpr ⟨b1, by simp, fun a ha b hb q => c5 (by rw [List.mem_singleton] at hb; rw [← hb, ← q]; exact ha)⟩
        have m9 : ∀ x, x ∈ Qs ++ [o] → x < 9 := fun x hx => by
          rcases List.mem_append.mp hx with q | q
          · exact b2 x q
          · rw [List.mem_singleton] at q; rw [q]; exact so.1
        have len9 := nd_le 9 _ nq m9
        rw [List.length_append, List.length_singleton] at len9
        rw [b4, nI_clamp (n := Qs.length) (by omega), nI_1]
        refine Ok_ife (nI_leI (a := 9) (by omega) (by omega)) (fun c => absurd c (by omega)) (fun _ => ?_)
        refine Ok_chk.mpr ⟨inb_nI (by omega) (by decide), Ok_chk.mpr ⟨inb_nI (by omega) (by decide), Ok_bd1.mpr (Ok_some.mpr (Ok_nm.mpr ?_))⟩⟩
        have os : o ≠ st := fun q => by rw [q, hst] at c4; cases c4
        refine ih (o + 1) (Qs ++ [o]) _ _ _ _ (by omega) (by omega) ⟨nq, m9, PA_snoc b3 o, by rw [List.length_append]; rfl, fun b => ?_, List.mem_append_left _ b6, fun y hy hys => ?_⟩ (List.mem_append_left _ hw) ?_ (fun o' q1 q2 q3 => ?_)
        · rw [b_or, b5, b_bit (by omega), ← Bool.decide_or]
          exact decide_eq_decide.mpr (by rw [List.mem_append, List.mem_singleton])
        · rcases List.mem_append.mp hy with q | q
          · obtain ⟨l, l1, l2, l3, l4⟩ := b7 y q hys
            exact ⟨l, Fo_upd (fun z => c5 (l3 o z).1) l1, l2, fun z hz => ⟨List.mem_append_left _ (l3 z hz).1, (l3 z hz).2⟩, l4⟩
          · rw [List.mem_singleton] at q
            rw [q]
            have ad : gx rest (cd o w) = true := by rw [cd_comm, gx_cd hS w9 so.1 (Ne.symm so.2.1)]; exact c3
            by_cases ws : w = st
            · refine ⟨[], ?_, by simp, fun z hz => ?_, ?_⟩
              · show upd org o (nI w) o = nI st
                rw [pk_us, ws]
              · rw [List.mem_singleton] at hz
                rw [hz]; exact ⟨by simp, os, c4⟩
              · rw [ws] at ad
                exact Lk_cons (Lk_one _ _) ad
            · obtain ⟨l, l1, l2, l3, l4⟩ := b7 w hw ws
              refine ⟨w :: l, ⟨pk_us, Fo_upd (fun z => c5 (l3 o z).1) l1⟩, List.nodup_cons.mpr ⟨fun z => c5 (l3 o z).1, l2⟩, fun z hz => ?_, Lk_cons l4 ad⟩
              rcases List.mem_cons.mp hz with z1 | z1
              · rw [z1]; exact ⟨by simp, os, c4⟩
              · exact ⟨List.mem_append_left _ (l3 z z1).1, (l3 z z1).2⟩
        · obtain ⟨t, ht⟩ := hx
          exact ⟨t ++ [o], by rw [ht, List.append_assoc]⟩
        · rcases Nat.lt_or_ge o' o with q | q
          · exact List.mem_append_left _ (hd o' q q2 q3)
          · rw [show o' = o by omega]; simp
def PFd (rest : Nat → Int32) (ins en : Int32) (r : (Nat → Int32) × Int32 × (Nat → Int32) × (Nat → Int32)) : Prop := ∃ a b m, PA r.1 (a :: (m ++ [b])) ∧ r.2.1 = nI (m.length + 2) ∧ a ≠ b ∧ bt en a = true ∧ bt en b = true ∧ m.Nodup ∧ (∀ x, x ∈ m → bt ins x = true) ∧ Lk (gx rest) (a :: (m ++ [b])) ∧ (¬ ins = 0 → m ≠ [])
theorem X4_findOut (N : Nat) (hN : 30 < N) {rest : Nat → Int32} (hS : Sy rest) {ins en : Int32} {H : Nat → Bool} {v : Nat} (hv9 : v < 9) (hv : ¬ VH H v) (hins : ∀ y, bt ins y = true ↔ rc (gx rest) H v y) (hen : ∀ c, bt en c = true ↔ VH H c ∧ ∃ y, rc (gx rest) H v y ∧ gx rest (cd y c) = true) (h9 : ∀ c, bt en c = true → c < 9) {st g0 : Nat} (hst : bt en st = true) (hg0 : bt en g0 = true) (hne : g0 ≠ st) {x2 : Int32} (hx2 : ∀ g, g < 9 → (bt x2 g = true ↔ bt en g = true ∧ g ≠ st)) (path : Nat → Int32) (len : Int32) :
    ∀ (n i : Nat) (Qs : List Nat) (x3 x4 : Int32) (queue org : Nat → Int32), i ≤ Qs.length → 9 - i < n → BI rest ins org queue x3 x4 st Qs → (∀ j, j < i → (Qs.getD j 0 ≠ st → ∀ g, bt x2 g = true → bt (rest (Qs.getD j 0)) g = false) ∧ ∀ o, bt (rest (Qs.getD j 0)) o = true → bt ins o = true → o ∈ Qs) → Ok (f_X4_findPath_b68 N rest ins en n (nI st) x2 x3 x4 (nI i) path len queue org) (PFd rest ins en) := by
  have in9 : ∀ z, bt ins z = true → z < 9 := fun z hz => rc_lt hv9 ((hins z).mp hz)
  have ino : ∀ z, bt ins z = true → ¬ VH H z := fun z hz => rc_off hv ((hins z).mp hz)
  have st9 := h9 st hst
  have stV := ((hen st).mp hst).1
  have sti : bt ins st = false := by
    cases c : bt ins st with
    | false => rfl
    | true => exact absurd stV (ino st c)
  intro n
  induction n with
  | zero => intro i _ _ _ _ _ _ q; omega
  | succ n ih =>
    intro i Qs x3 x4 queue org hi hm hB hd
    have hB' := hB
    obtain ⟨b1, b2, b3, b4, b5, b6, b7⟩ := hB'
    have ql := nd_le 9 _ b1 b2
    simp only [f_X4_findPath_b68, f_X4_findPath_b128, f_X4_findPath_b108]
    rw [b4]
    refine Ok_ife (nI_leI (by omega) (by omega)) (fun c => ?_) (fun c => ?_)
    · exfalso
      have all : ∀ w, w ∈ Qs → (w ≠ st → ∀ g, bt x2 g = true → bt (rest w) g = false) ∧ ∀ o, bt (rest w) o = true → bt ins o = true → o ∈ Qs := by
        intro w hw
        obtain ⟨j, hj, e⟩ := List.getElem_of_mem hw
        have e2 : Qs.getD j 0 = w := by rw [List.getD_eq_getElem?_getD, List.getElem?_eq_getElem hj]; exact e
        rw [← e2]
        exact hd j (by omega)
      have adj : ∀ {y c : Nat}, y < 9 → c < 9 → y ≠ c → gx rest (cd y c) = true → bt (rest y) c = true := fun h1 h2 h3 h4 => by rw [← gx_cd hS h1 h2 h3]; exact h4
      obtain ⟨_, y0, y1, y2⟩ := (hen st).mp hst
      have y9 := rc_lt hv9 y1
      have yo := rc_off hv y1
      have ys : y0 ≠ st := fun q => yo (by rw [q]; exact stV)
      have yQ : y0 ∈ Qs := (all st b6).2 y0 (by rw [← Sy_c hS y9 st9]; exact adj y9 st9 ys y2) ((hins y0).mpr y1)
      obtain ⟨gV, y, z1, z2⟩ := (hen g0).mp hg0
      have z9 := rc_lt hv9 z1
      have zo := rc_off hv z1
      have zr := rc_trans (rc_symm hv9 hv y1) z1
      have zQ := zr (fun z => z ∈ Qs ∧ bt ins z = true) ⟨yQ, (hins y0).mpr y1⟩ (fun u w ⟨q1, q2⟩ q3 q4 q5 q6 => by
        have wi : bt ins w = true := (hins w).mpr (rc_step ((hins u).mp q2) q3 q4 q5 q6)
        exact ⟨(all u q1).2 w (adj (b2 u q1) q3 q4 q5) wi, wi⟩)
      have g9 := h9 g0 hg0
      have bad := (all y zQ.1).1 (fun q => zo (by rw [q]; exact stV)) g0 ((hx2 g0 g9).mpr ⟨hg0, hne⟩)
      rw [adj z9 g9 (fun q => zo (by rw [q]; exact gV)) z2] at bad
      cases bad
    · have hil : i < Qs.length := by omega
      refine Ok_ife (nI_leI (a := 9) (b := i) (by omega) (by omega)) (fun c2 => absurd c2 (by omega)) (fun _ => ?_)
      have wQ : Qs.getD i 0 ∈ Qs := gD_mem hil
      have w9 := b2 _ wQ
      rw [nI_clamp (n := i) (by omega), b3 i hil]
      refine Ok_chk.mpr ⟨inb_nI (by omega) (by decide), Ok_nm.mpr ?_⟩
      have go : (Qs.getD i 0 ≠ st → ∀ g, bt x2 g = true → bt (rest (Qs.getD i 0)) g = false) → Ok (f_X4_findPath_b131 N rest ins en (f_X4_findPath_b68 N rest ins en n) N (nI st) x2 (nI Qs.length) x4 (nI i) (nI (Qs.getD i 0)) 0 path len queue org) (PFd rest ins en) := by
        intro hno
        refine X4_findIn N hS in9 sti (f_X4_findPath_b68 N rest ins en n) (nI st) x2 (nI i) path len (PFd rest ins en) Qs (fun Qs' x3' x4' queue' org' hB2 ⟨t, ht⟩ hall => ?_) N 0 Qs (nI Qs.length) x4 queue org (by omega) (by omega) (by rw [← b4]; exact hB) wQ ⟨[], (List.append_nil _).symm⟩ (fun o q => by omega)
        rw [nI_1]
        have hg : ∀ j, j < Qs.length → Qs'.getD j 0 = Qs.getD j 0 := fun j hj => by rw [ht, gD_l hj]
        refine ih (i + 1) Qs' x3' x4' queue' org' (by rw [ht, List.length_append]; omega) (by omega) hB2 (fun j hj => ?_)
        rcases Nat.lt_or_ge j i with q | q
        · rw [hg j (by omega)]
          exact ⟨(hd j q).1, fun o o1 o2 => by rw [ht]; exact List.mem_append_left _ ((hd j q).2 o o1 o2)⟩
        · have e : j = i := by omega
          rw [e, hg i hil]
          exact ⟨hno, hall⟩
      refine Ok_ife (nI_eq (by omega) (by omega)) (fun c3 => go (fun q => absurd c3 q)) (fun c3 => ?_)
      rw [nI_clamp (n := Qs.getD i 0) (by omega)]
      refine Ok_chk.mpr ⟨inb_nI w9 (by decide), Ok_ite.mpr ⟨fun c4 => go (fun _ g hg => ?_), fun c4 => Ok_chk.mpr ⟨inb_nI w9 (by decide), Ok_bd1.mpr (Ok_mono (X7_small N hN _) (fun r hr => ?_))⟩⟩⟩
      · cases q : bt (rest (Qs.getD i 0)) g with
        | false => rfl
        | true =>
          have g9 := (hS _ w9 g q).1
          have := b_zero.mp c4 g (by omega)
          rw [b_and, q, hg] at this
          cases this
      · rcases hr with ⟨g, g9, g2, rfl⟩ | ⟨_, hz⟩
        · rw [b_and, Bool.and_eq_true] at g2
          have hg := (hx2 g g9).mp g2.2
          obtain ⟨l, l1, l2, l3, l4⟩ := b7 _ wQ c3
          generalize Qs.getD i 0 = w at *
          unfold f_X4_tracePath
          have gV := ((hen g).mp hg.1).1
          have gi : ∀ z, z ∈ w :: l → z ≠ g := fun z hz q => ino z (l3 z hz).2.2 (by rw [q]; exact gV)
          have nd : (g :: (w :: (l ++ [st]))).Nodup := by
            refine List.nodup_cons.mpr ⟨fun q => ?_, ?_⟩
            · rw [← List.cons_append] at q
              rcases List.mem_append.mp q with q | q
              · exact gi g q rfl
              · rw [List.mem_singleton] at q; exact hg.2 q
            · rw [← List.cons_append]
              exact List.nodup_append.mpr ⟨l2, by simp, fun x hx y hy q => by
                rw [List.mem_singleton] at hy
                exact (l3 x hx).2.1 (q.trans hy)⟩
          have m9 : ∀ x, x ∈ g :: (w :: (l ++ [st])) → x < 9 := fun x hx => by
            rcases List.mem_cons.mp hx with q | q
            · rw [q]; exact g9
            · rw [← List.cons_append] at q
              rcases List.mem_append.mp q with q | q
              · exact in9 x (l3 x q).2.2
              · rw [List.mem_singleton] at q; rw [q]; exact st9
          have ln := nd_le 9 _ nd m9
          simp only [List.length_cons, List.length_append, List.length_nil] at ln
          have tr := X4_trace N (org := org) st9 len l w N [g] (upd path 0 (nI g)) l1 (fun q => (l3 st q).2.1 rfl) (fun x hx => in9 x (l3 x hx).2.2) (fun j hj => by
            rw [List.length_singleton] at hj
            rw [show j = 0 by omega, pk_us]; rfl) (by show 1 + l.length + 2 ≤ 9; omega) (by omega)
          refine Ok_bd1.mpr (Ok_chk.mpr ⟨by decide, Ok_mono tr (fun r hr => Ok_some.mpr ⟨g, st, w :: l, hr.1, ?_, hg.2, hg.1, hst, l2, fun x hx => (l3 x hx).2.2, ?_, fun _ q => by cases q⟩)⟩)
          · rw [hr.2]
            congr 1
            simp
          · refine Lk_cons l4 ?_
            rw [cd_comm, gx_cd hS w9 g9 (gi w List.mem_cons_self)]; exact g2.1
        · exfalso
          refine c4 (b_zero.mpr (fun b _ => ?_))
          cases q : bt (rest (Qs.getD i 0) &&& x2) b with
          | false => rfl
          | true =>
            have q2 := q
            rw [b_and, Bool.and_eq_true] at q2
            rw [hz b (hS _ w9 b q2.1).1] at q; cases q
theorem X4_findPath (N : Nat) (hN : 30 < N) {rest : Nat → Int32} (hS : Sy rest) {H : Nat → Bool} (hVH : ∀ x, VH H x → x < 9) {ins en : Int32} (hF : Frg (gx rest) H ins en) (path : Nat → Int32) (len : Int32) (queue org : Nat → Int32) : Ok (f_X4_findPath N rest path len queue org ins en) (PFd rest ins en) := by
  have h9 : ∀ c, bt en c = true → c < 9 := by
    rcases hF with ⟨_, a, b, a1, b1, _, _, _, _, _, h⟩ | ⟨_, v, _, _, _, h, _⟩
    · intro c hc
      rcases (h c).mp hc with q | q <;> rw [q] <;> assumption
    · exact fun c hc => hVH c ((h c).mp hc).1
  have two : ∃ a b, a ≠ b ∧ bt en a = true ∧ bt en b = true := by
    rcases hF with ⟨_, a, b, a1, b1, hab, _, _, _, _, h⟩ | ⟨_, v, _, _, _, _, h⟩
    · exact ⟨a, b, hab, (h a).mpr (Or.inl rfl), (h b).mpr (Or.inr rfl)⟩
    · exact h
  obtain ⟨a, b, hab, ha, hb⟩ := two
  unfold f_X4_findPath
  refine Ok_bd1.mpr (Ok_mono (X7_small N hN en) (fun r hr => ?_))
  rcases hr with ⟨s, s9, hs, rfl⟩ | ⟨_, hz⟩
  · rw [X7_bit]
    refine Ok_bd1.mpr (Ok_some.mpr (Ok_nm.mpr ?_))
    have hx2 : ∀ g, g < 9 → (bt (en &&& (((1 : Int32) <<< (nI s &&& 31)) ^^^ (-1))) g = true ↔ bt en g = true ∧ g ≠ s) := fun g hg => by
      rw [b_and, b_not _ (by omega), b_bit (by omega), Bool.and_eq_true, Bool.not_eq_true', decide_eq_false_iff_not]
    obtain ⟨g0, hg0, hne⟩ : ∃ g, bt en g = true ∧ g ≠ s := by
      by_cases c : a = s
      · exact ⟨b, hb, fun q => hab (c.trans q.symm)⟩
      · exact ⟨a, ha, c⟩
    rcases hF with ⟨h0, a', b', a1, b1, hab', _, _, hg, _, h⟩ | ⟨h0, v, v9, vo, hins, hen, _⟩
    · rw [if_neg (fun q => q h0)]
      refine Ok_chk.mpr ⟨by decide, Ok_bd1.mpr (Ok_mono (X7_small N hN _) (fun r hr => ?_))⟩
      rcases hr with ⟨g, g9, hgx, rfl⟩ | ⟨_, hz⟩
      · have hg2 := (hx2 g g9).mp hgx
        refine Ok_chk.mpr ⟨by decide, Ok_some.mpr ⟨s, g, [], fun j hj => ?_, rfl, Ne.symm hg2.2, hs, hg2.1, List.nodup_nil, fun x hx => (by cases hx), Lk_cons (Lk_one _ _) ?_, fun q => absurd h0 q⟩⟩
        · have hj2 : j < 2 := hj
          show upd (upd path 0 (nI s)) 1 (nI g) j = _
          rw [upd_at]
          by_cases c : j = 1
          · rw [if_pos c, c]; rfl
          · rw [if_neg c, show j = 0 by omega, pk_us]; rfl
        · rcases (h s).mp hs with q | q
          · rcases (h g).mp hg2.1 with w | w
            · exact absurd (w.trans q.symm) hg2.2
            · rw [q, w]; exact hg
          · rcases (h g).mp hg2.1 with w | w
            · rw [q, w, cd_comm]; exact hg
            · exact absurd (w.trans q.symm) hg2.2
      · have := hz g0 (h9 g0 hg0)
        rw [(hx2 g0 (h9 g0 hg0)).mpr ⟨hg0, hne⟩] at this; cases this
    · rw [if_pos h0]
      refine Ok_chk.mpr ⟨by decide, Ok_bd1.mpr (Ok_some.mpr ?_)⟩
      refine X4_findOut N hN hS v9 vo hins hen h9 hs hg0 hne hx2 path len N 0 [s] 1 _ _ org (Nat.zero_le _) (by omega) ⟨by simp, fun x hx => by rw [List.mem_singleton] at hx; rw [hx]; exact s9, fun j hj => ?_, rfl, fun b => ?_, by simp, fun y hy hys => absurd (List.mem_singleton.mp hy) hys⟩ (fun j hj => by omega)
      · rw [List.length_singleton] at hj
        rw [show j = 0 by omega]
        exact pk_us
      · rw [b_bit (by omega)]
        exact decide_eq_decide.mpr List.mem_singleton.symm
  · have := hz a (h9 a ha)
    rw [ha] at this; cases this
