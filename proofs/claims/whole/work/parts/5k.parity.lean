/-! ===== parity of sums; edges as codes 9 a + b; degrees modulo 2 ===== -/
def py : Nat → (Nat → Bool) → Bool
  | 0, _ => false
  | n + 1, f => py n f ^^ f n
theorem py_cong {f g : Nat → Bool} : ∀ n, (∀ i, i < n → f i = g i) → py n f = py n g
  | 0, _ => rfl
  | n + 1, h => by
    show (py n f ^^ f n) = (py n g ^^ g n)
    rw [py_cong n (fun i hi => h i (by omega)), h n (by omega)]
theorem py_xor (f g : Nat → Bool) : ∀ n, py n (fun i => f i ^^ g i) = (py n f ^^ py n g)
  | 0 => rfl
  | n + 1 => by
    show (py n (fun i => f i ^^ g i) ^^ (f n ^^ g n)) = ((py n f ^^ f n) ^^ (py n g ^^ g n))
    rw [py_xor f g n]
    cases py n f <;> cases py n g <;> cases f n <;> cases g n <;> rfl
theorem py_false {f : Nat → Bool} : ∀ n, (∀ i, i < n → f i = false) → py n f = false
  | 0, _ => rfl
  | n + 1, h => by
    show (py n f ^^ f n) = false
    rw [py_false n (fun i hi => h i (by omega)), h n (by omega)]
    rfl
theorem py_and (c : Bool) (f : Nat → Bool) : ∀ n, py n (fun i => c && f i) = (c && py n f)
  | 0 => by cases c <;> rfl
  | n + 1 => by
    show (py n (fun i => c && f i) ^^ (c && f n)) = (c && (py n f ^^ f n))
    rw [py_and c f n]
    cases c <;> cases py n f <;> cases f n <;> rfl
theorem py_swap (f : Nat → Nat → Bool) (m : Nat) : ∀ n, py n (fun i => py m (fun j => f i j)) = py m (fun j => py n (fun i => f i j))
  | 0 => (py_false m (fun _ _ => rfl)).symm
  | n + 1 => by
    show (py n (fun i => py m (fun j => f i j)) ^^ py m (fun j => f n j)) = py m (fun j => (py n (fun i => f i j) ^^ f n j))
    rw [py_swap f m n, ← py_xor]
theorem py_ex {f : Nat → Bool} : ∀ n, py n f = true → ∃ i, i < n ∧ f i = true
  | 0, h => by cases h
  | n + 1, h => by
    change (py n f ^^ f n) = true at h
    cases c : f n with
    | true => exact ⟨n, by omega, c⟩
    | false =>
      rw [c, Bool.xor_false] at h
      obtain ⟨i, h1, h2⟩ := py_ex n h
      exact ⟨i, by omega, h2⟩
theorem py_at (f : Nat → Bool) {i : Nat} : ∀ n, i < n → py n (fun j => decide (j = i) && f j) = f i
  | 0, h => by omega
  | n + 1, h => by
    show (py n (fun j => decide (j = i) && f j) ^^ (decide (n = i) && f n)) = f i
    rcases Nat.lt_or_ge i n with c | c
    · rw [py_at f n c, decide_eq_false (by omega), Bool.false_and, Bool.xor_false]
    · obtain rfl : i = n := by omega
      rw [py_false i (fun j hj => by rw [decide_eq_false (by omega), Bool.false_and]), decide_eq_true rfl, Bool.true_and, Bool.false_xor]
theorem py_one {f : Nat → Bool} {n i : Nat} (hi : i < n) (h : ∀ j, j < n → f j = true → j = i) : py n f = f i := by
  rw [← py_at f n hi]
  refine py_cong n (fun j hj => ?_)
  cases c : f j with
  | false => rw [Bool.and_false]
  | true => rw [decide_eq_true (h j hj c)]; rfl
theorem py_two {f : Nat → Bool} {n i : Nat} (h : py n f = false) (hi : i < n) (h1 : f i = true) : ∃ j, j < n ∧ j ≠ i ∧ f j = true := by
  have e : py n (fun j => f j ^^ (decide (j = i) && true)) = true := by
    rw [py_xor, h, py_at (fun _ => true) n hi]; rfl
  obtain ⟨j, hj, q⟩ := py_ex n e
  by_cases c : j = i
  · rw [c, h1, decide_eq_true rfl] at q; cases q
  · rw [decide_eq_false c, Bool.false_and, Bool.xor_false] at q
    exact ⟨j, hj, c, q⟩
def inc (v e : Nat) : Bool := decide (v = e / 9) ^^ decide (v = e % 9)
def dg (v : Nat) (X : Nat → Bool) : Bool := py 81 (fun e => X e && inc v e)
def ev (X : Nat → Bool) : Prop := ∀ v, dg v X = false
def cd (u v : Nat) : Nat := if u < v then 9 * u + v else 9 * v + u
def sg (a : Nat) : Nat → Bool := fun e => decide (e = a)
def xs (X Y : Nat → Bool) : Nat → Bool := fun e => X e ^^ Y e
def dl (A : Nat → Bool) (e : Nat) : Bool := A (e / 9) ^^ A (e % 9)
def Sb (X Y : Nat → Bool) : Prop := ∀ e, X e = true → Y e = true
theorem dg_xs (v : Nat) (X Y : Nat → Bool) : dg v (xs X Y) = (dg v X ^^ dg v Y) := by
  unfold dg xs
  rw [← py_xor]
  refine py_cong 81 (fun e _ => ?_)
  cases X e <;> cases Y e <;> cases inc v e <;> rfl
theorem dg_cong {v : Nat} {X Y : Nat → Bool} (h : ∀ e, e < 81 → inc v e = true → X e = Y e) : dg v X = dg v Y := by
  unfold dg
  refine py_cong 81 (fun e he => ?_)
  cases c : inc v e with
  | false => rw [Bool.and_false, Bool.and_false]
  | true => rw [h e he c]
theorem dg_no {v : Nat} {X : Nat → Bool} (h : ∀ e, e < 81 → inc v e = true → X e = false) : dg v X = false := by
  unfold dg
  refine py_false 81 (fun e he => ?_)
  cases c : inc v e with
  | false => rw [Bool.and_false]
  | true => rw [h e he c]; rfl
theorem dg_ex {v : Nat} {X : Nat → Bool} (h : dg v X = true) : ∃ e, e < 81 ∧ X e = true ∧ inc v e = true := by
  obtain ⟨e, h1, h2⟩ := py_ex 81 h
  rw [Bool.and_eq_true] at h2
  exact ⟨e, h1, h2.1, h2.2⟩
theorem dg_sg (v : Nat) {a : Nat} (ha : a < 81) : dg v (sg a) = inc v a := by
  unfold dg sg
  exact py_at (fun e => inc v e) 81 ha
theorem ev_xs {X Y : Nat → Bool} (h1 : ev X) (h2 : ev Y) : ev (xs X Y) := fun v => by rw [dg_xs, h1 v, h2 v]; rfl
theorem ev_no {X : Nat → Bool} (h : ∀ e, X e = false) : ev X := fun v => dg_no (fun e _ _ => h e)
theorem ev_cong {X Y : Nat → Bool} (h : ∀ e, X e = Y e) (hx : ev X) : ev Y := by
  have : X = Y := funext h
  rw [← this]; exact hx
theorem xs_at (X Y : Nat → Bool) (e : Nat) : xs X Y e = (X e ^^ Y e) := rfl
theorem cd_comm (u v : Nat) : cd u v = cd v u := by
  unfold cd
  split <;> split <;> omega
theorem cd_lt {u v : Nat} (hu : u < 9) (hv : v < 9) : cd u v < 81 := by
  unfold cd
  split <;> omega
theorem inc_cd {u v : Nat} (hu : u < 9) (hv : v < 9) (w : Nat) : inc w (cd u v) = (decide (w = u) ^^ decide (w = v)) := by
  unfold inc cd
  split
  · rw [show (9 * u + v) / 9 = u by omega, show (9 * u + v) % 9 = v by omega]
  · rw [show (9 * v + u) / 9 = v by omega, show (9 * v + u) % 9 = u by omega, Bool.xor_comm]
theorem cd_inj {u v u' v' : Nat} (hu : u < 9) (hv : v < 9) (hu' : u' < 9) (hv' : v' < 9) (h : cd u v = cd u' v') : (u = u' ∧ v = v') ∨ (u = v' ∧ v = u') := by
  unfold cd at h
  split at h <;> split at h <;> omega
theorem dl_cd {A : Nat → Bool} {u v : Nat} (hu : u < 9) (hv : v < 9) : dl A (cd u v) = (A u ^^ A v) := by
  unfold dl cd
  split
  · rw [show (9 * u + v) / 9 = u by omega, show (9 * u + v) % 9 = v by omega]
  · rw [show (9 * v + u) / 9 = v by omega, show (9 * v + u) % 9 = u by omega, Bool.xor_comm]
theorem inc_t {v e : Nat} (h : inc v e = true) : (v = e / 9 ∨ v = e % 9) ∧ e / 9 ≠ e % 9 := by
  unfold inc at h
  by_cases c1 : v = e / 9
  · by_cases c2 : v = e % 9
    · rw [decide_eq_true c1, decide_eq_true c2] at h; cases h
    · exact ⟨Or.inl c1, fun q => c2 (c1.trans q)⟩
  · by_cases c2 : v = e % 9
    · exact ⟨Or.inr c2, fun q => c1 (c2.trans q.symm)⟩
    · rw [decide_eq_false c1, decide_eq_false c2] at h; cases h
theorem inc_l {e : Nat} (h : e / 9 ≠ e % 9) : inc (e / 9) e = true := by
  unfold inc
  rw [decide_eq_true rfl, decide_eq_false h]; rfl
theorem inc_r {e : Nat} (h : e / 9 ≠ e % 9) : inc (e % 9) e = true := by
  unfold inc
  rw [decide_eq_true rfl, decide_eq_false (fun q => h q.symm)]; rfl
theorem orth (A X : Nat → Bool) : py 9 (fun v => A v && dg v X) = py 81 (fun e => X e && dl A e) := by
  have e1 : py 9 (fun v => A v && dg v X) = py 9 (fun v => py 81 (fun e => X e && (A v && inc v e))) := by
    refine py_cong 9 (fun v _ => ?_)
    unfold dg
    rw [← py_and]
    refine py_cong 81 (fun e _ => ?_)
    cases A v <;> cases X e <;> rfl
  rw [e1, py_swap]
  refine py_cong 81 (fun e he => ?_)
  rw [py_and]
  refine congrArg (fun b => X e && b) ?_
  unfold inc dl
  have e2 : py 9 (fun v => A v && (decide (v = e / 9) ^^ decide (v = e % 9))) = py 9 (fun v => (decide (v = e / 9) && A v) ^^ (decide (v = e % 9) && A v)) := by
    refine py_cong 9 (fun v _ => ?_)
    cases A v <;> cases decide (v = e / 9) <;> cases decide (v = e % 9) <;> rfl
  rw [e2, py_xor, py_at A 9 (by omega), py_at A 9 (by omega)]
theorem orth_ev {X : Nat → Bool} (h : ev X) (A : Nat → Bool) : py 81 (fun e => X e && dl A e) = false := by
  rw [← orth]
  exact py_false 9 (fun v _ => by rw [h v, Bool.and_false])
theorem shake (X : Nat → Bool) : py 9 (fun v => dg v X) = false := by
  have := orth (fun _ => true) X
  have e : py 81 (fun e => X e && dl (fun _ => true) e) = false := py_false 81 (fun e _ => by show (X e && (true ^^ true)) = false; cases X e <;> rfl)
  rw [e] at this
  rw [← this]
  exact py_cong 9 (fun v _ => (Bool.true_and _).symm)
theorem dg_big {v : Nat} (h : 9 ≤ v) (X : Nat → Bool) : dg v X = false := by
  refine dg_no (fun e he q => ?_)
  have := (inc_t q).1
  omega
/-- where one node is odd, another one is -/
theorem odd_two {X : Nat → Bool} {v : Nat} (h : dg v X = true) : ∃ u, u < 9 ∧ u ≠ v ∧ dg u X = true := by
  have hv : v < 9 := by
    rcases Nat.lt_or_ge v 9 with c | c
    · exact c
    · rw [dg_big c] at h; cases h
  exact py_two (f := fun v => dg v X) (shake X) hv h
/-- a set whose only nodes that may be odd are two is even, or odd at both -/
theorem odd_pair {X : Nat → Bool} {u v : Nat} (huv : u ≠ v) (h : ∀ x, x ≠ u → x ≠ v → dg x X = false) : dg u X = dg v X := by
  cases c : dg u X with
  | true =>
    obtain ⟨w, _, h1, h2⟩ := odd_two c
    by_cases q : w = v
    · rw [← q, h2]
    · rw [h w h1 q] at h2; cases h2
  | false =>
    cases c2 : dg v X with
    | false => rfl
    | true =>
      obtain ⟨w, _, h1, h2⟩ := odd_two c2
      by_cases q : w = u
      · rw [q, c] at h2; cases h2
      · rw [h w q h1] at h2; cases h2
theorem odd_none {X : Nat → Bool} {u : Nat} (h : ∀ x, x ≠ u → dg x X = false) : ev X := by
  intro v
  cases c : dg v X with
  | false => rfl
  | true =>
    obtain ⟨w, _, h1, h2⟩ := odd_two c
    by_cases q : w = u
    · by_cases q2 : v = u
      · omega
      · rw [h v q2] at c; cases c
    · rw [h w q] at h2; cases h2
