/-! ===== sums; five nodes with a pair that isn't joined can be drawn ===== -/
def sj (f : Nat → Nat) : Nat → Nat
  | 0 => 0
  | n + 1 => sj f n + f n
theorem sj_cong {f g : Nat → Nat} : ∀ n, (∀ k, k < n → f k = g k) → sj f n = sj g n
  | 0, _ => rfl
  | n + 1, h => by
    show sj f n + f n = sj g n + g n
    rw [sj_cong n (fun k hk => h k (by omega)), h n (by omega)]
theorem sj_upd (f : Nat → Nat) (b : Nat) {i : Nat} : ∀ n, i < n → sj (fun k => if k = i then b else f k) n + f i = sj f n + b
  | 0, h => by omega
  | n + 1, h => by
    show sj (fun k => if k = i then b else f k) n + (if n = i then b else f n) + f i = sj f n + f n + b
    rcases Nat.lt_or_ge i n with c | c
    · have := sj_upd f b n c
      rw [if_neg (by omega)]
      omega
    · obtain rfl : i = n := by omega
      rw [if_pos rfl, sj_cong (f := fun k => if k = i then b else f k) (g := f) i (fun k hk => if_neg (by omega))]
      omega
theorem sj_list {k n : Nat} : ∀ (l : List Nat) (f : Nat → Nat), l.Nodup → (∀ x, x ∈ l → x < n ∧ k ≤ f x) → k * l.length ≤ sj f n
  | [], f, _, _ => Nat.zero_le _
  | a :: t, f, hn, h => by
    have hn' := List.nodup_cons.mp hn
    have h1 := sj_list t (fun j => if j = a then 0 else f j) hn'.2 (fun x hx => by
      have := h x (List.mem_cons_of_mem _ hx)
      refine ⟨this.1, ?_⟩
      show k ≤ if x = a then 0 else f x
      rw [if_neg (fun q => hn'.1 (by rw [← q]; exact hx))]
      exact this.2)
    have ha := h a List.mem_cons_self
    have h2 := sj_upd f 0 n ha.1
    rw [List.length_cons, Nat.mul_add, Nat.mul_one]
    omega
theorem sj_ct (p : Nat → Bool) : ∀ n, fb_ct p n = sj (fun i => if p i = true then 1 else 0) n
  | 0 => rfl
  | n + 1 => by
    show fb_ct p n + (if p n = true then 1 else 0) = sj _ n + (if p n = true then 1 else 0)
    rw [sj_ct p n]
theorem ct_list {p : Nat → Bool} {n : Nat} {l : List Nat} (hn : l.Nodup) (h : ∀ x, x ∈ l → x < n ∧ p x = true) : l.length ≤ fb_ct p n := by
  rw [sj_ct]
  have := sj_list (k := 1) (n := n) l (fun i => if p i = true then 1 else 0) hn (fun x hx => ⟨(h x hx).1, by
    show 1 ≤ if p x = true then 1 else 0
    rw [if_pos (h x hx).2]; exact Nat.le_refl 1⟩)
  omega
theorem ct_len (p : Nat → Bool) : ∀ n, ((List.range n).filter p).length = fb_ct p n
  | 0 => rfl
  | n + 1 => by
    rw [List.range_succ, List.filter_append, List.length_append, ct_len p n, fb_ct_succ]
    cases c : p n with
    | true => rw [List.filter_cons_of_pos c]; rfl
    | false => rw [List.filter_cons_of_neg (by rw [c]; decide)]; rfl
/-- at most five nodes lie in a list of five -/
theorem five {p : Nat → Bool} (h : fb_ct p 9 ≤ 5) : ∃ l : List Nat, l.Nodup ∧ l.length = 5 ∧ (∀ x, x ∈ l → x < 9) ∧ ∀ x, x < 9 → p x = true → x ∈ l := by
  have l1 := ct_len p 9
  have l2 := ct_len (fun k => !p k) 9
  have l3 := fb_ct_not p 9
  have nd : ((List.range 9).filter p ++ (List.range 9).filter (fun k => !p k)).Nodup := by
    refine List.nodup_append.mpr ⟨List.Nodup.sublist List.filter_sublist List.nodup_range, List.Nodup.sublist List.filter_sublist List.nodup_range, fun a ha b hb q => ?_⟩
    have h1 := (List.mem_filter.mp ha).2
    have h2 := (List.mem_filter.mp hb).2
    rw [q] at h1
    rw [h1] at h2
    cases h2
  refine ⟨((List.range 9).filter p ++ (List.range 9).filter (fun k => !p k)).take 5, List.Nodup.sublist (List.take_sublist 5 _) nd, ?_, fun x hx => ?_, fun x hx hp => ?_⟩
  · rw [List.length_take, List.length_append]
    omega
  · have := List.mem_append.mp (List.mem_of_mem_take hx)
    rcases this with q | q
    · exact List.mem_range.mp (List.mem_filter.mp q).1
    · exact List.mem_range.mp (List.mem_filter.mp q).1
  · rw [List.take_append, List.mem_append]
    refine Or.inl ?_
    rw [List.take_of_length_le (by omega)]
    exact List.mem_filter.mpr ⟨List.mem_range.mpr hx, hp⟩
/-- three nodes joined with each other, and two that are joined with these -/
theorem K5e {a b c d g : Nat} (ha : a < 9) (hb : b < 9) (hc : c < 9) (hd : d < 9) (hg : g < 9) (hn : [a, b, c, d, g].Nodup) : ∃ H, Pl H ∧ ∀ x y, x ∈ [a, b, c, d, g] → y ∈ [a, b, c, d, g] → x ≠ y → ¬ (x = a ∧ y = b) → ¬ (x = b ∧ y = a) → H (cd x y) = true := by
  have n : a ≠ b ∧ a ≠ c ∧ a ≠ d ∧ a ≠ g ∧ b ≠ c ∧ b ≠ d ∧ b ≠ g ∧ c ≠ d ∧ c ≠ g ∧ d ≠ g := by
    simp only [List.nodup_cons, List.mem_cons, List.not_mem_nil, or_false, not_or] at hn
    exact ⟨hn.1.1, hn.1.2.1, hn.1.2.2.1, hn.1.2.2.2, hn.2.1.1, hn.2.1.2.1, hn.2.1.2.2, hn.2.2.1.1, hn.2.2.1.2, hn.2.2.2.1⟩
  obtain ⟨ab, ac, ad, ag, bc, bd, bg, cd', cg, dg'⟩ := n
  have C0 : Cy [c, d, g] := ⟨by simp [cd', cg, dg'], Nat.le_refl 3, by simp; omega⟩
  have I0 := Iv_start C0
  have V0 : ∀ x, VH (cs [c, d, g]) x ↔ x = c ∨ x = d ∨ x = g := fun x => by rw [VH_cs C0]; simp
  have S1 : Sp (cs [c, d, g]) 2 (fun _ => [c, d, g]) 0 c d [] [g] [a] := ⟨by decide, ⟨[], [c, d, g], rfl, rfl⟩, by simp, fun x hx => by
    rw [List.mem_singleton] at hx
    rw [hx, V0]
    exact ⟨ha, by omega⟩, fun q => by cases q⟩
  have I1 := Iv_step I0 S1
  have V1 : ∀ x, VH (xs (cs [c, d, g]) (wk c ([a] ++ [d]))) x ↔ (x = c ∨ x = d ∨ x = g) ∨ x = a := fun x => by
    rw [Sp_VH I0 S1, V0, List.mem_singleton]
  have S2 : Sp (xs (cs [c, d, g]) (wk c ([a] ++ [d]))) 3 (rgN 2 (fun _ => [c, d, g]) 0 c d [] [g] [a]) 1 c d [] [g] [b] := ⟨by decide, ⟨[], [c, d, g], rfl, rfl⟩, by simp, fun x hx => by
    rw [List.mem_singleton] at hx
    rw [hx, V1]
    exact ⟨hb, by omega⟩, fun q => by cases q⟩
  have I2 := Iv_step I1 S2
  have F : ∀ {x y u v : Nat}, x < 9 → y < 9 → u < 9 → v < 9 → decide (cd x y = cd u v) = decide ((x = u ∧ y = v) ∨ (x = v ∧ y = u)) := by
    intro x y u v h1 h2 h3 h4
    refine decide_eq_decide.mpr ⟨cd_inj h1 h2 h3 h4, ?_⟩
    rintro (⟨q1, q2⟩ | ⟨q1, q2⟩)
    · rw [q1, q2]
    · rw [q1, q2, cd_comm]
  have at2 : ∀ e, (xs (xs (cs [c, d, g]) (wk c ([a] ++ [d]))) (wk c ([b] ++ [d]))) e = (((decide (e = cd c d) ^^ (decide (e = cd d g) ^^ (decide (e = cd g c) ^^ false))) ^^ (decide (e = cd c a) ^^ (decide (e = cd a d) ^^ false))) ^^ (decide (e = cd c b) ^^ (decide (e = cd b d) ^^ false))) := fun _ => rfl
  have S3 : Sp (xs (xs (cs [c, d, g]) (wk c ([a] ++ [d]))) (wk c ([b] ++ [d]))) 4 (rgN 3 (rgN 2 (fun _ => [c, d, g]) 0 c d [] [g] [a]) 1 c d [] [g] [b]) 2 a g [d] [c] [] := by
    refine ⟨by decide, ⟨[d, g, c], [a], rfl, rfl⟩, List.nodup_nil, fun x hx => (by cases hx), fun _ => ?_⟩
    rw [at2]
    simp only [F ha hg hc hd, F ha hg hd hg, F ha hg hg hc, F ha hg hc ha, F ha hg ha hd, F ha hg hc hb, F ha hg hb hd, ab, ac, ad, ag, bc, bd, bg, cd', cg, dg', Ne.symm ab, Ne.symm ac, Ne.symm ad, Ne.symm ag, Ne.symm bc, Ne.symm bd, Ne.symm bg, Ne.symm cd', Ne.symm cg, Ne.symm dg', and_true, true_and, and_false, false_and, or_false, false_or, or_true, true_or, decide_true, decide_false, Bool.xor_false, Bool.false_xor, Bool.xor_true, Bool.true_xor, Bool.not_true, Bool.not_false]
  have I3 := Iv_step I2 S3
  have at3 : ∀ e, (xs (xs (xs (cs [c, d, g]) (wk c ([a] ++ [d]))) (wk c ([b] ++ [d]))) (wk a ([] ++ [g]))) e = ((((decide (e = cd c d) ^^ (decide (e = cd d g) ^^ (decide (e = cd g c) ^^ false))) ^^ (decide (e = cd c a) ^^ (decide (e = cd a d) ^^ false))) ^^ (decide (e = cd c b) ^^ (decide (e = cd b d) ^^ false))) ^^ (decide (e = cd a g) ^^ false)) := fun _ => rfl
  have S4 : Sp (xs (xs (xs (cs [c, d, g]) (wk c ([a] ++ [d]))) (wk c ([b] ++ [d]))) (wk a ([] ++ [g]))) 5 (rgN 4 (rgN 3 (rgN 2 (fun _ => [c, d, g]) 0 c d [] [g] [a]) 1 c d [] [g] [b]) 2 a g [d] [c] []) 3 b g [d] [c] [] := by
    refine ⟨by decide, ⟨[d, g, c], [b], rfl, rfl⟩, List.nodup_nil, fun x hx => (by cases hx), fun _ => ?_⟩
    rw [at3]
    simp only [F hb hg hc hd, F hb hg hd hg, F hb hg hg hc, F hb hg hc ha, F hb hg ha hd, F hb hg hc hb, F hb hg hb hd, F hb hg ha hg, ab, ac, ad, ag, bc, bd, bg, cd', cg, dg', Ne.symm ab, Ne.symm ac, Ne.symm ad, Ne.symm ag, Ne.symm bc, Ne.symm bd, Ne.symm bg, Ne.symm cd', Ne.symm cg, Ne.symm dg', and_true, true_and, and_false, false_and, or_false, false_or, or_true, true_or, decide_true, decide_false, Bool.xor_false, Bool.false_xor, Bool.xor_true, Bool.true_xor, Bool.not_true, Bool.not_false]
  have I4 := Iv_step I3 S4
  refine ⟨_, Iv_Pl I4, ?_⟩
  have at4 : ∀ e, (xs (xs (xs (xs (cs [c, d, g]) (wk c ([a] ++ [d]))) (wk c ([b] ++ [d]))) (wk a ([] ++ [g]))) (wk b ([] ++ [g]))) e = (((((decide (e = cd c d) ^^ (decide (e = cd d g) ^^ (decide (e = cd g c) ^^ false))) ^^ (decide (e = cd c a) ^^ (decide (e = cd a d) ^^ false))) ^^ (decide (e = cd c b) ^^ (decide (e = cd b d) ^^ false))) ^^ (decide (e = cd a g) ^^ false)) ^^ (decide (e = cd b g) ^^ false)) := fun _ => rfl
  have at5 : ∀ x y, x < 9 → y < 9 → (xs (xs (xs (xs (cs [c, d, g]) (wk c ([a] ++ [d]))) (wk c ([b] ++ [d]))) (wk a ([] ++ [g]))) (wk b ([] ++ [g]))) (cd x y) = (((((decide ((x = c ∧ y = d) ∨ (x = d ∧ y = c)) ^^ (decide ((x = d ∧ y = g) ∨ (x = g ∧ y = d)) ^^ (decide ((x = g ∧ y = c) ∨ (x = c ∧ y = g)) ^^ false))) ^^ (decide ((x = c ∧ y = a) ∨ (x = a ∧ y = c)) ^^ (decide ((x = a ∧ y = d) ∨ (x = d ∧ y = a)) ^^ false))) ^^ (decide ((x = c ∧ y = b) ∨ (x = b ∧ y = c)) ^^ (decide ((x = b ∧ y = d) ∨ (x = d ∧ y = b)) ^^ false))) ^^ (decide ((x = a ∧ y = g) ∨ (x = g ∧ y = a)) ^^ false)) ^^ (decide ((x = b ∧ y = g) ∨ (x = g ∧ y = b)) ^^ false)) := by
    intro x y hx hy
    rw [at4, F hx hy hc hd, F hx hy hd hg, F hx hy hg hc, F hx hy hc ha, F hx hy ha hd, F hx hy hc hb, F hx hy hb hd, F hx hy ha hg, F hx hy hb hg]
  intro x y hx hy hxy h1 h2
  simp only [List.mem_cons, List.not_mem_nil, or_false] at hx hy
  rw [at5 x y (by omega) (by omega)]
  rcases hx with q1 | q1 | q1 | q1 | q1 <;> rcases hy with q2 | q2 | q2 | q2 | q2 <;> first
    | (exfalso; omega)
    | (rw [q1, q2]
       simp only [ab, ac, ad, ag, bc, bd, bg, cd', cg, dg', Ne.symm ab, Ne.symm ac, Ne.symm ad, Ne.symm ag, Ne.symm bc, Ne.symm bd, Ne.symm bg, Ne.symm cd', Ne.symm cg, Ne.symm dg', and_true, true_and, and_false, false_and, or_false, false_or, or_true, true_or, and_self, or_self, decide_true, decide_false, Bool.xor_false, Bool.false_xor, Bool.xor_true, Bool.true_xor, Bool.not_true, Bool.not_false])
theorem few {G : Nat → Bool} (hG : GW G) {l : List Nat} (hn : l.Nodup) (h5 : l.length = 5) (h9 : ∀ x, x ∈ l → x < 9) (hl : ∀ u v, u < v → v < 9 → G (cd u v) = true → u ∈ l ∧ v ∈ l) {x y : Nat} (hx : x ∈ l) (hy : y ∈ l) (hxy : x ≠ y) (hg : G (cd x y) = false) : Pl G := by
  have e1 : (l.erase x).length = 4 := by rw [List.length_erase_of_mem hx, h5]
  have y1 : y ∈ l.erase x := (List.mem_erase_of_ne (Ne.symm hxy)).mpr hy
  have e2 : ((l.erase x).erase y).length = 3 := by rw [List.length_erase_of_mem y1, e1]
  have n1 := hn.erase x
  have n2 := n1.erase y
  have m1 : ∀ z, z ∈ l.erase x ↔ z ≠ x ∧ z ∈ l := fun z => hn.mem_erase_iff
  have m2 : ∀ z, z ∈ (l.erase x).erase y ↔ z ≠ y ∧ z ≠ x ∧ z ∈ l := fun z => by rw [n1.mem_erase_iff, m1]
  generalize hr : (l.erase x).erase y = r at e2 n2 m2
  obtain ⟨c, d, g, rfl⟩ : ∃ c d g, r = [c, d, g] := by
    match r, e2 with
    | [c, d, g], _ => exact ⟨c, d, g, rfl⟩
  have mc := (m2 c).mp (by simp)
  have md := (m2 d).mp (by simp)
  have mg := (m2 g).mp (by simp)
  have nd : [x, y, c, d, g].Nodup := by
    refine List.nodup_cons.mpr ⟨fun q => ?_, List.nodup_cons.mpr ⟨fun q => ((m2 y).mp q).1 rfl, n2⟩⟩
    rcases List.mem_cons.mp q with q | q
    · exact hxy q
    · exact ((m2 x).mp q).2.1 rfl
  obtain ⟨H, hP, hH⟩ := K5e (h9 x hx) (h9 y hy) (h9 c mc.2.2) (h9 d md.2.2) (h9 g mg.2.2) nd
  have inl : ∀ z, z ∈ l → z ∈ [x, y, c, d, g] := by
    intro z hz
    by_cases q1 : z = x
    · rw [q1]; simp
    · by_cases q2 : z = y
      · rw [q2]; simp
      · exact List.mem_cons_of_mem _ (List.mem_cons_of_mem _ ((m2 z).mpr ⟨q2, q1, hz⟩))
  refine Pl_del (fun e he => ?_) hP
  obtain ⟨w1, w2⟩ := hG e he
  have ec : e = cd (e / 9) (e % 9) := by unfold cd; rw [if_pos w2]; omega
  have hm := hl (e / 9) (e % 9) w2 (by omega) (by rw [← ec]; exact he)
  rw [ec]
  refine hH _ _ (inl _ hm.1) (inl _ hm.2) (by omega) (fun q => ?_) (fun q => ?_)
  · rw [ec, q.1, q.2, hg] at he; cases he
  · rw [ec, q.1, q.2, cd_comm, hg] at he; cases he
