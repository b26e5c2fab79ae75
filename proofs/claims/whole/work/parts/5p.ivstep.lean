/-! ===== the rings stay right ===== -/
section IVS
variable {H : Nat → Bool} {nr : Nat} {rg : Nat → List Nat} {f a b : Nat} {s t m : List Nat}
theorem Iv2 (hI : Iv H nr rg) (hS : Sp H nr rg f a b s t m) (e : Nat) (he : xs H (wk a (m ++ [b])) e = true) : ∃ i j, i < nr + 1 ∧ j < nr + 1 ∧ i ≠ j ∧ ∀ k, k < nr + 1 → cs (rgN nr rg f a b s t m k) e = (decide (k = i) || decide (k = j)) := by
  have hf := hS.1
  have hfn : nr ≠ f := by omega
  change (H e ^^ wk a (m ++ [b]) e) = true at he
  have en : cs (rgN nr rg f a b s t m nr) e = (wk b (t ++ [a]) e ^^ wk a (m ++ [b]) e) := by rw [rgN_n hfn, Sp_2]
  cases c : wk a (m ++ [b]) e with
  | true =>
    have hH := Sp_off hI hS c
    have z2 : wk b (t ++ [a]) e = false := by
      cases q : wk b (t ++ [a]) e with
      | false => rfl
      | true => rw [(Sp_sub hI hS).2 q] at hH; cases hH
    have zk : ∀ k, k < nr → cs (rg k) e = false := by
      intro k hk
      cases q : cs (rg k) e with
      | false => rfl
      | true => rw [hI.2.2.1 k hk e q] at hH; cases hH
    refine ⟨f, nr, by omega, by omega, by omega, fun k hk => ?_⟩
    by_cases q : k = nr
    · rw [q, en, z2, c, decide_eq_false hfn, decide_eq_true rfl]; rfl
    · rw [rgN_cs hI hS k e (by omega), zk k (by omega), z2, c, decide_eq_false q, Bool.or_false, Bool.false_xor, Bool.false_xor, Bool.and_true]
  | false =>
    rw [c, Bool.xor_false] at he
    rw [c, Bool.xor_false] at en
    obtain ⟨i, j, hi, hj, hij, hk⟩ := hI.2.1 e he
    have hff := hk f hf
    have ef := Sp_f hI hS e
    have step : ∀ k, k < nr → cs (rgN nr rg f a b s t m k) e = ((decide (k = i) || decide (k = j)) ^^ (decide (k = f) && wk b (t ++ [a]) e)) := by
      intro k q
      rw [rgN_cs hI hS k e q, hk k q, c, Bool.xor_false]
    cases z2 : wk b (t ++ [a]) e with
    | false =>
      refine ⟨i, j, by omega, by omega, hij, fun k q => ?_⟩
      by_cases r : k = nr
      · rw [r, en, z2, decide_eq_false (by omega), decide_eq_false (by omega)]; rfl
      · rw [step k (by omega), z2, Bool.and_false, Bool.xor_false]
    | true =>
      have z1 : wk a (s ++ [b]) e = false := by
        cases q : wk a (s ++ [b]) e with
        | false => rfl
        | true => rw [Sp_dis hI hS q] at z2; cases z2
      rw [z1, z2, hff] at ef
      by_cases r1 : f = i
      · refine ⟨nr, j, by omega, by omega, by omega, fun k q => ?_⟩
        by_cases r : k = nr
        · rw [r, en, z2, decide_eq_true rfl]; rfl
        · rw [step k (by omega), z2, Bool.and_true, decide_eq_false r, ← r1]
          by_cases w : k = f
          · rw [decide_eq_true w, decide_eq_false (by omega)]; rfl
          · rw [decide_eq_false w, Bool.xor_false]
      · by_cases r2 : f = j
        · refine ⟨i, nr, by omega, by omega, by omega, fun k q => ?_⟩
          by_cases r : k = nr
          · rw [r, en, z2, decide_eq_true rfl, Bool.or_true]
          · rw [step k (by omega), z2, Bool.and_true, decide_eq_false r, ← r2]
            by_cases w : k = f
            · rw [decide_eq_true w, decide_eq_false (by omega)]; rfl
            · rw [decide_eq_false w, Bool.xor_false]
        · rw [decide_eq_false r1, decide_eq_false r2] at ef
          cases ef
theorem Iv3 (hI : Iv H nr rg) (hS : Sp H nr rg f a b s t m) (k : Nat) (hk : k < nr + 1) : Sb (cs (rgN nr rg f a b s t m k)) (xs H (wk a (m ++ [b]))) := by
  have hf := hS.1
  have key : ∀ e, H e = true → xs H (wk a (m ++ [b])) e = true := by
    intro e he
    show (H e ^^ wk a (m ++ [b]) e) = true
    cases c : wk a (m ++ [b]) e with
    | false => rw [he]; rfl
    | true => rw [Sp_off hI hS c] at he; cases he
  have keyP : ∀ e, wk a (m ++ [b]) e = true → xs H (wk a (m ++ [b])) e = true := by
    intro e he
    show (H e ^^ wk a (m ++ [b]) e) = true
    rw [Sp_off hI hS he, he]; rfl
  intro e he
  cases c : wk a (m ++ [b]) e with
  | true => exact keyP e c
  | false =>
    refine key e ?_
    by_cases q1 : k = f
    · rw [rgN_f k q1, Sp_1, c, Bool.xor_false] at he
      exact (Sp_sub hI hS).1 he
    · by_cases q2 : k = nr
      · rw [q2, rgN_n (by omega), Sp_2, c, Bool.xor_false] at he
        exact (Sp_sub hI hS).2 he
      · rw [rgN_o q1 q2] at he
        exact hI.2.2.1 k (by omega) e he
/-- an even set has all of the path or nothing of it -/
theorem P_all (hI : Iv H nr rg) (hS : Sp H nr rg f a b s t m) {X : Nat → Bool} (hs : Sb X (xs H (wk a (m ++ [b])))) (hX : ev X) : ∃ c : Bool, ∀ e, (X e && wk a (m ++ [b]) e) = (c && wk a (m ++ [b]) e) := by
  have hP := Sp_P hI hS
  rcases wk_even (m ++ [b]) a hP.1 hP.2 (fun e => X e && wk a (m ++ [b]) e) (fun e q => by rw [Bool.and_eq_true] at q; exact q.2) (fun x hx hxa hxl => by
    rw [lst_snoc] at hxl
    have hxm : x ∈ m := by
      simp at hx
      rcases hx with q | q | q
      · exact absurd q hxa
      · exact q
      · exact absurd q hxl
    rw [← hX x]
    refine dg_cong (fun e _ hi => ?_)
    cases q : X e with
    | false => rfl
    | true =>
      have r := hs e q
      change (H e ^^ wk a (m ++ [b]) e) = true at r
      have hH : H e = false := by
        cases w : H e with
        | false => rfl
        | true => exact absurd ⟨e, w, hi⟩ (hS.2.2.2.1 x hxm).2
      rw [hH, Bool.false_xor] at r
      rw [r]; rfl) with q | q
  · exact ⟨false, fun e => q e⟩
  · exact ⟨true, fun e => by rw [Bool.true_and]; exact q e⟩
theorem Iv4 (hI : Iv H nr rg) (hS : Sp H nr rg f a b s t m) (X : Nat → Bool) (hs : Sb X (xs H (wk a (m ++ [b])))) (hX : ev X) : ∃ c : Nat → Bool, ∀ e, X e = py (nr + 1) (fun k => c k && cs (rgN nr rg f a b s t m k) e) := by
  have hf := hS.1
  have hfn : nr ≠ f := by omega
  obtain ⟨q, hq⟩ := P_all hI hS hs hX
  have hn := (Sp_Cy hI hS).2
  -- take the new ring away where the path lies in X
  have e2 : ∀ e, xs X (fun e => q && cs (b :: (t ++ a :: m)) e) e = true → H e = true := by
    intro e he
    change (X e ^^ (q && cs (b :: (t ++ a :: m)) e)) = true at he
    rw [Sp_2] at he
    have hqe := hq e
    cases c : wk a (m ++ [b]) e with
    | true =>
      rw [c, Bool.and_true, Bool.and_true] at hqe
      have z2 : wk b (t ++ [a]) e = false := by
        cases z : wk b (t ++ [a]) e with
        | false => rfl
        | true => have := (Sp_sub hI hS).2 z; rw [Sp_off hI hS c] at this; cases this
      rw [hqe, c, z2] at he
      cases q <;> cases he
    | false =>
      rw [c, Bool.xor_false] at he
      cases c2 : X e with
      | true =>
        have := hs e c2
        change (H e ^^ wk a (m ++ [b]) e) = true at this
        rw [c, Bool.xor_false] at this
        exact this
      | false =>
        rw [c2, Bool.false_xor, Bool.and_eq_true] at he
        exact (Sp_sub hI hS).2 he.2
  have e3 : ev (xs X (fun e => q && cs (b :: (t ++ a :: m)) e)) := by
    refine ev_xs hX ?_
    cases q with
    | false => exact ev_no (fun _ => rfl)
    | true => exact ev_cong (fun e => (Bool.true_and _).symm) (ev_cs hn.2.2)
  obtain ⟨c, hc⟩ := hI.2.2.2.1 _ e2 e3
  refine ⟨fun k => if k = nr then c f ^^ q else c k, fun e => ?_⟩
  show X e = (py nr (fun k => (if k = nr then c f ^^ q else c k) && cs (rgN nr rg f a b s t m k) e) ^^ ((if nr = nr then c f ^^ q else c nr) && cs (rgN nr rg f a b s t m nr) e))
  have e4 : py nr (fun k => (if k = nr then c f ^^ q else c k) && cs (rgN nr rg f a b s t m k) e) = (py nr (fun k => c k && cs (rg k) e) ^^ (c f && (wk b (t ++ [a]) e ^^ wk a (m ++ [b]) e))) := by
    rw [← py_at (fun k => c k && (wk b (t ++ [a]) e ^^ wk a (m ++ [b]) e)) nr hf, ← py_xor]
    refine py_cong nr (fun k hk => ?_)
    rw [if_neg (by omega), rgN_cs hI hS k e hk]
    cases c k <;> cases cs (rg k) e <;> cases decide (k = f) <;> cases (wk b (t ++ [a]) e ^^ wk a (m ++ [b]) e) <;> rfl
  rw [e4, ← hc e, if_pos rfl, rgN_n hfn, Sp_2]
  show X e = (((X e ^^ (q && cs (b :: (t ++ a :: m)) e)) ^^ _) ^^ _)
  rw [Sp_2]
  cases X e <;> cases q <;> cases c f <;> cases (wk b (t ++ [a]) e ^^ wk a (m ++ [b]) e) <;> rfl
theorem Iv5 (hI : Iv H nr rg) (hS : Sp H nr rg f a b s t m) (Y : Nat → Bool) (hY : ∀ k, k < nr + 1 → ip Y (cs (rgN nr rg f a b s t m k)) = false) : ∃ A, ∀ e, xs H (wk a (m ++ [b])) e = true → Y e = dl A e := by
  have hf := hS.1
  have hfn : nr ≠ f := by omega
  have hP := Sp_P hI hS
  have har := Sp_arcs hI hS
  have hn := hY nr (by omega)
  have en : ip Y (cs (rgN nr rg f a b s t m nr)) = (ip Y (wk b (t ++ [a])) ^^ ip Y (wk a (m ++ [b]))) := by
    rw [← ip_xr]
    exact ip_cong (fun e _ => by rw [rgN_n hfn, Sp_2]; rfl)
  obtain ⟨A, hA⟩ := hI.2.2.2.2.1 Y (fun k hk => by
    by_cases c : k = f
    · have h1 := hY f (by omega)
      have e1 : ip Y (cs (rgN nr rg f a b s t m f)) = (ip Y (wk a (s ++ [b])) ^^ ip Y (wk a (m ++ [b]))) := by
        rw [← ip_xr]
        exact ip_cong (fun e _ => by rw [rgN_f f rfl, Sp_1]; rfl)
      have e0 : ip Y (cs (rg f)) = (ip Y (wk a (s ++ [b])) ^^ ip Y (wk b (t ++ [a]))) := by
        rw [← ip_xr]
        exact ip_cong (fun e _ => by rw [Sp_f hI hS]; rfl)
      rw [c, e0]
      rw [e1] at h1
      rw [en] at hn
      cases g1 : ip Y (wk a (s ++ [b])) <;> cases g2 : ip Y (wk b (t ++ [a])) <;> cases g3 : ip Y (wk a (m ++ [b])) <;> rw [g1, g3] at h1 <;> rw [g2, g3] at hn <;> first | rfl | exact absurd h1 (by decide) | exact absurd hn (by decide)
    · have h1 := hY k (by omega)
      rw [rgN_o c (by omega)] at h1
      exact h1)
  have e2 : ip Y (wk b (t ++ [a])) = (A b ^^ A a) := by
    rw [ip_comm, ip_cong (Z := dl A) (fun e he => hA e ((Sp_sub hI hS).2 he)), wk_sum A (t ++ [a]) b har.2.1, lst_snoc]
  obtain ⟨A', q1, q2⟩ := wk_ext (m ++ [b]) a hP.1 hP.2 Y A (by
    rw [lst_snoc]
    rw [en, e2] at hn
    cases g1 : A a <;> cases g2 : A b <;> cases g3 : ip Y (wk a (m ++ [b])) <;> rw [g1, g2, g3] at hn <;> first | rfl | cases hn)
  rw [lst_snoc] at q1
  refine ⟨A', fun e he => ?_⟩
  change (H e ^^ wk a (m ++ [b]) e) = true at he
  cases c : wk a (m ++ [b]) e with
  | true => exact q2 e c
  | false =>
    rw [c, Bool.xor_false] at he
    rw [hA e he]
    have same : ∀ x, VH H x → A' x = A x := by
      intro x hx
      refine q1 x ?_
      by_cases r : x ∈ a :: (m ++ [b])
      · simp at r
        rcases r with r | r | r
        · exact Or.inr (Or.inl r)
        · exact absurd hx (hS.2.2.2.1 x r).2
        · exact Or.inr (Or.inr r)
      · exact Or.inl r
    -- both ends of e are drawn
    obtain ⟨i, j, hi, _, _, hk⟩ := hI.2.1 e he
    have hcs := hk i hi
    rw [decide_eq_true rfl] at hcs
    have hne := cs_ne (hI.1 i hi) (e := e) (by rw [hcs]; rfl)
    unfold dl
    rw [same (e / 9) ⟨e, he, inc_l hne.1⟩, same (e % 9) ⟨e, he, inc_r hne.1⟩]
theorem Iv6 (hI : Iv H nr rg) (hS : Sp H nr rg f a b s t m) (A : Nat → Bool) (x : Nat) (hA : ∀ e, xs H (wk a (m ++ [b])) e = true → dl A e = true → inc x e = true) (hx : A x = false) : (∀ y, VH (xs H (wk a (m ++ [b]))) y → y ≠ x → A y = false) ∨ (∀ y, VH (xs H (wk a (m ++ [b]))) y → y ≠ x → A y = true) := by
  have hf := hS.1
  have hL := Sp_L hI hS
  have hcy := (Sp_Cy hI hS).2
  have hab : a ≠ b := fun q => (List.nodup_cons.mp (Sp_P hI hS).1).1 (by rw [q]; simp)
  have i3 := Iv3 hI hS nr (by omega)
  rw [rgN_n (by omega)] at i3
  have k1 := hI.2.2.2.2.2.1 A x (fun e he => hA e (by
    show (H e ^^ wk a (m ++ [b]) e) = true
    cases c : wk a (m ++ [b]) e with
    | false => rw [he]; rfl
    | true => rw [Sp_off hI hS c] at he; cases he)) hx
  have k2 := cs_star hcy (A := A) (x := x) (fun e he => hA e (i3 e he)) hx
  have va : VH H a := hL.2.2.2 a ((hL.2.2.1 a).mpr (by simp))
  have vb : VH H b := hL.2.2.2 b ((hL.2.2.1 b).mpr (by simp))
  obtain ⟨z, hz1, hz2, hz3⟩ : ∃ z, VH H z ∧ z ∈ b :: (t ++ a :: m) ∧ z ≠ x := by
    by_cases c : a = x
    · exact ⟨b, vb, by simp, fun q => hab (by rw [c, q])⟩
    · exact ⟨a, va, by simp, c⟩
  rcases k1 with k1 | k1
  · rcases k2 with k2 | k2
    · refine Or.inl (fun y hy hyx => ?_)
      rcases (Sp_VH hI hS).mp hy with q | q
      · exact k1 y q hyx
      · exact k2 y (by simp [q]) hyx
    · have := k2 z hz2 hz3
      rw [k1 z hz1 hz3] at this
      cases this
  · rcases k2 with k2 | k2
    · have := k2 z hz2 hz3
      rw [k1 z hz1 hz3] at this
      cases this
    · refine Or.inr (fun y hy hyx => ?_)
      rcases (Sp_VH hI hS).mp hy with q | q
      · exact k1 y q hyx
      · exact k2 y (by simp [q]) hyx
theorem Iv7 (hI : Iv H nr rg) (hS : Sp H nr rg f a b s t m) : ∃ b', ∀ x, VH (xs H (wk a (m ++ [b]))) x → ∃ Z, Sb Z (xs H (wk a (m ++ [b]))) ∧ ∀ v, dg v Z = (decide (v = x) ^^ decide (v = b')) := by
  have hL := Sp_L hI hS
  have hcy := (Sp_Cy hI hS).2
  have hf := hS.1
  have i3 := Iv3 hI hS nr (by omega)
  rw [rgN_n (by omega)] at i3
  have key : ∀ e, H e = true → xs H (wk a (m ++ [b])) e = true := by
    intro e he
    show (H e ^^ wk a (m ++ [b]) e) = true
    cases c : wk a (m ++ [b]) e with
    | false => rw [he]; rfl
    | true => rw [Sp_off hI hS c] at he; cases he
  obtain ⟨b', hb'⟩ := hI.2.2.2.2.2.2.1
  refine ⟨b', fun x hx => ?_⟩
  rcases (Sp_VH hI hS).mp hx with q | q
  · obtain ⟨Z, z1, z2⟩ := hb' x q
    exact ⟨Z, fun e he => key e (z1 e he), z2⟩
  · obtain ⟨Z, z1, z2⟩ := hb' a (hL.2.2.2 a ((hL.2.2.1 a).mpr (by simp)))
    obtain ⟨Z', y1, y2⟩ := cs_join hcy (a := x) (b := a) (by simp [q]) (by simp)
    refine ⟨xs Z' Z, fun e he => ?_, fun v => ?_⟩
    · change (Z' e ^^ Z e) = true at he
      cases c : Z e with
      | true => exact key e (z1 e c)
      | false => rw [c, Bool.xor_false] at he; exact i3 e (y1 e he)
    · rw [dg_xs, y2, z2]
      cases decide (v = x) <;> cases decide (v = a) <;> cases decide (v = b') <;> rfl
theorem Iv_step (hI : Iv H nr rg) (hS : Sp H nr rg f a b s t m) : Iv (xs H (wk a (m ++ [b]))) (nr + 1) (rgN nr rg f a b s t m) := by
  have hf := hS.1
  have hcy := Sp_Cy hI hS
  refine ⟨fun k hk => ?_, Iv2 hI hS, Iv3 hI hS, Iv4 hI hS, Iv5 hI hS, Iv6 hI hS, Iv7 hI hS, by have := hI.2.2.2.2.2.2.2; omega⟩
  by_cases q1 : k = f
  · rw [rgN_f k q1]; exact hcy.1
  · by_cases q2 : k = nr
    · rw [q2, rgN_n (by omega)]; exact hcy.2
    · rw [rgN_o q1 q2]; exact hI.1 k (by omega)
end IVS
