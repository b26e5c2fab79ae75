/-! ===== the class reduces, counts; a cycle is found ===== -/
def dgr (rest : Nat → Int32) (u : Nat) : Nat := fb_ct (bt (rest u)) 20
theorem X4_reduce (N : Nat) (hN : 100 < N) {rest : Nat → Int32} (hS : Sy rest) : Ok (f_X4_reduce N rest) (fun r => Sy r ∧ ((Pl (gx rest) ↔ Pl (gx r)) ∧ fb_ct (gx r) 81 ≤ fb_ct (gx rest) 81) ∧ ∀ u, u < 9 → r u = 0 ∨ 3 ≤ dgr r u) := by
  unfold f_X4_reduce
  refine lpU (fun n i r => f_X4_reduce_b2 N n (nI i) r) (fun i r => Sy r ∧ ((Pl (gx rest) ↔ Pl (gx r)) ∧ fb_ct (gx r) 81 ≤ fb_ct (gx rest) 81) ∧ i ≤ fb_ct (fun u => decide (r u = 0)) 9) 9 ?_ ?_ N 0 _ (Nat.zero_le _) (by omega) ⟨hS, ⟨Iff.rfl, Nat.le_refl _⟩, Nat.zero_le _⟩
  · rintro n r ⟨h1, h2, h3⟩
    simp only [f_X4_reduce_b2]
    rw [show nI 9 = (9 : Int32) from rfl, if_pos (by decide)]
    have := fb_ct_le (fun u => decide (r u = 0)) 9
    have := (fb_ct_all (p := fun u => decide (r u = 0)) (n := 9)).mp (by omega)
    exact Ok_some.mpr ⟨h1, h2, fun u hu => Or.inl (of_decide_eq_true (this u hu))⟩
  · rintro n i r hi ⟨h1, h2, h3⟩ ih
    simp only [f_X4_reduce_b2]
    refine Ok_ife (nI_leI (a := 9) (b := i) (by omega) (by omega)) (fun c => absurd c (by omega)) (fun _ => ?_)
    refine lpU2 (fun m j x r => f_X4_reduce_b12 N (f_X4_reduce_b2 N n) m (nI i) x (nI j) r) (fun j x r => Sy r ∧ ((Pl (gx rest) ↔ Pl (gx r)) ∧ fb_ct (gx r) 81 ≤ fb_ct (gx rest) 81) ∧ i ≤ fb_ct (fun u => decide (r u = 0)) 9 ∧ (x = 0 → ∀ u, u < j → r u = 0 ∨ 3 ≤ dgr r u) ∧ (¬ x = 0 → i + 1 ≤ fb_ct (fun u => decide (r u = 0)) 9)) 9 ?_ ?_ N 0 _ _ (Nat.zero_le _) (by omega) ⟨h1, h2, h3, fun _ u hu => by omega, fun q => absurd rfl q⟩
    · rintro m x r ⟨g1, g2, g3, g4, g5⟩
      simp only [f_X4_reduce_b12, f_X4_reduce_b53]
      rw [show nI 9 = (9 : Int32) from rfl, if_pos (by decide), nI_1]
      exact Ok_ite.mpr ⟨fun c => ih _ ⟨g1, g2, g5 c⟩, fun c => Ok_some.mpr ⟨g1, g2, g4 (Decidable.not_not.mp c)⟩⟩
    · rintro m j x r hj ⟨g1, g2, g3, g4, g5⟩ ih2
      simp only [f_X4_reduce_b12, f_X4_reduce_b47]
      refine Ok_ife (nI_leI (a := 9) (b := j) (by omega) (by omega)) (fun c => absurd c (by omega)) (fun _ => ?_)
      rw [nI_1, nI_clamp (n := j) (by omega), J6_bit20 N (fun b hb => by have := (g1 j hj b hb).1; omega)]
      have ij : inb (nI j) 9 = true := inb_nI hj (by decide)
      have up : ∀ x2 : Int32, (x2 = 0 → x = 0) → (¬ x2 = 0 → ¬ x = 0) → (r j = 0 ∨ 3 ≤ dgr r j) → Sy r ∧ ((Pl (gx rest) ↔ Pl (gx r)) ∧ fb_ct (gx r) 81 ≤ fb_ct (gx rest) 81) ∧ i ≤ fb_ct (fun u => decide (r u = 0)) 9 ∧ (x2 = 0 → ∀ u, u < j + 1 → r u = 0 ∨ 3 ≤ dgr r u) ∧ (¬ x2 = 0 → i + 1 ≤ fb_ct (fun u => decide (r u = 0)) 9) := by
        intro x2 k1 k2 k3
        refine ⟨g1, g2, g3, fun q u hu => ?_, fun q => g5 (k2 q)⟩
        rcases Nat.lt_or_ge u j with w | w
        · exact g4 (k1 q) u w
        · rw [show u = j by omega]; exact k3
      refine Ok_chk.mpr ⟨ij, Ok_ite.mpr ⟨fun c => ih2 _ _ (up x id id (Or.inl c)), fun c => Ok_chk.mpr ⟨ij, Ok_bd1.mpr (Ok_some.mpr (Ok_ife (nI_ltI (a := 2) (by omega) (by have := fb_ct_le (bt (r j)) 20; omega)) (fun c2 => ih2 _ _ (up x id id (Or.inr c2))) (fun c2 => Ok_bd1.mpr (Ok_mono (X4_bridge N (by omega) g1 hj) (fun r' hr' => ?_)))))⟩⟩⟩
      obtain ⟨b1, b2, b3, b4⟩ := Br_out g1 hj c (by omega) hr'
      have lt := ct_lt (p := fun u => decide (r u = 0)) (q := fun u => decide (r' u = 0)) (n := 9) (fun u hu hp => decide_eq_true (b3 u hu (of_decide_eq_true hp))) hj (decide_eq_false c) (decide_eq_true b4)
      exact ih2 _ _ ⟨b1, ⟨g2.1.trans b2.1, Nat.le_trans b2.2 g2.2⟩, by omega, fun q => absurd q (by decide), fun _ => by omega⟩
theorem sj_le {f : Nat → Nat} {k : Nat} : ∀ n, (∀ i, i < n → f i ≤ k) → sj f n ≤ k * n
  | 0, _ => Nat.zero_le _
  | n + 1, h => by
    have h1 := sj_le n (fun i hi => h i (by omega))
    have h2 := h n (by omega)
    show sj f n + f n ≤ k * (n + 1)
    rw [Nat.mul_add]
    omega
theorem X4_count (N : Nat) (hN : 100 < N) {rest : Nat → Int32} (hS : Sy rest) : f_X4_countEdges N rest = some (nI (sj (dgr rest) 9 / 2)) := by
  refine Ok_of ?_
  unfold f_X4_countEdges
  have hb : ∀ i, i ≤ 9 → sj (dgr rest) i ≤ 20 * i := fun i hi => sj_le i (fun u _ => fb_ct_le _ _)
  refine lpU (fun n i x => f_X4_countEdges_b4 N rest n x (nI i)) (fun i x => x = nI (sj (dgr rest) i)) 9 ?_ ?_ N 0 _ (Nat.zero_le _) (by omega) rfl
  · rintro n x rfl
    simp only [f_X4_countEdges_b4]
    have := hb 9 (by omega)
    rw [show nI 9 = (9 : Int32) from rfl, if_pos (by decide), nI_div2 (by omega)]
    exact Ok_some.mpr rfl
  · rintro n i x hi rfl ih
    simp only [f_X4_countEdges_b4]
    refine Ok_ife (nI_leI (a := 9) (b := i) (by omega) (by omega)) (fun c => absurd c (by omega)) (fun _ => ?_)
    rw [nI_1, nI_clamp (n := i) (by omega), J6_bit20 N (fun b hb => by have := (hS i hi b hb).1; omega)]
    exact Ok_chk.mpr ⟨inb_nI hi (by decide), Ok_bd1.mpr (Ok_some.mpr (Ok_nm.mpr (ih _ (nI_add _ _))))⟩
/-- few edges -/
theorem few_x {rest : Nat → Int32} (hS : Sy rest) (h3 : ∀ u, u < 9 → rest u = 0 ∨ 3 ≤ dgr rest u) (h : sj (dgr rest) 9 / 2 < 9) : Pl (gx rest) := by
  have l1 := sj_list (k := 3) (n := 9) ((List.range 9).filter (fun u => !decide (rest u = 0))) (dgr rest) (List.Nodup.sublist List.filter_sublist List.nodup_range) (fun x hx => by
    have q := List.mem_filter.mp hx
    have q1 := List.mem_range.mp q.1
    rw [Bool.not_eq_true', decide_eq_false_iff_not] at q
    exact ⟨q1, (h3 x q1).resolve_left q.2⟩)
  rw [ct_len] at l1
  obtain ⟨l, n1, n2, n3, n4⟩ := five (p := fun u => !decide (rest u = 0)) (by omega)
  have nz : ∀ u v, u < 9 → bt (rest u) v = true → u ∈ l := fun u v hu hb => n4 u hu (by
    rw [Bool.not_eq_true', decide_eq_false_iff_not]
    intro q
    rw [q, b_0] at hb; cases hb)
  by_cases c : ∃ x y, x ∈ l ∧ y ∈ l ∧ x ≠ y ∧ gx rest (cd x y) = false
  · obtain ⟨x, y, c1, c2, c3, c4⟩ := c
    refine few (gx_GW rest) n1 n2 n3 (fun u v huv hv hg => ?_) c1 c2 c3 c4
    rw [gx_lt huv hv] at hg
    exact ⟨nz u v (by omega) hg, nz v u hv (hS u (by omega) v hg).2.2⟩
  · have l2 := sj_list (k := 4) (n := 9) l (dgr rest) n1 (fun x hx => ⟨n3 x hx, by
      have := ct_list (p := bt (rest x)) (n := 20) (l := l.erase x) (n1.erase x) (fun y hy => by
        have q := n1.mem_erase_iff.mp hy
        have q9 := n3 y q.2
        refine ⟨by omega, ?_⟩
        rw [← gx_cd hS (n3 x hx) q9 (Ne.symm q.1)]
        cases w : gx rest (cd x y) with
        | true => rfl
        | false => exact absurd ⟨x, y, hx, q.2, Ne.symm q.1, w⟩ c)
      rw [List.length_erase_of_mem hx, n2] at this
      exact this⟩)
    rw [n2] at l2
    omega
