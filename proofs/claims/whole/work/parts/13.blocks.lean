/-! worlds as rows of blocks: a call takes some of the blocks and gives them back -/
def flat : List va_W → va_W
  | [] => []
  | [w] => w
  | w :: w2 :: ws => w ++ flat (w2 :: ws)
theorem flat_eq : ∀ Bs : List va_W, flat Bs = Bs.flatten
  | [] => rfl
  | [w] => by simp [flat]
  | w :: w2 :: ws => by simp [flat, flat_eq (w2 :: ws)]
theorem pM {D : va_G} {cl : List vw_C} {ws : va_W} {H : Heap} : va_P D cl ws H ↔ ∀ q ∈ ws, va_at D cl q H := by
  constructor
  · intro h q hq
    obtain ⟨k, hk⟩ := List.mem_iff_getElem?.mp hq
    exact h k q hk
  · intro h k q hk
    exact h q (List.mem_of_getElem? hk)
theorem dM {A : Nat → Prop} {ws : va_W} : va_D A ws ↔ (ws.map Prod.fst).Nodup ∧ ∀ q ∈ ws, A q.1 := by
  constructor
  · intro h
    refine ⟨?_, fun q hq => ?_⟩
    · rw [List.nodup_iff_pairwise_ne, List.pairwise_iff_getElem]
      intro i j hi hj hij e
      have hi2 : i < ws.length := by simpa using hi
      have hj2 : j < ws.length := by simpa using hj
      have e2 : ws[i].1 = ws[j].1 := by simpa using e
      have := h.1 i j ws[i] ws[j] (List.getElem?_eq_getElem hi2) (List.getElem?_eq_getElem hj2) e2
      omega
    · obtain ⟨k, hk⟩ := List.mem_iff_getElem?.mp hq
      exact h.2 k q hk
  · intro h
    refine ⟨fun i j p q hp hq e => ?_, fun k q hk => h.2 q (List.mem_of_getElem? hk)⟩
    have hn := h.1
    rw [List.nodup_iff_pairwise_ne, List.pairwise_iff_getElem] at hn
    obtain ⟨hi, rfl⟩ := List.getElem?_eq_some_iff.mp hp
    obtain ⟨hj, rfl⟩ := List.getElem?_eq_some_iff.mp hq
    rcases Nat.lt_trichotomy i j with h1 | h1 | h1
    · exact absurd (by rw [List.getElem_map, List.getElem_map]; exact e) (hn i j (by simpa using hi) (by simpa using hj) h1)
    · exact h1
    · exact absurd (by rw [List.getElem_map, List.getElem_map]; exact e.symm) (hn j i (by simpa using hj) (by simpa using hi) h1)
theorem pP {D : va_G} {cl : List vw_C} {w1 w2 : va_W} {H : Heap} (hp : w1.Perm w2) (h : va_P D cl w1 H) : va_P D cl w2 H := pM.mpr fun q hq => pM.mp h q (hp.mem_iff.mpr hq)
theorem dP {A : Nat → Prop} {w1 w2 : va_W} (hp : w1.Perm w2) (h : va_D A w1) : va_D A w2 := by
  obtain ⟨h1, h2⟩ := dM.mp h
  exact dM.mpr ⟨(hp.map Prod.fst).nodup_iff.mp h1, fun q hq => h2 q (hp.mem_iff.mpr hq)⟩
theorem rangeF {α : Type} : ∀ Bs : List α, (List.range Bs.length).filterMap (fun i => Bs[i]?) = Bs
  | [] => rfl
  | a :: l => by
    rw [List.length_cons, List.range_succ_eq_map, List.filterMap_cons]
    simp only [List.getElem?_cons_zero, List.filterMap_map, Function.comp_def, List.getElem?_cons_succ]
    rw [rangeF l]
/-- blocks picked by a row of places that is a permutation -/
theorem permB {Bs Cs : List va_W} (is : List Nat) (hs : is.map (fun i => Bs[i]?) = Cs.map some) (hp : is.isPerm (List.range Bs.length) = true) : (flat Bs).Perm (flat Cs) := by
  have e1 : Cs = is.filterMap (fun i => Bs[i]?) := by
    have h1 : (is.map (fun i => Bs[i]?)).filterMap id = (Cs.map some).filterMap id := by rw [hs]
    simpa [List.filterMap_map] using h1.symm
  have e2 : Bs = (List.range Bs.length).filterMap (fun i => Bs[i]?) := (rangeF Bs).symm
  rw [flat_eq, flat_eq]
  have h3 : is.Perm (List.range Bs.length) := List.isPerm_iff.mp hp
  have h4 := (h3.filterMap (fun i => Bs[i]?)).flatten
  rw [← e1, ← e2] at h4
  exact h4.symm
theorem flat_app : ∀ Rs Cs : List va_W, flat (Rs ++ Cs) = flat Rs ++ flat Cs := fun Rs Cs => by rw [flat_eq, flat_eq, flat_eq, List.flatten_append]
/-- behind a call: the blocks that it didn't take, and those that it gave back -/
theorem joinB {D : va_G} {A : Nat → Prop} {H H1 : Heap} {Bs Rs Cs C1 B2 : List va_W} (hP : va_P D vwCl (flat Bs) H) (hD : va_D A (flat Bs)) (isP : List Nat) (hs : isP.map (fun i => Bs[i]?) = (Rs ++ Cs).map some) (hp : isP.isPerm (List.range Bs.length) = true) (isF : List Nat) (hF : isF.map (fun i => (Rs ++ C1)[i]?) = B2.map some) (hpF : isF.isPerm (List.range (Rs ++ C1).length) = true)
    (hk : ∀ q : Nat, q < H.size → ¬ va_A (flat Cs) H.size q → H1[q]? = H[q]?) (hFr : ∀ q, va_A (flat Cs) H.size q → A q) (hP1 : va_P D vwCl (flat C1) H1) (hD1 : va_D (va_A (flat Cs) H.size) (flat C1)) : va_P D vwCl (flat B2) H1 ∧ va_D A (flat B2) := by
  have hpm := permB isP hs hp
  rw [flat_app] at hpm
  have hP0 := pP hpm hP
  have hD0 := dP hpm hD
  obtain ⟨hn, hA⟩ := dM.mp hD0
  rw [List.map_append, List.nodup_append] at hn
  obtain ⟨hn1, hn2, hn3⟩ := hn
  have ap : ∀ q ∈ flat Rs, q.1 < H.size ∧ ¬ va_A (flat Cs) H.size q.1 := by
    intro q hq
    have hl := (pM.mp hP0 q (List.mem_append_left _ hq)).lt
    refine ⟨hl, fun h => ?_⟩
    rcases h with ⟨k, e, h⟩ | h
    · exact hn3 q.1 (List.mem_map_of_mem hq) q.1 (List.mem_map.mpr ⟨(q.1, e), List.mem_of_getElem? h, rfl⟩) rfl
    · omega
  obtain ⟨g1, g2⟩ := dM.mp hD1
  have hpf := permB isF hF hpF
  rw [flat_app] at hpf
  refine ⟨pP hpf (pM.mpr fun q hq => ?_), dP hpf (dM.mpr ⟨?_, fun q hq => ?_⟩)⟩
  · rcases List.mem_append.mp hq with h | h
    · obtain ⟨a1, a2⟩ := ap q h
      exact (pM.mp hP0 q (List.mem_append_left _ h)).kept (hk q.1 a1 a2)
    · exact pM.mp hP1 q h
  · rw [List.map_append, List.nodup_append]
    refine ⟨hn1, g1, fun a ha b hb e => ?_⟩
    obtain ⟨q, hq, rfl⟩ := List.mem_map.mp ha
    obtain ⟨r, hr, rfl⟩ := List.mem_map.mp hb
    exact (ap q hq).2 (by rw [e]; exact g2 r hr)
  · rcases List.mem_append.mp hq with h | h
    · exact hA q (List.mem_append_left _ h)
    · exact hFr q.1 (g2 q h)
theorem subP {D : va_G} {H : Heap} {Bs Rs Cs : List va_W} (hP : va_P D vwCl (flat Bs) H) (isP : List Nat) (hs : isP.map (fun i => Bs[i]?) = (Rs ++ Cs).map some) (hp : isP.isPerm (List.range Bs.length) = true) : va_P D vwCl (flat Cs) H := by
  have hpm := permB isP hs hp
  rw [flat_app] at hpm
  exact pM.mpr fun q hq => pM.mp (pP hpm hP) q (List.mem_append_right _ hq)
theorem subD {A : Nat → Prop} {Bs Rs Cs : List va_W} (hD : va_D A (flat Bs)) (isP : List Nat) (hs : isP.map (fun i => Bs[i]?) = (Rs ++ Cs).map some) (hp : isP.isPerm (List.range Bs.length) = true) : va_D A (flat Cs) := by
  have hpm := permB isP hs hp
  rw [flat_app] at hpm
  obtain ⟨h1, h2⟩ := dM.mp (dP hpm hD)
  rw [List.map_append, List.nodup_append] at h1
  exact dM.mpr ⟨h1.2.1, fun q hq => h2 q (List.mem_append_right _ hq)⟩
theorem freeB {A : Nat → Prop} {H0 H : Heap} {locs : List Loc} {Bs Rs Cs : List va_W} (hD : va_D A (flat Bs)) (hS : va_S A H0 H locs) (hA : ∀ q : Nat, H0.size ≤ q → A q) (isP : List Nat) (hs : isP.map (fun i => Bs[i]?) = (Rs ++ Cs).map some) (hp : isP.isPerm (List.range Bs.length) = true) : ∀ q, va_A (flat Cs) H.size q → A q := by
  intro q h
  rcases h with ⟨k, e, h⟩ | h
  · exact (dM.mp (subD hD isP hs hp)).2 (q, e) (List.mem_of_getElem? h)
  · exact hA q (Nat.le_trans hS.1 h)
section ZB
variable {p : Program} {l : Launch} {e : Env} {R : Room} {s : State} {m : MethodId} {args : Array Value} {below : List Frame} {meth : Method} {c : Code} {H H0 : Heap} {locs : List Loc} {cells slots : Nat} {Q : State → Prop}
variable {pc : Nat} {ls : Array Slot} {rest st0 : List Value} {D : va_G} {A : Nat → Prop} {Bs Rs Cs : List va_W} {a : Array Value}
theorem backBv {S : Type} {post : S → Prop} (C1 B2 : S → List va_W) (hr : va_Run p l e R s m args below meth c H locs cells slots 0 0 (F0 m pc ls st0) rest (va_Qv post (fun u t => va_P D vwCl (flat (C1 u)) t.heap ∧ va_D (va_A (flat Cs) H.size) (flat (C1 u))) (va_A (flat Cs) H.size) a) (va_A (flat Cs) H.size)) (hP : va_P D vwCl (flat Bs) H) (hD : va_D A (flat Bs)) (hS : va_S A H0 H locs) (hA : ∀ q : Nat, H0.size ≤ q → A q)
    (isP : List Nat) (hs : isP.map (fun i => Bs[i]?) = (Rs ++ Cs).map some) (hp : isP.isPerm (List.range Bs.length) = true) (isF : List Nat) (hF : ∀ u, isF.map (fun i => (Rs ++ C1 u)[i]?) = (B2 u).map some) (hpF : ∀ u, isF.isPerm (List.range (Rs ++ C1 u).length) = true)
    (kk : ∀ (u : S) (H1 : Heap) (locs1 : List Loc), post u → va_P D vwCl (flat (B2 u)) H1 → va_D A (flat (B2 u)) → va_S A H0 H1 locs1 → W p l e R s m args below meth c H1 locs1 cells slots Q (F0 m (pc + 3) ls rest)) : W p l e R s m args below meth c H locs cells slots Q (F0 m pc ls st0) := by
  have hFr := freeB hD hS hA isP hs hp
  refine va_callv hr hS (fun q _ h => hFr q h) hFr (fun u t H1 locs1 ht hvm hpo hB hz1 hk1 hS1 => ?_)
  obtain ⟨hP1, hD1⟩ := hB
  rw [ht] at hP1
  obtain ⟨g1, g2⟩ := joinB hP hD isP hs hp isF (hF u) (hpF u) hk1 hFr hP1 hD1
  exact kk u H1 locs1 hpo g1 g2 hS1
theorem backBi {S : Type} {ρ : Int32} {post : S → Prop} (C1 B2 : S → List va_W) (hr : va_Run p l e R s m args below meth c H locs cells slots 0 0 (F0 m pc ls st0) rest (va_Qi (fun r u => r = ρ ∧ post u) (fun u t => va_P D vwCl (flat (C1 u)) t.heap ∧ va_D (va_A (flat Cs) H.size) (flat (C1 u))) (va_A (flat Cs) H.size) a) (va_A (flat Cs) H.size)) (hP : va_P D vwCl (flat Bs) H) (hD : va_D A (flat Bs)) (hS : va_S A H0 H locs) (hA : ∀ q : Nat, H0.size ≤ q → A q)
    (isP : List Nat) (hs : isP.map (fun i => Bs[i]?) = (Rs ++ Cs).map some) (hp : isP.isPerm (List.range Bs.length) = true) (isF : List Nat) (hF : ∀ u, isF.map (fun i => (Rs ++ C1 u)[i]?) = (B2 u).map some) (hpF : ∀ u, isF.isPerm (List.range (Rs ++ C1 u).length) = true)
    (kk : ∀ (u : S) (H1 : Heap) (locs1 : List Loc), post u → va_P D vwCl (flat (B2 u)) H1 → va_D A (flat (B2 u)) → va_S A H0 H1 locs1 → W p l e R s m args below meth c H1 locs1 cells slots Q (F0 m (pc + 3) ls (.int ρ :: rest))) : W p l e R s m args below meth c H locs cells slots Q (F0 m pc ls st0) := by
  have hFr := freeB hD hS hA isP hs hp
  refine va_calli hr hS (fun q _ h => hFr q h) hFr (fun r u t H1 locs1 ht hvm hpo hB hz1 hk1 hS1 => ?_)
  obtain ⟨rfl, hpo⟩ := hpo
  obtain ⟨hP1, hD1⟩ := hB
  rw [ht] at hP1
  obtain ⟨g1, g2⟩ := joinB hP hD isP hs hp isF (hF u) (hpF u) hk1 hFr hP1 hD1
  exact kk u H1 locs1 hpo g1 g2 hS1
end ZB
section ZB0
variable {p : Program} {l : Launch} {e : Env} {R : Room} {s : State} {m : MethodId} {args : Array Value} {below : List Frame} {meth : Method} {c : Code} {H H0 : Heap} {locs : List Loc} {cells slots : Nat} {Q : State → Prop}
variable {pc : Nat} {ls : Array Slot} {rest st0 : List Value} {D : va_G} {A : Nat → Prop} {Bs Rs Cs : List va_W} {a : Array Value}
theorem backBi0 {ρ : Int32} (C1 B2 : Unit → List va_W) (hr : va_Run p l e R s m args below meth c H locs cells slots 0 0 (F0 m pc ls st0) rest (va_Qi (fun r (_ : Unit) => r = ρ) (fun u t => va_P D vwCl (flat (C1 u)) t.heap ∧ va_D (va_A (flat Cs) H.size) (flat (C1 u))) (va_A (flat Cs) H.size) a) (va_A (flat Cs) H.size)) (hP : va_P D vwCl (flat Bs) H) (hD : va_D A (flat Bs)) (hS : va_S A H0 H locs) (hA : ∀ q : Nat, H0.size ≤ q → A q)
    (isP : List Nat) (hs : isP.map (fun i => Bs[i]?) = (Rs ++ Cs).map some) (hp : isP.isPerm (List.range Bs.length) = true) (isF : List Nat) (hF : ∀ u, isF.map (fun i => (Rs ++ C1 u)[i]?) = (B2 u).map some) (hpF : ∀ u, isF.isPerm (List.range (Rs ++ C1 u).length) = true)
    (kk : ∀ (u : Unit) (H1 : Heap) (locs1 : List Loc), True → va_P D vwCl (flat (B2 u)) H1 → va_D A (flat (B2 u)) → va_S A H0 H1 locs1 → W p l e R s m args below meth c H1 locs1 cells slots Q (F0 m (pc + 3) ls (.int ρ :: rest))) : W p l e R s m args below meth c H locs cells slots Q (F0 m pc ls st0) := by
  have hFr := freeB hD hS hA isP hs hp
  refine va_calli hr hS (fun q _ h => hFr q h) hFr (fun r u t H1 locs1 ht hvm hpo hB hz1 hk1 hS1 => ?_)
  subst hpo
  obtain ⟨hP1, hD1⟩ := hB
  rw [ht] at hP1
  obtain ⟨g1, g2⟩ := joinB hP hD isP hs hp isF (hF u) (hpF u) hk1 hFr hP1 hD1
  exact kk u H1 locs1 trivial g1 g2 hS1
end ZB0
theorem lenP {Bs : List va_W} {is : List Nat} {n : Nat} (hn : Bs.length = n) (hp : is.isPerm (List.range n) = true) : is.isPerm (List.range Bs.length) = true := by rw [hn]; exact hp
