/-! calls that write, and small checks of the pure side -/
abbrev tyA (cA : Nat → ClassId) : List (ClassId × FieldType) := [(cA 0, .int), (cA 1, .float), (cA 2, .byte), (cA 3, .object "PlainDrawing$Graph")]
def nm {α β : Type} (x : α) (f : α → β) : β := f x
theorem nm_t {α β : Type} {x y : α} {f : α → β} {r : β} (e : y = x) (h : nm x f = r) : f y = r := by subst e; exact h
def nz (y : Int32) : Bool := decide (¬ y = 0)
theorem nz_n {y : Int32} (h : nz y = true) : ¬ y = 0 := of_decide_eq_true h
def nn32 (r : UInt32) : Bool := decide (r &&& 0x7fffffff ≤ 0x7f800000)
theorem nn_n {r : UInt32} (h : nn32 r = true) : vf_n32 r := by
  have h2 : r &&& 0x7fffffff ≤ 0x7f800000 := of_decide_eq_true h
  exact h2
def isB (v : Int32) : Bool := decide (v = 0 ∨ v = 1)
theorem isB_n {v : Int32} (h : isB v = true) : narrow .boolean (.int v) = .int v := by
  rcases (of_decide_eq_true h : v = 0 ∨ v = 1) with rfl | rfl <;> rfl
def cpok (sp dp n : Int32) (n0 n1 : Nat) : Bool := decide (¬ sp < 0 ∧ ¬ dp < 0 ∧ ¬ n < 0 ∧ sp.toNatClampNeg + n.toNatClampNeg ≤ n0 ∧ dp.toNatClampNeg + n.toNatClampNeg ≤ n1)
theorem cpok_n {sp dp n : Int32} {n0 n1 : Nat} (h : cpok sp dp n n0 n1 = true) : ¬ sp < 0 ∧ ¬ dp < 0 ∧ ¬ n < 0 ∧ sp.toNatClampNeg + n.toNatClampNeg ≤ n0 ∧ dp.toNatClampNeg + n.toNatClampNeg ≤ n1 := of_decide_eq_true h
def filled (n : Nat) (v : Int32) (f : Nat → Int32) : Nat → Int32 := fun k => if k < n then v else f k
def filledF (n : Nat) (v : UInt32) (f : Nat → UInt32) : Nat → UInt32 := fun k => if k < n then v else f k
section ZW
variable {p : Program} {l : Launch} {e : Env} {R : Room} {s : State} {m : MethodId} {args : Array Value} {below : List Frame} {meth : Method} {c : Code} {H H0 : Heap} {locs : List Loc} {cells slots : Nat} {Q : State → Prop}
variable {cc : ByteArray} {nL pc : Nat} {ret : Option FieldType} {own : String} {ls : Array Slot} {rest st0 : List Value} {D : va_G} {tys : List (ClassId × FieldType)} {ws wc w1 w2 : va_W}
variable {y : MethodName} {bytes : ByteArray} {maxL n index : Nat} {ryt : Option FieldType} {rm : Room} {A A2 : Nat → Prop}
theorem runVw {As : List Value} {b : Nat} {Qc : Array Value → State → Outcome → State → Prop} {free : Nat → Prop} (C : Cx p s m meth c cc nL ret args own) (hM : Met l y (Cond.code y bytes maxL ryt :: lw_g) rm (PcW D tys wc H.size (.ref b :: As)) Qc 0 0 free) (cf : CalV y bytes maxL ryt n) (hl : Cond.methodLink own index y ∈ lw_g)
    (hz : rm.cells = 0 ∧ rm.slots = 0 ∧ rm.frames + 1 ≤ R.frames ∧ 8 + (maxL + 11) + rm.locals ≤ R.locals) (hc : cells ≤ R.cells ∧ slots ≤ R.slots) (hrec : ∃ cell : Cell, H[b]? = some cell ∧ cell.vm.isStatics = false ∧ s.vm.findClass y.cls = some cell.cls) (hP : va_P D vwCl wc H) (hD : va_D A2 wc) (hK : KK D tys s) (hsz : ls.size = nL) (hn : As.length = n) (hst : st0 = As.reverse ++ .ref b :: rest) (hr : (rest.map fun v => v.category).sum ≤ 8) (hdg : decode cc pc = .ok (.invokevirtual index, 3)) :
    va_Run p l e R s m args below meth c H locs cells slots 0 0 (F0 m pc ls st0) rest (Qc (Value.ref b :: As).toArray) free := by
  obtain ⟨hx, hb, hml, hown, hT, -, -⟩ := C
  obtain ⟨h1, h2, h3, h4, h5, h6, h7⟩ := cf
  refine va_runV (Ts := lw_g) (own := own) (cc := cc) (nL := nL) (n := n) (C := y.cls) (bytes := bytes) (maxL := maxL) (ret := ryt) (rm := rm) ⟨hx, hb, hml, hown, hT⟩ hM ⟨callB_of n hT (kg0 h1) rfl hz.1 hz.2.1 (hT _ h4) (hT _ hl) ⟨h5, h6, h7⟩ hz.2.2, hT _ h2, hT _ h3⟩ ⟨PcW_blind, hrec, fun U hU hW => ⟨rfl, by rw [hU], by rw [hU]; exact hP, KK_warm hK hW, hD.weaken (fun _ _ _ _ => trivial)⟩⟩ rfl hn hsz hst (lv_room hr) hdg hc
theorem runSw {As : List Value} {Qc : Array Value → State → Outcome → State → Prop} {free : Nat → Prop} (C : Cx p s m meth c cc nL ret args own) (hM : Met l y (Cond.code y bytes maxL ryt :: lw_g) rm (PcW D tys wc H.size As) Qc 0 0 free) (cf : CalS y bytes maxL ryt n) (hl : Cond.methodLink own index y ∈ lw_g)
    (hz : rm.cells = 0 ∧ rm.slots = 0 ∧ rm.frames + 1 ≤ R.frames ∧ 8 + (maxL + 11) + rm.locals ≤ R.locals) (hc : cells ≤ R.cells ∧ slots ≤ R.slots) (hP : va_P D vwCl wc H) (hD : va_D A2 wc) (hK : KK D tys s) (hsz : ls.size = nL) (hn : As.length = n) (hst : st0 = As.reverse ++ rest) (hr : (rest.map fun v => v.category).sum ≤ 8) (hdg : decode cc pc = .ok (.invokestatic index, 3)) :
    va_Run p l e R s m args below meth c H locs cells slots 0 0 (F0 m pc ls st0) rest (Qc As.toArray) free := by
  obtain ⟨hx, hb, hml, hown, hT, -, -⟩ := C
  obtain ⟨h1, h2, h4, h5, h6, h7⟩ := cf
  refine va_runS (Ts := lw_g) (own := own) (cc := cc) (nL := nL) (n := n) (bytes := bytes) (maxL := maxL) (ret := ryt) (rm := rm) ⟨hx, hb, hml, hown, hT⟩ hM ⟨callB_of n hT (kg0 h1) rfl hz.1 hz.2.1 (hT _ h4) (hT _ hl) ⟨h5, h6, h7⟩ hz.2.2, hT _ h2⟩ ⟨PcW_blind, fun U hU hW => ⟨rfl, by rw [hU], by rw [hU]; exact hP, KK_warm hK hW, hD.weaken (fun _ _ _ _ => trivial)⟩⟩ rfl hn hsz hst (lv_room hr) hdg hc
theorem runNw {As : List Value} {Qc : Array Value → State → Outcome → State → Prop} {free : Nat → Prop} (C : Cx p s m meth c cc nL ret args own) (hM : Met l y (Cond.code y bytes maxL ryt :: lw_g) rm (PcW D tys wc H.size As) Qc 0 0 free) (cf : CalS y bytes maxL ryt n) (hl : (own, index, y) ∈ lw_nest)
    (hz : rm.cells = 0 ∧ rm.slots = 0 ∧ rm.frames + 1 ≤ R.frames ∧ 8 + (maxL + 11) + rm.locals ≤ R.locals) (hc : cells ≤ R.cells ∧ slots ≤ R.slots) (hP : va_P D vwCl wc H) (hD : va_D A2 wc) (hK : KK D tys s) (hsz : ls.size = nL) (hn : As.length = n) (hst : st0 = As.reverse ++ rest) (hr : (rest.map fun v => v.category).sum ≤ 8) (hdg : decode cc pc = .ok (.invokestatic index, 3)) :
    va_Run p l e R s m args below meth c H locs cells slots 0 0 (F0 m pc ls st0) rest (Qc As.toArray) free := by
  obtain ⟨hx, hb, hml, hown, hT, -, -⟩ := C
  obtain ⟨h1, h2, h4, h5, h6, h7⟩ := cf
  refine va_runSN (Ts := lw_g) (own := own) (host := "PlainDrawing") (cc := cc) (nL := nL) (n := n) (bytes := bytes) (maxL := maxL) (ret := ryt) (rm := rm) ⟨hx, hb, hml, hown, hT⟩ hM ⟨va_cnB n hT (kg0 h1) rfl hz.1 hz.2.1 (hK.2 _ hl) (hT _ h4) ⟨h5, h6, h7⟩ hz.2.2, hT _ h2, trivial⟩ ⟨PcW_blind, fun U hU hW => ⟨rfl, by rw [hU], by rw [hU]; exact hP, KK_warm hK hW, hD.weaken (fun _ _ _ _ => trivial)⟩⟩ rfl hn hsz hst (lv_room hr) hdg hc
/-- behind a call that wrote: the caller's other cells and the callee's, in the caller's order -/
theorem joinW {H1 : Heap} (hP : va_P D vwCl ws H) (hD : va_D A ws) (isC : List Nat) (hC : isC.map (fun i => ws[i]?) = wc.map some) (isR : List Nat) (hR : isR.map (fun i => ws[i]?) = (isR.filterMap (fun i => ws[i]?)).map some) (hn : va_nd isR = true) (hdis : ∀ i ∈ isR, i ∉ isC) (isF : List Nat) (hF : isF.map (fun i => (isR.filterMap (fun i => ws[i]?) ++ w1)[i]?) = w2.map some) (hnF : va_nd isF = true)
    (hk : ∀ q : Nat, q < H.size → ¬ va_A wc H.size q → H1[q]? = H[q]?) (hFr : ∀ q, va_A wc H.size q → A q) (hP1 : va_P D vwCl w1 H1) (hD1 : va_D (va_A wc H.size) w1) : va_P D vwCl w2 H1 ∧ va_D A w2 := by
  obtain ⟨g1, g2⟩ := va_join hP hD isC isR hC hR hn hdis hk hFr hP1 hD1
  refine ⟨fun k q hq => ?_, g2.sub isF hnF hF⟩
  have h1 : (isF.map (fun i => (isR.filterMap (fun i => ws[i]?) ++ w1)[i]?))[k]? = some (some q) := by rw [hF, List.getElem?_map, hq]; rfl
  rw [List.getElem?_map] at h1
  cases hi : isF[k]? with
  | none => rw [hi] at h1; cases h1
  | some i => rw [hi] at h1; exact g1 i q (Option.some.inj h1)
theorem backWi {a : Array Value} {ρ : Int32} (hr : va_Run p l e R s m args below meth c H locs cells slots 0 0 (F0 m pc ls st0) rest (va_Qi (fun r (_ : Unit) => r = ρ) (fun _ t => va_P D vwCl w1 t.heap ∧ va_D (va_A wc H.size) w1) (va_A wc H.size) a) (va_A wc H.size)) (hP : va_P D vwCl ws H) (hD : va_D A ws) (hS : va_S A H0 H locs) (hA : ∀ q : Nat, H0.size ≤ q → A q)
    (isC : List Nat) (hC : isC.map (fun i => ws[i]?) = wc.map some) (isR : List Nat) (hR : isR.map (fun i => ws[i]?) = (isR.filterMap (fun i => ws[i]?)).map some) (hn : va_nd isR = true) (hdis : ∀ i ∈ isR, i ∉ isC) (isF : List Nat) (hF : isF.map (fun i => (isR.filterMap (fun i => ws[i]?) ++ w1)[i]?) = w2.map some) (hnF : va_nd isF = true)
    (kk : ∀ (H1 : Heap) (locs1 : List Loc), va_P D vwCl w2 H1 → va_D A w2 → va_S A H0 H1 locs1 → W p l e R s m args below meth c H1 locs1 cells slots Q (F0 m (pc + 3) ls (.int ρ :: rest))) : W p l e R s m args below meth c H locs cells slots Q (F0 m pc ls st0) := by
  have hFr := va_free (wc := wc) hD hS hA isC hC
  refine va_calli hr hS (fun q _ h => hFr q h) hFr (fun r u t H1 locs1 ht hvm hp hB hz1 hk1 hS1 => ?_)
  subst hp
  obtain ⟨hP1, hD1⟩ := hB
  rw [ht] at hP1
  obtain ⟨g1, g2⟩ := joinW (w2 := w2) hP hD isC hC isR hR hn hdis isF hF hnF hk1 hFr hP1 hD1
  exact kk H1 locs1 g1 g2 hS1
theorem backWv {a : Array Value} (hr : va_Run p l e R s m args below meth c H locs cells slots 0 0 (F0 m pc ls st0) rest (va_Qv (fun (_ : Unit) => True) (fun _ t => va_P D vwCl w1 t.heap ∧ va_D (va_A wc H.size) w1) (va_A wc H.size) a) (va_A wc H.size)) (hP : va_P D vwCl ws H) (hD : va_D A ws) (hS : va_S A H0 H locs) (hA : ∀ q : Nat, H0.size ≤ q → A q)
    (isC : List Nat) (hC : isC.map (fun i => ws[i]?) = wc.map some) (isR : List Nat) (hR : isR.map (fun i => ws[i]?) = (isR.filterMap (fun i => ws[i]?)).map some) (hn : va_nd isR = true) (hdis : ∀ i ∈ isR, i ∉ isC) (isF : List Nat) (hF : isF.map (fun i => (isR.filterMap (fun i => ws[i]?) ++ w1)[i]?) = w2.map some) (hnF : va_nd isF = true)
    (kk : ∀ (H1 : Heap) (locs1 : List Loc), va_P D vwCl w2 H1 → va_D A w2 → va_S A H0 H1 locs1 → W p l e R s m args below meth c H1 locs1 cells slots Q (F0 m (pc + 3) ls rest)) : W p l e R s m args below meth c H locs cells slots Q (F0 m pc ls st0) := by
  have hFr := va_free (wc := wc) hD hS hA isC hC
  refine va_callv hr hS (fun q _ h => hFr q h) hFr (fun u t H1 locs1 ht hvm hp hB hz1 hk1 hS1 => ?_)
  obtain ⟨hP1, hD1⟩ := hB
  rw [ht] at hP1
  obtain ⟨g1, g2⟩ := joinW (w2 := w2) hP hD isC hC isR hR hn hdis isF hF hnF hk1 hFr hP1 hD1
  exact kk H1 locs1 g1 g2 hS1
end ZW
theorem tbl_ne {x : Int32} {k : Int32} (h : ¬ x = k) : x.toInt ≠ k.toInt := fun e => h (Int32.toInt_inj.mp e)
theorem tbl_out8 {x : Int32} (h0 : ¬ x = 0) (h1 : ¬ x = 1) (h2 : ¬ x = 2) (h3 : ¬ x = 3) (h4 : ¬ x = 4) (h5 : ¬ x = 5) (h6 : ¬ x = 6) (h7 : ¬ x = 7) : x.toInt < 0 ∨ 7 < x.toInt := by
  have q0 : x.toInt ≠ 0 := tbl_ne h0
  have q1 : x.toInt ≠ 1 := tbl_ne h1
  have q2 : x.toInt ≠ 2 := tbl_ne h2
  have q3 : x.toInt ≠ 3 := tbl_ne h3
  have q4 : x.toInt ≠ 4 := tbl_ne h4
  have q5 : x.toInt ≠ 5 := tbl_ne h5
  have q6 : x.toInt ≠ 6 := tbl_ne h6
  have q7 : x.toInt ≠ 7 := tbl_ne h7
  omega
theorem tbl_out4 {x : Int32} (h0 : ¬ x = 0) (h1 : ¬ x = 1) (h2 : ¬ x = 2) (h3 : ¬ x = 3) : x.toInt < 0 ∨ 3 < x.toInt := by
  have q0 : x.toInt ≠ 0 := tbl_ne h0
  have q1 : x.toInt ≠ 1 := tbl_ne h1
  have q2 : x.toInt ≠ 2 := tbl_ne h2
  have q3 : x.toInt ≠ 3 := tbl_ne h3
  omega
theorem fst_e {α β : Type} {a : α} {b : β} {ρ : α × β} (e : (a, b) = ρ) : a = ρ.1 := by subst e; rfl
section LW
variable {p : Program} {l : Launch} {e : Env} {R : Room} {s : State} {m : MethodId} {args : Array Value} {below : List Frame} {meth : Method} {c : Code} {H : Heap} {locs : List Loc} {cells slots : Nat} {Q : State → Prop}
variable {cc : ByteArray} {pc : Nat} {ls : Array Slot} {rest : List Value}
theorem lw_ldcF {T : State} (X : Stand p l e R s m args below meth c T locs cells slots) (hexec : p.tables.exec = Jvm.exec) {own : String} {index : Nat} {v : UInt32} (hown : s.vm.findClass own = some m.cls)
    (hconst : (Cond.constantFloat own index v).before args s = true) {g : JFrame} (hg : g.method = m) (hdg : decode c.code g.pc = .ok (.ldc_w index, 3)) :
    ∀ target, Steps p.tables e below (T.setTop { g with pc := g.pc + 3, stack := .float v :: g.stack }) target → Steps p.tables e below (T.setTop g) target := by
  obtain ⟨k, cf, hk, hcf, hcp⟩ := Cond.constantFloat_spec hown hconst
  obtain ⟨k', hk', he⟩ := X.warmed.alike.2.2 _ _ hk
  intro target hrest
  subst hg
  jvm_step X.here [hexec, hdg, ldc_w.wp_float (s := T) (f := g) X.here.top hk' (by rw [he]; exact hcf) hcp]
  exact hrest
theorem lv_ldcfw (hexec : p.tables.exec = Jvm.exec) (hb : c.code = cc) {own : String} {index : Nat} {v : UInt32} (hown : s.vm.findClass own = some m.cls) (hconst : (Jvm.Cond.constantFloat own index v).before args s = true) (hdg : decode cc pc = .ok (.ldc_w index, 3)) (k : W p l e R s m args below meth c H locs cells slots Q (F0 m (pc + 3) ls (.float v :: rest))) : W p l e R s m args below meth c H locs cells slots Q (F0 m pc ls rest) := by
  intro T hT X
  obtain ⟨t, a, b⟩ := k T hT X
  exact ⟨t, lw_ldcF X hexec hown hconst (g := F0 m pc ls rest) rfl (by rw [hb]; exact hdg) t a, b⟩
end LW
