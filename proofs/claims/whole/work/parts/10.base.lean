/-! contexts, contracts and calls, over the one list of words -/
def NN (U : State) : Prop := ∀ q ∈ lw_nest, va_Nw (.methodLinkNest q.1 q.2.1 q.2.2 "PlainDrawing") U
theorem NN_warm {s U : State} (hW : s.WarmedH U.vm) (h : NN s) : NN U := fun q hq => va_Nw.warmM hW (h q hq)
def KK (D : va_G) (tys : List (ClassId × FieldType)) (U : State) : Prop := va_K D vwCl tys U ∧ NN U
theorem KK_warm {D : va_G} {tys : List (ClassId × FieldType)} {s U : State} (h : KK D tys s) (hW : s.WarmedH U.vm) : KK D tys U := ⟨va_K.moved hW.alike h.1, NN_warm hW h.2⟩
theorem KK_calling {D : va_G} {tys : List (ClassId × FieldType)} {U : State} {g : JFrame} {mk : MethodId} {a : Array Value} (h : KK D tys U) : KK D tys (U.calling g mk a) := ⟨va_K.moved (u := U) (U := U.calling g mk a) (Vm.Alike.refl U.vm) h.1, fun q hq => va_Nw.same (u := U) rfl rfl (h.2 q hq)⟩
/-- what holds at a method's entry, but for the heap -/
def Cx (p : Program) (s : State) (m : MethodId) (meth : Method) (c : Code) (cc : ByteArray) (nL : Nat) (ret : Option FieldType) (args : Array Value) (own : String) : Prop :=
  p.tables.exec = Jvm.exec ∧ c.code = cc ∧ c.maxLocals = nL ∧ s.vm.findClass own = some m.cls ∧ (∀ w ∈ lw_g, w.before args s = true) ∧ meth.sig.returnType = ret ∧ meth.locks = false
def PcS (D : va_G) (tys : List (ClassId × FieldType)) (ws : va_W) (av : List Value) : Array Value → State → Prop := va_Pc av (fun U => va_P D vwCl ws U.heap ∧ KK D tys U)
def PcW (D : va_G) (tys : List (ClassId × FieldType)) (ws : va_W) (sz : Nat) (av : List Value) : Array Value → State → Prop := va_Pc av (fun U => U.heap.size = sz ∧ va_P D vwCl ws U.heap ∧ KK D tys U ∧ va_D (fun _ => True) ws)
theorem PcS_blind {D : va_G} {tys : List (ClassId × FieldType)} {ws : va_W} {av : List Value} : FrameBlind (PcS D tys ws av) := fun _ _ _ _ h => ⟨h.1, h.2.1, KK_calling h.2.2⟩
theorem PcW_blind {D : va_G} {tys : List (ClassId × FieldType)} {ws : va_W} {sz : Nat} {av : List Value} : FrameBlind (PcW D tys ws sz av) := fun _ _ _ _ h => ⟨h.1, h.2.1, h.2.2.1, KK_calling h.2.2.2.1, h.2.2.2.2⟩
theorem mkS {l : Launch} {y : MethodName} {cc : ByteArray} {maxL : Nat} {ret : Option FieldType} {rm : Room} {D : va_G} {tys : List (ClassId × FieldType)} {ws : va_W} {av : List Value} {Qc : Array Value → State → Outcome → State → Prop}
    (hy : plainName y.cls = true) (hn : (lg_sl av).length ≤ maxL)
    (body : ∀ (p : Program) (e : Env) (s : State) (m : MethodId) (below : List Frame) (meth : Method) (c : Code) (ls : Array Slot), Cx p s m meth c cc maxL ret av.toArray y.cls → lv_has ls maxL (lv_args 0 av) → va_P D vwCl ws s.heap → KK D tys s → W p l e rm s m av.toArray below meth c s.heap [] 0 0 (MQ below Qc av.toArray s 0 0 (fun _ => False)) (F0 m 0 ls [])) :
    Met l y (Cond.code y cc maxL ret :: lw_g) rm (PcS D tys ws av) Qc 0 0 (fun _ => False) := by
  refine Met.ofW (cc := cc) (maxL := maxL) (ret := ret) hy rfl ?_
  intro p e s m args below meth c s₁ B hml hv
  obtain ⟨rfl, hP, hK⟩ := hv
  have hts := atoms_spec (ws := Cond.code y cc maxL ret :: lw_g) B.pre
  have hown : s.vm.findClass y.cls = some m.cls := findClass_of_methodNamed B.named
  have hl := lv_entry av (n := maxL) hn
  rw [lg_entry_eq]
  generalize (lg_sl av ++ List.replicate (maxL - (lg_sl av).length) Slot.unset).toArray = ls at hl ⊢
  exact body p e s m below meth c ls ⟨B.exec, B.bytes, hml, hown, fun w hw => hts w (List.mem_cons_of_mem _ hw), B.returns, B.notSynchronized⟩ hl hP hK
theorem mkSF {l : Launch} {y : MethodName} {cc : ByteArray} {maxL : Nat} {ret : Option FieldType} {rm : Room} {D : va_G} {tys : List (ClassId × FieldType)} {ws : va_W} {av : List Value} {Qc : Array Value → State → Outcome → State → Prop}
    (hy : plainFor y = true) (hn : (lg_sl av).length ≤ maxL)
    (body : ∀ (p : Program) (e : Env) (s : State) (m : MethodId) (below : List Frame) (meth : Method) (c : Code) (ls : Array Slot), Cx p s m meth c cc maxL ret av.toArray y.cls → lv_has ls maxL (lv_args 0 av) → va_P D vwCl ws s.heap → KK D tys s → W p l e rm s m av.toArray below meth c s.heap [] 0 0 (MQ below Qc av.toArray s 0 0 (fun _ => False)) (F0 m 0 ls [])) :
    Met l y (Cond.code y cc maxL ret :: lw_g) rm (PcS D tys ws av) Qc 0 0 (fun _ => False) := by
  refine va_MetF (cc := cc) (maxL := maxL) (ret := ret) hy rfl ?_
  intro p e s m args below meth c s₁ B hml hv
  obtain ⟨rfl, hP, hK⟩ := hv
  have hts := atoms_spec (ws := Cond.code y cc maxL ret :: lw_g) B.pre
  have hown : s.vm.findClass y.cls = some m.cls := findClass_of_methodNamed B.named
  have hl := lv_entry av (n := maxL) hn
  rw [lg_entry_eq]
  generalize (lg_sl av ++ List.replicate (maxL - (lg_sl av).length) Slot.unset).toArray = ls at hl ⊢
  exact body p e s m below meth c ls ⟨B.exec, B.bytes, hml, hown, fun w hw => hts w (List.mem_cons_of_mem _ hw), B.returns, B.notSynchronized⟩ hl hP hK
theorem mkW {l : Launch} {y : MethodName} {cc : ByteArray} {maxL : Nat} {ret : Option FieldType} {rm : Room} {D : va_G} {tys : List (ClassId × FieldType)} {ws : va_W} {sz : Nat} {av : List Value} {QQ : (Nat → Prop) → Array Value → State → Outcome → State → Prop}
    (hy : plainName y.cls = true) (hn : (lg_sl av).length ≤ maxL)
    (body : ∀ (p : Program) (e : Env) (s : State) (m : MethodId) (below : List Frame) (meth : Method) (c : Code) (ls : Array Slot) (A : Nat → Prop), Cx p s m meth c cc maxL ret av.toArray y.cls → lv_has ls maxL (lv_args 0 av) → va_P D vwCl ws s.heap → KK D tys s → va_D A ws → (∀ q : Nat, s.heap.size ≤ q → A q) → va_S A s.heap s.heap [] → W p l e rm s m av.toArray below meth c s.heap [] 0 0 (MQ below (QQ A) av.toArray s 0 0 A) (F0 m 0 ls [])) :
    Met l y (Cond.code y cc maxL ret :: lw_g) rm (PcW D tys ws sz av) (QQ (va_A ws sz)) 0 0 (va_A ws sz) := by
  refine Met.ofW (cc := cc) (maxL := maxL) (ret := ret) hy rfl ?_
  intro p e s m args below meth c s₁ B hml hv
  obtain ⟨rfl, hsz, hP, hK, hD⟩ := hv
  have hts := atoms_spec (ws := Cond.code y cc maxL ret :: lw_g) B.pre
  have hown : s.vm.findClass y.cls = some m.cls := findClass_of_methodNamed B.named
  have hl := lv_entry av (n := maxL) hn
  rw [lg_entry_eq]
  generalize (lg_sl av ++ List.replicate (maxL - (lg_sl av).length) Slot.unset).toArray = ls at hl ⊢
  subst hsz
  exact body p e s m below meth c ls _ ⟨B.exec, B.bytes, hml, hown, fun w hw => hts w (List.mem_cons_of_mem _ hw), B.returns, B.notSynchronized⟩ hl hP hK hD.self (fun q h => Or.inr h) va_S.rf
section ZC
variable {p : Program} {l : Launch} {e : Env} {R : Room} {s : State} {m : MethodId} {args : Array Value} {below : List Frame} {meth : Method} {c : Code} {H : Heap} {locs : List Loc} {cells slots : Nat} {Q : State → Prop}
variable {cc : ByteArray} {nL pc : Nat} {ret : Option FieldType} {own : String} {ls : Array Slot} {rest st0 : List Value} {D : va_G} {tys : List (ClassId × FieldType)} {wc : va_W}
variable {y : MethodName} {bytes : ByteArray} {maxL n index : Nat} {ryt : Option FieldType} {rm : Room} {av : List Value}
/-- what a call of an instance method that changes nothing gives -/
theorem runV0 {As : List Value} {b : Nat} {Qc : Array Value → State → Outcome → State → Prop} (C : Cx p s m meth c cc nL ret args own) (hM : Met l y (Cond.code y bytes maxL ryt :: lw_g) rm (PcS D tys wc (.ref b :: As)) Qc 0 0 (fun _ => False)) (cf : CalV y bytes maxL ryt n) (hl : Cond.methodLink own index y ∈ lw_g)
    (hz : rm.cells = 0 ∧ rm.slots = 0 ∧ rm.frames + 1 ≤ R.frames ∧ 8 + (maxL + 11) + rm.locals ≤ R.locals) (hc : cells ≤ R.cells ∧ slots ≤ R.slots) (hrec : ∃ cell : Cell, H[b]? = some cell ∧ cell.vm.isStatics = false ∧ s.vm.findClass y.cls = some cell.cls) (hP : va_P D vwCl wc H) (hK : KK D tys s) (hsz : ls.size = nL) (hn : As.length = n) (hst : st0 = As.reverse ++ .ref b :: rest) (hr : (rest.map fun v => v.category).sum ≤ 8) (hdg : decode cc pc = .ok (.invokevirtual index, 3)) :
    va_Run p l e R s m args below meth c H locs cells slots 0 0 (F0 m pc ls st0) rest (Qc (Value.ref b :: As).toArray) (fun _ => False) := by
  obtain ⟨hx, hb, hml, hown, hT, -, -⟩ := C
  obtain ⟨h1, h2, h3, h4, h5, h6, h7⟩ := cf
  have hT2 : ∀ w ∈ (Cond.code y bytes maxL ryt :: lw_g), w.before args s = true := fun w hw => (List.mem_cons.mp hw).elim (fun e => e ▸ hT _ h1) (hT w)
  refine va_runV (Ts := lw_g) (own := own) (cc := cc) (nL := nL) (n := n) (C := y.cls) (bytes := bytes) (maxL := maxL) (ret := ryt) (rm := rm) ⟨hx, hb, hml, hown, hT⟩ hM ⟨callB_of n hT (kg0 h1) rfl hz.1 hz.2.1 (hT _ h4) (hT _ hl) ⟨h5, h6, h7⟩ hz.2.2, hT _ h2, hT _ h3⟩ ⟨PcS_blind, hrec, fun U hU hW => ⟨rfl, by rw [hU]; exact hP, KK_warm hK hW⟩⟩ rfl hn hsz hst (lv_room hr) hdg hc
theorem runS0 {As : List Value} {Qc : Array Value → State → Outcome → State → Prop} (C : Cx p s m meth c cc nL ret args own) (hM : Met l y (Cond.code y bytes maxL ryt :: lw_g) rm (PcS D tys wc As) Qc 0 0 (fun _ => False)) (cf : CalS y bytes maxL ryt n) (hl : Cond.methodLink own index y ∈ lw_g)
    (hz : rm.cells = 0 ∧ rm.slots = 0 ∧ rm.frames + 1 ≤ R.frames ∧ 8 + (maxL + 11) + rm.locals ≤ R.locals) (hc : cells ≤ R.cells ∧ slots ≤ R.slots) (hP : va_P D vwCl wc H) (hK : KK D tys s) (hsz : ls.size = nL) (hn : As.length = n) (hst : st0 = As.reverse ++ rest) (hr : (rest.map fun v => v.category).sum ≤ 8) (hdg : decode cc pc = .ok (.invokestatic index, 3)) :
    va_Run p l e R s m args below meth c H locs cells slots 0 0 (F0 m pc ls st0) rest (Qc As.toArray) (fun _ => False) := by
  obtain ⟨hx, hb, hml, hown, hT, -, -⟩ := C
  obtain ⟨h1, h2, h4, h5, h6, h7⟩ := cf
  refine va_runS (Ts := lw_g) (own := own) (cc := cc) (nL := nL) (n := n) (bytes := bytes) (maxL := maxL) (ret := ryt) (rm := rm) ⟨hx, hb, hml, hown, hT⟩ hM ⟨callB_of n hT (kg0 h1) rfl hz.1 hz.2.1 (hT _ h4) (hT _ hl) ⟨h5, h6, h7⟩ hz.2.2, hT _ h2⟩ ⟨PcS_blind, fun U hU hW => ⟨rfl, by rw [hU]; exact hP, KK_warm hK hW⟩⟩ rfl hn hsz hst (lv_room hr) hdg hc
theorem runN0 {As : List Value} {Qc : Array Value → State → Outcome → State → Prop} (C : Cx p s m meth c cc nL ret args own) (hM : Met l y (Cond.code y bytes maxL ryt :: lw_g) rm (PcS D tys wc As) Qc 0 0 (fun _ => False)) (cf : CalS y bytes maxL ryt n) (hl : (own, index, y) ∈ lw_nest)
    (hz : rm.cells = 0 ∧ rm.slots = 0 ∧ rm.frames + 1 ≤ R.frames ∧ 8 + (maxL + 11) + rm.locals ≤ R.locals) (hc : cells ≤ R.cells ∧ slots ≤ R.slots) (hP : va_P D vwCl wc H) (hK : KK D tys s) (hsz : ls.size = nL) (hn : As.length = n) (hst : st0 = As.reverse ++ rest) (hr : (rest.map fun v => v.category).sum ≤ 8) (hdg : decode cc pc = .ok (.invokestatic index, 3)) :
    va_Run p l e R s m args below meth c H locs cells slots 0 0 (F0 m pc ls st0) rest (Qc As.toArray) (fun _ => False) := by
  obtain ⟨hx, hb, hml, hown, hT, -, -⟩ := C
  obtain ⟨h1, h2, h4, h5, h6, h7⟩ := cf
  refine va_runSN (Ts := lw_g) (own := own) (host := "PlainDrawing") (cc := cc) (nL := nL) (n := n) (bytes := bytes) (maxL := maxL) (ret := ryt) (rm := rm) ⟨hx, hb, hml, hown, hT⟩ hM ⟨va_cnB n hT (kg0 h1) rfl hz.1 hz.2.1 (hK.2 _ hl) (hT _ h4) ⟨h5, h6, h7⟩ hz.2.2, hT _ h2, trivial⟩ ⟨PcS_blind, fun U hU hW => ⟨rfl, by rw [hU]; exact hP, KK_warm hK hW⟩⟩ rfl hn hsz hst (lv_room hr) hdg hc
/-- behind a call that changed nothing -/
theorem backI {ρ : Int32} {a : Array Value} (hr : va_Run p l e R s m args below meth c H locs cells slots 0 0 (F0 m pc ls st0) rest (vp_Si (fun r => r = ρ) a) (fun _ => False)) (kk : W p l e R s m args below meth c H locs cells slots Q (F0 m (pc + 3) ls (.int ρ :: rest))) : W p l e R s m args below meth c H locs cells slots Q (F0 m pc ls st0) := by
  intro T hT X
  obtain ⟨v, st₀, t, T', L, h0, X', hL, e1, e2, ⟨r, hv, hp, hh⟩, st⟩ := hr T hT X
  cases hv
  subst hp
  obtain ⟨t2, a1, b1⟩ := kk T' (by rw [e1, hh, h0]) (Stand.forget X' (fun q h => (hL q h).elim))
  exact ⟨t2, st t2 a1, b1⟩
theorem backF {ρ : UInt32} {a : Array Value} (hr : va_Run p l e R s m args below meth c H locs cells slots 0 0 (F0 m pc ls st0) rest (vp_Sf (fun r => r = ρ) a) (fun _ => False)) (kk : W p l e R s m args below meth c H locs cells slots Q (F0 m (pc + 3) ls (.float ρ :: rest))) : W p l e R s m args below meth c H locs cells slots Q (F0 m pc ls st0) := by
  intro T hT X
  obtain ⟨v, st₀, t, T', L, h0, X', hL, e1, e2, ⟨r, hv, hp, hh⟩, st⟩ := hr T hT X
  cases hv
  subst hp
  obtain ⟨t2, a1, b1⟩ := kk T' (by rw [e1, hh, h0]) (Stand.forget X' (fun q h => (hL q h).elim))
  exact ⟨t2, st t2 a1, b1⟩
end ZC
/-! the pure side: a computation that may fail -/
def inb (i : Int32) (n : Nat) : Bool := decide (0 ≤ i.toInt ∧ i.toInt < n)
theorem inb_in {i : Int32} {n : Nat} (h : inb i n = true) : vp_in i n := vp_in_iff.mpr (of_decide_eq_true h)
def chk {α : Type} (b : Bool) (x : Option α) : Option α := if b = true then x else none
theorem chk_s {α : Type} {b : Bool} {x : Option α} {r : α} (h : chk b x = some r) : b = true ∧ x = some r := by
  unfold chk at h
  split at h
  · exact ⟨by assumption, h⟩
  · cases h
theorem ite_t {α : Type} {c : Prop} [Decidable c] {x y : Option α} {r : α} (hc : c) (h : (if c then x else y) = some r) : x = some r := by rw [if_pos hc] at h; exact h
theorem ite_fn {α : Type} {c : Prop} [Decidable c] {x y : Option α} {r : α} (hc : c) (h : (if ¬ c then x else y) = some r) : y = some r := by rw [if_neg (fun q => q hc)] at h; exact h
theorem ite_f {α : Type} {c : Prop} [Decidable c] {x y : Option α} {r : α} (hc : ¬ c) (h : (if c then x else y) = some r) : y = some r := by rw [if_neg hc] at h; exact h
def bd1 {α γ : Type} (x : Option α) (f : α → Option γ) : Option γ := match x with
  | some a => f a
  | none => none
theorem bd1_s {α γ : Type} {x : Option α} {f : α → Option γ} {r : γ} (h : bd1 x f = some r) : ∃ a, x = some a ∧ f a = some r := by
  unfold bd1 at h
  split at h
  · exact ⟨_, rfl, h⟩
  · cases h
theorem some_i {α : Type} {x y : α} (h : some x = some y) : x = y := Option.some.inj h
