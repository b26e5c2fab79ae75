/-! constructors: contracts that make cells -/
theorem kc_Object : (Cond.code objectInit ⟨#[0xb1]⟩ 1 none : Cond) ∈ lw_g := mT1 (List.mem_of_getElem? (i := 23) rfl) rfl
def PcC (D : va_G) (tys : List (ClassId × FieldType)) (ws : va_W) (sz : Nat) (av : List Value) : Array Value → State → Prop := va_Pc av (fun U => U.heap.size = sz ∧ va_P D vwCl ws U.heap ∧ KK D tys U ∧ va_D (fun _ => True) ws ∧ va_AO "PlainDrawing$Graph" U)
theorem PcC_blind {D : va_G} {tys : List (ClassId × FieldType)} {ws : va_W} {sz : Nat} {av : List Value} : FrameBlind (PcC D tys ws sz av) := fun _ U g mk h => ⟨h.1, h.2.1, h.2.2.1, KK_calling h.2.2.2.1, h.2.2.2.2.1, va_AO.moved (u := U) (Vm.Alike.refl U.vm) h.2.2.2.2.2⟩
theorem mkC {l : Launch} {y : MethodName} {cc : ByteArray} {maxL : Nat} {ret : Option FieldType} {rm : Room} {D : va_G} {tys : List (ClassId × FieldType)} {ws : va_W} {sz mc ms : Nat} {av : List Value} {QQ : (Nat → Prop) → Array Value → State → Outcome → State → Prop}
    (hy : plainName y.cls = true) (hn : (lg_sl av).length ≤ maxL)
    (body : ∀ (p : Program) (e : Env) (s : State) (m : MethodId) (below : List Frame) (meth : Method) (c : Code) (ls : Array Slot) (A : Nat → Prop), Cx p s m meth c cc maxL ret av.toArray y.cls → meth.name = y.name → va_AO "PlainDrawing$Graph" s → lv_has ls maxL (lv_args 0 av) → va_P D vwCl ws s.heap → KK D tys s → va_D A ws → (∀ q : Nat, s.heap.size ≤ q → A q) → va_S A s.heap s.heap [] → W p l e rm s m av.toArray below meth c s.heap [] 0 0 (MQ below (QQ A) av.toArray s mc ms A) (F0 m 0 ls [])) :
    Met l y (Cond.code y cc maxL ret :: lw_g) rm (PcC D tys ws sz av) (QQ (va_A ws sz)) mc ms (va_A ws sz) := by
  refine Met.ofW (cc := cc) (maxL := maxL) (ret := ret) hy rfl ?_
  intro p e s m args below meth c s₁ B hml hv
  obtain ⟨rfl, hsz, hP, hK, hD, hO⟩ := hv
  have hts := atoms_spec (ws := Cond.code y cc maxL ret :: lw_g) B.pre
  have hown : s.vm.findClass y.cls = some m.cls := findClass_of_methodNamed B.named
  have hl := lv_entry av (n := maxL) hn
  rw [lg_entry_eq]
  generalize (lg_sl av ++ List.replicate (maxL - (lg_sl av).length) Slot.unset).toArray = ls at hl ⊢
  subst hsz
  exact body p e s m below meth c ls _ ⟨B.exec, B.bytes, hml, hown, fun w hw => hts w (List.mem_cons_of_mem _ hw), B.returns, B.notSynchronized⟩ (name_of_methodNamed B.named B.method).1 hO hl hP hK hD.self (fun q h => Or.inr h) va_S.rf
section ZK
variable {p : Program} {l : Launch} {e : Env} {R : Room} {s : State} {m : MethodId} {args : Array Value} {below : List Frame} {meth : Method} {c : Code} {H H0 : Heap} {locs : List Loc} {cells slots : Nat} {Q : State → Prop}
variable {cc : ByteArray} {nL pc : Nat} {ret : Option FieldType} {own : String} {ls : Array Slot} {rest st0 : List Value} {D : va_G} {tys : List (ClassId × FieldType)} {ws wc : va_W}
variable {y : MethodName} {bytes : ByteArray} {maxL n index : Nat} {rm : Room} {A A2 : Nat → Prop}
theorem newI {cA : Nat → ClassId} (hx : p.tables.exec = Jvm.exec) (hb : c.code = cc) (hT : ∀ w ∈ lw_g, w.before args s = true) (hK : KK D (tyA cA) s) (hP : va_P D vwCl ws H) (hD : va_D A ws) (hS : va_S A H0 H locs) (hA : ∀ q, H0.size ≤ q → A q) {n : Int32} (N' : Nat) (hn : ¬ n < 0) (hN : n.toNatClampNeg = N') (hbytes : N' * 4 ≤ 536870912) (hcells : cells + 1 ≤ R.cells) (hslots : slots + N' ≤ R.slots) (hdg : decode cc pc = .ok (.newarray .int, 2))
    (kk : ∀ (q : Nat) (H1 : Heap), va_P D vwCl (ws ++ [(q, .inl (cA 0, N', .inl (fun _ => 0)))]) H1 → va_D A (ws ++ [(q, .inl (cA 0, N', .inl (fun _ => 0)))]) → va_S A H0 H1 locs → W p l e R s m args below meth c H1 locs (cells + 1) (slots + N') Q (F0 m (pc + 2) ls (.ref q :: rest))) : W p l e R s m args below meth c H locs cells slots Q (F0 m pc ls (.int n :: rest)) := by
  refine va_newa (atype := .int) (ty := .int) (a0 := (N', .inl (fun _ => 0))) hx hb (hT _ ko_1_69) rfl hK.1 hP hD hS hA (fun _ => rfl) hn hN hbytes hcells hslots hdg (fun q c1 H1 hK1 hP1 hD1 hS1 => ?_)
  have h1 : s.vm.findClass _ = some c1 := (hK1.2 4 (c1, .int) rfl).2
  have h2 : s.vm.findClass _ = some (cA 0) := (hK.1.2 0 (cA 0, .int) rfl).2
  obtain rfl : c1 = cA 0 := Option.some.inj (h1.symm.trans h2)
  exact kk q H1 hP1 hD1 hS1
theorem newF {cA : Nat → ClassId} (hx : p.tables.exec = Jvm.exec) (hb : c.code = cc) (hT : ∀ w ∈ lw_g, w.before args s = true) (hK : KK D (tyA cA) s) (hP : va_P D vwCl ws H) (hD : va_D A ws) (hS : va_S A H0 H locs) (hA : ∀ q, H0.size ≤ q → A q) {n : Int32} (N' : Nat) (hn : ¬ n < 0) (hN : n.toNatClampNeg = N') (hbytes : N' * 4 ≤ 536870912) (hcells : cells + 1 ≤ R.cells) (hslots : slots + N' ≤ R.slots) (hdg : decode cc pc = .ok (.newarray .float, 2))
    (kk : ∀ (q : Nat) (H1 : Heap), va_P D vwCl (ws ++ [(q, .inl (cA 1, N', .inr (.inr (.inl (fun _ => FP.fconst0)))))]) H1 → va_D A (ws ++ [(q, .inl (cA 1, N', .inr (.inr (.inl (fun _ => FP.fconst0)))))]) → va_S A H0 H1 locs → W p l e R s m args below meth c H1 locs (cells + 1) (slots + N') Q (F0 m (pc + 2) ls (.ref q :: rest))) : W p l e R s m args below meth c H locs cells slots Q (F0 m pc ls (.int n :: rest)) := by
  refine va_newa (atype := .float) (ty := .float) (a0 := (N', .inr (.inr (.inl (fun _ => FP.fconst0))))) hx hb (hT _ ko_2_1) rfl hK.1 hP hD hS hA (fun _ => rfl) hn hN hbytes hcells hslots hdg (fun q c1 H1 hK1 hP1 hD1 hS1 => ?_)
  have h1 : s.vm.findClass _ = some c1 := (hK1.2 4 (c1, .float) rfl).2
  have h2 : s.vm.findClass _ = some (cA 1) := (hK.1.2 1 (cA 1, .float) rfl).2
  obtain rfl : c1 = cA 1 := Option.some.inj (h1.symm.trans h2)
  exact kk q H1 hP1 hD1 hS1
theorem newB {cA : Nat → ClassId} (hx : p.tables.exec = Jvm.exec) (hb : c.code = cc) (hT : ∀ w ∈ lw_g, w.before args s = true) (hK : KK D (tyA cA) s) (hP : va_P D vwCl ws H) (hD : va_D A ws) (hS : va_S A H0 H locs) (hA : ∀ q, H0.size ≤ q → A q) {n : Int32} (N' : Nat) (hn : ¬ n < 0) (hN : n.toNatClampNeg = N') (hbytes : N' * 1 ≤ 536870912) (hcells : cells + 1 ≤ R.cells) (hslots : slots + N' ≤ R.slots) (hdg : decode cc pc = .ok (.newarray .byte, 2))
    (kk : ∀ (q : Nat) (H1 : Heap), va_P D vwCl (ws ++ [(q, .inl (cA 2, N', .inl (fun _ => 0)))]) H1 → va_D A (ws ++ [(q, .inl (cA 2, N', .inl (fun _ => 0)))]) → va_S A H0 H1 locs → W p l e R s m args below meth c H1 locs (cells + 1) (slots + N') Q (F0 m (pc + 2) ls (.ref q :: rest))) : W p l e R s m args below meth c H locs cells slots Q (F0 m pc ls (.int n :: rest)) := by
  refine va_newa (atype := .byte) (ty := .byte) (a0 := (N', .inl (fun _ => 0))) hx hb (hT _ ko_4_122) rfl hK.1 hP hD hS hA (fun _ => rfl) hn hN hbytes hcells hslots hdg (fun q c1 H1 hK1 hP1 hD1 hS1 => ?_)
  have h1 : s.vm.findClass _ = some c1 := (hK1.2 4 (c1, .byte) rfl).2
  have h2 : s.vm.findClass _ = some (cA 2) := (hK.1.2 2 (cA 2, .byte) rfl).2
  obtain rfl : c1 = cA 2 := Option.some.inj (h1.symm.trans h2)
  exact kk q H1 hP1 hD1 hS1
theorem newG {cA : Nat → ClassId} (hx : p.tables.exec = Jvm.exec) (hb : c.code = cc) (hT : ∀ w ∈ lw_g, w.before args s = true) (hown : s.vm.findClass own = some m.cls) (hcl : Cond.classLink own index "PlainDrawing$Graph" ∈ lw_g) (hO : va_AO "PlainDrawing$Graph" s) (hK : KK D (tyA cA) s) (hP : va_P D vwCl ws H) (hD : va_D A ws) (hS : va_S A H0 H locs) (hA : ∀ q, H0.size ≤ q → A q) {n : Int32} (N' : Nat) (hn : ¬ n < 0) (hN : n.toNatClampNeg = N') (hbytes : N' * 4 ≤ 536870912) (hcells : cells + 1 ≤ R.cells) (hslots : slots + N' ≤ R.slots) (hdg : decode cc pc = .ok (.anewarray index, 3))
    (kk : ∀ (q : Nat) (H1 : Heap), va_P D vwCl (ws ++ [(q, .inl (cA 3, N', .inr (.inr (.inr (.inr (fun _ => none))))))]) H1 → va_D A (ws ++ [(q, .inl (cA 3, N', .inr (.inr (.inr (.inr (fun _ => none))))))]) → va_S A H0 H1 locs → W p l e R s m args below meth c H1 locs (cells + 1) (slots + N') Q (F0 m (pc + 3) ls (.ref q :: rest))) : W p l e R s m args below meth c H locs cells slots Q (F0 m pc ls (.int n :: rest)) := by
  refine va_newq hx hb hown (hT _ hcl) hO hK.1 hP hD hS hA hn hN hbytes hcells hslots hdg (fun q c1 H1 hK1 hP1 hD1 hS1 => ?_)
  obtain ⟨k1, p1, -, -, -, h1⟩ := (hK1.2 4 (c1, .object "PlainDrawing$Graph") rfl).2
  obtain ⟨k2, p2, -, -, -, h2⟩ := (hK.1.2 3 (cA 3, .object "PlainDrawing$Graph") rfl).2
  obtain rfl : c1 = cA 3 := Option.some.inj (h1.symm.trans h2)
  exact kk q H1 hP1 hD1 hS1
/-- a constructor's call: one block that holds the new object's cell goes in -/
theorem runIc {b mc ms : Nat} {Qc : Array Value → State → Outcome → State → Prop} {free : Nat → Prop} (C : Cx p s m meth c cc nL ret args own) (hO : va_AO "PlainDrawing$Graph" s) (hM : Met l y (Cond.code y bytes maxL none :: lw_g) rm (PcC D tys wc H.size [.ref b]) Qc mc ms free) (h1 : Cond.code y bytes maxL none ∈ lw_g) (h2 : Cond.instanceMethod y ∈ lw_g) (h4 : Cond.initialized y.cls ∈ lw_g) (hl : Cond.methodLink own index y ∈ lw_g) (hy : y.name = "<init>") (hd : Cal0 y 0)
    (hz : rm.cells = mc ∧ rm.slots = ms ∧ rm.frames + 1 ≤ R.frames ∧ 8 + (maxL + 11) + rm.locals ≤ R.locals) (hc : cells + mc ≤ R.cells ∧ slots + ms ≤ R.slots) (hP : va_P D vwCl wc H) (hD : va_D A2 wc) (hK : KK D tys s) (hsz : ls.size = nL) (hst : st0 = .ref b :: rest) (hr : (rest.map fun v => v.category).sum ≤ 8) (hdg : decode cc pc = .ok (.invokespecial index, 3)) :
    va_Run p l e R s m args below meth c H locs cells slots mc ms (F0 m pc ls st0) rest (Qc [Value.ref b].toArray) free := by
  obtain ⟨hx, hb, hml, hown, hT, -, -⟩ := C
  refine va_runI (Ts := lw_g) (own := own) (cc := cc) (nL := nL) (n := 0) (bytes := bytes) (maxL := maxL) (rm := rm) (As := []) (b := b) ⟨hx, hb, hml, hown, hT⟩ hM ⟨callB_of 0 hT (kg0 h1) rfl hz.1 hz.2.1 (hT _ h4) (hT _ hl) hd hz.2.2, hy, hT _ h2⟩ ⟨PcC_blind, fun U hU hW => ⟨rfl, by rw [hU], by rw [hU]; exact hP, KK_warm hK hW, hD.weaken (fun _ _ _ _ => trivial), va_AO.moved hW.alike hO⟩⟩ rfl rfl hsz hst (lv_room hr) hdg hc
theorem backC {Bs Rs Cs : List va_W} {a : Array Value} {mc ms : Nat} {S : Type} {post : S → Prop} (C1 B2 : S → List va_W) (hr : va_Run p l e R s m args below meth c H locs cells slots mc ms (F0 m pc ls st0) rest (va_Qv post (fun u t => va_P D vwCl (flat (C1 u)) t.heap ∧ va_D (va_A (flat Cs) H.size) (flat (C1 u))) (va_A (flat Cs) H.size) a) (va_A (flat Cs) H.size)) (hP : va_P D vwCl (flat Bs) H) (hD : va_D A (flat Bs)) (hS : va_S A H0 H locs) (hA : ∀ q : Nat, H0.size ≤ q → A q)
    (isP : List Nat) (hs : isP.map (fun i => Bs[i]?) = (Rs ++ Cs).map some) (hp : isP.isPerm (List.range Bs.length) = true) (isF : List Nat) (hF : ∀ u, isF.map (fun i => (Rs ++ C1 u)[i]?) = (B2 u).map some) (hpF : ∀ u, isF.isPerm (List.range (Rs ++ C1 u).length) = true)
    (kk : ∀ (u : S) (H1 : Heap) (locs1 : List Loc), post u → va_P D vwCl (flat (B2 u)) H1 → va_D A (flat (B2 u)) → va_S A H0 H1 locs1 → W p l e R s m args below meth c H1 locs1 (cells + mc) (slots + ms) Q (F0 m (pc + 3) ls rest)) : W p l e R s m args below meth c H locs cells slots Q (F0 m pc ls st0) := by
  have hFr := freeB hD hS hA isP hs hp
  refine va_callv hr hS (fun q _ h => hFr q h) hFr (fun u t H1 locs1 ht hvm hpo hB hz1 hk1 hS1 => ?_)
  obtain ⟨hP1, hD1⟩ := hB
  rw [ht] at hP1
  obtain ⟨g1, g2⟩ := joinB hP hD isP hs hp isF (hF u) (hpF u) hk1 hFr hP1 hD1
  exact kk u H1 locs1 hpo g1 g2 hS1
end ZK
