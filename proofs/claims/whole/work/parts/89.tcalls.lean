/-! A call that throws, caught in the caller; a call of a method that catches. -/
section TC
variable {p : Program} {l : Launch} {e : Env} {R : Room} {s : State} {m : MethodId} {args : Array Value} {below : List Frame} {meth : Method} {c : Code} {T : State} {locs : List Loc} {cells slots : Nat}
theorem th_callV (X : Stand p l e R s m args below meth c T locs cells slots) (hexec : p.tables.exec = Jvm.exec) {own C : String} {index : Nat} {y : MethodName} {bytes : ByteArray} {maxL : Nat} {ret : Option FieldType}
    (hown : s.vm.findClass own = some m.cls) (hlink : (Cond.methodLink own index y).before args s = true) (hinst : (Cond.instanceMethod y).before args s = true) (hsel : (Cond.selects C y y).before args s = true)
    (hcode : (Cond.code y bytes maxL ret).before args s = true) (hy : y.cls ≠ "java/lang/invoke/MethodHandle" ∧ y.cls ≠ "java/lang/invoke/VarHandle")
    {W : Nat} {Pre : Pt → Array Value → Prop} {Post : Pt → Array Value → Addr → Pt → Prop} (hK : BackT l R p e below s args y 3 W Pre Post)
    {b : Addr} {cellB : Cell} (hcell : T.heap[b]? = some cellB) (hobj : cellB.vm.isStatics = false) (hcls : s.vm.findClass C = some cellB.cls)
    {g : JFrame} (hg : g.method = m) (hsize : g.locals.size = c.maxLocals) {argsL rest : List Value} (hlen : ∀ sig, parseMethodDescriptor y.desc = some sig → argsL.length = sig.parameters.length)
    (hstack : g.stack = argsL.reverse ++ .ref b :: rest) (hW : 2 * g.monitorRoom + (rest.map fun v => v.category).sum ≤ W) (hdg : decode c.code g.pc = .ok (.invokevirtual index, 3))
    (hpre : ∀ vm1, s.WarmedH vm1 → Pre ⟨T.setVm vm1, locs, cells, slots⟩ (Value.ref b :: argsL).toArray) :
    ∃ (x : Addr) (vm1 : Vm) (B : Pt), s.WarmedH vm1 ∧ Stand p l e R s m args below meth c B.U B.locs B.cells B.slots ∧ Post ⟨T.setVm vm1, locs, cells, slots⟩ (Value.ref b :: argsL).toArray x B ∧
      Steps p.tables e below (T.setTop g) ((B.U.setTop { g with stack := rest }).pushFrame (.throwing x)) := by
  obtain ⟨mk, methM, hnamed, hmethM, hstM, habM⟩ := Cond.instanceMethod_spec hinst
  obtain ⟨methM', cM, hmethM', -, -, -, -, -, -, hsigM⟩ := Cond.code_spec hnamed hcode
  cases hmethM.symm.trans hmethM'
  obtain ⟨c2, r2, m2, q1, q2, q3, q4, kP, hkP, hkPi⟩ := Cond.selects_spec hsel
  cases hcls.symm.trans q1
  cases (State.methodFound?_of_named hnamed hy).symm.trans q2
  cases hnamed.symm.trans q3
  have hselP : selectMethod e.platform s.vm cellB.cls mk = .method mk := by rw [Launch.admits_selectMethod X.admits]; exact q4
  obtain ⟨vm1, X1, hstep1⟩ := X.invokevirtual hexec hown hlink hnamed hmethM hstM hkP hkPi hy (a := b) (cell := cellB) hcell
    (fun z h => by rw [h] at hobj; cases hobj) hselP hmethM habM hkP hkPi (g := g) hg (argsL := argsL) (rest := rest) (hlen _ hsigM) hstack hdg
  obtain ⟨x, B, X', hpost, hsteps⟩ := hK m meth c ⟨T.setVm vm1, locs, cells, slots⟩ { g with stack := rest } (.invokevirtual index) mk (Value.ref b :: argsL).toArray X1 hg hsize hdg hW (X1.named hnamed) (hpre vm1 X1.warmed)
  exact ⟨x, vm1, B, X1.warmed, X', hpost, hstep1 _ fun acts => by rw [doInvoke_state]; exact hsteps⟩
theorem th_callS (X : Stand p l e R s m args below meth c T locs cells slots) (hexec : p.tables.exec = Jvm.exec) {own : String} {index : Nat} {y : MethodName} {bytes : ByteArray} {maxL : Nat} {ret : Option FieldType} {hh : List (Nat × Nat × Nat × Nat)}
    (hown : s.vm.findClass own = some m.cls) (hlink : (Cond.methodLink own index y).before args s = true) (hstat : (Cond.static y).before args s = true) (hinit : (Cond.initialized y.cls).before args s = true)
    (hcode : (Cond.codeWith y bytes maxL ret hh).before args s = true) (hy : y.cls ≠ "java/lang/invoke/MethodHandle" ∧ y.cls ≠ "java/lang/invoke/VarHandle")
    {W : Nat} {Pre : Pt → Array Value → Prop} {Post : Pt → Array Value → Option Value → Pt → Prop} (hK : Back l R p e below s args y 3 W Pre Post)
    {g : JFrame} (hg : g.method = m) (hsize : g.locals.size = c.maxLocals) {argsL rest : List Value} (hlen : ∀ sig, parseMethodDescriptor y.desc = some sig → argsL.length = sig.parameters.length)
    (hstack : g.stack = argsL.reverse ++ rest) (hW : 2 * g.monitorRoom + (rest.map fun v => v.category).sum ≤ W) (hdg : decode c.code g.pc = .ok (.invokestatic index, 3))
    (hpre : ∀ vm1, s.WarmedH vm1 → Pre ⟨T.setVm vm1, locs, cells, slots⟩ argsL.toArray) :
    ∃ (v : Option Value) (vm1 : Vm) (B : Pt), s.WarmedH vm1 ∧ Stand p l e R s m args below meth c B.U B.locs B.cells B.slots ∧ Post ⟨T.setVm vm1, locs, cells, slots⟩ argsL.toArray v B ∧
      ∀ target, Steps p.tables e below (B.U.setTop { g with pc := g.pc + 3, stack := v.toList ++ rest }) target → Steps p.tables e below (T.setTop g) target := by
  obtain ⟨mk, methM, cM, hnamed, hmethM, -, -, -, -, -, -, hsigM⟩ := Cond.codeWith_spec hcode
  have hstatic : methM.isStatic = true := Cond.static_spec hnamed hmethM hstat
  obtain ⟨kP, hkP, -⟩ := className_of_methodNamed hnamed
  have hinitP : kP.init = .initialized := Cond.initialized_spec (findClass_of_methodNamed hnamed) hkP hinit
  obtain ⟨vm1, X1, hstep1⟩ := X.invokestatic hexec hown hlink hnamed hmethM hstatic hkP hinitP hy (g := g) hg (argsL := argsL) (rest := rest) (hlen _ hsigM) hstack hdg
  obtain ⟨v, B, X', hpost, hsteps⟩ := hK m meth c ⟨T.setVm vm1, locs, cells, slots⟩ { g with stack := rest } (.invokestatic index) mk argsL.toArray X1 hg hsize hdg hW (X1.named hnamed) (hpre vm1 X1.warmed)
  exact ⟨v, vm1, B, X1.warmed, X', hpost, fun target h => hstep1 _ fun acts => by rw [doInvoke_state]; exact hsteps.trans h⟩
end TC
def th_PreT (R : Room) (mc ms : Nat) (Pc : Array Value → State → Prop) : Pt → Array Value → Prop := fun A a => A.cells + mc ≤ R.cells ∧ A.slots + ms ≤ R.slots ∧ Pc a A.U
def th_PostT (Qc : Array Value → State → Outcome → State → Prop) (mc ms : Nat) (free : Nat → Prop) : Pt → Array Value → Addr → Pt → Prop := fun A a v B =>
  ∃ (g : JFrame) (mk : MethodId) (t : State) (L : List Loc), B.U.heap = t.heap ∧ Qc a (A.U.calling g mk a) (.threw v) t ∧ B.locs = A.locs ++ L ∧ (∀ q ∈ L, free q.base) ∧ B.cells = A.cells + mc ∧ B.slots = A.slots + ms
theorem th_blind {D : va_G} {G : zx_G} {α : Nat → Nat} {sz : Nat} {As : List Value} {h : zx_H} : FrameBlind (th_Pc D G α sz As h) := by
  intro a U g mk q
  obtain ⟨q0, q1, qP, qK, qD, qo, qt⟩ := q
  exact ⟨q0, q1, qP, qK.call g mk a, qD, qo, qt.moved (State.WarmedH.refl U) (fun q cell h1 _ => h1)⟩
def th_pick (own : String) (hh : List (Nat × Nat × Nat × Nat)) (pc : Nat) (cls : String) (hp : Nat) : Prop :=
  ∃ (pre : List (Nat × Nat × Nat × Nat)) (s0 e0 ct : Nat) (rest : List (Nat × Nat × Nat × Nat)), hh = pre ++ (s0, e0, hp, ct) :: rest ∧ s0 ≤ pc ∧ pc < e0 ∧ ct ≠ 0 ∧ Cond.classLink own ct cls ∈ zx_T ∧ Cond.castable cls cls ∈ zx_N ∧
    ∀ y ∈ pre, y.2.2.2 ≠ 0 ∧ Cond.classLink own y.2.2.2 "java/lang/IllegalArgumentException" ∈ zx_T ∧ cls = "java/lang/UnsupportedOperationException"
theorem th_rows {own cls : String} {hh : List (Nat × Nat × Nat × Nat)} {pc hp : Nat} {p : Program} {l : Launch} {e : Env} {R : Room} {s : State} {m : MethodId} {args : Array Value} {below : List Frame} {meth : Method} {c : Code} {T : State} {locs : List Loc} {cells slots : Nat} (X : Stand p l e R s m args below meth c T locs cells slots)
    (hpk : th_pick own hh pc cls hp) (hown : s.vm.findClass own = some m.cls) (htab : c.exceptionTable.toList.map th_row = hh) (hts : ∀ w ∈ zx_T, w.before args s = true) (hN : ∀ w ∈ zx_N, w.before args s = true) (hnc : th_nc.before #[] s = true) {cX : ClassId} (hcX : s.vm.findClass cls = some cX) :
    ∃ (pre : List ExceptionTableEntry) (x : ExceptionTableEntry) (rest : List ExceptionTableEntry), c.exceptionTable.toList = pre ++ x :: rest ∧ (∀ y ∈ pre, RowPassed e.platform s m.cls pc cX y) ∧ covers x pc = true ∧ RowCatches e.platform s m.cls cX x ∧ (∃ k, s.vm.classes[cX]? = some k) ∧ x.handlerPc = hp := by
  obtain ⟨pre0, s0, e0, ct, rest0, e1, e2, e3, e4, e5, e6, e7⟩ := hpk
  rw [e1] at htab
  obtain ⟨pre, r1, h1, h2, h3⟩ := List.map_eq_append_iff.mp htab
  obtain ⟨x, rest, h4, h5, h6⟩ := List.map_eq_cons_iff.mp h3
  have h5 : (x.startPc, x.endPc, x.handlerPc, x.catchType) = (s0, e0, hp, ct) := h5
  simp only [Prod.mk.injEq] at h5
  obtain ⟨x1, x2, x3, x4⟩ := h5
  have hpl : e.platform.magicAccessors = ({} : Platform).magicAccessors := by rw [X.admits.platform]
  obtain ⟨c3, cT, hc3, hcT, hasg⟩ := Cond.castable_spec (hN _ e6)
  cases hcX.symm.trans hc3
  cases hcX.symm.trans hcT
  obtain ⟨hend, hk0⟩ := X.catches_of_link hown (x := x) (by rw [x4]; exact e4) (by rw [x4]; exact hts _ e5) hcX hasg
  refine ⟨pre, x, rest, by rw [h1, h4], fun y hy => ?_, by simp only [covers, x1, x2, Bool.and_eq_true, decide_eq_true_eq]; exact ⟨e2, e3⟩, hend, hk0, x3⟩
  have hy2 : th_row y ∈ pre0 := by rw [← h2]; exact List.mem_map_of_mem hy
  obtain ⟨y1, y2, y3⟩ := e7 _ hy2
  rw [y3] at hcX
  exact RowPassed.of_words hpl hown y1 (hts _ y2) hcX (th_nc_moved (Vm.Alike.refl s.vm) hnc)
