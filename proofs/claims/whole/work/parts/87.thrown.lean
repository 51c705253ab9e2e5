/-! Throws in the layer: a method that throws, and its contract. -/
def th_nc : Cond := .not (.castable "java/lang/UnsupportedOperationException" "java/lang/IllegalArgumentException")
def th_sw : List Cond := [.stringRef "SortedBlocks" 78 "n is not 1 .. 8", .stringRef "SortedBlocks" 89 "IN would have more than 400 bytes", .stringRef "SortedBlocks" 98 "IN has not so many bytes", .stringRef "SortedBlocks" 105 "IN has no such bit", .stringRef "SortedBlocks" 114 "level is not 1 .. 8", .stringRef "SortedBlocks" 150 "OUT would have more than 2000 bytes", .stringRef "SortedBlocks" 172 "OUT has no such byte"]
def th_ok (U : State) : Prop := th_st U ∧ th_nc.before #[] U = true ∧ ∀ (a : Array Value) (w : Cond), w ∈ th_sw → w.before a U = true
theorem th_str {s U : State} {a a2 : Array Value} {c t : String} {i : Nat} (hW : s.WarmedH U.vm) (h : (Cond.stringRef c i t).before a s = true) : (Cond.stringRef c i t).before a2 U = true := by
  have h1 := Cond.stringRef_warmed (args := a) hW h
  simp only [Cond.before, Cond.holds, Cond.value] at h1 ⊢
  exact h1
theorem th_sws {s U : State} {a a2 : Array Value} (hW : s.WarmedH U.vm) (h : ∀ w ∈ th_sw, w.before a s = true) : ∀ w ∈ th_sw, w.before a2 U = true := by
  intro w hw
  have h1 := h w hw
  simp only [th_sw, List.mem_cons, List.not_mem_nil, or_false] at hw
  rcases hw with rfl | rfl | rfl | rfl | rfl | rfl | rfl <;> exact th_str hW h1
theorem th_nc_moved {s U : State} {a a2 : Array Value} (hv : s.vm.Alike U.vm) (h : th_nc.before a s = true) : th_nc.before a2 U = true := by
  simp only [th_nc, Cond.before, Cond.holds, Cond.value, hv.findClass, hv.assignable] at h ⊢
  exact h
theorem th_ok.moved {s U : State} (h : th_ok s) (hW : s.WarmedH U.vm) (hk : ∀ (q : Nat) (cell : Cell), s.heap[q]? = some cell → cell.vm.isStatics = true → U.heap[q]? = some cell) : th_ok U := ⟨h.1.moved hW.alike hk, th_nc_moved hW.alike h.2.1, fun a => th_sws hW (h.2.2 #[])⟩
def th_row (x : ExceptionTableEntry) : Nat × Nat × Nat × Nat := (x.startPc, x.endPc, x.handlerPc, x.catchType)
/-- what a walk that throws must know of its start -/
def th_cd (hh : Option (List (Nat × Nat × Nat × Nat))) (A : Nat → Prop) (s : State) (args : Array Value) (below : List Frame) : Prop :=
  (∀ q, A q → ∀ cell : Cell, s.heap[q]? = some cell → cell.vm.isStatics = false) ∧ th_ok s ∧ ∀ r, hh = some r → ∀ m meth c, s.frames = .invoking m args :: below → s.vm.method? m = some meth → meth.code = some c → c.exceptionTable.toList.map th_row = r
def zx_Zc (hh : Option (List (Nat × Nat × Nat × Nat))) (Z : zx_Zt) : zx_Zt := fun D G α A s args below t => th_cd hh A s args below → Z D G α A s args below t
def th_Q (D : va_G) (G : zx_G) (α : Nat → Nat) (cls : String) (Q : zx_H → Prop) (A : Nat → Prop) : Array Value → State → Outcome → State → Prop := fun _ st o t =>
  (∃ (x : Nat) (ce : Cell) (h2 : zx_H), o = .threw x ∧ t.heap[x]? = some ce ∧ ce.vm.isStatics = false ∧ st.vm.findClass cls = some ce.cls ∧ Q h2 ∧ va_P D zx_cl (zx_wl G α h2) t.heap ∧ va_D A (zx_wl G α h2) ∧ zx_ok h2) ∧ va_F A st t
def th_MQ (below : List Frame) (Qc : Array Value → State → Outcome → State → Prop) (a : Array Value) (s : State) (mc ms : Nat) (free : Nat → Prop) : State → Prop := fun t =>
  ∃ o, t.status = .running ∧ Ended t below o ∧ Qc a s o t ∧ ∃ L, FrameEndT s o t L mc ms ∧ ∀ q ∈ L, free q.base
/-- a method's end by a throw -/
def zx_Zh (rm : Room) (cls : String) (Q : zx_H → Prop) : zx_Zt := fun D G α A s args below => th_MQ below (th_Q D G α cls Q A) args s rm.cells rm.slots A
def th_up : List String := ["java/lang/RuntimeException", "java/lang/Exception"]
def th_wd (own cls text : String) (i1 i2 i3 : Nat) : Prop := (∀ w ∈ Bundle.ownAtoms own i3 cls th_up, w ∈ zx_T ∨ w ∈ zx_N ∨ w ∈ th_w) ∧ Cond.classLink own i1 cls ∈ zx_T ∧ Cond.initialized cls ∈ zx_T ∧ Cond.stringRef own i2 text ∈ th_sw ∧ Bundle.fit cls = true
theorem th_kept {s U : State} {k n : Nat} {vm : Vm} (h : s.sameButNew ({ U with vm := vm } : State) [] k n) {q : Nat} {cell : Cell} (hq : s.heap[q]? = some cell) : U.heap[q]? = some cell := by
  obtain ⟨c2, h1, h2, h3, h4⟩ := h.2.2.2.2.2 q cell hq
  have h1 : U.heap[q]? = some c2 := h1
  rw [h1, h2]
  have e : c2.slots = cell.slots := by
    apply Array.ext_getElem?
    intro i
    exact h4 i List.not_mem_nil
  rw [e]
section TX
variable {l : Launch} {rm : Room} {M : zx_M} {pc : Nat} {L : List (Nat × Value)} {h : zx_H}
set_option maxHeartbeats 2000000 in
theorem zx_throw {cls text : String} {i1 i2 i3 : Nat} {Q : zx_H → Prop} (htr : l.flags = pinnedFlags ++ [noTraceFlag]) (w : th_wd M.1.cls cls text i1 i2 i3) (hf : 6 ≤ rm.frames) (hlo : 100 ≤ rm.locals) (hc1 : rm.cells = 1) (hc2 : rm.slots = 6)
    (d1 : decode M.2.1 pc = .ok (.new i1, 3)) (d2 : decode M.2.1 (pc + 3) = .ok (.dup, 1)) (d3 : decode M.2.1 (pc + 4) = .ok (.ldc i2, 2)) (d4 : decode M.2.1 (pc + 6) = .ok (.invokespecial i3, 3)) (d5 : decode M.2.1 (pc + 9) = .ok (.athrow, 1)) (hQ : Q h) :
    zx_X l rm M false 0 0 (zx_Zc (some []) (zx_Zh rm cls Q)) pc L [] h := by
  intro D G α A p e s m args below meth c H locs ls C R hl T hT X
  by_cases hcd : th_cd (some []) A s args below
  case neg => exact ⟨_, Steps.refl _, fun z => absurd z hcd⟩
  have hlocks : meth.locks = false := C.2.2.2.2.1
  obtain ⟨hK, hA, hP, hD, hS, hok, -⟩ := R
  obtain ⟨w1, w2, w3, w4, w5⟩ := w
  have hal := X.warmed.alike
  have X' := th_root X (by omega) (by omega)
  have hex := C.1
  have hb := C.2.1
  have hml := C.2.2.1
  have hts := C.2.2.2.2.2.2.1
  have hown : (T.setFrames (.invoking m args :: below)).vm.findClass M.1.cls = some m.cls := by
    show T.vm.findClass _ = _
    rw [hal.findClass]
    exact C.2.2.2.2.2.1
  have htr' : e.platform.stackTraces = false := Jvm.D.Launch.traces_off htr X.admits
  have hT1 : ∀ x ∈ zx_T, x.before args (T.setFrames (.invoking m args :: below)) = true := fun x hx => word_at (s := s) (U := T.setFrames (.invoking m args :: below)) X.warmed (zx_Gd x hx) (hts x hx)
  have hN1 : ∀ x ∈ zx_N, x.before args (T.setFrames (.invoking m args :: below)) = true := fun x hx => va_Nw.use (zx_N_tab (List.mem_filter.mp hx).2) (zx_N_warm (U := T.setFrames (.invoking m args :: below)) (List.mem_filter.mp hx).2 X.warmed (hK.2 x hx))
  have hst : th_st (T.setFrames (.invoking m args :: below)) := hcd.2.1.1.moved hal (fun q cell h1 h2 => by
    show T.heap[q]? = some cell
    rw [hT, hS.2.1 q (Array.getElem?_eq_some_iff.mp h1).1 (fun z => by rw [hcd.1 q z cell h1] at h2; cases h2)]
    exact h1)
  have hat : ∀ x ∈ Bundle.ownAtoms M.1.cls i3 cls th_up, x.before args (T.setFrames (.invoking m args :: below)) = true := fun x hx => by
    rcases w1 x hx with z | z | z
    · exact hT1 x z
    · exact hN1 x z
    · exact hst args x z
  obtain ⟨vm1, cX, kX, hfX, hkX, -, -, X1, st1⟩ := X'.newCold hex (own := M.1.cls) (C := cls) (index := i1) (n := 6) hown (hT1 _ w2) (hat (.instantiable cls 6) (by simp [Bundle.ownAtoms])) (hT1 _ w3)
    (g := F0 m pc ls []) rfl (by rw [hb]; exact d1) (Nat.le_refl _) (Nat.le_refl _)
  generalize hT2 : (T.setVm vm1).pushCell { cls := cX, slots := kX.instanceTypes.map defaultValue, vm := .none } = T2 at X1 st1
  have hcellA : T2.heap[T.heap.size]? = some (freshCell cX kX) := by rw [← hT2]; exact State.heap_pushCell_size _ _
  have hsw : (Cond.stringRef M.1.cls i2 text).before args (T.setFrames (.invoking m args :: below)) = true := th_sws (s := s) (U := T.setFrames (.invoking m args :: below)) X.warmed (hcd.2.1.2.2 #[]) _ w4
  obtain ⟨-, -, -, sa, -, -, -, -, -, hev⟩ := Cond.stringRef_spec hown hsw
  have htab : c.exceptionTable.toList = [] := List.map_eq_nil_iff.mp (hcd.2.2 [] rfl m meth c X.frames X.method X.code)
  obtain ⟨U, hsteps, hrun, hend, hW, hsame, ce, hce, Kc⟩ := X1.ctorThrowS hex htr' (own := M.1.cls) (cls := cls) (names := th_up) (ic := i3) hown w5 (by decide +kernel)
    hat (fun y hy => by cases hy) hfX hkX hcellA (Nat.le_refl _) (msg := .ref sa) rfl
    (g := F0 m (pc + 6) ls [.ref sa, .ref T.heap.size, .ref T.heap.size]) rfl (hl.1.trans hml.symm) rfl rfl (rest := []) rfl
    (by rw [hb]; exact d4) (by rw [hb]; exact d5) (by rw [htab]; exact fun x hx => absurd hx List.not_mem_nil) (show 2 + 3 < rm.frames by omega) (show 2 * 0 + (1 + 0) + (13 * (2 + 1) + 42) ≤ rm.locals by omega) hlocks
  obtain ⟨hW2, hS2⟩ := th_back X hW hsame
  have hkeep : ∀ (q : Nat) (cell : Cell), H[q]? = some cell → U.heap[q]? = some cell := fun q cell hq => th_kept hsame (show T.heap[q]? = some cell by rw [hT]; exact hq)
  have hsz : H.size ≤ U.heap.size := by
    have := hsame.2.1
    rw [← hT]
    exact this
  have hat2 : ∀ q : Nat, q < H.size → U.heap[q]? = H[q]? := fun q hq => by
    rw [Array.getElem?_eq_getElem hq]
    exact hkeep q _ (Array.getElem?_eq_getElem hq)
  refine ⟨U, ?_, fun _ => ⟨.threw T.heap.size, hrun, hend, ⟨⟨T.heap.size, ce, h, rfl, hce, by rw [Kc.vm]; rfl, ?_, hQ, fun k q hk => (hP k q hk).kept (hat2 q.1 (hP k q hk).lt), hD, hok⟩, Nat.le_trans hS.1 hsz, fun q h1 h2 => ?_⟩, locs, ⟨⟨_, rfl⟩, hW2, by rw [hc1, hc2]; exact hS2.mono (by omega) (by omega)⟩, fun q hq => hS.2.2 q hq⟩⟩
  · refine st1 _ ?_
    show Steps p.tables e below (T2.setTop { method := m, pc := pc + 3, locals := ls, stack := [.ref T.heap.size], locked := none }) _
    have d2' : decode c.code (pc + 3) = .ok (.dup, 1) := by rw [hb]; exact d2
    jvm_step X1.here [X1.here.top, hex, d2', Value.category]
    exact X1.ldcString hex (own := M.1.cls) (text := text) (index := i2) (a := sa) hown hsw hev (g := { method := m, pc := pc + 4, locals := ls, stack := [.ref T.heap.size, .ref T.heap.size], locked := none }) rfl (by rw [hb]; exact d3) _ hsteps
  · have h3 : T.vm.findClass cls = some ce.cls := Kc.cls
    rw [hal.findClass] at h3
    exact h3
  · rw [hat2 q (Nat.lt_of_lt_of_le h1 hS.1)]
    exact hS.2.1 q h1 h2
end TX
