/-! Contracts of methods that throw, and of methods that catch; the calls. -/
theorem zx_weak {l : Launch} {rm : Room} {M : zx_M} {fl : Bool} {kc ks : Nat} {Z Z2 : zx_Zt} {pc : Nat} {L : List (Nat × Value)} {S : List Value} {h : zx_H} (hZ : ∀ D G α A s args below t, Z D G α A s args below t → Z2 D G α A s args below t) (k : zx_X l rm M fl kc ks Z pc L S h) : zx_X l rm M fl kc ks Z2 pc L S h := by
  intro D G α A p e s m args below meth c H locs ls C R hl T hT X
  obtain ⟨t, h1, h2⟩ := k D G α A p e s m args below meth c H locs ls C R hl T hT X
  exact ⟨t, h1, hZ _ _ _ _ _ _ _ _ h2⟩
theorem zx_weakc {l : Launch} {rm : Room} {M : zx_M} {fl : Bool} {kc ks : Nat} {Z : zx_Zt} {pc : Nat} {L : List (Nat × Value)} {S : List Value} {h : zx_H} {hh : Option (List (Nat × Nat × Nat × Nat))} (k : zx_X l rm M fl kc ks Z pc L S h) : zx_X l rm M fl kc ks (zx_Zc hh Z) pc L S h := zx_weak (fun _ _ _ _ _ _ _ _ z _ => z) k
def th_Pc (D : va_G) (G : zx_G) (α : Nat → Nat) (sz : Nat) (As : List Value) (h : zx_H) : Array Value → State → Prop := va_Pc (As.map (zx_cv α)) (fun U => U.heap.size = sz ∧ va_P D zx_cl (zx_wl G α h) U.heap ∧ zx_K D G U ∧ va_D (fun _ => True) (zx_wl G α h) ∧ zx_ok h ∧ th_ok U)
/-- a method throws -/
def zx_CT (l : Launch) (rm : Room) (M : zx_M) (As : List Value) (h : zx_H) (cls : String) (Q : zx_H → Prop) : Prop :=
  ∀ (D : va_G) (G : zx_G) (α : Nat → Nat) (sz : Nat), MetFree l M.1 (headSpec (zx_ws M) rm) (th_Pc D G α sz As h) (fun _ _ _ _ _ => True)
    (fun a st o t => th_Q D G α cls Q (va_A (zx_wl G α h) sz) a st o t ∧ ∃ L, FrameEndT st o t L rm.cells rm.slots ∧ ∀ q ∈ L, va_A (zx_wl G α h) sz q.base)
def zx_wsW (M : zx_M) (hh : List (Nat × Nat × Nat × Nat)) : List Cond := .codeWith M.1 M.2.1 M.2.2.1 M.2.2.2 hh :: zx_T
/-- a method that may catch, and returns -/
def zx_CW (l : Launch) (rm : Room) (M : zx_M) (hh : List (Nat × Nat × Nat × Nat)) (As : List Value) (h : zx_H) (Q : Option Value → zx_H → Prop) : Prop :=
  ∀ (D : va_G) (G : zx_G) (α : Nat → Nat) (sz : Nat), Met l M.1 (zx_wsW M hh) rm (th_Pc D G α sz As h) (zx_Qc D G α false rm.cells Q (va_A (zx_wl G α h) sz)) rm.cells rm.slots (va_A (zx_wl G α h) sz)
theorem th_plain {D : va_G} {G : zx_G} {α : Nat → Nat} {h : zx_H} {s : State} (hP : va_P D zx_cl (zx_wl G α h) s.heap) : ∀ q, va_A (zx_wl G α h) s.heap.size q → ∀ cell : Cell, s.heap[q]? = some cell → cell.vm.isStatics = false := by
  intro q hq cell hc
  rcases hq with ⟨k, e, hk⟩ | hq
  · have a := hP k _ hk
    unfold va_at at a
    cases e with
    | inl a1 =>
      have a : s.heap[q]? = some (vp_cell a1.1 a1.2) := a
      rw [a] at hc
      cases hc
      obtain ⟨c1, n1, v⟩ := a1
      rcases v with v | v | v | v | v <;> rfl
    | inr o1 =>
      obtain ⟨r, -, cell2, g1, g2, g3, -⟩ := a
      have g1 : s.heap[q]? = some cell2 := g1
      rw [g1] at hc
      cases hc
      rw [g3]
      rfl
  · have := (Array.getElem?_eq_some_iff.mp hc).1
    omega
set_option maxRecDepth 20000 in
theorem zx_CT.of {l : Launch} {rm : Room} {M : zx_M} {As : List Value} {h : zx_H} {cls : String} {Q : zx_H → Prop} (hy : plainName M.1.cls = true) (hn : ∀ α : Nat → Nat, (lg_sl (As.map (zx_cv α))).length ≤ M.2.2.1)
    (k : zx_X l rm M false 0 0 (zx_Zc (some []) (zx_Zh rm cls Q)) 0 (lv_args 0 As) [] h) : zx_CT l rm M As h cls Q := by
  intro D G α sz
  refine MetFree.of_bodyS (code := M.2.1) (maxLocals := M.2.2.1) (ret := M.2.2.2) hy ?_ ?_
  · intro args s m hh hn
    obtain ⟨meth, c, h1, h2, h3, h4, h5, h6, -, -⟩ := Cond.code_spec hn (atoms_spec (ws := zx_ws M) hh _ List.mem_cons_self)
    exact ⟨meth, c, h1, h2, h3, h4, h5, h6⟩
  · intro p e s m args below meth c s1 B hml hv _
    obtain ⟨rfl, hsz, hP, hK, hD0, hok, hth⟩ := hv
    subst hsz
    have hD := hD0.self (sz := s.heap.size)
    have hl := lv_entry (As.map (zx_cv α)) (n := M.2.2.1) (hn α)
    have hts := atoms_spec (ws := zx_ws M) B.pre
    rw [zx_args_map] at hl
    have hh0 : s1.heap = s.heap := by rw [B.state]; rfl
    have KK := k D G α _ p e s m _ below meth c s.heap [] _ ⟨B.exec, B.bytes, hml, B.returns, B.notSynchronized, findClass_of_methodNamed B.named, fun w hw => hts w (List.mem_cons_of_mem _ hw), fun q => (name_of_methodNamed B.named B.method).1.trans q⟩
      ⟨hK, fun q hq => Or.inr hq, hP, hD, va_S.rf, hok, fun q => absurd q (by decide)⟩ hl
    rw [lg_entry_eq]
    have X := Stand.of_body B
    obtain ⟨t, a1, b1⟩ := KK s1 hh0 X
    obtain ⟨o, b2, b3, b4, b5⟩ := b1 ⟨th_plain hP, hth, fun r hr m2 meth2 c2 q1 q2 q3 => by
      cases hr
      have q1 := X.frames.symm.trans q1
      cases q1
      cases X.method.symm.trans q2
      cases X.code.symm.trans q3
      obtain ⟨meth3, c3, z1, z2, -, -, -, -, z3, -⟩ := Cond.code_spec B.named (hts _ List.mem_cons_self)
      cases X.method.symm.trans z1
      cases X.code.symm.trans z2
      have : c.exceptionTable = #[] := Array.isEmpty_iff.mp z3
      rw [this]
      rfl⟩
    exact ⟨t, o, a1, b2, b3, b4, b5⟩
set_option maxRecDepth 20000 in
theorem zx_CW.of {l : Launch} {rm : Room} {M : zx_M} {hh : List (Nat × Nat × Nat × Nat)} {As : List Value} {h : zx_H} {Q : Option Value → zx_H → Prop} (hy : plainName M.1.cls = true) (hn : ∀ α : Nat → Nat, (lg_sl (As.map (zx_cv α))).length ≤ M.2.2.1)
    (k : zx_X l rm M false 0 0 (zx_Zc (some hh) (zx_Zr false rm Q)) 0 (lv_args 0 As) [] h) : zx_CW l rm M hh As h Q := by
  intro D G α sz
  refine va_MetW (cc := M.2.1) (maxL := M.2.2.1) (ret := M.2.2.2) (hh := hh) hy rfl ?_
  intro p e s m args below meth c s1 B hml hv
  obtain ⟨rfl, hsz, hP, hK, hD0, hok, hth⟩ := hv
  subst hsz
  have hD := hD0.self (sz := s.heap.size)
  have hl := lv_entry (As.map (zx_cv α)) (n := M.2.2.1) (hn α)
  rw [lg_entry_eq]
  have hts := atoms_spec (ws := zx_wsW M hh) B.pre
  rw [zx_args_map] at hl
  intro T hT X
  have hcd : th_cd (some hh) (va_A (zx_wl G α h) s.heap.size) s (As.map (zx_cv α)).toArray below := ⟨th_plain hP, hth, fun r hr m2 meth2 c2 q1 q2 q3 => by
    cases hr
    have q1 := X.frames.symm.trans q1
    cases q1
    cases X.method.symm.trans q2
    cases X.code.symm.trans q3
    obtain ⟨m3, meth3, c3, z0, z1, z2, -, -, z3, -⟩ := Cond.codeWith_spec (hts _ List.mem_cons_self)
    cases B.named.symm.trans z0
    cases X.method.symm.trans z1
    cases X.code.symm.trans z2
    exact z3⟩
  obtain ⟨t, a1, b1⟩ := k D G α _ p e s m _ below meth c s.heap [] _ ⟨B.exec, B.bytes, hml, B.returns, B.notSynchronized, findClass_of_methodNamed B.named, fun w hw => hts w (List.mem_cons_of_mem _ hw), fun q => (name_of_methodNamed B.named B.method).1.trans q⟩
    ⟨hK, fun q hq => Or.inr hq, hP, hD, va_S.rf, hok, fun q => absurd q (by decide)⟩ hl T hT X
  exact ⟨t, a1, b1 hcd⟩
