/-! Throws, the machine: what the statics of Throwable hold; a walk that is begun anew where it stands; the exception that is made and thrown. -/
def th_w : List Cond := [.laysStatic Bundle.tN "UNASSIGNED_STACK" Bundle.steD, .laysStatic Bundle.tN "SUPPRESSED_SENTINEL" Bundle.listD, .isRef (.static Bundle.tN "UNASSIGNED_STACK" Bundle.steD), .isRef (.static Bundle.tN "SUPPRESSED_SENTINEL" Bundle.listD)]
def th_st (U : State) : Prop := ∀ (a : Array Value) (w : Cond), w ∈ th_w → w.before a U = true
theorem th_lays {s U : State} {a a2 : Array Value} {O f d : String} (h : (Cond.laysStatic O f d).before a s = true) (hv : s.vm.Alike U.vm) (hk : ∀ (q : Nat) (cell : Cell), s.heap[q]? = some cell → cell.vm.isStatics = true → U.heap[q]? = some cell) : (Cond.laysStatic O f d).before a2 U = true := by
  obtain ⟨c, k, i, fd, q, cell, hc, hi, hst, hsa, hcell, hss, hcls, hlt, hty⟩ := Cond.laysStatic_spec h
  obtain ⟨k', hk', he⟩ := State.fieldFound?_setVm (s := s) hv hi
  have hi2 : U.fieldFound? O f d = some (c, k', i, fd) := hk'
  have hc2 : U.vm.findClass O = some c := by rw [hv.findClass]; exact hc
  have hsa2 : k'.statics = some q := by rw [he]; exact hsa
  have hty2 : k'.staticTypes[fd.slot]? = some fd.type := by rw [he]; exact hty
  simp [Cond.before, Cond.holds, Cond.value, hc2, hi2, hst, hsa2, hk q cell hcell hss, hss, hcls, hlt, hty2]
theorem th_isRef {s U : State} {a a2 : Array Value} {O f d : String} (h : (Cond.isRef (.static O f d)).before a s = true) (hl : (Cond.laysStatic O f d).before a s = true) (hv : s.vm.Alike U.vm) (hk : ∀ (q : Nat) (cell : Cell), s.heap[q]? = some cell → cell.vm.isStatics = true → U.heap[q]? = some cell) : (Cond.isRef (.static O f d)).before a2 U = true := by
  obtain ⟨c, k, i, fd, q, cell, hc, hi, hst, hsa, hcell, hss, hcls, hlt, hty⟩ := Cond.laysStatic_spec hl
  obtain ⟨k', hk', he⟩ := State.fieldFound?_setVm (s := s) hv hi
  have hi2 : U.fieldFound? O f d = some (c, k', i, fd) := hk'
  have hsa2 : k'.statics = some q := by rw [he]; exact hsa
  have hv1 : cell.slots[fd.slot]? = some cell.slots[fd.slot] := Array.getElem?_eq_getElem hlt
  have e1 : (Term.static O f d).eval a s none [] s = some cell.slots[fd.slot] := by
    simp [Term.eval, State.fieldNamed?, hi, hst, hsa, hcell, hss, hv1]
  have e2 : (Term.static O f d).eval a2 U none [] U = some cell.slots[fd.slot] := by
    simp [Term.eval, State.fieldNamed?, hi2, hst, hsa2, hk q cell hcell hss, hss, hv1]
  simp only [Cond.before, Cond.holds, Cond.value, e1] at h
  simp only [Cond.before, Cond.holds, Cond.value, e2]
  exact h
theorem th_st.moved {s U : State} (h : th_st s) (hv : s.vm.Alike U.vm) (hk : ∀ (q : Nat) (cell : Cell), s.heap[q]? = some cell → cell.vm.isStatics = true → U.heap[q]? = some cell) : th_st U := by
  intro a w hw
  have g := fun w hw => h #[] w hw
  simp only [th_w, List.mem_cons, List.not_mem_nil, or_false] at hw
  rcases hw with rfl | rfl | rfl | rfl
  · exact th_lays (g _ (by simp [th_w])) hv hk
  · exact th_lays (g _ (by simp [th_w])) hv hk
  · exact th_isRef (g _ (by simp [th_w])) (g _ (by simp [th_w])) hv hk
  · exact th_isRef (g _ (by simp [th_w])) (g _ (by simp [th_w])) hv hk
section TH
variable {p : Program} {l : Launch} {e : Env} {R : Room} {s : State} {m : MethodId} {args : Array Value} {below : List Frame} {meth : Method} {c : Code} {T : State} {locs : List Loc} {kc ks : Nat}
/-- the walk, as if the invocation had begun in the state where it stands -/
theorem th_root (X : Stand p l e R s m args below meth c T locs kc ks) (h1 : kc + 1 ≤ R.cells) (h2 : ks + 6 ≤ R.slots) :
    Stand p l e { frames := R.frames, cells := 1, slots := 6, locals := R.locals } (T.setFrames (.invoking m args :: below)) m args below meth c T [] 0 0 := by
  obtain ⟨g0, hfr⟩ := X.frames_eq
  have hcur : T.cur < T.threads.size := State.cur_lt_of_frames hfr
  have hal := X.warmed.alike
  have hmeth : ∀ mm : MethodId, (T.setFrames (.invoking m args :: below)).vm.method? mm = s.vm.method? mm := fun mm => hal.method? mm
  have hcode : ∀ mm : MethodId, (T.setFrames (.invoking m args :: below)).code? mm = s.code? mm := fun mm => by
    rw [State.code?_eq, State.code?_eq, hmeth]
  have hF : (T.setFrames (.invoking m args :: below)).frames = .invoking m args :: below := State.frames_setFrames _ hcur
  have hm' : (T.setFrames (.invoking m args :: below)).vm.method? m = some meth := by rw [hmeth]; exact X.method
  have hU : (T.setFrames (.invoking m args :: below)).localsInUse = s.localsInUse := by
    rw [State.localsInUse_invoking hF hm' X.code, State.localsInUse_invoking X.frames X.method X.code]
  have hlim : e.platform.stackLimits (T.setFrames (.invoking m args :: below)).me = e.platform.stackLimits s.me := by rw [State.stackLimits_setFrames]; exact X.limits
  have hby : (T.setFrames (.invoking m args :: below)).me.stackBytes = s.me.stackBytes := by rw [State.stackBytes_setFrames]; exact X.bytes
  have hc1 := X.cellsAbove h1
  have hs1 := X.slotsAbove h2
  have hbk := X.book
  have hroom : (T.setFrames (.invoking m args :: below)).hasRoom e.platform { frames := R.frames, cells := 1, slots := 6, locals := R.locals } = true := by
    have h := X.room
    simp only [State.hasRoom, Bool.and_eq_true, decide_eq_true_eq] at h ⊢
    rw [hU, hF, hlim, hby]
    rw [X.frames] at h
    exact ⟨⟨⟨⟨h.1.1.1.1, h.1.1.1.2⟩, hc1⟩, hs1⟩, hbk⟩
  have hhears : (T.setFrames (.invoking m args :: below)).hears m below = true := by
    have h := X.hears
    cases hb : below with
    | nil => rw [hb] at h hmeth; simp only [State.hears] at h ⊢; rw [hmeth]; exact h
    | cons f r =>
      rw [hb] at h hmeth hcode
      cases f <;> simp only [State.hears] at h ⊢ <;> first | (rw [hcode]; exact h) | (rw [hmeth]; exact h) | exact h
  have hsame : (T.setFrames (.invoking m args :: below)).sameButNew (T.setVm (T.setFrames (.invoking m args :: below)).vm) [] 0 0 := by
    obtain ⟨t1, ht1, -⟩ := State.frames_cons hF
    obtain ⟨t2, ht2, -⟩ := State.frames_cons hfr
    have h := (State.sameButNew.refl (T.setFrames (.invoking m args :: below)) ht1).setFrames T.frames (State.cur_lt_of_frames hF)
    rw [State.setFrames_setFrames, State.setFrames_self ht2] at h
    exact h
  exact ⟨X.admits, X.cas, X.clock, hF, hroom, hhears, hm', X.code, X.here, X.tail, State.WarmedH.refl _, by rw [State.stackLimits_setFrames], by rw [State.stackBytes_setFrames], hsame⟩
theorem th_back (X : Stand p l e R s m args below meth c T locs kc ks) {F : List Frame} {U : State} {k n : Nat} (hW : (T.setFrames F).WarmedH U.vm) (hS : (T.setFrames F).sameButNew ({ U with vm := (T.setFrames F).vm } : State) [] k n) :
    s.WarmedH U.vm ∧ s.sameButNew ({ U with vm := s.vm } : State) locs (kc + k) (ks + n) := by
  have hW' : T.WarmedH U.vm := hW
  refine ⟨State.WarmedH.trans X.warmed hW', ?_⟩
  have h : T.sameButNew ({ U with vm := T.vm } : State) [] k n := by
    obtain ⟨q1, q2, q3, q4, q5, q6⟩ := hS
    refine ⟨?_, q2, q3, q4, q5, q6⟩
    rw [State.setFrames_setFrames] at q1
    exact q1
  have h3 := X.same.trans (h.setVm s.vm)
  rw [List.append_nil] at h3
  exact h3
end TH
