/-! The layer: cells by numbers, ints and references by typed maps; X: the machine comes to its end from here; C: a method's contract. -/
abbrev zx_H : Type := (Nat × (Nat → Nat × Nat)) × (Nat → Nat → Int32) × (Nat → Nat → Nat) × (Nat → Nat → Int64)
abbrev zx_G : Type := ClassId × ClassId × ClassId × ClassId × ClassId
def zx_nul (α : Nat → Nat) (r : Nat) : Value := if r = 0 then .null else .ref (α r)
def zx_opt (α : Nat → Nat) (r : Nat) : Option Nat := if r = 0 then none else some (α r)
def zx_cv (α : Nat → Nat) (v : Value) : Value := match v with
  | .ref k => .ref (α k)
  | w => w
theorem zx_cv_cat (α : Nat → Nat) (v : Value) : (zx_cv α v).category = v.category := by cases v <;> rfl
def zx_fs (ft : List Bool) (α : Nat → Nat) (I : Nat → Int32) (R : Nat → Nat) : List Value := (List.range ft.length).map (fun j => if ft.getD j false = true then zx_nul α (R j) else .int (I j))
def zx_enc (G : zx_G) (α : Nat → Nat) (h : zx_H) (k : Nat) : va_E := match (h.1.2 k).1 with
  | 0 => .inl (G.1, (h.1.2 k).2, .inl (h.2.1 k))
  | 1 => .inl (G.2.1, (h.1.2 k).2, .inl (h.2.1 k))
  | 2 => .inl (G.2.2.1, (h.1.2 k).2, .inr (.inl (h.2.2.2 k)))
  | 3 => .inl (G.2.2.2.1, (h.1.2 k).2, .inr (.inr (.inr (.inr (fun j => zx_opt α (h.2.2.1 k j))))))
  | 4 => .inl (G.2.2.2.2, (h.1.2 k).2, .inr (.inr (.inr (.inr (fun j => zx_opt α (h.2.2.1 k j))))))
  | t + 5 => .inr (t, zx_fs (zx_ft t) α (h.2.1 k) (h.2.2.1 k))
def zx_wl (G : zx_G) (α : Nat → Nat) (h : zx_H) : va_W := (List.range h.1.1).map (fun k => (α (k + 1), zx_enc G α h (k + 1)))
/-- what exists: cells 1 .. n; lengths are small -/
def zx_ok (h : zx_H) : Prop := ∀ k, (h.1.2 k).1 < 100 → 0 < k ∧ k ≤ h.1.1 ∧ (h.1.2 k).2 < 2 ^ 31
/-- while cells are made: which address the next one has -/
def zx_fr (α : Nat → Nat) (sz : Nat) (h : zx_H) : Prop := ∀ k, α (k + 1) + h.1.1 = k + sz
theorem zx_wl_at {G : zx_G} {α : Nat → Nat} {h : zx_H} {k : Nat} (h1 : 0 < k) (h2 : k ≤ h.1.1) : (zx_wl G α h)[k - 1]? = some (α k, zx_enc G α h k) := by
  unfold zx_wl
  rw [List.getElem?_map, List.getElem?_range (by omega)]
  simp only [Option.map_some]
  rw [show k - 1 + 1 = k by omega]
theorem zx_wl_len {G : zx_G} {α : Nat → Nat} {h : zx_H} : (zx_wl G α h).length = h.1.1 := by simp [zx_wl]
theorem zx_enc_congr {G : zx_G} {α : Nat → Nat} {h h' : zx_H} {k : Nat} (hn : h'.1 = h.1) (hI : h'.2.1 k = h.2.1 k) (hR : h'.2.2.1 k = h.2.2.1 k) (hJ : h'.2.2.2 k = h.2.2.2 k) : zx_enc G α h' k = zx_enc G α h k := by
  unfold zx_enc
  rw [hn, hI, hR, hJ]
theorem zx_wl_set {G : zx_G} {α : Nat → Nat} {h h' : zx_H} {p : Nat} (hn : h'.1 = h.1) (hI : ∀ k, k ≠ p → h'.2.1 k = h.2.1 k) (hR : ∀ k, k ≠ p → h'.2.2.1 k = h.2.2.1 k) (hJ : ∀ k, k ≠ p → h'.2.2.2 k = h.2.2.2 k) (h1 : 0 < p) (h2 : p ≤ h.1.1) :
    (zx_wl G α h).set (p - 1) (α p, zx_enc G α h' p) = zx_wl G α h' := by
  apply List.ext_getElem?
  intro i
  by_cases hi : i = p - 1
  · subst hi
    rw [List.getElem?_set_self (by rw [zx_wl_len]; omega), zx_wl_at (h := h') h1 (by rw [hn]; exact h2)]
  · rw [List.getElem?_set_ne (fun q => hi q.symm)]
    by_cases hl : i < h.1.1
    · have a1 := zx_wl_at (G := G) (α := α) (h := h) (k := i + 1) (by omega) (by omega)
      have a2 := zx_wl_at (G := G) (α := α) (h := h') (k := i + 1) (by omega) (by rw [hn]; omega)
      rw [Nat.add_sub_cancel] at a1 a2
      rw [a1, a2, zx_enc_congr hn (hI _ (by omega)) (hR _ (by omega)) (hJ _ (by omega))]
    · rw [List.getElem?_eq_none (by rw [zx_wl_len]; omega), List.getElem?_eq_none (by rw [zx_wl_len, hn]; omega)]
/-- locals: read, set -/
def zx_get (i : Nat) : List (Nat × Value) → Option Value
  | [] => none
  | q :: t => if q.1 = i then some q.2 else zx_get i t
def zx_set (i : Nat) (v : Value) (L : List (Nat × Value)) : List (Nat × Value) := L.filter (fun q => Nat.blt q.1 i && !(q.1 + 1 == i && q.2.category == 2)) ++ (i, v) :: L.filter (fun q => Nat.blt i q.1)
def zx_set2 (i : Nat) (v : Value) (L : List (Nat × Value)) : List (Nat × Value) := L.filter (fun q => Nat.blt q.1 i && !(q.1 + 1 == i && q.2.category == 2)) ++ (i, v) :: L.filter (fun q => Nat.blt (i + 1) q.1)
abbrev zx_lm (α : Nat → Nat) (L : List (Nat × Value)) : List (Nat × Value) := L.map (fun q => (q.1, zx_cv α q.2))
theorem zx_get_mem {i : Nat} {v : Value} : ∀ {L : List (Nat × Value)}, zx_get i L = some v → (i, v) ∈ L
  | [], h => by cases h
  | q :: t, h => by
    unfold zx_get at h
    by_cases hq : q.1 = i
    · rw [if_pos hq] at h
      cases h
      subst hq
      exact List.mem_cons_self
    · rw [if_neg hq] at h
      exact List.mem_cons_of_mem _ (zx_get_mem h)
theorem zx_at {ls : Array Slot} {n : Nat} {α : Nat → Nat} {L : List (Nat × Value)} (h : lv_has ls n (zx_lm α L)) {i : Nat} {v : Value} (g : zx_get i L = some v) : ls[i]? = some (.val (zx_cv α v)) := h.2.2 (i, zx_cv α v) (List.mem_map.mpr ⟨(i, v), zx_get_mem g, rfl⟩)
theorem zx_has_sub {ls : Array Slot} {n : Nat} {l l' : List (Nat × Value)} (h : lv_has ls n l) (hs : ∀ q ∈ l', q ∈ l) : lv_has ls n l' := ⟨h.1, h.2.1, fun q hq => h.2.2 q (hs q hq)⟩
theorem zx_set_sub {α : Nat → Nat} {L : List (Nat × Value)} {i : Nat} {v : Value} : ∀ q ∈ zx_lm α (zx_set i v L), q ∈ (i, zx_cv α v) :: (zx_lm α L).filter (fun q => !(q.1 == i) && !(q.1 + 1 == i && q.2.category == 2)) := by
  intro q hq
  obtain ⟨a, ha, rfl⟩ := List.mem_map.mp hq
  unfold zx_set at ha
  rcases List.mem_append.mp ha with h | h
  · obtain ⟨h1, h2⟩ := List.mem_filter.mp h
    simp only [Bool.and_eq_true] at h2
    obtain ⟨h3, h4⟩ := h2
    have h3 : a.1 < i := by simpa using h3
    refine List.mem_cons_of_mem _ (List.mem_filter.mpr ⟨List.mem_map.mpr ⟨a, h1, rfl⟩, ?_⟩)
    simp only [zx_cv_cat, Bool.and_eq_true]
    exact ⟨by simp; omega, h4⟩
  · rcases List.mem_cons.mp h with rfl | h
    · exact List.mem_cons_self
    · obtain ⟨h1, h2⟩ := List.mem_filter.mp h
      have h3 : i < a.1 := by simpa using h2
      refine List.mem_cons_of_mem _ (List.mem_filter.mpr ⟨List.mem_map.mpr ⟨a, h1, rfl⟩, ?_⟩)
      simp only [Bool.and_eq_true]
      refine ⟨by simp; omega, ?_⟩
      have : (a.1 + 1 == i) = false := by simp; omega
      simp [this]
theorem zx_set2_sub {α : Nat → Nat} {L : List (Nat × Value)} {i : Nat} {v : Value} : ∀ q ∈ zx_lm α (zx_set2 i v L), q ∈ (i, zx_cv α v) :: (zx_lm α L).filter (fun q => !(q.1 == i) && (!(q.1 == i + 1) && !(q.1 + 1 == i && q.2.category == 2))) := by
  intro q hq
  obtain ⟨a, ha, rfl⟩ := List.mem_map.mp hq
  unfold zx_set2 at ha
  rcases List.mem_append.mp ha with h | h
  · obtain ⟨h1, h2⟩ := List.mem_filter.mp h
    simp only [Bool.and_eq_true] at h2
    obtain ⟨h3, h4⟩ := h2
    have h3 : a.1 < i := by simpa using h3
    refine List.mem_cons_of_mem _ (List.mem_filter.mpr ⟨List.mem_map.mpr ⟨a, h1, rfl⟩, ?_⟩)
    simp only [zx_cv_cat, Bool.and_eq_true]
    exact ⟨by simp; omega, by simp; omega, h4⟩
  · rcases List.mem_cons.mp h with rfl | h
    · exact List.mem_cons_self
    · obtain ⟨h1, h2⟩ := List.mem_filter.mp h
      have h3 : i + 1 < a.1 := by simpa using h2
      refine List.mem_cons_of_mem _ (List.mem_filter.mpr ⟨List.mem_map.mpr ⟨a, h1, rfl⟩, ?_⟩)
      simp only [Bool.and_eq_true]
      refine ⟨by simp; omega, by simp; omega, ?_⟩
      have : (a.1 + 1 == i) = false := by simp; omega
      simp [this]
/-- heap updates -/
def zx_u2 {β : Type} (f : Nat → Nat → β) (p j : Nat) (v : β) : Nat → Nat → β := fun q i => if q = p ∧ i = j then v else f q i
def zx_upI (h : zx_H) (p j : Nat) (v : Int32) : zx_H := (h.1, zx_u2 h.2.1 p j v, h.2.2)
def zx_upR (h : zx_H) (p j : Nat) (v : Nat) : zx_H := (h.1, h.2.1, zx_u2 h.2.2.1 p j v, h.2.2.2)
def zx_upJ (h : zx_H) (p j : Nat) (v : Int64) : zx_H := (h.1, h.2.1, h.2.2.1, zx_u2 h.2.2.2 p j v)
theorem zx_u2_off {β : Type} {f : Nat → Nat → β} {p j : Nat} {v : β} {q : Nat} (h : q ≠ p) : zx_u2 f p j v q = f q := by
  funext i
  simp [zx_u2, h]
theorem zx_u2_on {f : Nat → Nat → Int32} {p j : Nat} {v : Int32} : zx_u2 f p j v p = upd (f p) j v := by
  funext i
  simp [zx_u2, upd]
theorem zx_u2_onL {f : Nat → Nat → Int64} {p j : Nat} {v : Int64} : zx_u2 f p j v p = vp_updL (f p) j v := by
  funext i
  simp [zx_u2, vp_updL]
/-- tables and classes -/
def zx_K (D : va_G) (G : zx_G) (U : State) : Prop := va_K D zx_cl [(G.1, .int), (G.2.1, .boolean), (G.2.2.1, .long), (G.2.2.2.1, .object zx_CQ), (G.2.2.2.2, .array .int)] U ∧ ∀ w ∈ zx_N, va_Nw w U
theorem zx_N_warm {w : Cond} (hw : zx_isN w = true) {s U : State} (hW : s.WarmedH U.vm) (hZ : va_Nw w s) : va_Nw w U := by
  cases w <;> first | exact absurd hw Bool.false_ne_true | exact va_Nw.warmF hW hZ | exact va_Nw.warmM hW hZ | exact va_Nw.warmC hW hZ | exact va_Nw.warmD hW hZ
theorem zx_N_tab {w : Cond} (hw : zx_isN w = true) : w.onTables = true := by
  cases w <;> first | exact absurd hw Bool.false_ne_true | rfl
theorem zx_K.moved {D : va_G} {G : zx_G} {s U : State} (hW : s.WarmedH U.vm) (h : zx_K D G s) : zx_K D G U := ⟨va_K.moved hW.alike h.1, fun w hw => zx_N_warm (List.mem_filter.mp hw).2 hW (h.2 w hw)⟩
theorem zx_K.call {D : va_G} {G : zx_G} {U : State} (h : zx_K D G U) (g : JFrame) (mk : MethodId) (a : Array Value) : zx_K D G (U.calling g mk a) := ⟨va_K.moved (u := U) (U := U.calling g mk a) (Vm.Alike.refl U.vm) h.1, fun w hw => va_Nw.same (u := U) (U := U.calling g mk a) (zx_N_tab (List.mem_filter.mp hw).2) rfl (h.2 w hw)⟩
def zx_R (D : va_G) (G : zx_G) (α : Nat → Nat) (A : Nat → Prop) (fl : Bool) (kc : Nat) (h : zx_H) (s : State) (H : Heap) (locs : List Loc) : Prop :=
  zx_K D G s ∧ (∀ q, s.heap.size ≤ q → A q) ∧ va_P D zx_cl (zx_wl G α h) H ∧ va_D A (zx_wl G α h) ∧ va_S A s.heap H locs ∧ zx_ok h ∧ (fl = true → zx_fr α (s.heap.size + kc) h ∧ kc ≤ h.1.1)
def zx_Cx (M : zx_M) (p : Program) (s : State) (m : MethodId) (args : Array Value) (meth : Method) (c : Code) : Prop :=
  p.tables.exec = Jvm.exec ∧ c.code = M.2.1 ∧ c.maxLocals = M.2.2.1 ∧ meth.sig.returnType = M.2.2.2 ∧ meth.locks = false ∧ s.vm.findClass M.1.cls = some m.cls ∧ (∀ w ∈ zx_T, w.before args s = true) ∧ (M.1.name = "<init>" → meth.name = "<init>")
abbrev zx_Zt : Type := va_G → zx_G → (Nat → Nat) → (Nat → Prop) → State → Array Value → List Frame → State → Prop
def zx_X (l : Launch) (rm : Room) (M : zx_M) (fl : Bool) (kc ks : Nat) (Z : zx_Zt) (pc : Nat) (L : List (Nat × Value)) (S : List Value) (h : zx_H) : Prop :=
  ∀ (D : va_G) (G : zx_G) (α : Nat → Nat) (A : Nat → Prop) (p : Program) (e : Env) (s : State) (m : MethodId) (args : Array Value) (below : List Frame) (meth : Method) (c : Code) (H : Heap) (locs : List Loc) (ls : Array Slot),
    zx_Cx M p s m args meth c → zx_R D G α A fl kc h s H locs → lv_has ls M.2.2.1 (zx_lm α L) →
    W p l e rm s m args below meth c H locs kc ks (Z D G α A s args below) (F0 m pc ls (S.map (zx_cv α)))
def zx_ws (M : zx_M) : List Cond := .code M.1 M.2.1 M.2.2.1 M.2.2.2 :: zx_T
def zx_Qc (D : va_G) (G : zx_G) (α : Nat → Nat) (fl : Bool) (mc : Nat) (Q : Option Value → zx_H → Prop) (A : Nat → Prop) : Array Value → State → Outcome → State → Prop := fun _ st o t =>
  (∃ (r : Option Value) (h' : zx_H), o = .returned (r.map (zx_cv α)) ∧ Q r h' ∧ va_P D zx_cl (zx_wl G α h') t.heap ∧ va_D A (zx_wl G α h') ∧ zx_K D G t ∧ zx_ok h' ∧ (fl = true → zx_fr α (st.heap.size + mc) h' ∧ mc ≤ h'.1.1)) ∧ va_F A st t
/-- a method's end by a return -/
def zx_Zr (fl : Bool) (rm : Room) (Q : Option Value → zx_H → Prop) : zx_Zt := fun D G α A s args below => MQ below (zx_Qc D G α fl rm.cells Q A) args s rm.cells rm.slots A
def zx_C (l : Launch) (rm : Room) (M : zx_M) (fl : Bool) (As : List Value) (h : zx_H) (Q : Option Value → zx_H → Prop) : Prop :=
  ∀ (D : va_G) (G : zx_G) (α : Nat → Nat) (sz : Nat), Met l M.1 (zx_ws M) rm
    (va_Pc (As.map (zx_cv α)) (fun U => U.heap.size = sz ∧ va_P D zx_cl (zx_wl G α h) U.heap ∧ zx_K D G U ∧ va_D (fun _ => True) (zx_wl G α h) ∧ zx_ok h ∧ (fl = true → zx_fr α sz h)))
    (zx_Qc D G α fl rm.cells Q (va_A (zx_wl G α h) sz)) rm.cells rm.slots (va_A (zx_wl G α h) sz)
theorem zx_args_map (α : Nat → Nat) : ∀ (vs : List Value) (i : Nat), lv_args i (vs.map (zx_cv α)) = zx_lm α (lv_args i vs)
  | [], _ => rfl
  | v :: vs, i => by
    show (i, zx_cv α v) :: lv_args (if (zx_cv α v).category = 2 then i + 2 else i + 1) (vs.map (zx_cv α)) = (i, zx_cv α v) :: zx_lm α (lv_args (if v.category = 2 then i + 2 else i + 1) vs)
    rw [zx_cv_cat, zx_args_map α vs]
set_option maxRecDepth 20000 in
theorem zx_C.of {l : Launch} {rm : Room} {M : zx_M} {fl : Bool} {As : List Value} {h : zx_H} {Q : Option Value → zx_H → Prop} (hy : plainName M.1.cls = true) (hn : ∀ α : Nat → Nat, (lg_sl (As.map (zx_cv α))).length ≤ M.2.2.1)
    (k : zx_X l rm M fl 0 0 (zx_Zr fl rm Q) 0 (lv_args 0 As) [] h) : zx_C l rm M fl As h Q := by
  intro D G α sz
  refine Met.ofW (cc := M.2.1) (maxL := M.2.2.1) (ret := M.2.2.2) hy rfl ?_
  intro p e s m args below meth c s₁ B hml hv
  obtain ⟨rfl, hsz, hP, hK, hD0, hok, hfr⟩ := hv
  subst hsz
  have hD := hD0.self (sz := s.heap.size)
  have hl := lv_entry (As.map (zx_cv α)) (n := M.2.2.1) (hn α)
  rw [lg_entry_eq]
  have hts := atoms_spec (ws := zx_ws M) B.pre
  rw [zx_args_map] at hl
  exact k D G α _ p e s m _ below meth c s.heap [] _ ⟨B.exec, B.bytes, hml, B.returns, B.notSynchronized, findClass_of_methodNamed B.named, fun w hw => hts w (List.mem_cons_of_mem _ hw), fun q => (name_of_methodNamed B.named B.method).1.trans q⟩
    ⟨hK, fun q hq => Or.inr hq, hP, hD, va_S.rf, hok, fun q => ⟨hfr q, Nat.zero_le _⟩⟩ hl
section ZX
variable {l : Launch} {rm : Room} {M : zx_M} {fl : Bool} {kc ks : Nat} {Z : zx_Zt} {pc : Nat} {L : List (Nat × Value)} {S : List Value} {h : zx_H}
theorem zx_iadd {x y : Int32} (d : decode M.2.1 pc = .ok (.iadd, 1))  (k : zx_X l rm M fl kc ks Z (pc + 1) L (.int (x + y) :: S) h) : zx_X l rm M fl kc ks Z pc L (.int y :: .int x :: S) h := fun D G α A p e s m args below meth c H locs ls C R hl => lv_iadd C.1 C.2.1 d  (k D G α A p e s m args below meth c H locs ls C R hl)
theorem zx_isub {x y : Int32} (d : decode M.2.1 pc = .ok (.isub, 1))  (k : zx_X l rm M fl kc ks Z (pc + 1) L (.int (x - y) :: S) h) : zx_X l rm M fl kc ks Z pc L (.int y :: .int x :: S) h := fun D G α A p e s m args below meth c H locs ls C R hl => lv_isub C.1 C.2.1 d  (k D G α A p e s m args below meth c H locs ls C R hl)
theorem zx_imul {x y : Int32} (d : decode M.2.1 pc = .ok (.imul, 1))  (k : zx_X l rm M fl kc ks Z (pc + 1) L (.int (x * y) :: S) h) : zx_X l rm M fl kc ks Z pc L (.int y :: .int x :: S) h := fun D G α A p e s m args below meth c H locs ls C R hl => lv_imul C.1 C.2.1 d  (k D G α A p e s m args below meth c H locs ls C R hl)
theorem zx_iand {x y : Int32} (d : decode M.2.1 pc = .ok (.iand, 1))  (k : zx_X l rm M fl kc ks Z (pc + 1) L (.int (x &&& y) :: S) h) : zx_X l rm M fl kc ks Z pc L (.int y :: .int x :: S) h := fun D G α A p e s m args below meth c H locs ls C R hl => lv_iand C.1 C.2.1 d  (k D G α A p e s m args below meth c H locs ls C R hl)
theorem zx_ior {x y : Int32} (d : decode M.2.1 pc = .ok (.ior, 1))  (k : zx_X l rm M fl kc ks Z (pc + 1) L (.int (x ||| y) :: S) h) : zx_X l rm M fl kc ks Z pc L (.int y :: .int x :: S) h := fun D G α A p e s m args below meth c H locs ls C R hl => lv_ior C.1 C.2.1 d  (k D G α A p e s m args below meth c H locs ls C R hl)
theorem zx_ixor {x y : Int32} (d : decode M.2.1 pc = .ok (.ixor, 1))  (k : zx_X l rm M fl kc ks Z (pc + 1) L (.int (x ^^^ y) :: S) h) : zx_X l rm M fl kc ks Z pc L (.int y :: .int x :: S) h := fun D G α A p e s m args below meth c H locs ls C R hl => lv_ixor C.1 C.2.1 d  (k D G α A p e s m args below meth c H locs ls C R hl)
theorem zx_idiv {x y : Int32} (d : decode M.2.1 pc = .ok (.idiv, 1)) (hne : ¬ y = 0) (k : zx_X l rm M fl kc ks Z (pc + 1) L (.int (x / y) :: S) h) : zx_X l rm M fl kc ks Z pc L (.int y :: .int x :: S) h := fun D G α A p e s m args below meth c H locs ls C R hl => lv_idiv C.1 C.2.1 d hne (k D G α A p e s m args below meth c H locs ls C R hl)
theorem zx_irem {x y : Int32} (d : decode M.2.1 pc = .ok (.irem, 1)) (hne : ¬ y = 0) (k : zx_X l rm M fl kc ks Z (pc + 1) L (.int (x - x / y * y) :: S) h) : zx_X l rm M fl kc ks Z pc L (.int y :: .int x :: S) h := fun D G α A p e s m args below meth c H locs ls C R hl => lv_irem C.1 C.2.1 d hne (k D G α A p e s m args below meth c H locs ls C R hl)
theorem zx_ishl {x y : Int32} (d : decode M.2.1 pc = .ok (.ishl, 1))  (k : zx_X l rm M fl kc ks Z (pc + 1) L (.int (x <<< (y &&& 31)) :: S) h) : zx_X l rm M fl kc ks Z pc L (.int y :: .int x :: S) h := fun D G α A p e s m args below meth c H locs ls C R hl => lv_ishl C.1 C.2.1 d  (k D G α A p e s m args below meth c H locs ls C R hl)
theorem zx_ishr {x y : Int32} (d : decode M.2.1 pc = .ok (.ishr, 1))  (k : zx_X l rm M fl kc ks Z (pc + 1) L (.int (x >>> (y &&& 31)) :: S) h) : zx_X l rm M fl kc ks Z pc L (.int y :: .int x :: S) h := fun D G α A p e s m args below meth c H locs ls C R hl => lv_ishr C.1 C.2.1 d  (k D G α A p e s m args below meth c H locs ls C R hl)
theorem zx_iushr {x y : Int32} (d : decode M.2.1 pc = .ok (.iushr, 1))  (k : zx_X l rm M fl kc ks Z (pc + 1) L (.int ((x.toUInt32 >>> (y.toUInt32 &&& Int32.toUInt32 31)).toInt32) :: S) h) : zx_X l rm M fl kc ks Z pc L (.int y :: .int x :: S) h := fun D G α A p e s m args below meth c H locs ls C R hl => lv_iushr C.1 C.2.1 d rfl (k D G α A p e s m args below meth c H locs ls C R hl)
theorem zx_ineg {x : Int32} (d : decode M.2.1 pc = .ok (.ineg, 1))  (k : zx_X l rm M fl kc ks Z (pc + 1) L (.int (-x) :: S) h) : zx_X l rm M fl kc ks Z pc L (.int x :: S) h := fun D G α A p e s m args below meth c H locs ls C R hl => lv_ineg C.1 C.2.1 d  (k D G α A p e s m args below meth c H locs ls C R hl)
theorem zx_land {x y : Int64} (d : decode M.2.1 pc = .ok (.land, 1))  (k : zx_X l rm M fl kc ks Z (pc + 1) L (.long (x &&& y) :: S) h) : zx_X l rm M fl kc ks Z pc L (.long y :: .long x :: S) h := fun D G α A p e s m args below meth c H locs ls C R hl => lv_land C.1 C.2.1 d  (k D G α A p e s m args below meth c H locs ls C R hl)
theorem zx_lor {x y : Int64} (d : decode M.2.1 pc = .ok (.lor, 1))  (k : zx_X l rm M fl kc ks Z (pc + 1) L (.long (x ||| y) :: S) h) : zx_X l rm M fl kc ks Z pc L (.long y :: .long x :: S) h := fun D G α A p e s m args below meth c H locs ls C R hl => lv_lor C.1 C.2.1 d  (k D G α A p e s m args below meth c H locs ls C R hl)
theorem zx_lushr {x : Int64} {y : Int32} (d : decode M.2.1 pc = .ok (.lushr, 1))  (k : zx_X l rm M fl kc ks Z (pc + 1) L (.long ((x.toUInt64 >>> (y.toInt64.toUInt64 &&& Int64.toUInt64 63)).toInt64) :: S) h) : zx_X l rm M fl kc ks Z pc L (.int y :: .long x :: S) h := fun D G α A p e s m args below meth c H locs ls C R hl => lv_lushr C.1 C.2.1 d rfl (k D G α A p e s m args below meth c H locs ls C R hl)
theorem zx_lshl {x : Int64} {y : Int32} (d : decode M.2.1 pc = .ok (.lshl, 1))  (k : zx_X l rm M fl kc ks Z (pc + 1) L (.long (x <<< (y.toInt64 &&& 63)) :: S) h) : zx_X l rm M fl kc ks Z pc L (.int y :: .long x :: S) h := fun D G α A p e s m args below meth c H locs ls C R hl => lv_lshl C.1 C.2.1 d rfl (k D G α A p e s m args below meth c H locs ls C R hl)
theorem zx_i2l {x : Int32} (d : decode M.2.1 pc = .ok (.i2l, 1))  (k : zx_X l rm M fl kc ks Z (pc + 1) L (.long x.toInt64 :: S) h) : zx_X l rm M fl kc ks Z pc L (.int x :: S) h := fun D G α A p e s m args below meth c H locs ls C R hl => lv_i2l C.1 C.2.1 d rfl (k D G α A p e s m args below meth c H locs ls C R hl)
theorem zx_l2i {x : Int64} (d : decode M.2.1 pc = .ok (.l2i, 1))  (k : zx_X l rm M fl kc ks Z (pc + 1) L (.int x.toInt32 :: S) h) : zx_X l rm M fl kc ks Z pc L (.long x :: S) h := fun D G α A p e s m args below meth c H locs ls C R hl => lv_l2i C.1 C.2.1 d rfl (k D G α A p e s m args below meth c H locs ls C R hl)
theorem zx_lcmp {x y : Int64} (d : decode M.2.1 pc = .ok (.lcmp, 1))  (k : zx_X l rm M fl kc ks Z (pc + 1) L (.int (lg_cmp x y) :: S) h) : zx_X l rm M fl kc ks Z pc L (.long y :: .long x :: S) h := fun D G α A p e s m args below meth c H locs ls C R hl => W.lcmp C.1 C.2.1 d  (k D G α A p e s m args below meth c H locs ls C R hl)
theorem zx_iconst {n : Int} {v : Int32} (d : decode M.2.1 pc = .ok (.iconst n, 1)) (hv : Int32.ofInt n = v) (k : zx_X l rm M fl kc ks Z (pc + 1) L (.int v :: S) h) : zx_X l rm M fl kc ks Z pc L (S) h := fun D G α A p e s m args below meth c H locs ls C R hl => lv_iconst C.1 C.2.1 d hv (k D G α A p e s m args below meth c H locs ls C R hl)
theorem zx_bipush {n : Int} {v : Int32} (d : decode M.2.1 pc = .ok (.bipush n, 2)) (hv : (Int8.ofInt n).toInt32 = v) (k : zx_X l rm M fl kc ks Z (pc + 2) L (.int v :: S) h) : zx_X l rm M fl kc ks Z pc L (S) h := fun D G α A p e s m args below meth c H locs ls C R hl => lv_bipush C.1 C.2.1 d hv (k D G α A p e s m args below meth c H locs ls C R hl)
theorem zx_sipush {n : Int} {v : Int32} (d : decode M.2.1 pc = .ok (.sipush n, 3)) (hv : (Int16.ofInt n).toInt32 = v) (k : zx_X l rm M fl kc ks Z (pc + 3) L (.int v :: S) h) : zx_X l rm M fl kc ks Z pc L (S) h := fun D G α A p e s m args below meth c H locs ls C R hl => lv_sipush C.1 C.2.1 d hv (k D G α A p e s m args below meth c H locs ls C R hl)
theorem zx_dup_i {x : Int32} (d : decode M.2.1 pc = .ok (.dup, 1))  (k : zx_X l rm M fl kc ks Z (pc + 1) L (.int x :: .int x :: S) h) : zx_X l rm M fl kc ks Z pc L (.int x :: S) h := fun D G α A p e s m args below meth c H locs ls C R hl => lv_dup C.1 C.2.1 d rfl (k D G α A p e s m args below meth c H locs ls C R hl)
theorem zx_pop_i {x : Int32} (d : decode M.2.1 pc = .ok (.pop, 1))  (k : zx_X l rm M fl kc ks Z (pc + 1) L (S) h) : zx_X l rm M fl kc ks Z pc L (.int x :: S) h := fun D G α A p e s m args below meth c H locs ls C R hl => lv_pop C.1 C.2.1 d rfl (k D G α A p e s m args below meth c H locs ls C R hl)
theorem zx_dup_a {x : Nat} (d : decode M.2.1 pc = .ok (.dup, 1))  (k : zx_X l rm M fl kc ks Z (pc + 1) L (.ref x :: .ref x :: S) h) : zx_X l rm M fl kc ks Z pc L (.ref x :: S) h := fun D G α A p e s m args below meth c H locs ls C R hl => lv_dup C.1 C.2.1 d rfl (k D G α A p e s m args below meth c H locs ls C R hl)
theorem zx_pop_a {x : Nat} (d : decode M.2.1 pc = .ok (.pop, 1))  (k : zx_X l rm M fl kc ks Z (pc + 1) L (S) h) : zx_X l rm M fl kc ks Z pc L (.ref x :: S) h := fun D G α A p e s m args below meth c H locs ls C R hl => lv_pop C.1 C.2.1 d rfl (k D G α A p e s m args below meth c H locs ls C R hl)
theorem zx_dup2_ai {x : Int32} {y : Nat} (d : decode M.2.1 pc = .ok (.dup2, 1))  (k : zx_X l rm M fl kc ks Z (pc + 1) L (.int x :: .ref y :: .int x :: .ref y :: S) h) : zx_X l rm M fl kc ks Z pc L (.int x :: .ref y :: S) h := fun D G α A p e s m args below meth c H locs ls C R hl => lv_dup2_11 C.1 C.2.1 d rfl rfl (k D G α A p e s m args below meth c H locs ls C R hl)
theorem zx_iload_n {i : Fin 4} {x : Int32} (d : decode M.2.1 pc = .ok (.iload_n i, 1)) (g : zx_get i L = some (.int x)) (k : zx_X l rm M fl kc ks Z (pc + 1) L (.int x :: S) h) : zx_X l rm M fl kc ks Z pc L S h := fun D G α A p e s m args below meth c H locs ls C R hl => lv_iload_n C.1 C.2.1 d rfl (zx_at hl g) (k D G α A p e s m args below meth c H locs ls C R hl)
theorem zx_iload {i : Nat} {x : Int32} (d : decode M.2.1 pc = .ok (.iload i, 2)) (g : zx_get i L = some (.int x)) (k : zx_X l rm M fl kc ks Z (pc + 2) L (.int x :: S) h) : zx_X l rm M fl kc ks Z pc L S h := fun D G α A p e s m args below meth c H locs ls C R hl => lv_iload C.1 C.2.1 d (zx_at hl g) (k D G α A p e s m args below meth c H locs ls C R hl)
theorem zx_lload_n {i : Fin 4} {x : Int64} (d : decode M.2.1 pc = .ok (.lload_n i, 1)) (g : zx_get i L = some (.long x)) (k : zx_X l rm M fl kc ks Z (pc + 1) L (.long x :: S) h) : zx_X l rm M fl kc ks Z pc L S h := fun D G α A p e s m args below meth c H locs ls C R hl => lv_lload_n C.1 C.2.1 d rfl (zx_at hl g) (k D G α A p e s m args below meth c H locs ls C R hl)
theorem zx_lload {i : Nat} {x : Int64} (d : decode M.2.1 pc = .ok (.lload i, 2)) (g : zx_get i L = some (.long x)) (k : zx_X l rm M fl kc ks Z (pc + 2) L (.long x :: S) h) : zx_X l rm M fl kc ks Z pc L S h := fun D G α A p e s m args below meth c H locs ls C R hl => lv_lload C.1 C.2.1 d (zx_at hl g) (k D G α A p e s m args below meth c H locs ls C R hl)
theorem zx_aload_n {i : Fin 4} {x : Nat} (d : decode M.2.1 pc = .ok (.aload_n i, 1)) (g : zx_get i L = some (.ref x)) (k : zx_X l rm M fl kc ks Z (pc + 1) L (.ref x :: S) h) : zx_X l rm M fl kc ks Z pc L S h := fun D G α A p e s m args below meth c H locs ls C R hl => lv_aload_n C.1 C.2.1 d rfl (zx_at hl g) (k D G α A p e s m args below meth c H locs ls C R hl)
theorem zx_aload {i : Nat} {x : Nat} (d : decode M.2.1 pc = .ok (.aload i, 2)) (g : zx_get i L = some (.ref x)) (k : zx_X l rm M fl kc ks Z (pc + 2) L (.ref x :: S) h) : zx_X l rm M fl kc ks Z pc L S h := fun D G α A p e s m args below meth c H locs ls C R hl => lv_aload C.1 C.2.1 d (zx_at hl g) (k D G α A p e s m args below meth c H locs ls C R hl)
theorem zx_istore_n {i : Fin 4} {x : Int32} {L2 : List (Nat × Value)} (d : decode M.2.1 pc = .ok (.istore_n i, 1)) (hn : (i : Nat) < M.2.2.1) (hL : zx_set i (.int x) L = L2) (k : zx_X l rm M fl kc ks Z (pc + 1) L2 S h) : zx_X l rm M fl kc ks Z pc L (.int x :: S) h := fun D G α A p e s m args below meth c H locs ls C R hl => lv_istore_n C.1 C.2.1 d rfl hl hn rfl (fun ls2 h2 => k D G α A p e s m args below meth c H locs ls2 C R (zx_has_sub h2 (hL ▸ zx_set_sub)))
theorem zx_istore {i : Nat} {x : Int32} {L2 : List (Nat × Value)} (d : decode M.2.1 pc = .ok (.istore i, 2)) (hn : i < M.2.2.1) (hL : zx_set i (.int x) L = L2) (k : zx_X l rm M fl kc ks Z (pc + 2) L2 S h) : zx_X l rm M fl kc ks Z pc L (.int x :: S) h := fun D G α A p e s m args below meth c H locs ls C R hl => lv_istore C.1 C.2.1 d hl hn rfl (fun ls2 h2 => k D G α A p e s m args below meth c H locs ls2 C R (zx_has_sub h2 (hL ▸ zx_set_sub)))
theorem zx_astore_n {i : Fin 4} {x : Nat} {L2 : List (Nat × Value)} (d : decode M.2.1 pc = .ok (.astore_n i, 1)) (hn : (i : Nat) < M.2.2.1) (hL : zx_set i (.ref x) L = L2) (k : zx_X l rm M fl kc ks Z (pc + 1) L2 S h) : zx_X l rm M fl kc ks Z pc L (.ref x :: S) h := fun D G α A p e s m args below meth c H locs ls C R hl => lv_astore_n C.1 C.2.1 d rfl hl hn rfl (fun ls2 h2 => k D G α A p e s m args below meth c H locs ls2 C R (zx_has_sub h2 (hL ▸ zx_set_sub)))
theorem zx_astore {i : Nat} {x : Nat} {L2 : List (Nat × Value)} (d : decode M.2.1 pc = .ok (.astore i, 2)) (hn : i < M.2.2.1) (hL : zx_set i (.ref x) L = L2) (k : zx_X l rm M fl kc ks Z (pc + 2) L2 S h) : zx_X l rm M fl kc ks Z pc L (.ref x :: S) h := fun D G α A p e s m args below meth c H locs ls C R hl => lv_astore C.1 C.2.1 d hl hn rfl (fun ls2 h2 => k D G α A p e s m args below meth c H locs ls2 C R (zx_has_sub h2 (hL ▸ zx_set_sub)))
theorem zx_lstore_n {i : Fin 4} {x : Int64} {L2 : List (Nat × Value)} (d : decode M.2.1 pc = .ok (.lstore_n i, 1)) (hn : (i : Nat) + 1 < M.2.2.1) (hL : zx_set2 i (.long x) L = L2) (k : zx_X l rm M fl kc ks Z (pc + 1) L2 S h) : zx_X l rm M fl kc ks Z pc L (.long x :: S) h := fun D G α A p e s m args below meth c H locs ls C R hl => lv_lstore_n C.1 C.2.1 d rfl hl hn rfl (fun ls2 h2 => k D G α A p e s m args below meth c H locs ls2 C R (zx_has_sub h2 (hL ▸ zx_set2_sub)))
theorem zx_lstore {i : Nat} {x : Int64} {L2 : List (Nat × Value)} (d : decode M.2.1 pc = .ok (.lstore i, 2)) (hn : i + 1 < M.2.2.1) (hL : zx_set2 i (.long x) L = L2) (k : zx_X l rm M fl kc ks Z (pc + 2) L2 S h) : zx_X l rm M fl kc ks Z pc L (.long x :: S) h := fun D G α A p e s m args below meth c H locs ls C R hl => lv_lstore C.1 C.2.1 d hl hn rfl (fun ls2 h2 => k D G α A p e s m args below meth c H locs ls2 C R (zx_has_sub h2 (hL ▸ zx_set2_sub)))
theorem zx_iinc {i : Nat} {n : Int} {x v : Int32} {L2 : List (Nat × Value)} (d : decode M.2.1 pc = .ok (.iinc i n, 3)) (g : zx_get i L = some (.int x)) (hn : i < M.2.2.1) (hv : Int32.ofInt n = v) (hL : zx_set i (.int (x + v)) L = L2) (k : zx_X l rm M fl kc ks Z (pc + 3) L2 S h) : zx_X l rm M fl kc ks Z pc L S h := by
  intro D G α A p e s m args below meth c H locs ls C R hl
  obtain ⟨j, hj⟩ := List.getElem?_of_mem (List.mem_map.mpr ⟨(i, .int x), zx_get_mem g, rfl⟩ : (i, Value.int x) ∈ zx_lm α L)
  exact lv_iinc C.1 C.2.1 d hl hj (by rw [hv]) hn rfl (fun ls2 h2 => k D G α A p e s m args below meth c H locs ls2 C R (zx_has_sub h2 (hL ▸ zx_set_sub (v := .int (x + v)))))
theorem zx_icmp_eq {x y : Int32} {off : Int} {tgt : Nat} (d : decode M.2.1 pc = .ok (.if_icmp .eq off, 3)) (ht : (pc : Int) + off = (tgt : Int)) (kt : x = y → zx_X l rm M fl kc ks Z tgt L S h) (kf : ¬ x = y → zx_X l rm M fl kc ks Z (pc + 3) L S h) : zx_X l rm M fl kc ks Z pc L (.int y :: .int x :: S) h := fun D G α A p e s m args below meth c H locs ls C R hl => lv_icmp_eq C.1 C.2.1 d ht (fun q => kt q D G α A p e s m args below meth c H locs ls C R hl) (fun q => kf q D G α A p e s m args below meth c H locs ls C R hl)
theorem zx_icmp_ne {x y : Int32} {off : Int} {tgt : Nat} (d : decode M.2.1 pc = .ok (.if_icmp .ne off, 3)) (ht : (pc : Int) + off = (tgt : Int)) (kt : ¬ x = y → zx_X l rm M fl kc ks Z tgt L S h) (kf : x = y → zx_X l rm M fl kc ks Z (pc + 3) L S h) : zx_X l rm M fl kc ks Z pc L (.int y :: .int x :: S) h := fun D G α A p e s m args below meth c H locs ls C R hl => lv_icmp_ne C.1 C.2.1 d ht (fun q => kt q D G α A p e s m args below meth c H locs ls C R hl) (fun q => kf q D G α A p e s m args below meth c H locs ls C R hl)
theorem zx_icmp_lt {x y : Int32} {off : Int} {tgt : Nat} (d : decode M.2.1 pc = .ok (.if_icmp .lt off, 3)) (ht : (pc : Int) + off = (tgt : Int)) (kt : x < y → zx_X l rm M fl kc ks Z tgt L S h) (kf : ¬ x < y → zx_X l rm M fl kc ks Z (pc + 3) L S h) : zx_X l rm M fl kc ks Z pc L (.int y :: .int x :: S) h := fun D G α A p e s m args below meth c H locs ls C R hl => lv_icmp_lt C.1 C.2.1 d ht (fun q => kt q D G α A p e s m args below meth c H locs ls C R hl) (fun q => kf q D G α A p e s m args below meth c H locs ls C R hl)
theorem zx_icmp_ge {x y : Int32} {off : Int} {tgt : Nat} (d : decode M.2.1 pc = .ok (.if_icmp .ge off, 3)) (ht : (pc : Int) + off = (tgt : Int)) (kt : y ≤ x → zx_X l rm M fl kc ks Z tgt L S h) (kf : ¬ y ≤ x → zx_X l rm M fl kc ks Z (pc + 3) L S h) : zx_X l rm M fl kc ks Z pc L (.int y :: .int x :: S) h := fun D G α A p e s m args below meth c H locs ls C R hl => lv_icmp_ge C.1 C.2.1 d ht (fun q => kt q D G α A p e s m args below meth c H locs ls C R hl) (fun q => kf q D G α A p e s m args below meth c H locs ls C R hl)
theorem zx_icmp_gt {x y : Int32} {off : Int} {tgt : Nat} (d : decode M.2.1 pc = .ok (.if_icmp .gt off, 3)) (ht : (pc : Int) + off = (tgt : Int)) (kt : y < x → zx_X l rm M fl kc ks Z tgt L S h) (kf : ¬ y < x → zx_X l rm M fl kc ks Z (pc + 3) L S h) : zx_X l rm M fl kc ks Z pc L (.int y :: .int x :: S) h := fun D G α A p e s m args below meth c H locs ls C R hl => lv_icmp_gt C.1 C.2.1 d ht (fun q => kt q D G α A p e s m args below meth c H locs ls C R hl) (fun q => kf q D G α A p e s m args below meth c H locs ls C R hl)
theorem zx_icmp_le {x y : Int32} {off : Int} {tgt : Nat} (d : decode M.2.1 pc = .ok (.if_icmp .le off, 3)) (ht : (pc : Int) + off = (tgt : Int)) (kt : x ≤ y → zx_X l rm M fl kc ks Z tgt L S h) (kf : ¬ x ≤ y → zx_X l rm M fl kc ks Z (pc + 3) L S h) : zx_X l rm M fl kc ks Z pc L (.int y :: .int x :: S) h := fun D G α A p e s m args below meth c H locs ls C R hl => lv_icmp_le C.1 C.2.1 d ht (fun q => kt q D G α A p e s m args below meth c H locs ls C R hl) (fun q => kf q D G α A p e s m args below meth c H locs ls C R hl)
theorem zx_if_eq {x : Int32} {off : Int} {tgt : Nat} (d : decode M.2.1 pc = .ok (.ifCond .eq off, 3)) (ht : (pc : Int) + off = (tgt : Int)) (kt : x = 0 → zx_X l rm M fl kc ks Z tgt L S h) (kf : ¬ x = 0 → zx_X l rm M fl kc ks Z (pc + 3) L S h) : zx_X l rm M fl kc ks Z pc L (.int x :: S) h := fun D G α A p e s m args below meth c H locs ls C R hl => lv_if_eq C.1 C.2.1 d ht (fun q => kt q D G α A p e s m args below meth c H locs ls C R hl) (fun q => kf q D G α A p e s m args below meth c H locs ls C R hl)
theorem zx_if_ne {x : Int32} {off : Int} {tgt : Nat} (d : decode M.2.1 pc = .ok (.ifCond .ne off, 3)) (ht : (pc : Int) + off = (tgt : Int)) (kt : ¬ x = 0 → zx_X l rm M fl kc ks Z tgt L S h) (kf : x = 0 → zx_X l rm M fl kc ks Z (pc + 3) L S h) : zx_X l rm M fl kc ks Z pc L (.int x :: S) h := fun D G α A p e s m args below meth c H locs ls C R hl => lv_if_ne C.1 C.2.1 d ht (fun q => kt q D G α A p e s m args below meth c H locs ls C R hl) (fun q => kf q D G α A p e s m args below meth c H locs ls C R hl)
theorem zx_if_lt {x : Int32} {off : Int} {tgt : Nat} (d : decode M.2.1 pc = .ok (.ifCond .lt off, 3)) (ht : (pc : Int) + off = (tgt : Int)) (kt : x < 0 → zx_X l rm M fl kc ks Z tgt L S h) (kf : ¬ x < 0 → zx_X l rm M fl kc ks Z (pc + 3) L S h) : zx_X l rm M fl kc ks Z pc L (.int x :: S) h := fun D G α A p e s m args below meth c H locs ls C R hl => lv_if_lt C.1 C.2.1 d ht (fun q => kt q D G α A p e s m args below meth c H locs ls C R hl) (fun q => kf q D G α A p e s m args below meth c H locs ls C R hl)
theorem zx_if_ge {x : Int32} {off : Int} {tgt : Nat} (d : decode M.2.1 pc = .ok (.ifCond .ge off, 3)) (ht : (pc : Int) + off = (tgt : Int)) (kt : 0 ≤ x → zx_X l rm M fl kc ks Z tgt L S h) (kf : ¬ 0 ≤ x → zx_X l rm M fl kc ks Z (pc + 3) L S h) : zx_X l rm M fl kc ks Z pc L (.int x :: S) h := fun D G α A p e s m args below meth c H locs ls C R hl => lv_if_ge C.1 C.2.1 d ht (fun q => kt q D G α A p e s m args below meth c H locs ls C R hl) (fun q => kf q D G α A p e s m args below meth c H locs ls C R hl)
theorem zx_if_gt {x : Int32} {off : Int} {tgt : Nat} (d : decode M.2.1 pc = .ok (.ifCond .gt off, 3)) (ht : (pc : Int) + off = (tgt : Int)) (kt : 0 < x → zx_X l rm M fl kc ks Z tgt L S h) (kf : ¬ 0 < x → zx_X l rm M fl kc ks Z (pc + 3) L S h) : zx_X l rm M fl kc ks Z pc L (.int x :: S) h := fun D G α A p e s m args below meth c H locs ls C R hl => lv_if_gt C.1 C.2.1 d ht (fun q => kt q D G α A p e s m args below meth c H locs ls C R hl) (fun q => kf q D G α A p e s m args below meth c H locs ls C R hl)
theorem zx_if_le {x : Int32} {off : Int} {tgt : Nat} (d : decode M.2.1 pc = .ok (.ifCond .le off, 3)) (ht : (pc : Int) + off = (tgt : Int)) (kt : x ≤ 0 → zx_X l rm M fl kc ks Z tgt L S h) (kf : ¬ x ≤ 0 → zx_X l rm M fl kc ks Z (pc + 3) L S h) : zx_X l rm M fl kc ks Z pc L (.int x :: S) h := fun D G α A p e s m args below meth c H locs ls C R hl => lv_if_le C.1 C.2.1 d ht (fun q => kt q D G α A p e s m args below meth c H locs ls C R hl) (fun q => kf q D G α A p e s m args below meth c H locs ls C R hl)
theorem zx_goto {off : Int} {tgt : Nat} (d : decode M.2.1 pc = .ok (.goto off, 3)) (ht : (pc : Int) + off = (tgt : Int)) (k : zx_X l rm M fl kc ks Z tgt L S h) : zx_X l rm M fl kc ks Z pc L S h := fun D G α A p e s m args below meth c H locs ls C R hl => lv_goto C.1 C.2.1 d ht (k D G α A p e s m args below meth c H locs ls C R hl)
theorem zx_tableOut {dflt lo hi : Int} {offs : Array Int} {len : Nat} {x : Int32} {tgt : Nat} (d : decode M.2.1 pc = .ok (.tableswitch dflt lo hi offs, len)) (hq : x.toInt < lo ∨ hi < x.toInt) (ht : (pc : Int) + dflt = (tgt : Int)) (k : zx_X l rm M fl kc ks Z tgt L S h) : zx_X l rm M fl kc ks Z pc L (.int x :: S) h := fun D G α A p e s m args below meth c H locs ls C R hl => lv_tableOut C.1 C.2.1 d hq ht (k D G α A p e s m args below meth c H locs ls C R hl)
theorem zx_tableIn {dflt lo hi : Int} {offs : Array Int} {len : Nat} {x : Int32} {off : Int} {tgt : Nat} (d : decode M.2.1 pc = .ok (.tableswitch dflt lo hi offs, len)) (h1 : ¬ x.toInt < lo) (h2 : ¬ hi < x.toInt) (ho : offs[(x.toInt - lo).toNat]? = some off) (ht : (pc : Int) + off = (tgt : Int)) (k : zx_X l rm M fl kc ks Z tgt L S h) : zx_X l rm M fl kc ks Z pc L (.int x :: S) h := fun D G α A p e s m args below meth c H locs ls C R hl => lv_tableIn C.1 C.2.1 d h1 h2 ho ht (k D G α A p e s m args below meth c H locs ls C R hl)
theorem zx_ldc {idx : Nat} {v : Int32} (w : Cond.constant M.1.cls idx v ∈ zx_T) (d : decode M.2.1 pc = .ok (.ldc idx, 2)) (k : zx_X l rm M fl kc ks Z (pc + 2) L (.int v :: S) h) : zx_X l rm M fl kc ks Z pc L S h := fun D G α A p e s m args below meth c H locs ls C R hl => lv_ldc C.1 C.2.1 C.2.2.2.2.2.1 (C.2.2.2.2.2.2.1 _ w) d (k D G α A p e s m args below meth c H locs ls C R hl)
theorem zx_ldc2 {idx : Nat} {v : Int64} (w : Cond.constantLong M.1.cls idx v ∈ zx_T) (d : decode M.2.1 pc = .ok (.ldc2_w idx, 3)) (k : zx_X l rm M fl kc ks Z (pc + 3) L (.long v :: S) h) : zx_X l rm M fl kc ks Z pc L S h := fun D G α A p e s m args below meth c H locs ls C R hl => lv_ldc2 C.1 C.2.1 C.2.2.2.2.2.1 (C.2.2.2.2.2.2.1 _ w) d (k D G α A p e s m args below meth c H locs ls C R hl)
theorem zx_loc {L2 : List (Nat × Value)} (hs : ∀ q ∈ L2, q ∈ L) (k : zx_X l rm M fl kc ks Z pc L2 S h) : zx_X l rm M fl kc ks Z pc L S h := fun D G α A p e s m args below meth c H locs ls C R hl => k D G α A p e s m args below meth c H locs ls C R (zx_has_sub hl (fun q hq => by obtain ⟨a, ha, rfl⟩ := List.mem_map.mp hq; exact List.mem_map.mpr ⟨a, hs a ha, rfl⟩))
theorem zx_eq {pc2 : Nat} {L2 : List (Nat × Value)} {S2 : List Value} {h2 : zx_H} (h1 : pc2 = pc) (e2 : L2 = L) (e3 : S2 = S) (e4 : h2 = h) (k : zx_X l rm M fl kc ks Z pc2 L2 S2 h2) : zx_X l rm M fl kc ks Z pc L S h := by subst h1; subst e2; subst e3; subst e4; exact k
theorem zx_locs {L2 : List (Nat × Value)} (ks2 : List Nat) (hs : ks2.filterMap (fun i => L[i]?) = L2) (k : zx_X l rm M fl kc ks Z pc L2 S h) : zx_X l rm M fl kc ks Z pc L S h := zx_loc (fun q hq => by subst hs; obtain ⟨i, -, hi⟩ := List.mem_filterMap.mp hq; exact List.mem_of_getElem? hi) k
end ZX
theorem zx_fs_at {ft : List Bool} {α : Nat → Nat} {I : Nat → Int32} {R : Nat → Nat} {j : Nat} (hj : j < ft.length) : (zx_fs ft α I R)[j]? = some (if ft.getD j false = true then zx_nul α (R j) else .int (I j)) := by
  unfold zx_fs
  rw [List.getElem?_map, List.getElem?_range hj]
  rfl
theorem zx_fs_len {ft : List Bool} {α : Nat → Nat} {I : Nat → Int32} {R : Nat → Nat} : (zx_fs ft α I R).length = ft.length := by simp [zx_fs]
theorem zx_fs_set {ft : List Bool} {α : Nat → Nat} {I I' : Nat → Int32} {R R' : Nat → Nat} {j : Nat} {v : Value} (hj : j < ft.length) (hv : v = (if ft.getD j false = true then zx_nul α (R' j) else .int (I' j))) (hI : ∀ i, i ≠ j → I' i = I i) (hR : ∀ i, i ≠ j → R' i = R i) : (zx_fs ft α I R).set j v = zx_fs ft α I' R' := by
  apply List.ext_getElem?
  intro i
  by_cases hi : i = j
  · subst hi
    rw [List.getElem?_set_self (by rw [zx_fs_len]; exact hj), zx_fs_at hj, hv]
  · rw [List.getElem?_set_ne (fun q => hi q.symm)]
    by_cases hl : i < ft.length
    · rw [zx_fs_at hl, zx_fs_at hl, hI i hi, hR i hi]
    · rw [List.getElem?_eq_none (by rw [zx_fs_len]; omega), List.getElem?_eq_none (by rw [zx_fs_len]; omega)]
theorem zx_enc_obj {G : zx_G} {α : Nat → Nat} {h : zx_H} {o ci : Nat} (kd : (h.1.2 o).1 = ci + 5) : zx_enc G α h o = .inr (ci, zx_fs (zx_ft ci) α (h.2.1 o) (h.2.2.1 o)) := by
  unfold zx_enc
  rw [kd]
theorem zx_enc_int {G : zx_G} {α : Nat → Nat} {h : zx_H} {o n : Nat} (kd : h.1.2 o = (0, n)) : zx_enc G α h o = .inl (G.1, n, .inl (h.2.1 o)) := by
  unfold zx_enc
  rw [kd]
theorem zx_enc_bool {G : zx_G} {α : Nat → Nat} {h : zx_H} {o n : Nat} (kd : h.1.2 o = (1, n)) : zx_enc G α h o = .inl (G.2.1, n, .inl (h.2.1 o)) := by
  unfold zx_enc
  rw [kd]
theorem zx_enc_long {G : zx_G} {α : Nat → Nat} {h : zx_H} {o n : Nat} (kd : h.1.2 o = (2, n)) : zx_enc G α h o = .inl (G.2.2.1, n, .inr (.inl (h.2.2.2 o))) := by
  unfold zx_enc
  rw [kd]
theorem zx_enc_q3 {G : zx_G} {α : Nat → Nat} {h : zx_H} {o n : Nat} (kd : h.1.2 o = (3, n)) : zx_enc G α h o = .inl (G.2.2.2.1, n, .inr (.inr (.inr (.inr (fun j => zx_opt α (h.2.2.1 o j)))))) := by
  unfold zx_enc
  rw [kd]
theorem zx_enc_q4 {G : zx_G} {α : Nat → Nat} {h : zx_H} {o n : Nat} (kd : h.1.2 o = (4, n)) : zx_enc G α h o = .inl (G.2.2.2.2, n, .inr (.inr (.inr (.inr (fun j => zx_opt α (h.2.2.1 o j)))))) := by
  unfold zx_enc
  rw [kd]
/-- a field of a class by its number in the pool of the class that uses it -/
def zx_fld (own : String) (idx ci j : Nat) (isR fin : Bool) : Prop := ∃ (C : String) (T : u_T) (N : Nat) (ty : Nat → FieldType),
  zx_cl[ci]? = some (C, T, N) ∧ j < N ∧ (∀ w ∈ u_ws C T N, w ∈ zx_T) ∧ (∀ k, k < N → parseFieldDescriptor (T k).2.2.1 = some (ty k)) ∧ (∀ a, a < N → ∀ b, b < N → a ≠ b → (T a).2.1 ≠ (T b).2.1) ∧ (zx_ft ci).length = N ∧ (zx_ft ci).getD j false = isR ∧ (T j).2.2.2 = fin ∧
  (isR = false → ty j = .int) ∧ (isR = true → (ty j).isReference = true) ∧ (T j).1 = C ∧
  (Cond.fieldLink own idx C (T j).2.1 (T j).2.2.1 ∈ zx_T ∨ ∃ host, Cond.fieldLinkNest own idx C (T j).2.1 (T j).2.2.1 host ∈ zx_N)
theorem zx_fits_ref {ty : FieldType} (h : ty.isReference = true) (a : Nat) : narrow ty (.ref a) = .ref a ∧ fits ty (.ref a) = true := by
  cases ty <;> first | exact ⟨rfl, rfl⟩ | cases h
section ZY
variable {l : Launch} {rm : Room} {M : zx_M} {fl : Bool} {kc ks : Nat} {Z : zx_Zt} {pc : Nat} {L : List (Nat × Value)} {S : List Value} {h : zx_H}
theorem zx_getI {o ci j idx : Nat} {fin : Bool} (f : zx_fld M.1.cls idx ci j false fin) (kd : (h.1.2 o).1 = ci + 5) (hci : ci < 90) (d : decode M.2.1 pc = .ok (.getfield idx, 3)) (k : zx_X l rm M fl kc ks Z (pc + 3) L (.int (h.2.1 o j) :: S) h) : zx_X l rm M fl kc ks Z pc L (.ref o :: S) h := by
  intro D G α A p e s m args below meth c H locs ls C R hl
  obtain ⟨Cn, T, N, ty, hc, hj, hin, hty, hnm, hlen, hR, hfin, hi, hr, hC, hlink⟩ := f
  have hk := k D G α A p e s m args below meth c H locs ls C R hl
  obtain ⟨hK, hA, hP, hD, hS, hok, hfr⟩ := R
  obtain ⟨o1, o2, -⟩ := hok o (by omega)
  have he : (zx_wl G α h)[o - 1]? = some (α o, .inr (ci, zx_fs (zx_ft ci) α (h.2.1 o) (h.2.2.1 o))) := by rw [zx_wl_at o1 o2, zx_enc_obj kd]
  have hv : (zx_fs (zx_ft ci) α (h.2.1 o) (h.2.2.1 o))[j]? = some (.int (h.2.1 o j)) := by
    rw [zx_fs_at (by omega), hR]
    rfl
  rcases hlink with hw | ⟨host, hw⟩
  · exact va_get C.1 C.2.1 C.2.2.2.2.2.2.1 hin C.2.2.2.2.2.1 hK.1 hP (o - 1) he hc j hj (C.2.2.2.2.2.2.1 _ hw) (fun x9 h9 => hC ▸ h9) hv d hk
  · exact va_getN C.1 C.2.1 C.2.2.2.2.2.2.1 hin C.2.2.2.2.2.1 hK.1 hP (o - 1) he hc j hj (va_Nw.use rfl (hK.2 _ hw)) (fun x9 h9 => hC ▸ h9) hv d hk
theorem zx_getR {o ci j idx : Nat} {fin : Bool} (f : zx_fld M.1.cls idx ci j true fin) (kd : (h.1.2 o).1 = ci + 5) (hci : ci < 90) (nz : h.2.2.1 o j ≠ 0) (d : decode M.2.1 pc = .ok (.getfield idx, 3)) (k : zx_X l rm M fl kc ks Z (pc + 3) L (.ref (h.2.2.1 o j) :: S) h) : zx_X l rm M fl kc ks Z pc L (.ref o :: S) h := by
  intro D G α A p e s m args below meth c H locs ls C R hl
  obtain ⟨Cn, T, N, ty, hc, hj, hin, hty, hnm, hlen, hR, hfin, hi, hr, hC, hlink⟩ := f
  have hk := k D G α A p e s m args below meth c H locs ls C R hl
  obtain ⟨hK, hA, hP, hD, hS, hok, hfr⟩ := R
  obtain ⟨o1, o2, -⟩ := hok o (by omega)
  have he : (zx_wl G α h)[o - 1]? = some (α o, .inr (ci, zx_fs (zx_ft ci) α (h.2.1 o) (h.2.2.1 o))) := by rw [zx_wl_at o1 o2, zx_enc_obj kd]
  have hv : (zx_fs (zx_ft ci) α (h.2.1 o) (h.2.2.1 o))[j]? = some (.ref (α (h.2.2.1 o j))) := by
    rw [zx_fs_at (by omega), hR]
    simp [zx_nul, nz]
  rcases hlink with hw | ⟨host, hw⟩
  · exact va_get C.1 C.2.1 C.2.2.2.2.2.2.1 hin C.2.2.2.2.2.1 hK.1 hP (o - 1) he hc j hj (C.2.2.2.2.2.2.1 _ hw) (fun x9 h9 => hC ▸ h9) hv d hk
  · exact va_getN C.1 C.2.1 C.2.2.2.2.2.2.1 hin C.2.2.2.2.2.1 hK.1 hP (o - 1) he hc j hj (va_Nw.use rfl (hK.2 _ hw)) (fun x9 h9 => hC ▸ h9) hv d hk
theorem zx_putI {o ci j idx : Nat} {v : Int32} (f : zx_fld M.1.cls idx ci j false false) (kd : (h.1.2 o).1 = ci + 5) (hci : ci < 90) (d : decode M.2.1 pc = .ok (.putfield idx, 3)) (k : zx_X l rm M fl kc ks Z (pc + 3) L S (zx_upI h o j v)) : zx_X l rm M fl kc ks Z pc L (.int v :: .ref o :: S) h := by
  intro D G α A p e s m args below meth c H locs ls C R hl
  obtain ⟨Cn, T, N, ty, hc, hj, hin, hty, hnm, hlen, hR, hfin, hi, hr, hC, hlink⟩ := f
  obtain ⟨hK, hA, hP, hD, hS, hok, hfr⟩ := R
  obtain ⟨o1, o2, -⟩ := hok o (by omega)
  have he : (zx_wl G α h)[o - 1]? = some (α o, .inr (ci, zx_fs (zx_ft ci) α (h.2.1 o) (h.2.2.1 o))) := by rw [zx_wl_at o1 o2, zx_enc_obj kd]
  have hset : (zx_wl G α h).set (o - 1) (α o, .inr (ci, (zx_fs (zx_ft ci) α (h.2.1 o) (h.2.2.1 o)).set j (.int v))) = zx_wl G α (zx_upI h o j v) := by
    rw [zx_fs_set (ft := zx_ft ci) (α := α) (I := h.2.1 o) (R := h.2.2.1 o) (j := j) (v := .int v) (I' := (zx_upI h o j v).2.1 o) (R' := (zx_upI h o j v).2.2.1 o) (by omega) (by rw [hR]; simp [zx_upI, zx_u2]) (fun i hi => by simp [zx_upI, zx_u2, hi]) (fun i hi => rfl), ← zx_enc_obj (G := G) (h := zx_upI h o j v) kd]
    exact zx_wl_set rfl (fun q hq => zx_u2_off hq) (fun _ _ => rfl) (fun _ _ => rfl) o1 o2
  have hp : parseFieldDescriptor (T j).2.2.1 = some .int := by rw [hty j hj, hi rfl]
  rcases hlink with hw | ⟨host, hw⟩
  · refine va_put (v := .int v) C.1 C.2.1 C.2.2.2.2.2.2.1 hin ty hty hnm C.2.2.2.2.2.1 hK.1 hP hD hS (o - 1) he hc j hj (C.2.2.2.2.2.2.1 _ hw) (fun x9 h9 => hC ▸ h9) hfin hp rfl rfl (by rw [zx_fs_len]; omega) d (fun H1 locs1 hP1 hD1 hS1 => ?_)
    rw [hset] at hP1 hD1
    exact k D G α A p e s m args below meth c H1 locs1 ls C ⟨hK, hA, hP1, hD1, hS1, hok, hfr⟩ hl
  · refine va_putN (v := .int v) C.1 C.2.1 C.2.2.2.2.2.2.1 hin ty hty hnm C.2.2.2.2.2.1 hK.1 hP hD hS (o - 1) he hc j hj (va_Nw.use rfl (hK.2 _ hw)) (fun x9 h9 => hC ▸ h9) hfin hp rfl rfl (by rw [zx_fs_len]; omega) d (fun H1 locs1 hP1 hD1 hS1 => ?_)
    rw [hset] at hP1 hD1
    exact k D G α A p e s m args below meth c H1 locs1 ls C ⟨hK, hA, hP1, hD1, hS1, hok, hfr⟩ hl
theorem zx_putR {o ci j idx v : Nat} (f : zx_fld M.1.cls idx ci j true false) (kd : (h.1.2 o).1 = ci + 5) (hci : ci < 90) (nz : v ≠ 0) (d : decode M.2.1 pc = .ok (.putfield idx, 3)) (k : zx_X l rm M fl kc ks Z (pc + 3) L S (zx_upR h o j v)) : zx_X l rm M fl kc ks Z pc L (.ref v :: .ref o :: S) h := by
  intro D G α A p e s m args below meth c H locs ls C R hl
  obtain ⟨Cn, T, N, ty, hc, hj, hin, hty, hnm, hlen, hR, hfin, hi, hr, hC, hlink⟩ := f
  obtain ⟨hK, hA, hP, hD, hS, hok, hfr⟩ := R
  obtain ⟨o1, o2, -⟩ := hok o (by omega)
  have he : (zx_wl G α h)[o - 1]? = some (α o, .inr (ci, zx_fs (zx_ft ci) α (h.2.1 o) (h.2.2.1 o))) := by rw [zx_wl_at o1 o2, zx_enc_obj kd]
  have hset : (zx_wl G α h).set (o - 1) (α o, .inr (ci, (zx_fs (zx_ft ci) α (h.2.1 o) (h.2.2.1 o)).set j (.ref (α v)))) = zx_wl G α (zx_upR h o j v) := by
    rw [zx_fs_set (ft := zx_ft ci) (α := α) (I := h.2.1 o) (R := h.2.2.1 o) (j := j) (v := .ref (α v)) (I' := (zx_upR h o j v).2.1 o) (R' := (zx_upR h o j v).2.2.1 o) (by omega) (by rw [hR]; simp [zx_upR, zx_u2, zx_nul, nz]) (fun i hi => rfl) (fun i hi => by simp [zx_upR, zx_u2, hi]), ← zx_enc_obj (G := G) (h := zx_upR h o j v) kd]
    exact zx_wl_set rfl (fun _ _ => rfl) (fun q hq => zx_u2_off hq) (fun _ _ => rfl) o1 o2
  have hq := zx_fits_ref (hr rfl) (α v)
  rcases hlink with hw | ⟨host, hw⟩
  · refine va_put (v := .ref (α v)) C.1 C.2.1 C.2.2.2.2.2.2.1 hin ty hty hnm C.2.2.2.2.2.1 hK.1 hP hD hS (o - 1) he hc j hj (C.2.2.2.2.2.2.1 _ hw) (fun x9 h9 => hC ▸ h9) hfin (hty j hj) hq.1 hq.2 (by rw [zx_fs_len]; omega) d (fun H1 locs1 hP1 hD1 hS1 => ?_)
    rw [hset] at hP1 hD1
    exact k D G α A p e s m args below meth c H1 locs1 ls C ⟨hK, hA, hP1, hD1, hS1, hok, hfr⟩ hl
  · refine va_putN (v := .ref (α v)) C.1 C.2.1 C.2.2.2.2.2.2.1 hin ty hty hnm C.2.2.2.2.2.1 hK.1 hP hD hS (o - 1) he hc j hj (va_Nw.use rfl (hK.2 _ hw)) (fun x9 h9 => hC ▸ h9) hfin (hty j hj) hq.1 hq.2 (by rw [zx_fs_len]; omega) d (fun H1 locs1 hP1 hD1 hS1 => ?_)
    rw [hset] at hP1 hD1
    exact k D G α A p e s m args below meth c H1 locs1 ls C ⟨hK, hA, hP1, hD1, hS1, hok, hfr⟩ hl
/-- a final field, in its own class's constructor -/
theorem zx_putF {o ci j idx v : Nat} (f : zx_fld M.1.cls idx ci j true true) (kd : (h.1.2 o).1 = ci + 5) (hci : ci < 90) (nz : v ≠ 0) (hin0 : M.1.name = "<init>") (hw : ∀ (T : u_T) (C : String) (N : Nat), zx_cl[ci]? = some (C, T, N) → C = M.1.cls ∧ Cond.fieldLink M.1.cls idx C (T j).2.1 (T j).2.2.1 ∈ zx_T) (d : decode M.2.1 pc = .ok (.putfield idx, 3)) (k : zx_X l rm M fl kc ks Z (pc + 3) L S (zx_upR h o j v)) : zx_X l rm M fl kc ks Z pc L (.ref v :: .ref o :: S) h := by
  intro D G α A p e s m args below meth c H locs ls C R hl
  obtain ⟨Cn, T, N, ty, hc, hj, hin, hty, hnm, hlen, hR, hfin, hi, hr, hC, hlink⟩ := f
  obtain ⟨hK, hA, hP, hD, hS, hok, hfr⟩ := R
  obtain ⟨o1, o2, -⟩ := hok o (by omega)
  have he : (zx_wl G α h)[o - 1]? = some (α o, .inr (ci, zx_fs (zx_ft ci) α (h.2.1 o) (h.2.2.1 o))) := by rw [zx_wl_at o1 o2, zx_enc_obj kd]
  have hset : (zx_wl G α h).set (o - 1) (α o, .inr (ci, (zx_fs (zx_ft ci) α (h.2.1 o) (h.2.2.1 o)).set j (.ref (α v)))) = zx_wl G α (zx_upR h o j v) := by
    rw [zx_fs_set (ft := zx_ft ci) (α := α) (I := h.2.1 o) (R := h.2.2.1 o) (j := j) (v := .ref (α v)) (I' := (zx_upR h o j v).2.1 o) (R' := (zx_upR h o j v).2.2.1 o) (by omega) (by rw [hR]; simp [zx_upR, zx_u2, zx_nul, nz]) (fun i hi => rfl) (fun i hi => by simp [zx_upR, zx_u2, hi]), ← zx_enc_obj (G := G) (h := zx_upR h o j v) kd]
    exact zx_wl_set rfl (fun _ _ => rfl) (fun q hq => zx_u2_off hq) (fun _ _ => rfl) o1 o2
  have hq := zx_fits_ref (hr rfl) (α v)
  refine va_putF (v := .ref (α v)) C.1 C.2.1 C.2.2.2.2.2.2.1 hin ty hty hnm C.2.2.2.2.2.1 hK.1 hP hD hS (o - 1) he hc j hj (C.2.2.2.2.2.2.1 _ (hw T Cn N hc).2) (fun x9 h9 => hC ▸ h9) hfin (C.2.2.2.2.2.2.2 hin0) (hC.trans (hw T Cn N hc).1) (hty j hj) hq.1 hq.2 (by rw [zx_fs_len]; omega) d (fun H1 locs1 hP1 hD1 hS1 => ?_)
  rw [hset] at hP1 hD1
  exact k D G α A p e s m args below meth c H1 locs1 ls C ⟨hK, hA, hP1, hD1, hS1, hok, hfr⟩ hl
theorem zx_iald {q n : Nat} {x : Int32} (j : Nat) (kd : h.1.2 q = (0, n)) (hx : x = nI j) (hj : j < n) (d : decode M.2.1 pc = .ok (.iaload, 1)) (k : zx_X l rm M fl kc ks Z (pc + 1) L (.int (h.2.1 q j) :: S) h) : zx_X l rm M fl kc ks Z pc L (.int x :: .ref q :: S) h := by
  intro D G α A p e s m args below meth c H locs ls C R hl
  have hk := k D G α A p e s m args below meth c H locs ls C R hl
  obtain ⟨hK, hA, hP, hD, hS, hok, hfr⟩ := R
  obtain ⟨o1, o2, o3⟩ := hok q (by rw [kd]; omega)
  rw [kd] at o3
  have he : (zx_wl G α h)[q - 1]? = some (α q, .inl (G.1, n, .inl (h.2.1 q))) := by rw [zx_wl_at o1 o2, zx_enc_int kd]
  subst hx
  refine va_iald C.1 C.2.1 hK.1 hP (q - 1) 0 he rfl (vp_in_nI hj o3) d ?_
  rw [nI_clamp (by omega)]
  exact hk
theorem zx_zald {q n : Nat} {x : Int32} (j : Nat) (kd : h.1.2 q = (1, n)) (hx : x = nI j) (hj : j < n) (d : decode M.2.1 pc = .ok (.baload, 1)) (k : zx_X l rm M fl kc ks Z (pc + 1) L (.int (h.2.1 q j) :: S) h) : zx_X l rm M fl kc ks Z pc L (.int x :: .ref q :: S) h := by
  intro D G α A p e s m args below meth c H locs ls C R hl
  have hk := k D G α A p e s m args below meth c H locs ls C R hl
  obtain ⟨hK, hA, hP, hD, hS, hok, hfr⟩ := R
  obtain ⟨o1, o2, o3⟩ := hok q (by rw [kd]; omega)
  rw [kd] at o3
  have he : (zx_wl G α h)[q - 1]? = some (α q, .inl (G.2.1, n, .inl (h.2.1 q))) := by rw [zx_wl_at o1 o2, zx_enc_bool kd]
  subst hx
  refine va_zald C.1 C.2.1 hK.1 hP (q - 1) 1 he rfl (vp_in_nI hj o3) d ?_
  rw [nI_clamp (by omega)]
  exact hk
theorem zx_lald {q n : Nat} {x : Int32} (j : Nat) (kd : h.1.2 q = (2, n)) (hx : x = nI j) (hj : j < n) (d : decode M.2.1 pc = .ok (.laload, 1)) (k : zx_X l rm M fl kc ks Z (pc + 1) L (.long (h.2.2.2 q j) :: S) h) : zx_X l rm M fl kc ks Z pc L (.int x :: .ref q :: S) h := by
  intro D G α A p e s m args below meth c H locs ls C R hl
  have hk := k D G α A p e s m args below meth c H locs ls C R hl
  obtain ⟨hK, hA, hP, hD, hS, hok, hfr⟩ := R
  obtain ⟨o1, o2, o3⟩ := hok q (by rw [kd]; omega)
  rw [kd] at o3
  have he : (zx_wl G α h)[q - 1]? = some (α q, .inl (G.2.2.1, n, .inr (.inl (h.2.2.2 q)))) := by rw [zx_wl_at o1 o2, zx_enc_long kd]
  subst hx
  refine va_lald C.1 C.2.1 hK.1 hP (q - 1) 2 he rfl (vp_in_nI hj o3) d ?_
  rw [nI_clamp (by omega)]
  exact hk
theorem zx_iast {q n : Nat} {x v : Int32} (j : Nat) (kd : h.1.2 q = (0, n)) (hx : x = nI j) (hj : j < n) (d : decode M.2.1 pc = .ok (.iastore, 1)) (k : zx_X l rm M fl kc ks Z (pc + 1) L S (zx_upI h q j v)) : zx_X l rm M fl kc ks Z pc L (.int v :: .int x :: .ref q :: S) h := by
  intro D G α A p e s m args below meth c H locs ls C R hl
  obtain ⟨hK, hA, hP, hD, hS, hok, hfr⟩ := R
  obtain ⟨o1, o2, o3⟩ := hok q (by rw [kd]; omega)
  rw [kd] at o3
  have he : (zx_wl G α h)[q - 1]? = some (α q, .inl (G.1, n, .inl (h.2.1 q))) := by rw [zx_wl_at o1 o2, zx_enc_int kd]
  subst hx
  refine va_iast C.1 C.2.1 hK.1 hP hD hS (q - 1) 0 he rfl (vp_in_nI hj o3) d (fun H1 locs1 hP1 hD1 hS1 => ?_)
  have hset : (zx_wl G α h).set (q - 1) (α q, .inl (G.1, n, .inl (upd (h.2.1 q) (nI j).toNatClampNeg v))) = zx_wl G α (zx_upI h q j v) := by
    rw [nI_clamp (by omega), ← zx_u2_on]
    rw [show (.inl (G.1, n, .inl (zx_u2 h.2.1 q j v q)) : va_E) = zx_enc G α (zx_upI h q j v) q from (zx_enc_int (h := zx_upI h q j v) kd).symm]
    exact zx_wl_set rfl (fun q hq => zx_u2_off hq) (fun _ _ => rfl) (fun _ _ => rfl) o1 o2
  rw [hset] at hP1 hD1
  exact k D G α A p e s m args below meth c H1 locs1 ls C ⟨hK, hA, hP1, hD1, hS1, hok, hfr⟩ hl
theorem zx_zast {q n : Nat} {x v : Int32} (j : Nat) (kd : h.1.2 q = (1, n)) (hx : x = nI j) (hj : j < n) (hv : vp_nar .boolean v = v) (d : decode M.2.1 pc = .ok (.bastore, 1)) (k : zx_X l rm M fl kc ks Z (pc + 1) L S (zx_upI h q j v)) : zx_X l rm M fl kc ks Z pc L (.int v :: .int x :: .ref q :: S) h := by
  intro D G α A p e s m args below meth c H locs ls C R hl
  obtain ⟨hK, hA, hP, hD, hS, hok, hfr⟩ := R
  obtain ⟨o1, o2, o3⟩ := hok q (by rw [kd]; omega)
  rw [kd] at o3
  have he : (zx_wl G α h)[q - 1]? = some (α q, .inl (G.2.1, n, .inl (h.2.1 q))) := by rw [zx_wl_at o1 o2, zx_enc_bool kd]
  subst hx
  refine va_zast C.1 C.2.1 hK.1 hP hD hS (q - 1) 1 he rfl (vp_in_nI hj o3) d (fun H1 locs1 hP1 hD1 hS1 => ?_)
  have hset : (zx_wl G α h).set (q - 1) (α q, .inl (G.2.1, n, .inl (upd (h.2.1 q) (nI j).toNatClampNeg (vp_nar .boolean v)))) = zx_wl G α (zx_upI h q j v) := by
    rw [hv, nI_clamp (by omega), ← zx_u2_on]
    rw [show (.inl (G.2.1, n, .inl (zx_u2 h.2.1 q j v q)) : va_E) = zx_enc G α (zx_upI h q j v) q from (zx_enc_bool (h := zx_upI h q j v) kd).symm]
    exact zx_wl_set rfl (fun q hq => zx_u2_off hq) (fun _ _ => rfl) (fun _ _ => rfl) o1 o2
  rw [hset] at hP1 hD1
  exact k D G α A p e s m args below meth c H1 locs1 ls C ⟨hK, hA, hP1, hD1, hS1, hok, hfr⟩ hl
theorem zx_last {q n : Nat} {x : Int32} {v : Int64} (j : Nat) (kd : h.1.2 q = (2, n)) (hx : x = nI j) (hj : j < n) (d : decode M.2.1 pc = .ok (.lastore, 1)) (k : zx_X l rm M fl kc ks Z (pc + 1) L S (zx_upJ h q j v)) : zx_X l rm M fl kc ks Z pc L (.long v :: .int x :: .ref q :: S) h := by
  intro D G α A p e s m args below meth c H locs ls C R hl
  obtain ⟨hK, hA, hP, hD, hS, hok, hfr⟩ := R
  obtain ⟨o1, o2, o3⟩ := hok q (by rw [kd]; omega)
  rw [kd] at o3
  have he : (zx_wl G α h)[q - 1]? = some (α q, .inl (G.2.2.1, n, .inr (.inl (h.2.2.2 q)))) := by rw [zx_wl_at o1 o2, zx_enc_long kd]
  subst hx
  refine va_last C.1 C.2.1 hK.1 hP hD hS (q - 1) 2 he rfl (vp_in_nI hj o3) d (fun H1 locs1 hP1 hD1 hS1 => ?_)
  have hset : (zx_wl G α h).set (q - 1) (α q, .inl (G.2.2.1, n, .inr (.inl (vp_updL (h.2.2.2 q) (nI j).toNatClampNeg v)))) = zx_wl G α (zx_upJ h q j v) := by
    rw [nI_clamp (by omega), ← zx_u2_onL]
    rw [show (.inl (G.2.2.1, n, .inr (.inl (zx_u2 h.2.2.2 q j v q))) : va_E) = zx_enc G α (zx_upJ h q j v) q from (zx_enc_long (h := zx_upJ h q j v) kd).symm]
    exact zx_wl_set rfl (fun _ _ => rfl) (fun _ _ => rfl) (fun q hq => zx_u2_off hq) o1 o2
  rw [hset] at hP1 hD1
  exact k D G α A p e s m args below meth c H1 locs1 ls C ⟨hK, hA, hP1, hD1, hS1, hok, hfr⟩ hl
theorem zx_alen {q n : Nat} (kd : h.1.2 q = (0, n)) (d : decode M.2.1 pc = .ok (.arraylength, 1)) (k : zx_X l rm M fl kc ks Z (pc + 1) L (.int (nI n) :: S) h) : zx_X l rm M fl kc ks Z pc L (.ref q :: S) h := by
  intro D G α A p e s m args below meth c H locs ls C R hl
  have hk := k D G α A p e s m args below meth c H locs ls C R hl
  obtain ⟨hK, hA, hP, hD, hS, hok, hfr⟩ := R
  obtain ⟨o1, o2, o3⟩ := hok q (by rw [kd]; omega)
  have he : (zx_wl G α h)[q - 1]? = some (α q, .inl (G.1, n, .inl (h.2.1 q))) := by rw [zx_wl_at o1 o2, zx_enc_int kd]
  exact va_alen C.1 C.2.1 hK.1 hP (q - 1) 0 he (ty := .int) rfl rfl d hk
theorem zx_aald3 {q n : Nat} {x : Int32} (j : Nat) (kd : h.1.2 q = (3, n)) (hx : x = nI j) (hj : j < n) (nz : h.2.2.1 q j ≠ 0) (d : decode M.2.1 pc = .ok (.aaload, 1)) (k : zx_X l rm M fl kc ks Z (pc + 1) L (.ref (h.2.2.1 q j) :: S) h) : zx_X l rm M fl kc ks Z pc L (.int x :: .ref q :: S) h := by
  intro D G α A p e s m args below meth c H locs ls C R hl
  have hk := k D G α A p e s m args below meth c H locs ls C R hl
  obtain ⟨hK, hA, hP, hD, hS, hok, hfr⟩ := R
  obtain ⟨o1, o2, o3⟩ := hok q (by rw [kd]; omega)
  rw [kd] at o3
  have he : (zx_wl G α h)[q - 1]? = some (α q, .inl (G.2.2.2.1, n, .inr (.inr (.inr (.inr (fun j => zx_opt α (h.2.2.1 q j))))))) := by rw [zx_wl_at o1 o2, zx_enc_q3 kd]
  subst hx
  refine va_aldq C.1 C.2.1 hK.1 hP (q - 1) 3 he rfl (vp_in_nI hj o3) d ?_
  rw [nI_clamp (by omega), show va_rf (zx_opt α (h.2.2.1 q j)) = .ref (α (h.2.2.1 q j)) by simp [zx_opt, nz, va_rf]]
  exact hk
theorem zx_aald4 {q n : Nat} {x : Int32} (j : Nat) (kd : h.1.2 q = (4, n)) (hx : x = nI j) (hj : j < n) (nz : h.2.2.1 q j ≠ 0) (d : decode M.2.1 pc = .ok (.aaload, 1)) (k : zx_X l rm M fl kc ks Z (pc + 1) L (.ref (h.2.2.1 q j) :: S) h) : zx_X l rm M fl kc ks Z pc L (.int x :: .ref q :: S) h := by
  intro D G α A p e s m args below meth c H locs ls C R hl
  have hk := k D G α A p e s m args below meth c H locs ls C R hl
  obtain ⟨hK, hA, hP, hD, hS, hok, hfr⟩ := R
  obtain ⟨o1, o2, o3⟩ := hok q (by rw [kd]; omega)
  rw [kd] at o3
  have he : (zx_wl G α h)[q - 1]? = some (α q, .inl (G.2.2.2.2, n, .inr (.inr (.inr (.inr (fun j => zx_opt α (h.2.2.1 q j))))))) := by rw [zx_wl_at o1 o2, zx_enc_q4 kd]
  subst hx
  have hin := vp_in_nI hj o3
  have hcl := nI_clamp (show j < 2 ^ 31 by omega)
  refine W.aald (v := .ref (α (h.2.2.1 q j))) (ty := .array .int) C.1 C.2.1 (hP (q - 1) _ he) ((hK.1.2 4 _ rfl).1 n (fun j => va_rf (zx_opt α (h.2.2.1 q j)))) rfl (fun z => by cases z) (by show ¬ (_ < 0 ∨ (arrV _ _ _).slots.size ≤ _); rw [arrV_size]; exact hin) (by show (arrV _ _ _).slots[_]? = _; rw [hcl, arrV_read _ _ hj]; simp [zx_opt, nz, va_rf]) rfl rfl d hk
/-- ends -/
theorem zx_iret {v : Int32} {Q : Option Value → zx_H → Prop} (d : decode M.2.1 pc = .ok (.ireturn, 1)) (hr : M.2.2.2 = some .int) (hq : Q (some (.int v)) h) (h1 : kc ≤ rm.cells) (h2 : ks ≤ rm.slots) (h3 : fl = true → kc = rm.cells) : zx_X l rm M fl kc ks (zx_Zr fl rm Q) pc L [.int v] h := by
  intro D G α A p e s m args below meth c H locs ls C R hl
  obtain ⟨hK, hA, hP, hD, hS, hok, hfr⟩ := R
  have hfr : fl = true → zx_fr α (s.heap.size + rm.cells) h ∧ rm.cells ≤ h.1.1 := fun q => by rw [← h3 q]; exact hfr q
  refine W.widen (k := rm.cells) (n := rm.slots) h1 h2 ?_
  exact W.iret C.1 C.2.1 (C.2.2.2.1.trans hr) (fun t ht hW => ⟨⟨some (.int v), h, rfl, hq, by rw [ht]; exact hP, hD, zx_K.moved hW hK, hok, hfr⟩, hS.F ht⟩) hS.2.2 d C.2.2.2.2.1
theorem zx_zret {v : Int32} {Q : Option Value → zx_H → Prop} (d : decode M.2.1 pc = .ok (.ireturn, 1)) (hr : M.2.2.2 = some .boolean) (hn : narrow .boolean (.int v) = .int v) (hq : Q (some (.int v)) h) (h1 : kc ≤ rm.cells) (h2 : ks ≤ rm.slots) (h3 : fl = true → kc = rm.cells) : zx_X l rm M fl kc ks (zx_Zr fl rm Q) pc L [.int v] h := by
  intro D G α A p e s m args below meth c H locs ls C R hl
  obtain ⟨hK, hA, hP, hD, hS, hok, hfr⟩ := R
  have hfr : fl = true → zx_fr α (s.heap.size + rm.cells) h ∧ rm.cells ≤ h.1.1 := fun q => by rw [← h3 q]; exact hfr q
  refine W.widen (k := rm.cells) (n := rm.slots) h1 h2 ?_
  exact W.zret C.1 C.2.1 (C.2.2.2.1.trans hr) hn (fun t ht hW => ⟨⟨some (.int v), h, rfl, hq, by rw [ht]; exact hP, hD, zx_K.moved hW hK, hok, hfr⟩, hS.F ht⟩) hS.2.2 d C.2.2.2.2.1
theorem zx_vret {Q : Option Value → zx_H → Prop} (d : decode M.2.1 pc = .ok (.return_, 1)) (hr : M.2.2.2 = none) (hq : Q none h) (h1 : kc ≤ rm.cells) (h2 : ks ≤ rm.slots) (h3 : fl = true → kc = rm.cells) : zx_X l rm M fl kc ks (zx_Zr fl rm Q) pc L [] h := by
  intro D G α A p e s m args below meth c H locs ls C R hl
  obtain ⟨hK, hA, hP, hD, hS, hok, hfr⟩ := R
  have hfr : fl = true → zx_fr α (s.heap.size + rm.cells) h ∧ rm.cells ≤ h.1.1 := fun q => by rw [← h3 q]; exact hfr q
  refine W.widen (k := rm.cells) (n := rm.slots) h1 h2 ?_
  exact W.vret C.1 C.2.1 (C.2.2.2.1.trans hr) (fun t ht hW => ⟨⟨none, h, rfl, hq, by rw [ht]; exact hP, hD, zx_K.moved hW hK, hok, hfr⟩, hS.F ht⟩) hS.2.2 d C.2.2.2.2.1
end ZY
