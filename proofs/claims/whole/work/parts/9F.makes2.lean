/-! Constructors: rules with numbered cells; rows of rows. -/
def pu (N : Nat) (h : zx_H) (kd : Nat × Nat) : zx_H := ((N, fun k => if k = N then kd else h.1.2 k), (fun q i => if q = N then 0 else h.2.1 q i), (fun q i => if q = N then 0 else h.2.2.1 q i), (fun q i => if q = N then 0 else h.2.2.2 q i))
theorem pu_eq {h : zx_H} {N : Nat} {kd : Nat × Nat} (hN : h.1.1 + 1 = N) : zx_push h kd = pu N h kd := by subst hN; rfl
/-- four rows of 258 ints, in a row: cells N, N + 1 .. N + 4 -/
def pm (N : Nat) (h : zx_H) : zx_H := zx_upR (zx_upR (zx_upR (zx_upR (pu (N + 4) (pu (N + 3) (pu (N + 2) (pu (N + 1) (pu N h (4, 4)) (0, 258)) (0, 258)) (0, 258)) (0, 258)) N 0 (N + 1)) N 1 (N + 2)) N 2 (N + 3)) N 3 (N + 4)
/-- a cell's kind -/
def ck (h : zx_H) (o t : Nat) : Prop := (h.1.2 o).1 = t ∧ o ≤ h.1.1
theorem ck.p {h : zx_H} {o t N : Nat} {kd : Nat × Nat} (H : ck h o t) (hN : h.1.1 + 1 = N) : ck (pu N h kd) o t := by
  subst hN
  have := H.2
  refine ⟨?_, Nat.le_succ_of_le this⟩
  show (if o = h.1.1 + 1 then kd else h.1.2 o).1 = t
  rw [if_neg (by omega)]
  exact H.1
theorem ck.i {h : zx_H} {o t p j : Nat} {v : Int32} (H : ck h o t) : ck (zx_upI h p j v) o t := H
theorem ck.r {h : zx_H} {o t p j v : Nat} (H : ck h o t) : ck (zx_upR h p j v) o t := H
theorem ck.n {h : zx_H} {N t n : Nat} : ck (pu N h (t, n)) N t := ⟨by show (if N = N then (t, n) else _).1 = t; rw [if_pos rfl], Nat.le_refl _⟩
theorem ck.m {h : zx_H} {o t N : Nat} (H : ck h o t) (hN : h.1.1 + 1 = N) : ck (pm N h) o t := (((((H.p hN).p rfl).p rfl).p rfl).p rfl).r.r.r.r
/-- the world with some cells more -/
theorem zx_R_ext {D : va_G} {G : zx_G} {α : Nat → Nat} {A : Nat → Prop} {kc : Nat} {h h2 : zx_H} {s : State} {H H1 : Heap} {locs : List Loc} (m : Nat) (R : zx_R D G α A true kc h s H locs) (hsz : H.size = s.heap.size + kc) (hn : h2.1.1 = h.1.1 + m) (hok : zx_ok h2) (he : ∀ k, k ≤ h.1.1 → zx_enc G α h2 k = zx_enc G α h k)
    (e1 : ∀ j, j < m → va_at D zx_cl (α (h.1.1 + 1 + j), zx_enc G α h2 (h.1.1 + 1 + j)) H1) (z1 : H1.size = H.size + m) (o1 : ∀ q, q < H.size → H1[q]? = H[q]?) : zx_R D G α A true (kc + m) h2 s H1 locs := by
  obtain ⟨hK, hA, hP, hD, hS, -, hfr⟩ := R
  obtain ⟨f1, f2⟩ := hfr rfl
  have hk : ∀ (k : Nat) (x : Nat × va_E), (zx_wl G α h)[k]? = some x → H1[x.1]? = H[x.1]? := fun k x hx => o1 x.1 ((hP k x hx).lt)
  have hw : zx_wl G α h2 = zx_wl G α h ++ (List.range m).map (fun j => (α (h.1.1 + 1 + j), zx_enc G α h2 (h.1.1 + 1 + j))) := by
    unfold zx_wl
    rw [hn, List.range_add, List.map_append, List.map_map]
    congr 1
    · apply List.map_congr_left
      intro k hk
      have := List.mem_range.mp hk
      rw [he _ (by omega)]
    · apply List.map_congr_left
      intro k hk
      show (α (h.1.1 + k + 1), zx_enc G α h2 (h.1.1 + k + 1)) = _
      rw [show h.1.1 + k + 1 = h.1.1 + 1 + k by omega]
  have hj : ∀ (k : Nat) (x : Nat × va_E), ((List.range m).map (fun j => (α (h.1.1 + 1 + j), zx_enc G α h2 (h.1.1 + 1 + j))))[k]? = some x → k < m ∧ x = (α (h.1.1 + 1 + k), zx_enc G α h2 (h.1.1 + 1 + k)) := by
    intro k x hx
    have hl : k < m := by simpa using (List.getElem?_eq_some_iff.mp hx).1
    rw [List.getElem?_map, List.getElem?_range hl] at hx
    exact ⟨hl, (Option.some.inj hx).symm⟩
  have ha : ∀ j, α (h.1.1 + 1 + j) = H.size + j := fun j => by have := f1 (h.1.1 + j); rw [show h.1.1 + 1 + j = h.1.1 + j + 1 by omega]; omega
  refine ⟨hK, hA, ?_, ?_, ⟨by have := hS.1; omega, fun x h1 h2 => (o1 x (Nat.lt_of_lt_of_le h1 hS.1)).trans (hS.2.1 x h1 h2), hS.2.2⟩, hok, fun _ => ⟨fun k => ?_, by rw [hn]; omega⟩⟩
  · rw [hw]
    refine (hP.kept hk).app (fun k x hx => ?_)
    obtain ⟨h1, rfl⟩ := hj k x hx
    exact e1 k h1
  · rw [hw]
    refine hD.app ⟨fun i j p q hi hj2 hpq => ?_, fun k q hk => ?_⟩ (fun i j p q hi hj2 hpq => ?_)
    · obtain ⟨-, rfl⟩ := hj i p hi
      obtain ⟨-, rfl⟩ := hj j q hj2
      have : α (h.1.1 + 1 + i) = α (h.1.1 + 1 + j) := hpq
      rw [ha, ha] at this
      omega
    · obtain ⟨-, rfl⟩ := hj k q hk
      show A (α _)
      rw [ha]
      exact hA _ (by have := hS.1; omega)
    · obtain ⟨-, rfl⟩ := hj j q hj2
      have h1 := (hP i p hi).lt
      rw [hpq] at h1
      have h2 : α (h.1.1 + 1 + j) < H.size := h1
      rw [ha] at h2
      omega
  · have := f1 k
    rw [hn]
    omega
section CYS
variable {p : Program} {l : Launch} {e : Env} {R : Room} {s : State} {m : MethodId} {args : Array Value} {below : List Frame} {meth : Method} {c : Code} {H : Heap} {locs : List Loc} {cells slots : Nat} {Q : State → Prop}
theorem multi_outer (cA : ClassId) (z : Nat) : Jvm.Free.Multi.outerC cA 4 z 4 = arrV cA 4 (fun j => .ref (z + 1 + j)) := by
  show (((((Jvm.Free.Multi.outerC cA 4 z 0).setSlot 0 _).setSlot 1 _).setSlot 2 _).setSlot 3 _) = _
  rw [show Jvm.Free.Multi.outerC cA 4 z 0 = arrV cA 4 (fun _ => .null) from arrV_new cA 4 .null, arrV_store, arrV_store, arrV_store, arrV_store]
  unfold arrV
  congr 1
theorem w_multi {cc : ByteArray} (hexec : p.tables.exec = Jvm.exec) (hb : c.code = cc) {own : String} {index : Nat} (hown : s.vm.findClass own = some m.cls) (hclink : (Cond.classLink own index ("[" ++ (FieldType.array .int).toString)).before args s = true)
    (hover : (Cond.arrayOver (.array .int)).before args s = true) (harr : (Cond.arrayClass .int).before args s = true) {g : JFrame} (hg : g.method = m) (hdg : decode cc g.pc = .ok (.multianewarray index 2, 4)) {rest : List Value} (hstack : g.stack = .int (nI 258) :: .int (nI 4) :: rest) (hcells : cells + 5 ≤ R.cells) (hslots : slots + 1036 ≤ R.slots)
    (kk : ∀ (H1 : Heap) (cA comp : ClassId), s.vm.findClass ("[" ++ (FieldType.array .int).toString) = some cA → s.vm.findClass (FieldType.array .int).toString = some comp → H1.size = H.size + 5 → (∀ q, q < H.size → H1[q]? = H[q]?) → H1[H.size]? = some (arrV cA 4 (fun j => .ref (H.size + 1 + j))) → (∀ j, j < 4 → H1[H.size + 1 + j]? = some (arrV comp 258 (fun _ => .int 0))) →
      W p l e R s m args below meth c H1 locs (cells + 5) (slots + 1036) Q { g with pc := g.pc + 4, stack := .ref H.size :: rest }) : W p l e R s m args below meth c H locs cells slots Q g := by
  intro T hT X
  subst hT; subst hb
  have n4 : (nI 4).toNatClampNeg = 4 := nI_clamp (by omega)
  have n258 : (nI 258).toNatClampNeg = 258 := nI_clamp (by omega)
  obtain ⟨vm₁, cA, comp, -, hfA, hfC, -, -, X1, st⟩ := X.multianewarray2F (ty := .int) hexec hown hclink hover harr hg hdg hstack (nI_pos (by omega)) (nI_pos (by omega)) (by rw [n4]; omega) (by rw [n258]; simp only [componentBytes]; omega) (by rw [n258]; omega) rfl rfl (by rw [n4]; omega) (by rw [n4, n258]; omega)
  rw [n4, n258] at X1 st
  obtain ⟨f1, f2, -, -⟩ := Jvm.Free.Multi.fill_facts (T.setVm vm₁) cA comp 4 258 (defaultValue .int) 4
  have fo := fun (a : Addr) (ha : a < T.heap.size) => Jvm.Free.Multi.fill_old (T.setVm vm₁) cA comp 4 258 (defaultValue .int) (a := a) ha 4
  have fi := fun (j : Nat) (hj : j < 4) => Jvm.Free.Multi.fill_inner (T.setVm vm₁) cA comp 4 258 (defaultValue .int) 4 j hj
  obtain ⟨t, a1, b1⟩ := kk _ cA comp hfA hfC f1 fo (by rw [← multi_outer]; exact f2) (fun j hj => (fi j hj).trans (congrArg some (arrV_new comp 258 (.int 0)))) _ rfl (X1.more (by omega) (by omega))
  exact ⟨t, st t a1, b1⟩
end CYS
section CYN
variable {l : Launch} {rm : Room} {M : zx_M} {kc ks : Nat} {Z : zx_Zt} {pc : Nat} {L : List (Nat × Value)} {S : List Value} {h : zx_H}
theorem pm_old {N k : Nat} (hk : k < N) : (pm N h).1.2 k = h.1.2 k ∧ (pm N h).2.1 k = h.2.1 k ∧ (pm N h).2.2.1 k = h.2.2.1 k ∧ (pm N h).2.2.2 k = h.2.2.2 k := by
  have h0 : ¬ k = N := by omega
  have h1 : ¬ k = N + 1 := by omega
  have h2 : ¬ k = N + 2 := by omega
  have h3 : ¬ k = N + 3 := by omega
  have h4 : ¬ k = N + 4 := by omega
  refine ⟨?_, ?_, ?_, ?_⟩
  · simp [pm, pu, zx_upR, h0, h1, h2, h3, h4]
  · funext i
    simp [pm, pu, zx_upR, h0, h1, h2, h3, h4]
  · funext i
    simp [pm, pu, zx_upR, zx_u2, h0, h1, h2, h3, h4]
  · funext i
    simp [pm, pu, zx_upR, h0, h1, h2, h3, h4]
theorem pm_out {N : Nat} : (pm N h).1.2 N = (4, 4) ∧ ∀ j, j < 4 → (pm N h).2.2.1 N j = N + 1 + j := by
  refine ⟨by simp [pm, pu, zx_upR], fun j hj => ?_⟩
  have : j = 0 ∨ j = 1 ∨ j = 2 ∨ j = 3 := by omega
  rcases this with rfl | rfl | rfl | rfl <;> simp [pm, pu, zx_upR, zx_u2]
theorem pm_in {N j : Nat} (hj : j < 4) : (pm N h).1.2 (N + 1 + j) = (0, 258) ∧ ∀ i, (pm N h).2.1 (N + 1 + j) i = 0 := by
  have : j = 0 ∨ j = 1 ∨ j = 2 ∨ j = 3 := by omega
  rcases this with rfl | rfl | rfl | rfl <;> simp [pm, pu, zx_upR, Nat.add_assoc]
theorem pm_ok {N : Nat} (hN : h.1.1 + 1 = N) (hok : zx_ok h) : zx_ok (pm N h) := by
  subst hN
  have e : pm (h.1.1 + 1) h = zx_upR (zx_upR (zx_upR (zx_upR (zx_push (zx_push (zx_push (zx_push (zx_push h (4, 4)) (0, 258)) (0, 258)) (0, 258)) (0, 258)) (h.1.1 + 1) 0 (h.1.1 + 1 + 1)) (h.1.1 + 1) 1 (h.1.1 + 1 + 2)) (h.1.1 + 1) 2 (h.1.1 + 1 + 3)) (h.1.1 + 1) 3 (h.1.1 + 1 + 4) := rfl
  rw [e]
  exact zx_ok_push (zx_ok_push (zx_ok_push (zx_ok_push (zx_ok_push hok (by decide)) (by decide)) (by decide)) (by decide)) (by decide)
theorem cy_multi {idx N : Nat} (hN : h.1.1 + 1 = N) (w1 : Cond.classLink M.1.cls idx ("[" ++ (FieldType.array .int).toString) ∈ zx_T) (w2 : Cond.arrayClass .int ∈ zx_T) (h1 : kc + 5 ≤ rm.cells) (h2 : ks + 1036 ≤ rm.slots) (d : decode M.2.1 pc = .ok (.multianewarray idx 2, 4))
    (k : zx_X l rm M true (kc + 5) (ks + 1036) (zx_Za Z) (pc + 4) L (.ref N :: S) (pm N h)) : zx_X l rm M true kc ks (zx_Za Z) pc L (.int (nI 258) :: .int (nI 4) :: S) h := by
  intro D G α A p e s m args below meth c H locs ls C0 R hl T0 hT X
  by_cases hao : ao_ok s
  case neg => exact ⟨_, Steps.refl _, fun z => absurd z hao⟩
  have hsz : H.size = s.heap.size + kc := zx_size R (by rw [← hT]; exact X.heapSize) rfl
  have hts := C0.2.2.2.2.2.2.1
  have f1 := (R.2.2.2.2.2.2 rfl).1
  have ha : ∀ j, α (N + j) = H.size + j := fun j => by have := f1 (h.1.1 + j); rw [show N + j = h.1.1 + j + 1 by omega]; omega
  suffices hW : W p l e rm s m args below meth c H locs kc ks (zx_Za Z D G α A s args below) (F0 m pc ls ((.int (nI 258) :: .int (nI 4) :: S).map (zx_cv α))) from hW T0 hT X
  refine w_multi (rest := S.map (zx_cv α)) C0.1 C0.2.1 C0.2.2.2.2.2.1 (hts _ w1) (arrayOver_alikeB (Vm.Alike.refl _) hao.2) (hts _ w2) rfl d rfl h1 h2 (fun H1 cA comp hfA hfC z1 o1 eO eI => ?_)
  have hK2 := R.1.1.2
  have hgA : cA = G.2.2.2.2 := Option.some.inj (hfA.symm.trans (hK2 4 _ rfl).2)
  have hgC : comp = G.1 := Option.some.inj (hfC.symm.trans (hK2 0 _ rfl).2)
  subst hgA; subst hgC
  have hk := k D G α A p e s m args below meth c H1 locs ls C0 (zx_R_ext 5 R hsz (by show N + 4 = h.1.1 + 5; omega) (pm_ok hN R.2.2.2.2.2.1) (fun q hq => ?_) (fun j hj => ?_) z1 o1) hl
  · have : α N = H.size := ha 0
    rw [← this]
    exact hk
  · obtain ⟨a1, a2, a3, a4⟩ := pm_old (h := h) (N := N) (k := q) (by omega)
    unfold zx_enc
    rw [a1, a2, a3, a4]
  · rw [show h.1.1 + 1 + j = N + j by omega, ha]
    rcases j with _ | j
    · obtain ⟨b1, b2⟩ := pm_out (h := h) (N := N)
      rw [Nat.add_zero, Nat.add_zero, zx_enc_q4 (n := 4) b1]
      show H1[H.size]? = some (vp_cell _ _)
      rw [eO, vp_cell_q]
      congr 1
      unfold arrV
      congr 1
      apply Array.ext
      · simp
      · intro i i1 i2
        have hi : i < 4 := by simpa using i1
        simp only [Array.getElem_ofFn]
        rw [b2 i hi]
        have := ha (1 + i)
        rw [show N + (1 + i) = N + 1 + i by omega] at this
        unfold zx_opt
        rw [if_neg (by omega), this, show H.size + (1 + i) = H.size + 1 + i by omega]
        rfl
    · obtain ⟨b1, b2⟩ := pm_in (h := h) (N := N) (j := j) (by omega)
      rw [show N + (j + 1) = N + 1 + j by omega, zx_enc_int (n := 258) b1, show H.size + (j + 1) = H.size + 1 + j by omega]
      show H1[H.size + 1 + j]? = some (vp_cell _ _)
      rw [eI j (by omega), vp_cell_i]
      congr 2
      funext i
      rw [b2]
/-- rules with numbered cells -/
def zn (C : String) (ci : Nat) (T : u_T) (n : Nat) (ty : Nat → FieldType) : Prop := zx_cl[ci]? = some (C, T, n) ∧ (∀ w ∈ u_ws C T n, w ∈ zx_T) ∧ (∀ k, k < n → parseFieldDescriptor (T k).2.2.1 = some (ty k)) ∧ (zx_ft ci).length = n ∧ (∀ j, j < n → defaultValue (ty j) = if (zx_ft ci).getD j false = true then Value.null else .int 0) ∧ Cond.instantiable C n ∈ zx_T ∧ Cond.initialized C ∈ zx_T
theorem cy_new {idx ci n N : Nat} {C : String} {T : u_T} {ty : Nat → FieldType} (z : zn C ci T n ty) (hN : h.1.1 + 1 = N) (w1 : Cond.classLink M.1.cls idx C ∈ zx_T) (h1 : kc + 1 ≤ rm.cells) (h2 : ks + n ≤ rm.slots) (d : decode M.2.1 pc = .ok (.new idx, 3))
    (k : zx_X l rm M true (kc + 1) (ks + n) Z (pc + 3) L (.ref N :: S) (pu N h (ci + 5, 0))) : zx_X l rm M true kc ks Z pc L S h := by
  obtain ⟨a1, a2, a3, a4, a5, a6, a7⟩ := z
  refine zx_new ty a1 a2 a3 a4 a5 w1 a6 a7 h1 h2 d ?_
  rw [pu_eq hN, hN]
  exact k
theorem cy_newA {tag n N : Nat} {x : Int32} {at0 : ArrayType} (w : Cond.arrayClass (newarray.typeOf at0) ∈ zx_T) (hN : h.1.1 + 1 = N) (hx : x = nI n) (hn : n < 2 ^ 20) (htag : (at0 = .int ∧ tag = 0) ∨ (at0 = .boolean ∧ tag = 1) ∨ (at0 = .long ∧ tag = 2)) (h1 : kc + 1 ≤ rm.cells) (h2 : ks + n ≤ rm.slots) (d : decode M.2.1 pc = .ok (.newarray at0, 2))
    (k : zx_X l rm M true (kc + 1) (ks + n) Z (pc + 2) L (.ref N :: S) (pu N h (tag, n))) : zx_X l rm M true kc ks Z pc L (.int x :: S) h := by
  refine zx_newA w hx hn htag h1 h2 d ?_
  rw [pu_eq hN, hN]
  exact k
theorem cy_newQ {idx n N : Nat} {x : Int32} (w1 : Cond.classLink M.1.cls idx zx_CQ ∈ zx_T) (hN : h.1.1 + 1 = N) (hx : x = nI n) (hn : n < 2 ^ 20) (h1 : kc + 1 ≤ rm.cells) (h2 : ks + n ≤ rm.slots) (d : decode M.2.1 pc = .ok (.anewarray idx, 3))
    (k : zx_X l rm M true (kc + 1) (ks + n) (zx_Za Z) (pc + 3) L (.ref N :: S) (pu N h (3, n))) : zx_X l rm M true kc ks (zx_Za Z) pc L (.int x :: S) h := by
  refine zx_newQa w1 hx hn h1 h2 d ?_
  rw [pu_eq hN, hN]
  exact k
theorem cy_call {M2 : zx_M} {rm2 : Room} {b idx n : Nat} {As S2 : List Value} {h2 : zx_H} (hC : zx_CK l rm2 M2 (.ref b :: As) h (fun r h' => r = none ∧ h' = h2)) (lk : zx_lk M.1.cls idx M2 n ∧ Cond.instanceMethod M2.1 ∈ zx_T) (hret : M2.2.2.2 = none) (hnm : M2.1.name = "<init>") (hn : As.length = n) (hS : S = As.reverse ++ .ref b :: S2) (hW : (S2.map fun v => v.category).sum ≤ 8) (hrm : rm2.frames + 1 ≤ rm.frames ∧ 8 + (M2.2.2.1 + 11) + rm2.locals ≤ rm.locals) (hcs : kc + rm2.cells ≤ rm.cells ∧ ks + rm2.slots ≤ rm.slots) (d : decode M.2.1 pc = .ok (.invokespecial idx, 3))
    (k : zx_X l rm M true (kc + rm2.cells) (ks + rm2.slots) (zx_Za Z) (pc + 3) L S2 h2) : zx_X l rm M true kc ks (zx_Za Z) pc L S h := by
  refine zx_callK hC lk.1 lk.2 hret hnm hn hS hW hrm hcs d (fun r h' q => ?_)
  obtain ⟨rfl, rfl⟩ := q
  exact k
theorem cy_putF {fl : Bool} {o ci j idx v n : Nat} {C : String} {T : u_T} {ty : Nat → FieldType} (f : zx_fld M.1.cls idx ci j true true) (z : zn C ci T n ty) (hc : C = M.1.cls) (w : Cond.fieldLink M.1.cls idx C (T j).2.1 (T j).2.2.1 ∈ zx_T) (kd : ck h o (ci + 5)) (hci : ci < 90) (nz : v ≠ 0) (hin0 : M.1.name = "<init>") (d : decode M.2.1 pc = .ok (.putfield idx, 3))
    (k : zx_X l rm M fl kc ks Z (pc + 3) L S (zx_upR h o j v)) : zx_X l rm M fl kc ks Z pc L (.ref v :: .ref o :: S) h := by
  refine zx_putF f kd.1 hci nz hin0 (fun T2 C2 N2 e => ?_) d k
  cases z.1.symm.trans e
  exact ⟨hc, w⟩
theorem zx_toA {fl : Bool} (k : zx_X l rm M fl kc ks Z pc L S h) : zx_X l rm M fl kc ks (zx_Za Z) pc L S h := by
  intro D G α A p e s m args below meth c H locs ls C R hl T hT X
  obtain ⟨t, a, b⟩ := k D G α A p e s m args below meth c H locs ls C R hl T hT X
  exact ⟨t, a, fun _ => b⟩
end CYN
