/-! Calls. -/
abbrev zx_rm (d c s : Nat) : Room := { frames := d, cells := c, slots := s, locals := 40 * d }
theorem zx_size {D : va_G} {G : zx_G} {α : Nat → Nat} {A : Nat → Prop} {fl : Bool} {kc : Nat} {h : zx_H} {s : State} {H : Heap} {locs : List Loc} (R : zx_R D G α A fl kc h s H locs) (hu : H.size ≤ s.heap.size + kc) (hf : fl = true) : H.size = s.heap.size + kc := by
  obtain ⟨hK, hA, hP, hD, hS, hok, hfr⟩ := R
  obtain ⟨f1, f2⟩ := hfr hf
  by_cases hn : h.1.1 = 0
  · have := hS.1
    omega
  · have a := hP (h.1.1 - 1) _ (zx_wl_at (k := h.1.1) (by omega) (Nat.le_refl _))
    have b : α h.1.1 < H.size := a.lt
    have c := f1 (h.1.1 - 1)
    rw [Nat.sub_add_cancel (by omega)] at c
    omega
theorem zx_catsum (α : Nat → Nat) (S : List Value) : ((S.map (zx_cv α)).map fun v => v.category).sum = (S.map fun v => v.category).sum := by
  rw [List.map_map]
  congr 1
  exact List.map_congr_left (fun v _ => zx_cv_cat α v)
def zx_lk (own : String) (idx : Nat) (M2 : zx_M) (n : Nat) : Prop :=
  Cond.code M2.1 M2.2.1 M2.2.2.1 M2.2.2.2 ∈ zx_T ∧ Cond.initialized M2.1.cls ∈ zx_T ∧ (M2.1.cls ≠ "java/lang/invoke/MethodHandle" ∧ M2.1.cls ≠ "java/lang/invoke/VarHandle" ∧ (parseMethodDescriptor M2.1.desc).map (fun d => d.parameters.length) = some n) ∧ (Cond.methodLink own idx M2.1 ∈ zx_T ∨ ∃ host, Cond.methodLinkNest own idx M2.1 host ∈ zx_N)
theorem zx_good2 {M2 : zx_M} (h : Cond.code M2.1 M2.2.1 M2.2.2.1 M2.2.2.2 ∈ zx_T) : GoodIn zx_T (zx_ws M2) := by
  intro w hw
  rcases List.mem_cons.mp hw with rfl | hw
  · exact ⟨h, zx_Gd _ h⟩
  · exact ⟨hw, zx_Gd _ hw⟩
section ZC
variable {l : Launch} {rm : Room} {M : zx_M} {fl : Bool} {kc ks : Nat} {Z : zx_Zt} {pc : Nat} {L : List (Nat × Value)} {S : List Value} {h : zx_H}
variable {p : Program} {e : Env} {s : State} {m : MethodId} {args : Array Value} {below : List Frame} {meth : Method} {c : Code} {H : Heap} {locs : List Loc} {ls : Array Slot} {D : va_G} {G : zx_G} {α : Nat → Nat} {A : Nat → Prop}
theorem zx_after {Z2 : State → Prop} {st0 rest : List Value} {a : Array Value} {mc ms : Nat} {Q2 : Option Value → zx_H → Prop} (hr : va_Run p l e rm s m args below meth c H locs kc ks mc ms (F0 m pc ls st0) rest (zx_Qc D G α fl mc Q2 (va_A (zx_wl G α h) H.size) a) (va_A (zx_wl G α h) H.size)) (R : zx_R D G α A fl kc h s H locs) (hsz : fl = true → H.size = s.heap.size + kc)
    (kk : ∀ (r : Option Value) (h2 : zx_H) (H1 : Heap) (locs1 : List Loc), Q2 r h2 → zx_R D G α A fl (kc + mc) h2 s H1 locs1 → W p l e rm s m args below meth c H1 locs1 (kc + mc) (ks + ms) Z2 (F0 m (pc + 3) ls ((r.map (zx_cv α)).toList ++ rest))) : W p l e rm s m args below meth c H locs kc ks Z2 (F0 m pc ls st0) := by
  intro T hT X
  obtain ⟨v, st₀, t, T', Lx, h0, X', hL, e1, e2, ⟨⟨r, h2, hv, hq, hP1, hD1, hK1, hok1, hf1⟩, hz, hk⟩, st⟩ := hr T hT X
  cases hv
  rw [h0] at hz hk hf1
  obtain ⟨hK, hA, hP, hD, hS, hok, hfr⟩ := R
  have hFA : ∀ q, va_A (zx_wl G α h) H.size q → A q := by
    rintro q (⟨k, e0, hk⟩ | hk)
    · exact hD.2 k _ hk
    · exact hA q (Nat.le_trans hS.1 hk)
  obtain ⟨t2, a1, b1⟩ := kk r h2 T'.heap (locs ++ Lx) hq ⟨hK, hA, by rw [e1]; exact hP1, hD1.weaken (fun _ _ _ z => hFA _ z), ⟨Nat.le_trans hS.1 (by rw [e1]; exact hz), fun q h1 h2 => by rw [e1, hk q (Nat.lt_of_lt_of_le h1 hS.1) (fun z => h2 (hFA q z))]; exact hS.2.1 q h1 h2, fun q hq => by
      rcases List.mem_append.mp hq with h | h
      · exact hS.2.2 q h
      · exact hFA _ (hL q h)⟩, hok1, fun q => by
      obtain ⟨f1, f2⟩ := hfr q
      obtain ⟨g1, g2⟩ := hf1 q
      have z1 := f1 0
      have z2 := g1 0
      rw [hsz q] at g1 z2
      exact ⟨fun k => by have := g1 k; omega, by omega⟩⟩ T' rfl X'
  exact ⟨t2, st t2 a1, b1⟩
theorem zx_pre {M2 : zx_M} {As : List Value} (R : zx_R D G α A fl kc h s H locs) (hsz : fl = true → H.size = s.heap.size + kc) : PreS s H (va_Pc (As.map (zx_cv α)) (fun U => U.heap.size = H.size ∧ va_P D zx_cl (zx_wl G α h) U.heap ∧ zx_K D G U ∧ va_D (fun _ => True) (zx_wl G α h) ∧ zx_ok h ∧ (fl = true → zx_fr α H.size h))) (As.map (zx_cv α)) := by
  obtain ⟨hK, hA, hP, hD, hS, hok, hfr⟩ := R
  refine ⟨fun a U g mk q => ?_, fun U hU hW => ⟨rfl, by rw [hU], by rw [hU]; exact hP, zx_K.moved hW hK, hD.weaken (fun _ _ _ _ => trivial), hok, fun q => ?_⟩⟩
  · obtain ⟨q0, q1, qP, qK, qD, qo, qf⟩ := q
    exact ⟨q0, q1, qP, qK.call g mk a, qD, qo, qf⟩
  · rw [hsz q]
    exact (hfr q).1
end ZC
section ZD
variable {l : Launch} {rm : Room} {M : zx_M} {fl : Bool} {kc ks : Nat} {Z : zx_Zt} {pc : Nat} {L : List (Nat × Value)} {S : List Value} {h : zx_H}
theorem zx_callV {M2 : zx_M} {rm2 : Room} {b idx n ci N : Nat} {T0 : u_T} {As S2 : List Value} {Q2 : Option Value → zx_H → Prop} (hC : zx_C l rm2 M2 fl (.ref b :: As) h Q2) (lk : zx_lk M.1.cls idx M2 n) (li : Cond.instanceMethod M2.1 ∈ zx_T) (lse : Cond.selects M2.1.cls M2.1 M2.1 ∈ zx_T) (hn : As.length = n) (kd : (h.1.2 b).1 = ci + 5) (hci : ci < 90) (hcl : zx_cl[ci]? = some (M2.1.cls, T0, N)) (hS : S = As.reverse ++ .ref b :: S2) (hW : (S2.map fun v => v.category).sum ≤ 8) (hrm : rm2.frames + 1 ≤ rm.frames ∧ 8 + (M2.2.2.1 + 11) + rm2.locals ≤ rm.locals) (hcs : kc + rm2.cells ≤ rm.cells ∧ ks + rm2.slots ≤ rm.slots) (d : decode M.2.1 pc = .ok (.invokevirtual idx, 3))
    (k : ∀ r h2, Q2 r h2 → zx_X l rm M fl (kc + rm2.cells) (ks + rm2.slots) Z (pc + 3) L (r.toList ++ S2) h2) : zx_X l rm M fl kc ks Z pc L S h := by
  intro D G α A p e s m args below meth c H locs ls C R hl T hT X
  have hsz : fl = true → H.size = s.heap.size + kc := fun q => zx_size R (by rw [← hT]; exact X.heapSize) q
  obtain ⟨l1, l2, l3, l4⟩ := lk
  have hts := C.2.2.2.2.2.2.1
  have hpre := zx_pre (M2 := M2) (As := .ref b :: As) R hsz
  obtain ⟨o1, o2, -⟩ := R.2.2.2.2.2.1 b (by omega)
  have he : (zx_wl G α h)[b - 1]? = some (α b, .inr (ci, zx_fs (zx_ft ci) α (h.2.1 b) (h.2.2.1 b))) := by rw [zx_wl_at o1 o2, zx_enc_obj kd]
  have hrec := va_recv R.1.1 R.2.2.1 hcl he
  have hst : S.map (zx_cv α) = (As.map (zx_cv α)).reverse ++ .ref (α b) :: S2.map (zx_cv α) := by rw [hS]; simp [zx_cv]
  have hsig : ∀ sig, parseMethodDescriptor M2.1.desc = some sig → n = sig.parameters.length := fun sig hg => by
    have h2 := l3.2.2
    rw [hg] at h2
    exact (Option.some.inj h2).symm
  have hFix : CallFix p m c M.2.1 M.2.2.1 s args zx_T M.1.cls := ⟨C.1, C.2.1, C.2.2.1, C.2.2.2.2.2.1, hts⟩
  have hmem : Cond.code M2.1 M2.2.1 M2.2.2.1 M2.2.2.2 ∈ zx_ws M2 := List.mem_cons_self
  have hr : va_Run p l e rm s m args below meth c H locs kc ks rm2.cells rm2.slots (F0 m pc ls (S.map (zx_cv α))) (S2.map (zx_cv α)) (zx_Qc D G α fl rm2.cells Q2 (va_A (zx_wl G α h) H.size) (Value.ref (α b) :: As.map (zx_cv α)).toArray) (va_A (zx_wl G α h) H.size) := by
    rcases l4 with hl4 | ⟨host, hl4⟩
    · exact va_runV hFix (hC D G α H.size) ⟨⟨rfl, rfl, hrm.1, hrm.2, pay_in hts (zx_good2 l1), hmem, hts _ l1, hts _ l2, ⟨l3.1, l3.2.1⟩, hsig, hts _ hl4⟩, hts _ li, hts _ lse⟩ ⟨hpre.1, hrec, hpre.2⟩ rfl (by rw [List.length_map]; exact hn) hl.1 hst (lv_room (by rw [zx_catsum]; exact hW)) d hcs
    · exact va_runVN hFix (hC D G α H.size) ⟨⟨⟨rfl, rfl, hrm.1, hrm.2, pay_in hts (zx_good2 l1), hmem⟩, hts _ l1, hts _ l2, ⟨l3.1, l3.2.1⟩, hsig, va_Nw.use rfl (R.1.2 _ hl4)⟩, hts _ li, hts _ lse⟩ ⟨hpre.1, hrec, hpre.2⟩ rfl (by rw [List.length_map]; exact hn) hl.1 hst (lv_room (by rw [zx_catsum]; exact hW)) d hcs
  refine zx_after hr R hsz (fun r h2 H1 locs1 hq R1 => ?_) T hT X
  have := k r h2 hq D G α A p e s m args below meth c H1 locs1 ls C R1 hl
  rw [List.map_append] at this
  cases r <;> exact this
theorem zx_callS {M2 : zx_M} {rm2 : Room} {idx n : Nat} {As S2 : List Value} {Q2 : Option Value → zx_H → Prop} (hC : zx_C l rm2 M2 fl As h Q2) (lk : zx_lk M.1.cls idx M2 n) (li : Cond.static M2.1 ∈ zx_T) (hn : As.length = n) (hS : S = As.reverse ++ S2) (hW : (S2.map fun v => v.category).sum ≤ 8) (hrm : rm2.frames + 1 ≤ rm.frames ∧ 8 + (M2.2.2.1 + 11) + rm2.locals ≤ rm.locals) (hcs : kc + rm2.cells ≤ rm.cells ∧ ks + rm2.slots ≤ rm.slots) (d : decode M.2.1 pc = .ok (.invokestatic idx, 3))
    (k : ∀ r h2, Q2 r h2 → zx_X l rm M fl (kc + rm2.cells) (ks + rm2.slots) Z (pc + 3) L (r.toList ++ S2) h2) : zx_X l rm M fl kc ks Z pc L S h := by
  intro D G α A p e s m args below meth c H locs ls C R hl T hT X
  have hsz : fl = true → H.size = s.heap.size + kc := fun q => zx_size R (by rw [← hT]; exact X.heapSize) q
  obtain ⟨l1, l2, l3, l4⟩ := lk
  have hts := C.2.2.2.2.2.2.1
  have hpre := zx_pre (M2 := M2) (As := As) R hsz
  have hst : S.map (zx_cv α) = (As.map (zx_cv α)).reverse ++ S2.map (zx_cv α) := by rw [hS]; simp
  have hsig : ∀ sig, parseMethodDescriptor M2.1.desc = some sig → n = sig.parameters.length := fun sig hg => by
    have h2 := l3.2.2
    rw [hg] at h2
    exact (Option.some.inj h2).symm
  have hFix : CallFix p m c M.2.1 M.2.2.1 s args zx_T M.1.cls := ⟨C.1, C.2.1, C.2.2.1, C.2.2.2.2.2.1, hts⟩
  have hmem : Cond.code M2.1 M2.2.1 M2.2.2.1 M2.2.2.2 ∈ zx_ws M2 := List.mem_cons_self
  have hr : va_Run p l e rm s m args below meth c H locs kc ks rm2.cells rm2.slots (F0 m pc ls (S.map (zx_cv α))) (S2.map (zx_cv α)) (zx_Qc D G α fl rm2.cells Q2 (va_A (zx_wl G α h) H.size) (As.map (zx_cv α)).toArray) (va_A (zx_wl G α h) H.size) := by
    rcases l4 with hl4 | ⟨host, hl4⟩
    · exact va_runS hFix (hC D G α H.size) ⟨⟨rfl, rfl, hrm.1, hrm.2, pay_in hts (zx_good2 l1), hmem, hts _ l1, hts _ l2, ⟨l3.1, l3.2.1⟩, hsig, hts _ hl4⟩, hts _ li⟩ hpre rfl (by rw [List.length_map]; exact hn) hl.1 hst (lv_room (by rw [zx_catsum]; exact hW)) d hcs
    · exact va_runSN hFix (hC D G α H.size) ⟨⟨⟨rfl, rfl, hrm.1, hrm.2, pay_in hts (zx_good2 l1), hmem⟩, hts _ l1, hts _ l2, ⟨l3.1, l3.2.1⟩, hsig, va_Nw.use rfl (R.1.2 _ hl4)⟩, hts _ li, trivial⟩ hpre rfl (by rw [List.length_map]; exact hn) hl.1 hst (lv_room (by rw [zx_catsum]; exact hW)) d hcs
  refine zx_after hr R hsz (fun r h2 H1 locs1 hq R1 => ?_) T hT X
  have := k r h2 hq D G α A p e s m args below meth c H1 locs1 ls C R1 hl
  rw [List.map_append] at this
  cases r <;> exact this
theorem zx_callI {M2 : zx_M} {rm2 : Room} {b idx n : Nat} {As S2 : List Value} {Q2 : Option Value → zx_H → Prop} (hC : zx_C l rm2 M2 fl (.ref b :: As) h Q2) (lk : zx_lk M.1.cls idx M2 n) (li : Cond.instanceMethod M2.1 ∈ zx_T) (hret : M2.2.2.2 = none) (hnm : M2.1.name = "<init>") (hn : As.length = n) (hS : S = As.reverse ++ .ref b :: S2) (hW : (S2.map fun v => v.category).sum ≤ 8) (hrm : rm2.frames + 1 ≤ rm.frames ∧ 8 + (M2.2.2.1 + 11) + rm2.locals ≤ rm.locals) (hcs : kc + rm2.cells ≤ rm.cells ∧ ks + rm2.slots ≤ rm.slots) (d : decode M.2.1 pc = .ok (.invokespecial idx, 3))
    (k : ∀ r h2, Q2 r h2 → zx_X l rm M fl (kc + rm2.cells) (ks + rm2.slots) Z (pc + 3) L (r.toList ++ S2) h2) : zx_X l rm M fl kc ks Z pc L S h := by
  intro D G α A p e s m args below meth c H locs ls C R hl T hT X
  have hsz : fl = true → H.size = s.heap.size + kc := fun q => zx_size R (by rw [← hT]; exact X.heapSize) q
  obtain ⟨l1, l2, l3, l4⟩ := lk
  have hts := C.2.2.2.2.2.2.1
  have hpre := zx_pre (M2 := M2) (As := .ref b :: As) R hsz
  have hst : S.map (zx_cv α) = (As.map (zx_cv α)).reverse ++ .ref (α b) :: S2.map (zx_cv α) := by rw [hS]; simp [zx_cv]
  have hsig : ∀ sig, parseMethodDescriptor M2.1.desc = some sig → n = sig.parameters.length := fun sig hg => by
    have h2 := l3.2.2
    rw [hg] at h2
    exact (Option.some.inj h2).symm
  have hFix : CallFix p m c M.2.1 M.2.2.1 s args zx_T M.1.cls := ⟨C.1, C.2.1, C.2.2.1, C.2.2.2.2.2.1, hts⟩
  have hmem : Cond.code M2.1 M2.2.1 M2.2.2.1 none ∈ zx_ws M2 := by rw [← hret]; exact List.mem_cons_self
  have l1n : Cond.code M2.1 M2.2.1 M2.2.2.1 none ∈ zx_T := by rw [← hret]; exact l1
  have hr : va_Run p l e rm s m args below meth c H locs kc ks rm2.cells rm2.slots (F0 m pc ls (S.map (zx_cv α))) (S2.map (zx_cv α)) (zx_Qc D G α fl rm2.cells Q2 (va_A (zx_wl G α h) H.size) (Value.ref (α b) :: As.map (zx_cv α)).toArray) (va_A (zx_wl G α h) H.size) := by
    rcases l4 with hl4 | ⟨host, hl4⟩
    · exact va_runI hFix (hC D G α H.size) ⟨⟨rfl, rfl, hrm.1, hrm.2, pay_in hts (zx_good2 l1), hmem, hts _ l1n, hts _ l2, ⟨l3.1, l3.2.1⟩, hsig, hts _ hl4⟩, hnm, hts _ li⟩ hpre rfl (by rw [List.length_map]; exact hn) hl.1 hst (lv_room (by rw [zx_catsum]; exact hW)) d hcs
    · exact va_runIN hFix (hC D G α H.size) ⟨⟨⟨rfl, rfl, hrm.1, hrm.2, pay_in hts (zx_good2 l1), hmem⟩, hts _ l1n, hts _ l2, ⟨l3.1, l3.2.1⟩, hsig, va_Nw.use rfl (R.1.2 _ hl4)⟩, hnm, hts _ li⟩ hpre rfl (by rw [List.length_map]; exact hn) hl.1 hst (lv_room (by rw [zx_catsum]; exact hW)) d hcs
  refine zx_after hr R hsz (fun r h2 H1 locs1 hq R1 => ?_) T hT X
  have := k r h2 hq D G α A p e s m args below meth c H1 locs1 ls C R1 hl
  rw [List.map_append] at this
  cases r <;> exact this
/-- Object's constructor -/
theorem zx_objInit {idx o : Nat} (w1 : Cond.methodLink M.1.cls idx Lib.objectInit ∈ zx_T) (w2 : Cond.instanceMethod Lib.objectInit ∈ zx_T) (w3 : Cond.code Lib.objectInit ⟨#[0xb1]⟩ 1 none ∈ zx_T) (hr : 1 ≤ rm.frames) (hlo : (S.map fun v => v.category).sum + 12 ≤ rm.locals) (d : decode M.2.1 pc = .ok (.invokespecial idx, 3)) (k : zx_X l rm M fl kc ks Z (pc + 3) L S h) : zx_X l rm M fl kc ks Z pc L (.ref o :: S) h := by
  intro D G α A p e s m args below meth c H locs ls C R hl
  have hts := C.2.2.2.2.2.2.1
  exact W.objInit C.1 C.2.1 C.2.2.2.2.2.1 (hts _ w1) (hts _ w2) (hts _ w3) rfl (hl.1.trans C.2.2.1.symm) rfl d hr (by show 2 * 0 + _ + 12 ≤ _; rw [zx_catsum]; omega) (k D G α A p e s m args below meth c H locs ls C R hl)
end ZD
