/-! Constructors: their contracts, and what is known of a heap while it grows. -/
def ao_ok (U : State) : Prop := va_AO zx_CQ U ∧ (Cond.arrayOver (.array .int)).before #[] U = true
theorem ao_ok.moved {s U : State} (hv : s.vm.Alike U.vm) (h : ao_ok s) : ao_ok U := ⟨va_AO.moved hv h.1, arrayOver_alikeB hv h.2⟩
def zx_Za (Z : zx_Zt) : zx_Zt := fun D G α A s args below t => ao_ok s → Z D G α A s args below t
def ck_Pc (D : va_G) (G : zx_G) (α : Nat → Nat) (sz : Nat) (As : List Value) (h : zx_H) : Array Value → State → Prop := va_Pc (As.map (zx_cv α)) (fun U => U.heap.size = sz ∧ va_P D zx_cl (zx_wl G α h) U.heap ∧ zx_K D G U ∧ va_D (fun _ => True) (zx_wl G α h) ∧ zx_ok h ∧ zx_fr α sz h ∧ ao_ok U)
def zx_CK (l : Launch) (rm : Room) (M : zx_M) (As : List Value) (h : zx_H) (Q : Option Value → zx_H → Prop) : Prop :=
  ∀ (D : va_G) (G : zx_G) (α : Nat → Nat) (sz : Nat), Met l M.1 (zx_ws M) rm (ck_Pc D G α sz As h) (zx_Qc D G α true rm.cells Q (va_A (zx_wl G α h) sz)) rm.cells rm.slots (va_A (zx_wl G α h) sz)
set_option maxRecDepth 20000 in
theorem zx_CK.of {l : Launch} {rm : Room} {M : zx_M} {As : List Value} {h : zx_H} {Q : Option Value → zx_H → Prop} (hy : plainName M.1.cls = true) (hn : ∀ α : Nat → Nat, (lg_sl (As.map (zx_cv α))).length ≤ M.2.2.1)
    (k : zx_X l rm M true 0 0 (zx_Za (zx_Zr true rm Q)) 0 (lv_args 0 As) [] h) : zx_CK l rm M As h Q := by
  intro D G α sz
  refine Met.ofW (cc := M.2.1) (maxL := M.2.2.1) (ret := M.2.2.2) hy rfl ?_
  intro p e s m args below meth c s₁ B hml hv
  obtain ⟨rfl, hsz, hP, hK, hD0, hok, hfr, hao⟩ := hv
  subst hsz
  have hD := hD0.self (sz := s.heap.size)
  have hl := lv_entry (As.map (zx_cv α)) (n := M.2.2.1) (hn α)
  rw [lg_entry_eq]
  have hts := atoms_spec (ws := zx_ws M) B.pre
  rw [zx_args_map] at hl
  intro T hT X
  obtain ⟨t, a1, b1⟩ := k D G α _ p e s m _ below meth c s.heap [] _ ⟨B.exec, B.bytes, hml, B.returns, B.notSynchronized, findClass_of_methodNamed B.named, fun w hw => hts w (List.mem_cons_of_mem _ hw), fun q => (name_of_methodNamed B.named B.method).1.trans q⟩
    ⟨hK, fun q hq => Or.inr hq, hP, hD, va_S.rf, hok, fun q => ⟨hfr, Nat.zero_le _⟩⟩ hl T hT X
  exact ⟨t, a1, b1 hao⟩
section CKS
variable {l : Launch} {rm : Room} {M : zx_M} {kc ks : Nat} {Z : zx_Zt} {pc : Nat} {L : List (Nat × Value)} {S : List Value} {h : zx_H}
theorem zx_callK {M2 : zx_M} {rm2 : Room} {b idx n : Nat} {As S2 : List Value} {Q2 : Option Value → zx_H → Prop} (hC : zx_CK l rm2 M2 (.ref b :: As) h Q2) (lk : zx_lk M.1.cls idx M2 n) (li : Cond.instanceMethod M2.1 ∈ zx_T) (hret : M2.2.2.2 = none) (hnm : M2.1.name = "<init>") (hn : As.length = n) (hS : S = As.reverse ++ .ref b :: S2) (hW : (S2.map fun v => v.category).sum ≤ 8) (hrm : rm2.frames + 1 ≤ rm.frames ∧ 8 + (M2.2.2.1 + 11) + rm2.locals ≤ rm.locals) (hcs : kc + rm2.cells ≤ rm.cells ∧ ks + rm2.slots ≤ rm.slots) (d : decode M.2.1 pc = .ok (.invokespecial idx, 3))
    (k : ∀ r h2, Q2 r h2 → zx_X l rm M true (kc + rm2.cells) (ks + rm2.slots) (zx_Za Z) (pc + 3) L (r.toList ++ S2) h2) : zx_X l rm M true kc ks (zx_Za Z) pc L S h := by
  intro D G α A p e s m args below meth c H locs ls C R hl T hT X
  by_cases hao : ao_ok s
  case neg => exact ⟨_, Steps.refl _, fun z => absurd z hao⟩
  have hsz : true = true → H.size = s.heap.size + kc := fun q => zx_size R (by rw [← hT]; exact X.heapSize) q
  obtain ⟨l1, l2, l3, l4⟩ := lk
  have hts := C.2.2.2.2.2.2.1
  have hpre : PreS s H (ck_Pc D G α H.size (.ref b :: As) h) ((Value.ref b :: As).map (zx_cv α)) := by
    obtain ⟨hK, hA, hP, hD, hS, hok, hfr⟩ := R
    refine ⟨fun a U g mk q => ?_, fun U hU hW => ⟨rfl, by rw [hU], by rw [hU]; exact hP, zx_K.moved hW hK, hD.weaken (fun _ _ _ _ => trivial), hok, ?_, hao.moved hW.alike⟩⟩
    · obtain ⟨q0, q1, qP, qK, qD, qo, qf, qa⟩ := q
      exact ⟨q0, q1, qP, qK.call g mk a, qD, qo, qf, qa.moved (Vm.Alike.refl U.vm)⟩
    · rw [hsz rfl]
      exact (hfr rfl).1
  have hst : S.map (zx_cv α) = (As.map (zx_cv α)).reverse ++ .ref (α b) :: S2.map (zx_cv α) := by rw [hS]; simp [zx_cv]
  have hsig : ∀ sig, parseMethodDescriptor M2.1.desc = some sig → n = sig.parameters.length := fun sig hg => by
    have h2 := l3.2.2
    rw [hg] at h2
    exact (Option.some.inj h2).symm
  have hFix : CallFix p m c M.2.1 M.2.2.1 s args zx_T M.1.cls := ⟨C.1, C.2.1, C.2.2.1, C.2.2.2.2.2.1, hts⟩
  have hmem : Cond.code M2.1 M2.2.1 M2.2.2.1 none ∈ zx_ws M2 := by rw [← hret]; exact List.mem_cons_self
  have l1n : Cond.code M2.1 M2.2.1 M2.2.2.1 none ∈ zx_T := by rw [← hret]; exact l1
  have hr : va_Run p l e rm s m args below meth c H locs kc ks rm2.cells rm2.slots (F0 m pc ls (S.map (zx_cv α))) (S2.map (zx_cv α)) (zx_Qc D G α true rm2.cells Q2 (va_A (zx_wl G α h) H.size) (Value.ref (α b) :: As.map (zx_cv α)).toArray) (va_A (zx_wl G α h) H.size) := by
    rcases l4 with hl4 | ⟨host, hl4⟩
    · exact va_runI hFix (hC D G α H.size) ⟨⟨rfl, rfl, hrm.1, hrm.2, pay_in hts (zx_good2 l1), hmem, hts _ l1n, hts _ l2, ⟨l3.1, l3.2.1⟩, hsig, hts _ hl4⟩, hnm, hts _ li⟩ hpre rfl (by rw [List.length_map]; exact hn) hl.1 hst (lv_room (by rw [zx_catsum]; exact hW)) d hcs
    · exact va_runIN hFix (hC D G α H.size) ⟨⟨⟨rfl, rfl, hrm.1, hrm.2, pay_in hts (zx_good2 l1), hmem⟩, hts _ l1n, hts _ l2, ⟨l3.1, l3.2.1⟩, hsig, va_Nw.use rfl (R.1.2 _ hl4)⟩, hnm, hts _ li⟩ hpre rfl (by rw [List.length_map]; exact hn) hl.1 hst (lv_room (by rw [zx_catsum]; exact hW)) d hcs
  refine zx_after hr R hsz (fun r h2 H1 locs1 hq R1 => ?_) T hT X
  have := k r h2 hq D G α A p e s m args below meth c H1 locs1 ls C R1 hl
  rw [List.map_append] at this
  cases r <;> exact this
set_option maxHeartbeats 400000 in
theorem zx_newQa {idx n : Nat} {x : Int32} (w1 : Cond.classLink M.1.cls idx zx_CQ ∈ zx_T) (hx : x = nI n) (hn : n < 2 ^ 20) (h1 : kc + 1 ≤ rm.cells) (h2 : ks + n ≤ rm.slots) (d : decode M.2.1 pc = .ok (.anewarray idx, 3))
    (k : zx_X l rm M true (kc + 1) (ks + n) (zx_Za Z) (pc + 3) L (.ref (h.1.1 + 1) :: S) (zx_push h (3, n))) : zx_X l rm M true kc ks (zx_Za Z) pc L (.int x :: S) h := by
  intro D G α A p e s m args below meth c H locs ls C0 R hl T0 hT X
  by_cases hao : ao_ok s
  case neg => exact ⟨_, Steps.refl _, fun z => absurd z hao⟩
  have hsz : H.size = s.heap.size + kc := zx_size R (by rw [← hT]; exact X.heapSize) rfl
  have hts := C0.2.2.2.2.2.2.1
  have f1 := (R.2.2.2.2.2.2 rfl).1
  have ha : α (h.1.1 + 1) = H.size := by have := f1 h.1.1; omega
  subst hx
  have hcl : (nI n).toNatClampNeg = n := nI_clamp (by omega)
  suffices hW : W p l e rm s m args below meth c H locs kc ks (zx_Za Z D G α A s args below) (F0 m pc ls ((.int (nI n) :: S).map (zx_cv α))) from hW T0 hT X
  refine W.anew (n := nI n) (rest := S.map (zx_cv α)) C0.1 C0.2.1 C0.2.2.2.2.2.1 (hts _ w1) (va_AO.use hao.1) rfl d rfl (nI_pos (by omega)) (by rw [hcl]; omega) h1 (by rw [hcl]; exact h2) (fun cA kA comp g1 g2 g3 g4 => ?_)
  rw [hcl]
  have hk := k D G α A p e s m args below meth c (H.push { cls := cA, slots := Array.replicate n .null, vm := .none }) locs ls C0 (zx_R_push R hsz (show n < 2 ^ 31 by omega) ?_ (by simp) (fun q hq => by rw [Array.getElem?_push, if_neg (Nat.ne_of_lt hq)])) hl
  · rw [← ha]
    exact hk
  · rw [ha, zx_enc_q3 (n := n) (by simp [zx_push])]
    have hK2 := R.1.1.2 3 _ rfl
    obtain ⟨kA2, comp2, q1, q2, q3, q4⟩ := hK2.2
    have hg : cA = G.2.2.2.1 := Option.some.inj (g1.symm.trans q4)
    subst hg
    show (H.push _)[H.size]? = some (vp_cell _ _)
    rw [Array.getElem?_push_size, arrV_new, vp_cell_q]
    simp [zx_push, zx_opt, va_rf]
end CKS
