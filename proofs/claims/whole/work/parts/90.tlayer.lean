/-! The calls of part 89, in the layer. -/
section TL
variable {l : Launch} {rm : Room} {M : zx_M} {kc ks : Nat} {Z : zx_Zt} {pc : Nat} {L : List (Nat × Value)} {S : List Value} {h : zx_H}
def th_ast (M : zx_M) (hp n : Nat) : Prop := (∃ i : Fin 4, decode M.2.1 hp = .ok (.astore_n i, 1) ∧ (i : Nat) < M.2.2.1 ∧ n = 1) ∨ ∃ i : Nat, decode M.2.1 hp = .ok (.astore i, 2) ∧ i < M.2.2.1 ∧ n = 2
theorem zx_callT {M2 : zx_M} {rm2 : Room} {b idx n ci N hp na : Nat} {T0 : u_T} {As S2 : List Value} {cls : String} {Q2 : zx_H → Prop} {hh : List (Nat × Nat × Nat × Nat)} (hC : zx_CT l rm2 M2 (.ref b :: As) h cls Q2) (lk : zx_lk M.1.cls idx M2 n) (lk2 : Cond.methodLink M.1.cls idx M2.1 ∈ zx_T) (li : Cond.instanceMethod M2.1 ∈ zx_T) (lse : Cond.selects M2.1.cls M2.1 M2.1 ∈ zx_T) (hn : As.length = n) (kd : (h.1.2 b).1 = ci + 5) (hci : ci < 90) (hcl : zx_cl[ci]? = some (M2.1.cls, T0, N)) (hS : S = As.reverse ++ .ref b :: S2) (hW : (S2.map fun v => v.category).sum ≤ 8) (hrm : rm2.frames + 1 ≤ rm.frames ∧ 8 + (M2.2.2.1 + 11) + rm2.locals ≤ rm.locals) (hcs : kc + rm2.cells ≤ rm.cells ∧ ks + rm2.slots ≤ rm.slots) (d : decode M.2.1 pc = .ok (.invokevirtual idx, 3)) (hpk : th_pick M.1.cls hh pc cls hp) (ha : th_ast M hp na)
    (k : ∀ h2, Q2 h2 → zx_X l rm M false (kc + rm2.cells) (ks + rm2.slots) (zx_Zc (some hh) Z) (hp + na) [] [] h2) : zx_X l rm M false kc ks (zx_Zc (some hh) Z) pc L S h := by
  intro D G α A p e s m args below meth c H locs ls C R hl T hT X
  by_cases hcd : th_cd (some hh) A s args below
  case neg => exact ⟨_, Steps.refl _, fun z => absurd z hcd⟩
  obtain ⟨l1, l2, l3, -⟩ := lk
  have hts := C.2.2.2.2.2.2.1
  obtain ⟨hK, hA, hP, hD, hS3, hok, -⟩ := R
  have hown := C.2.2.2.2.2.1
  obtain ⟨o1, o2, -⟩ := hok b (by omega)
  have he : (zx_wl G α h)[b - 1]? = some (α b, .inr (ci, zx_fs (zx_ft ci) α (h.2.1 b) (h.2.2.1 b))) := by rw [zx_wl_at o1 o2, zx_enc_obj kd]
  obtain ⟨cellB, hcB, hoB, hclB⟩ := va_recv hK.1 hP hcl he
  have hst : S.map (zx_cv α) = (As.map (zx_cv α)).reverse ++ .ref (α b) :: S2.map (zx_cv α) := by rw [hS]; simp [zx_cv]
  have hsig : ∀ sig, parseMethodDescriptor M2.1.desc = some sig → n = sig.parameters.length := fun sig hg => by
    have h2 := l3.2.2
    rw [hg] at h2
    exact (Option.some.inj h2).symm
  have hstat : ∀ (q : Nat) (cell : Cell), s.heap[q]? = some cell → cell.vm.isStatics = true → H[q]? = some cell := fun q cell h1 h2 => by
    rw [hS3.2.1 q (Array.getElem?_eq_some_iff.mp h1).1 (fun z => by rw [hcd.1 q z cell h1] at h2; cases h2)]
    exact h1
  have hpay := pay_in hts (zx_good2 l1)
  have hK9 : BackT l rm p e below s args M2.1 3 8 (th_PreT rm rm2.cells rm2.slots (th_Pc D G α H.size (.ref b :: As) h)) (th_PostT (th_Q D G α cls Q2 (va_A (zx_wl G α h) H.size)) rm2.cells rm2.slots (va_A (zx_wl G α h) H.size)) := by
    refine BackT.of_free (S := headSpec (zx_ws M2) rm2) (P := th_Pc D G α H.size (.ref b :: As) h) (K := fun _ _ _ _ _ => True) (bytes := M2.2.1) (maxL := M2.2.2.1) (ret := M2.2.2.2)
      (E := fun a st o t L k n => k = rm2.cells ∧ n = rm2.slots ∧ ∀ q ∈ L, va_A (zx_wl G α h) H.size q.base) (hC D G α H.size) hrm.1 hrm.2 ?_ ?_ (fun _ _ _ _ _ _ _ _ _ => trivial) ?_ ?_
    · intro m meth c A a X hp
      exact ⟨atoms_intro fun w hw => hpay w hw _ _ X.warmed, hpay _ List.mem_cons_self _ _ X.warmed, word_at X.warmed (zx_Gd _ l2) (hts _ l2), hp.1, hp.2.1⟩
    · intro m meth c A a g mk X hp
      exact th_blind _ _ _ _ hp.2.2
    · rintro a st o t ⟨hq, L, hF, hL⟩
      exact ⟨L, _, _, hF, rfl, rfl, hL⟩
    · rintro m meth c A a g mk v t L k n X hp hq hF ⟨e1, e2, hL⟩
      subst e1; subst e2
      exact ⟨g, mk, t, L, rfl, hq.1, rfl, hL, rfl, rfl⟩
  obtain ⟨x, vm1, ⟨U2, locs2, c2, n2⟩, hW1, X2, ⟨g2, mk, t, L2, z1, z2, z3, z4, z5, z6⟩, hsteps⟩ := th_callV X C.1 (C := M2.1.cls) (bytes := M2.2.1) (maxL := M2.2.2.1) (ret := M2.2.2.2) hown (hts _ lk2) (hts _ li) (hts _ lse) (hts _ l1) ⟨l3.1, l3.2.1⟩ hK9 (b := α b) (by rw [hT]; exact hcB) hoB hclB
    (g := F0 m pc ls (S.map (zx_cv α))) rfl (hl.1.trans C.2.2.1.symm) (argsL := As.map (zx_cv α)) (rest := S2.map (zx_cv α)) (fun sig hg => by rw [List.length_map]; exact hn.trans (hsig sig hg)) hst (lv_room (by rw [zx_catsum]; exact hW)) (by rw [C.2.1]; exact d)
    (fun vm1 hW1 => ⟨hcs.1, hcs.2, rfl, by show (T.setVm vm1).heap.size = H.size; rw [← hT]; rfl, by show va_P D zx_cl (zx_wl G α h) T.heap; rw [hT]; exact hP, zx_K.moved hW1 hK, hD.weaken (fun _ _ _ _ => trivial), hok, hcd.2.1.moved hW1 (fun q cell h1 h2 => by show T.heap[q]? = some cell; rw [hT]; exact hstat q cell h1 h2)⟩)
  dsimp only [Pt.U, Pt.locs, Pt.cells, Pt.slots] at X2 z1 z3 z5 z6 hsteps
  subst z3; subst z5; subst z6
  obtain ⟨⟨x', ce, h2, y1, y2, y3, y4, y5, y6, y7, y8⟩, y9⟩ := z2
  cases y1
  have hce : U2.heap[x]? = some ce := by rw [z1]; exact y2
  have y4 : vm1.findClass cls = some ce.cls := y4
  rw [hW1.alike.findClass] at y4
  have hN : ∀ w ∈ zx_N, w.before args s = true := fun w hw => va_Nw.use (zx_N_tab (List.mem_filter.mp hw).2) (hK.2 w hw)
  obtain ⟨pre, row, rest, r1, r2, r3, r4, r5, r6⟩ := th_rows X hpk hown (hcd.2.2 hh rfl m meth c X.frames X.method X.code) hts hN hcd.2.1.2.1 y4
  obtain ⟨vm2, X3, st3⟩ := X2.thenCaughtThrough x (g := { (F0 m pc ls (S.map (zx_cv α))) with stack := S2.map (zx_cv α) }) rfl hsteps hce y3 r5 pre row rest r1 r2 r3 r4
  have hFA : ∀ q, va_A (zx_wl G α h) H.size q → A q := by
    rintro q (⟨k, e0, hk⟩ | hk)
    · exact hD.2 k _ hk
    · exact hA q (Nat.le_trans hS3.1 hk)
  have hst0 : ((T.setVm vm1).calling g2 mk (Value.ref (α b) :: As.map (zx_cv α)).toArray).heap = H := hT
  obtain ⟨f1, f2⟩ := y9
  rw [hst0] at f1 f2
  have R2 : zx_R D G α A false (kc + rm2.cells) h2 s t.heap (locs ++ L2) := ⟨hK, hA, y6, y7.weaken (fun _ _ _ z => hFA _ z), ⟨Nat.le_trans hS3.1 f1, fun q h1 h3 => by rw [f2 q (Nat.lt_of_lt_of_le h1 hS3.1) (fun z => h3 (hFA q z))]; exact hS3.2.1 q h1 h3, fun q hq => by
      rcases List.mem_append.mp hq with h | h
      · exact hS3.2.2 q h
      · exact hFA _ (z4 q h)⟩, y8, fun q => absurd q (by decide)⟩
  have hl0 : lv_has ls M.2.2.1 (zx_lm α []) := zx_has_sub hl (fun q hq => absurd hq List.not_mem_nil)
  have WW : W p l e rm s m args below meth c t.heap (locs ++ L2) (kc + rm2.cells) (ks + rm2.slots) (zx_Zc (some hh) Z D G α A s args below) (F0 m hp ls [.ref x]) := by
    rcases ha with ⟨i, d1, d2, rfl⟩ | ⟨i, d1, d2, rfl⟩
    · exact lv_astore_n C.1 C.2.1 d1 rfl hl0 d2 rfl (fun ls2 h3 => k h2 y5 D G α A p e s m args below meth c t.heap _ ls2 C R2 (zx_has_sub h3 (fun q hq => absurd hq List.not_mem_nil)))
    · exact lv_astore C.1 C.2.1 d1 hl0 d2 rfl (fun ls2 h3 => k h2 y5 D G α A p e s m args below meth c t.heap _ ls2 C R2 (zx_has_sub h3 (fun q hq => absurd hq List.not_mem_nil)))
  obtain ⟨t9, a1, b1⟩ := WW (U2.setVm vm2) z1 X3
  rw [← r6] at a1
  exact ⟨t9, st3.trans a1, b1⟩
theorem zx_callSW {M2 : zx_M} {rm2 : Room} {idx n : Nat} {As S2 : List Value} {Q2 : Option Value → zx_H → Prop} {hh : List (Nat × Nat × Nat × Nat)} {ho : Option (List (Nat × Nat × Nat × Nat))} (hC : zx_CW l rm2 M2 hh As h Q2) (l1 : Cond.codeWith M2.1 M2.2.1 M2.2.2.1 M2.2.2.2 hh ∈ zx_T) (l2 : Cond.initialized M2.1.cls ∈ zx_T) (l3 : M2.1.cls ≠ "java/lang/invoke/MethodHandle" ∧ M2.1.cls ≠ "java/lang/invoke/VarHandle" ∧ (parseMethodDescriptor M2.1.desc).map (fun d => d.parameters.length) = some n) (l4 : Cond.methodLink M.1.cls idx M2.1 ∈ zx_T) (li : Cond.static M2.1 ∈ zx_T) (hn : As.length = n) (hS : S = As.reverse ++ S2) (hW : (S2.map fun v => v.category).sum ≤ 8) (hrm : rm2.frames + 1 ≤ rm.frames ∧ 8 + (M2.2.2.1 + 11) + rm2.locals ≤ rm.locals) (hcs : kc + rm2.cells ≤ rm.cells ∧ ks + rm2.slots ≤ rm.slots) (d : decode M.2.1 pc = .ok (.invokestatic idx, 3))
    (k : ∀ r h2, Q2 r h2 → zx_X l rm M false (kc + rm2.cells) (ks + rm2.slots) (zx_Zc ho Z) (pc + 3) L (r.toList ++ S2) h2) : zx_X l rm M false kc ks (zx_Zc ho Z) pc L S h := by
  intro D G α A p e s m args below meth c H locs ls C R hl T hT X
  by_cases hcd : th_cd ho A s args below
  case neg => exact ⟨_, Steps.refl _, fun z => absurd z hcd⟩
  have hts := C.2.2.2.2.2.2.1
  have R0 := R
  obtain ⟨hK, hA, hP, hD, hS3, hok, -⟩ := R
  have hown := C.2.2.2.2.2.1
  have hst : S.map (zx_cv α) = (As.map (zx_cv α)).reverse ++ S2.map (zx_cv α) := by rw [hS]; simp
  have hsig : ∀ sig, parseMethodDescriptor M2.1.desc = some sig → n = sig.parameters.length := fun sig hg => by
    have h2 := l3.2.2
    rw [hg] at h2
    exact (Option.some.inj h2).symm
  have hstat : ∀ (q : Nat) (cell : Cell), s.heap[q]? = some cell → cell.vm.isStatics = true → H[q]? = some cell := fun q cell h1 h2 => by
    rw [hS3.2.1 q (Array.getElem?_eq_some_iff.mp h1).1 (fun z => by rw [hcd.1 q z cell h1] at h2; cases h2)]
    exact h1
  have hgd : GoodIn zx_T (zx_wsW M2 hh) := by
    intro w hw
    rcases List.mem_cons.mp hw with rfl | hw
    · exact ⟨l1, zx_Gd _ l1⟩
    · exact ⟨hw, zx_Gd _ hw⟩
  have hr : va_Run p l e rm s m args below meth c H locs kc ks rm2.cells rm2.slots (F0 m pc ls (S.map (zx_cv α))) (S2.map (zx_cv α)) (zx_Qc D G α false rm2.cells Q2 (va_A (zx_wl G α h) H.size) (As.map (zx_cv α)).toArray) (va_A (zx_wl G α h) H.size) := by
    intro T hT X
    have hK9 : Back l rm p e below s args M2.1 3 8 (PreOf rm rm2.cells rm2.slots (th_Pc D G α H.size As h)) (PostOf (zx_Qc D G α false rm2.cells Q2 (va_A (zx_wl G α h) H.size)) rm2.cells rm2.slots (va_A (zx_wl G α h) H.size)) := va_backW (hh := hh) (bytes := M2.2.1) (maxL := M2.2.2.1) (ret := M2.2.2.2) (hC D G α H.size) th_blind rfl rfl hrm.1 hrm.2 (pay_in hts hgd) List.mem_cons_self (fun a' U hW => word_at hW (zx_Gd _ l2) (hts _ l2))
    obtain ⟨v, vm1, ⟨U2, locs2, c2, n2⟩, hW1, X2, ⟨g2, mk, t, L2, e1, e2, hq, h1, hL, h2, h3⟩, st⟩ := th_callS X C.1 (bytes := M2.2.1) (maxL := M2.2.2.1) (ret := M2.2.2.2) (hh := hh) hown (hts _ l4) (hts _ li) (hts _ l2) (hts _ l1) ⟨l3.1, l3.2.1⟩ hK9
      (g := F0 m pc ls (S.map (zx_cv α))) rfl (hl.1.trans C.2.2.1.symm) (argsL := As.map (zx_cv α)) (rest := S2.map (zx_cv α)) (fun sig hg => by rw [List.length_map]; exact hn.trans (hsig sig hg)) hst (lv_room (by rw [zx_catsum]; exact hW)) (by rw [C.2.1]; exact d)
      (fun vm1 hW1 => ⟨hcs.1, hcs.2, rfl, by show (T.setVm vm1).heap.size = H.size; rw [← hT]; rfl, by show va_P D zx_cl (zx_wl G α h) T.heap; rw [hT]; exact hP, zx_K.moved hW1 hK, hD.weaken (fun _ _ _ _ => trivial), hok, hcd.2.1.moved hW1 (fun q cell h1 h2 => by show T.heap[q]? = some cell; rw [hT]; exact hstat q cell h1 h2)⟩)
    dsimp only [Pt.U, Pt.locs, Pt.cells, Pt.slots] at X2 e1 e2 h1 h2 h3 st
    subst h1; subst h2; subst h3
    exact ⟨v, (T.setVm vm1).calling g2 mk (As.map (zx_cv α)).toArray, t, U2, L2, hT, X2, hL, e1, e2, hq, st⟩
  refine zx_after hr R0 (fun q => absurd q (by decide)) (fun r h2 H1 locs1 hq R1 => ?_) T hT X
  have := k r h2 hq D G α A p e s m args below meth c H1 locs1 ls C R1 hl
  rw [List.map_append] at this
  cases r <;> exact this
end TL
