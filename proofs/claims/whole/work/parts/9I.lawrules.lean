/-! The law: its end, its script, its calls. -/
def R_law : String := "SortedBlocksLaw"
def lw_P (b : Addr) (xs : List Int32) (args : Array Value) (s : State) : Prop := args = #[.ref b] ∧ s.IntsAt b xs ∧ xs.length ≤ 2048 ∧ (Jvm.Cond.and given_1 narrow_1).before args s = true
def lw_Q (_ : Array Value) (s : State) (o : Outcome) (t : State) : Prop := o = .returned (some (.int 1)) ∧ Framed s o t [] 601024 7293034
def lw_Z (below : List Frame) (a : Array Value) (s : State) : State → Prop := fun t => ∃ o, t.status = .running ∧ Ended t below o ∧ lw_Q a s o t
/-- the law's own end, with 1 on the stack, nothing written that was there before, its room as the claim has it -/
theorem lw_ret {p : Program} {l : Launch} {e : Env} {s : State} {m : MethodId} {below : List Frame} {meth : Method} {c : Code} {b : Nat} (hx : p.tables.exec = Jvm.exec) (hb : c.code = code) (hr : meth.sig.returnType = ret) (hlocks : meth.locks = false) {pc : Nat} {H : Heap} {ls : Array Slot} (hdg : decode code pc = .ok (.ireturn, 1)) : W p l e room_1 s m #[Value.ref b] below meth c H [] 601024 7293034 (lw_Z below #[Value.ref b] s) (F0 m pc ls [.int 1]) := by
  intro T hT X
  obtain ⟨fs, hret, hrun, hended, hW, hframe⟩ := X.leave (v := some (.int 1)) (hlocks := hlocks) (fun h => by rw [hr] at h; cases h)
  have hmeth' : T.vm.method? m = some meth := X.method'
  refine ⟨T.setFrames fs, ?_, .returned (some (.int 1)), hrun, hended, rfl, ⟨_, rfl⟩, hW, hframe⟩
  jvm_step X.here [X.here.top, hx, hb, hdg, hmeth', hr, ret, narrow_b1]
  (try refine ⟨rfl, ?_⟩); (try refine ⟨rfl, ?_⟩)
  first | (intro acts; rw [hret _ acts rfl rfl rfl]) | rw [hret _ _ rfl rfl rfl]
  exact Steps.refl _
/-- what holds at the law's entry: the machine, the code, the tables' words (any of lw_tbl by 'hts w (by decide +kernel)'), the script of L ints xs at the cell b, what the Statement gives of the start (any of its parts by flat_of_before) -/
def lw_At (p : Program) (s : State) (m : MethodId) (meth : Method) (c : Code) (b L : Nat) (xs : Nat → Int32) : Prop :=
  p.tables.exec = Jvm.exec ∧ c.code = code ∧ meth.sig.returnType = ret ∧ c.maxLocals = 7 ∧ s.vm.findClass R_law = some m.cls ∧ (∀ w ∈ lw_tbl, w.before #[Value.ref b] s = true) ∧ va_X b L xs s s.heap ∧ b < s.heap.size ∧ meth.locks = false ∧ (Jvm.Cond.and given_1 narrow_1).before #[Value.ref b] s = true
/-- what the law's start gives: the script at cell 0, the cells that may change are new ones -/
def lc (Ln : Nat) (xs : Nat → Int32) (α : Nat → Nat) (A : Nat → Prop) (s : State) (args : Array Value) : Prop := args = #[Value.ref (α 0)] ∧ va_X (α 0) Ln xs s s.heap ∧ α 0 < s.heap.size ∧ ∀ q, A q → s.heap.size ≤ q
def zl_Z (Ln : Nat) (xs : Nat → Int32) : zx_Zt := fun _ _ α A s args below t => lc Ln xs α A s args → lw_Z below args s t
abbrev zl_Y (Ln : Nat) (xs : Nat → Int32) : zx_Zt := zx_Zc none (zl_Z Ln xs)
section LR
variable {l : Launch} {rm : Room} {M : zx_M} {fl : Bool} {kc ks : Nat} {pc : Nat} {L : List (Nat × Value)} {S : List Value} {h : zx_H} {Ln : Nat} {xs : Nat → Int32}
theorem zl_iald {x : Int32} (j : Nat) (hx : x = nI j) (hj : j < Ln) (hL : Ln ≤ 2048) (d : decode M.2.1 pc = .ok (.iaload, 1)) (k : zx_X l rm M fl kc ks (zl_Y Ln xs) (pc + 1) L (.int (xs j) :: S) h) : zx_X l rm M fl kc ks (zl_Y Ln xs) pc L (.int x :: .ref 0 :: S) h := by
  intro D G α A p e s m args below meth c H locs ls C R hl T hT X
  by_cases hc : lc Ln xs α A s args
  case neg => exact ⟨_, Steps.refl _, fun _ z => absurd z hc⟩
  subst hx
  have hbA : ¬ A (α 0) := fun z => by
    have h1 := hc.2.2.2 _ z
    have h2 := hc.2.2.1
    omega
  have hk := k D G α A p e s m args below meth c H locs ls C R hl
  refine va_sld (b := α 0) C.1 C.2.1 hc.2.1 hc.2.2.1 hbA R.2.2.2.2.1 (i := nI j) (vp_in_nI hj (by omega)) d ?_ T hT X
  rw [nI_clamp (by omega)]
  exact hk
theorem zl_alen (d : decode M.2.1 pc = .ok (.arraylength, 1)) (k : zx_X l rm M fl kc ks (zl_Y Ln xs) (pc + 1) L (.int (nI Ln) :: S) h) : zx_X l rm M fl kc ks (zl_Y Ln xs) pc L (.ref 0 :: S) h := by
  intro D G α A p e s m args below meth c H locs ls C R hl T hT X
  by_cases hc : lc Ln xs α A s args
  case neg => exact ⟨_, Steps.refl _, fun _ z => absurd z hc⟩
  have hbA : ¬ A (α 0) := fun z => by
    have h1 := hc.2.2.2 _ z
    have h2 := hc.2.2.1
    omega
  exact va_slen (b := α 0) C.1 C.2.1 hc.2.1 hc.2.2.1 hbA R.2.2.2.2.1 d (k D G α A p e s m args below meth c H locs ls C R hl) T hT X
theorem zl_end (d1 : decode M_Law_law.2.1 pc = .ok (.iconst 1, 1)) (d2 : decode M_Law_law.2.1 (pc + 1) = .ok (.ireturn, 1)) (h1 : kc ≤ 601024) (h2 : ks ≤ 7293034) : zx_X l room_1 M_Law_law false kc ks (zl_Y Ln xs) pc L [] h := by
  refine zx_iconst d1 (v := 1) (by decide) ?_
  intro D G α A p e s m args below meth c H locs ls C R hl T hT X
  by_cases hc : lc Ln xs α A s args
  case neg => exact ⟨_, Steps.refl _, fun _ z => absurd z hc⟩
  obtain ⟨rfl, hX, hlt, hA⟩ := hc
  have hf : ∀ q ∈ locs, s.heap.size ≤ q.base := fun q hq => hA _ (R.2.2.2.2.1.2.2 q hq)
  obtain ⟨t, a1, b1⟩ := (va_forget hf (W.widen h1 h2 (lw_ret (b := α 0) (l := l) (H := H) (ls := ls) C.1 C.2.1 C.2.2.2.1 C.2.2.2.2.1 d2))) T hT X
  exact ⟨t, a1, fun _ _ => b1⟩
/-- script[i + k] -/
theorem la_arg {i k : Nat} {kk : Int} (d0 : decode M.2.1 pc = .ok (.aload_n 0, 1)) (d1 : decode M.2.1 (pc + 1) = .ok (.iload 4, 2)) (d2 : decode M.2.1 (pc + 3) = .ok (.iconst kk, 1)) (hk : Int32.ofInt kk = nI k) (d3 : decode M.2.1 (pc + 4) = .ok (.iadd, 1)) (d4 : decode M.2.1 (pc + 5) = .ok (.iaload, 1))
    (g0 : zx_get 0 L = some (.ref 0)) (g4 : zx_get 4 L = some (.int (nI i))) (hj : i + k < Ln) (hL : Ln ≤ 2048) (kx : zx_X l rm M fl kc ks (zl_Y Ln xs) (pc + 6) L (.int (xs (i + k)) :: S) h) : zx_X l rm M fl kc ks (zl_Y Ln xs) pc L S h := by
  refine zx_aload_n d0 g0 ?_
  refine zx_iload d1 g4 ?_
  refine zx_iconst d2 hk ?_
  refine zx_iadd d3 ?_
  exact zl_iald (i + k) (nI_add i k) hj hL d4 kx
end LR
section LQ
variable {l : Launch} {kc ks : Nat} {Z : zx_Zt} {pc : Nat} {L : List (Nat × Value)} {S : List Value} {K : zx_Kt} {RJ : zx_RJ} {I : zi_I}
abbrev la_X (l : Launch) (kc ks : Nat) (Z : zx_Zt) (pc : Nat) (L : List (Nat × Value)) (S : List Value) (h : zx_H) : Prop := zx_X l room_1 M_Law_law false kc ks Z pc L S h
theorem la_call {M2 : zx_M} {b idx n ci : Nat} {As S2 : List Value} {Q2 : Option Value → zx_H → Prop} (hC : zx_C l (zx_rm 7 0 0) M2 false (.ref b :: As) (K, I, RJ) Q2) (lk : zi_lkV "SortedBlocksLaw" idx M2 n ci) (kd : (K.2 b).1 = ci + 5) (hci : ci < 90) (hn : As.length = n) (hS : S = As.reverse ++ .ref b :: S2) (hW : (S2.map fun v => v.category).sum ≤ 8) (hm : M2.2.2.1 ≤ 21) (h1 : kc ≤ 601024) (h2 : ks ≤ 7293034) (d : decode M_Law_law.2.1 pc = .ok (.invokevirtual idx, 3))
    (k : ∀ r h2, Q2 r h2 → la_X l kc ks Z (pc + 3) L (r.toList ++ S2) h2) : la_X l kc ks Z pc L S (K, I, RJ) := by
  obtain ⟨l1, l2, l3, T, N, l4⟩ := lk
  refine zx_callV (h := (K, I, RJ)) hC l1 l2 l3 hn kd hci l4 hS hW ⟨?_, ?_⟩ ⟨h1, h2⟩ d k
  · show 7 + 1 ≤ 10
    omega
  · show 8 + (M2.2.2.1 + 11) + 40 * 7 ≤ 384
    omega
theorem la_help {M2 : zx_M} {idx n : Nat} {As S2 : List Value} {Q2 : Option Value → zx_H → Prop} {hh : List (Nat × Nat × Nat × Nat)} (hC : zx_CW l (zx_rm 8 1 6) M2 hh As (K, I, RJ) Q2) (l1 : Cond.codeWith M2.1 M2.2.1 M2.2.2.1 M2.2.2.2 hh ∈ zx_T) (l2 : Cond.initialized M2.1.cls ∈ zx_T) (l3 : M2.1.cls ≠ "java/lang/invoke/MethodHandle" ∧ M2.1.cls ≠ "java/lang/invoke/VarHandle" ∧ (parseMethodDescriptor M2.1.desc).map (fun d => d.parameters.length) = some n) (l4 : Cond.methodLink "SortedBlocksLaw" idx M2.1 ∈ zx_T) (li : Cond.static M2.1 ∈ zx_T) (hn : As.length = n) (hS : S = As.reverse ++ S2) (hW : (S2.map fun v => v.category).sum ≤ 8) (hm : M2.2.2.1 ≤ 21) (h1 : kc + 1 ≤ 601024) (h2 : ks + 6 ≤ 7293034) (d : decode M_Law_law.2.1 pc = .ok (.invokestatic idx, 3))
    (k : ∀ r h2, Q2 r h2 → la_X l (kc + 1) (ks + 6) (zx_Zc none Z) (pc + 3) L (r.toList ++ S2) h2) : la_X l kc ks (zx_Zc none Z) pc L S (K, I, RJ) := by
  refine zx_callSW (h := (K, I, RJ)) hC l1 l2 l3 l4 li hn hS hW ⟨?_, ?_⟩ ⟨h1, h2⟩ d k
  · show 8 + 1 ≤ 10
    omega
  · show 8 + (M2.2.2.1 + 11) + 40 * 8 ≤ 384
    omega
/-- both sides hold the same state -/
def lw_I (K : zx_Kt) (I : zi_I) (RJ : zx_RJ) (s : ab_S) : Prop := (∃ tl nx, g_Main K RJ 1 tl nx ∧ a_C I 1 tl s) ∧ g_Mod K RJ 103 ∧ a_M I 103 s ∧ K.2 124 = (2, 1)
theorem lw_I.cls {s : ab_S} {I2 : zi_I} {RJ2 : zx_RJ} (h : lw_I K I RJ s) (hR : ∀ c, c ≠ 1 → RJ2.1 c = RJ.1 c) (hz : zf (List.range' 1 102) I I2) : g_Mod K RJ2 103 ∧ a_M I2 103 s := by
  refine ⟨h.2.1.sw hR (by decide), h.2.2.1.keep hz (fun q hq => ?_)⟩
  rw [rg_mem] at hq
  omega
theorem lw_I.mod {s2 : ab_S} {I2 : zi_I} {RJ2 : zx_RJ} {k tl nx : Nat} (hg : g_Main K RJ2 1 tl nx) (ha : a_C I 1 tl s2) (hm : g_Mod K RJ2 103) (hp : mod_P 103 I k s2 I2) (ho : K.2 124 = (2, 1)) : lw_I K I2 RJ2 s2 := by
  have hd := hg.d
  refine ⟨⟨tl, nx, hg, ha.keep (by omega) hp.2.2 (fun q hq => ?_)⟩, hm, hp.2.1, ho⟩
  rw [rg_mem] at hq
  omega
end LQ
