/-! The claim. -/
theorem zk_arr {s : State} {a : Array Value} {ty : FieldType} (h : (Cond.arrayClass ty).before a s = true) : ∃ cA : ClassId, ArrOfT s cA ty ∧ s.vm.findClass ("[" ++ ty.toString) = some cA := by
  obtain ⟨cA, kA, comp, hfind, hk, hkind⟩ := Cond.arrayClass_spec h
  exact ⟨cA, fun n z => ⟨(fun k h => by cases h), kA, hk, comp, hkind⟩, hfind⟩
theorem zk_cls : ∀ q ∈ zx_cl, (∀ w ∈ u_ws q.1 q.2.1 q.2.2, w ∈ zx_T) ∧ Cond.instantiable q.1 q.2.2 ∈ zx_T := by
  intro q hq
  simp only [zx_cl, List.mem_cons, List.not_mem_nil, or_false] at hq
  rcases hq with rfl | rfl | rfl | rfl | rfl | rfl | rfl | rfl | rfl | rfl | rfl | rfl | rfl
  · exact ⟨nw_Main.2.1, nw_Main.2.2.2.2.2.1⟩
  · exact ⟨nw_Mod.2.1, nw_Mod.2.2.2.2.2.1⟩
  · exact ⟨nw_BitReader.2.1, nw_BitReader.2.2.2.2.2.1⟩
  · exact ⟨nw_BitWriter.2.1, nw_BitWriter.2.2.2.2.2.1⟩
  · exact ⟨nw_Block.2.1, nw_Block.2.2.2.2.2.1⟩
  · exact ⟨nw_BlockMaker.2.1, nw_BlockMaker.2.2.2.2.2.1⟩
  · exact ⟨nw_BlockReader.2.1, nw_BlockReader.2.2.2.2.2.1⟩
  · exact ⟨nw_BlockWriter.2.1, nw_BlockWriter.2.2.2.2.2.1⟩
  · exact ⟨nw_Codes.2.1, nw_Codes.2.2.2.2.2.1⟩
  · exact ⟨nw_MoveList.2.1, nw_MoveList.2.2.2.2.2.1⟩
  · exact ⟨nw_Picker.2.1, nw_Picker.2.2.2.2.2.1⟩
  · exact ⟨nw_Row.2.1, nw_Row.2.2.2.2.2.1⟩
  · exact ⟨nw_Trees.2.1, nw_Trees.2.2.2.2.2.1⟩
theorem zk_of {s : State} {a : Array Value} (hts : ∀ w ∈ lw_tbl, w.before a s = true) (hao : ao_ok s) : ∃ (D : va_G) (G : zx_G), zx_K D G s := by
  have hT : ∀ w ∈ zx_T, w.before a s = true := fun w h => hts w (zx_Tin w h)
  have h1 : ∀ c : Nat, ∃ p : ClassId × (Nat → Nat), ∀ q, zx_cl[c]? = some q → u_Kn s q.1 q.2.1 q.2.2 p.1 p.2 := by
    intro c
    cases hq : zx_cl[c]? with
    | none => exact ⟨(0, fun _ => 0), fun q h => by cases h⟩
    | some q =>
      obtain ⟨w1, w2⟩ := zk_cls q (List.mem_of_getElem? hq)
      obtain ⟨cC, iS, hk⟩ := u_known hT w1 (hT _ w2)
      exact ⟨(cC, iS), fun q2 h => by cases h; exact hk⟩
  obtain ⟨f, hf⟩ := Classical.axiomOfChoice h1
  obtain ⟨c0, i1, i2⟩ := zk_arr (hT _ na_int)
  obtain ⟨c1, b1, b2⟩ := zk_arr (hT _ na_boolean)
  obtain ⟨c2, l1, l2⟩ := zk_arr (hT _ na_long)
  obtain ⟨comp3, c3, k3, q1, -, q3, q4, q5⟩ := Cond.arrayOver_spec hao.1
  obtain ⟨comp4, c4, k4, r1, -, r3, r4, r5⟩ := arrayOver_specB hao.2
  refine ⟨(fun c => (f c).1, fun c => (f c).2), (c0, c1, c2, c3, c4), ⟨fun c q hq => hf c q hq, fun k q hk => ?_⟩, fun w hw => ?_⟩
  · rcases k with _ | _ | _ | _ | _ | k
    · cases hk
      exact ⟨i1, i2⟩
    · cases hk
      exact ⟨b1, b2⟩
    · cases hk
      exact ⟨l1, l2⟩
    · cases hk
      exact ⟨fun n z => ⟨(fun k h => by cases h), k3, q3, comp3, q4⟩, k3, comp3, q3, q4, q1, q5⟩
    · cases hk
      exact ⟨fun n z => ⟨(fun k h => by cases h), k4, r3, comp4, r4⟩, r5⟩
    · cases hk
  · exact va_Nw.of (zx_N_tab (List.mem_filter.mp hw).2) (hts w (List.mem_filter.mp hw).1)
theorem th_of {s : State} {a : Array Value} (hts : ∀ w ∈ lw_tbl, w.before a s = true) (hgv : (Jvm.Cond.and given_1 narrow_1).before a s = true) : th_ok s := by
  have hs := flat_of_before _ hgv
  have hv : s.vm.Alike s.vm := Vm.Alike.refl _
  have hk : ∀ (q : Nat) (cell : Cell), s.heap[q]? = some cell → cell.vm.isStatics = true → s.heap[q]? = some cell := fun _ _ h _ => h
  have w1 : (Cond.laysStatic Bundle.tN "UNASSIGNED_STACK" Bundle.steD).before a s = true := hts _ (by decide +kernel)
  have w2 : (Cond.laysStatic Bundle.tN "SUPPRESSED_SENTINEL" Bundle.listD).before a s = true := hts _ (by decide +kernel)
  have w3 : (Cond.isRef (.static Bundle.tN "UNASSIGNED_STACK" Bundle.steD)).before a s = true := hs _ (by decide +kernel)
  have w4 : (Cond.isRef (.static Bundle.tN "SUPPRESSED_SENTINEL" Bundle.listD)).before a s = true := hs _ (by decide +kernel)
  refine ⟨fun a2 w hw => ?_, th_nc_moved hv (hs _ (by decide +kernel)), fun a2 => th_sws (a := a) (State.WarmedH.refl s) (fun w hw => hts w ?_)⟩
  · simp only [th_w, List.mem_cons, List.not_mem_nil, or_false] at hw
    rcases hw with rfl | rfl | rfl | rfl
    · exact th_lays w1 hv hk
    · exact th_lays w2 hv hk
    · exact th_isRef w3 w1 hv hk
    · exact th_isRef w4 w2 hv hk
  · revert w
    decide +kernel
theorem ao_of {s : State} {a : Array Value} (hts : ∀ w ∈ lw_tbl, w.before a s = true) : ao_ok s := ⟨va_AO.of (A := a) (hts _ (by decide +kernel)), arrayOver_alikeB (Vm.Alike.refl _) (hts (Cond.arrayOver (.array .int)) (by decide +kernel))⟩
set_option maxRecDepth 20000 in
theorem whole_start {p : Program} {e : Env} {s : State} {m : MethodId} {below : List Frame} {meth : Method} {c : Code} (l : Launch) (htr : l.flags = pinnedFlags ++ [noTraceFlag]) {b L : Nat} {xs : Nat → Int32} (hL : L ≤ 2048) (C0 : lw_At p s m meth c b L xs) : W p l e room_1 s m #[Value.ref b] below meth c s.heap [] 0 0 (lw_Z below #[Value.ref b] s) (entryFrame m ([Value.ref b] : List Value).toArray 7) := by
  obtain ⟨hx, hb, hr, hml, hown, hts, hX, hbl, hlk, hgv⟩ := C0
  have hao := ao_of hts
  obtain ⟨D, G, hK⟩ := zk_of hts hao
  have hth := th_of hts hgv
  obtain ⟨α, h0, h1⟩ : ∃ α : Nat → Nat, α 0 = b ∧ ∀ k, α (k + 1) = k + s.heap.size := ⟨fun k => match k with | 0 => b | j + 1 => j + s.heap.size, rfl, fun _ => rfl⟩
  have hl := lv_entry ([Value.ref 0].map (zx_cv α)) (n := 7) (by show 1 ≤ 7; omega)
  have k := lw_from (l := l) (xs := xs) htr hL
  intro T hT X
  have C : zx_Cx M_Law_law p s m #[Value.ref b] meth c := ⟨hx, hb, hml, hr, hlk, hown, fun w hw => hts w (zx_Tin w hw), fun q => absurd q (by decide)⟩
  have R : zx_R D G α (fun q => s.heap.size ≤ q) true 0 h_zero s s.heap [] := by
    refine ⟨hK, fun q h => h, ?_, ?_, va_S.rf, ?_, fun _ => ⟨fun k => ?_, Nat.zero_le _⟩⟩
    · intro k q hk
      cases hk
    · exact ⟨fun i j p q hi => (by cases hi), fun k q hk => (by cases hk)⟩
    · intro k hk
      exact absurd hk (by show ¬ 100 < 100; omega)
    · show α (k + 1) + 0 = k + (s.heap.size + 0)
      rw [h1]
      omega
  rw [zx_args_map] at hl
  have e0 : ([Value.ref b] : List Value).toArray = ([Value.ref 0].map (zx_cv α)).toArray := by
    show _ = ([Value.ref (α 0)] : List Value).toArray
    rw [h0]
  rw [e0, lg_entry_eq]
  obtain ⟨t, a1, b1⟩ := k D G α _ p e s m _ below meth c s.heap [] _ C R hl T hT X
  refine ⟨t, a1, b1 hao ⟨fun q hq cell hc => ?_, hth, fun r hr => by cases hr⟩ ⟨by rw [h0], by rw [h0]; exact hX, by rw [h0]; exact hbl, fun q hq => hq⟩⟩
  have := (Array.getElem?_eq_some_iff.mp hc).1
  have hq : s.heap.size ≤ q := hq
  omega
set_option maxHeartbeats 4000000 in
theorem lw_walk (l : Launch) (htr : l.flags = pinnedFlags ++ [noTraceFlag]) (b : Addr) (xs : List Int32) : MetFree l x (headSpec (Jvm.Cond.code x code maxLocals ret :: tables_1) room_1) (lw_P b xs) (fun _ _ _ _ _ => True) lw_Q := by
  refine MetFree.of_bodyS (code := code) (maxLocals := maxLocals) (ret := ret) (by decide) ?_ ?_
  · intro args s m h hn
    obtain ⟨meth, c, h1, h2, h3, h4, h5, h6, -, -⟩ := Cond.code_spec hn (atoms_spec (ws := Jvm.Cond.code x code maxLocals ret :: tables_1) h _ List.mem_cons_self)
    exact ⟨meth, c, h1, h2, h3, h4, h5, h6⟩
  · intro p e s m args below meth c s₁ B hml0 hP _
    obtain ⟨rfl, hx, hbd, hgv⟩ := hP
    obtain ⟨scr, harrAt, hlist, hof, hsmall⟩ := hx
    obtain ⟨hcb, hkn, -, -⟩ := State.arrayAt?_spec harrAt
    have hown : s.vm.findClass R_law = some m.cls := findClass_of_methodNamed B.named
    have hts0 : ∀ c ∈ (Jvm.Cond.code x code maxLocals ret :: tables_1), c.before #[Value.ref b] s = true := atoms_spec (ws := Jvm.Cond.code x code maxLocals ret :: tables_1) B.pre
    have hts : ∀ w ∈ lw_tbl, w.before #[Value.ref b] s = true := k2_hts_sels lw_privs (fun w hw => hts0 w (List.mem_cons_of_mem _ hw)) lw_privs_ok
    have hml : c.maxLocals = 7 := B.maxLocals_eq (hts0 _ List.mem_cons_self)
    have X₀ : Stand p l e room_1 s m #[Value.ref b] below meth c s₁ [] 0 0 := Stand.of_body B
    have hh0 : s₁.heap = s.heap := by rw [B.state]; rfl
    have hsz : scr.slots.size = xs.length := by rw [← Array.length_toList, hlist, List.length_map]
    have hval : ∀ j : Nat, j < xs.length → scr.slots[j]? = some (.int (xs.getD j 0)) := fun j hj => by
      rw [← Array.getElem?_toList, hlist]
      simp [hj]
    have hbl : b < s.heap.size := (Array.getElem?_eq_some_iff.mp hcb).1
    have hX : va_X b xs.length (fun j => xs.getD j 0) s s.heap := ⟨scr, hcb, hof, hkn, hsz, hval⟩
    have K : W p l e room_1 s m #[Value.ref b] below meth c s₁.heap [] 0 0 (lw_Z below #[Value.ref b] s) (entryFrame m ([Value.ref b] : List Value).toArray 7) := by
      rw [hh0]
      exact whole_start l htr hbd ⟨B.exec, B.bytes, B.returns, hml, hown, hts, hX, hbl, B.notSynchronized, hgv⟩
    obtain ⟨t, a1, o, b1, b2, b3⟩ := K s₁ rfl X₀
    exact ⟨t, o, a1, b1, b2, b3⟩
theorem lw_pre_spec {args : Array Value} {s : State} (h : (Jvm.Cond.and given_1 narrow_1).before args s = true) (hr : rest_1_c.before args s = true) : ∃ (b : Addr) (xs : List Int32), lw_P b xs args s := by
  have hs := flat_of_before _ h
  have hq := flat_of_before _ hr
  have hc : (Cond.count 1).before args s = true := hs _ (by decide +kernel)
  have harr : (Cond.arrayOf (.arg 0) .int).before args s = true := hs _ (by decide +kernel)
  have hle : (Cond.le (.length (.arg 0)) (.int 2048)).before args s = true := hs _ (by decide +kernel)
  have hlen : (Cond.isInt (.length (.arg 0))).before args s = true := hq _ (by decide +kernel)
  have hall : (Cond.all (.arg 0) (.isInt (.elem (.arg 0) (.index 0)))).before args s = true := hq _ (by decide +kernel)
  obtain ⟨b, xs, hb, hx⟩ := State.ints_of_pre rfl harr hlen hall
  have hsm : xs.length < 2 ^ 31 := hx.choose_spec.2.2.2
  have hev : (Term.length (.arg 0)).eval args s none [] s = some (.int xs.length.toInt32) := hx.length_eval hb
  have hv := Cond.le_ints hev (show (Term.int 2048).eval args s none [] s = some (.int 2048) from rfl)
  have hd : xs.length.toInt32 ≤ 2048 := by
    simpa [Cond.before, Cond.holds, hv] using hle
  have hN : xs.length ≤ 2048 := (Int32.ofNat_le_ofNat hsm (by decide)).mp (show Int32.ofNat xs.length ≤ Int32.ofNat 2048 from hd)
  exact ⟨b, xs, Cond.one_arg hc (show args[0]? = some (.ref b) from hb), hx, hN, h⟩
theorem lw_comes (l : Launch) (htr : l.flags = pinnedFlags ++ [noTraceFlag]) : Comes l x (Jvm.Cond.code x code maxLocals ret :: tables_1) room_1 (fun tb e args s => Calls_1 tb e args s ∧ rest_1 tb e args s ∧ Pre_1 tb e args s)
    (fun _ _ args s o t => lw_Q args s o t) := by
  intro p e ha hc hk s m args below hf hfit hheap happ hpre
  obtain ⟨b, xs, hP⟩ := lw_pre_spec hpre.2.2 hpre.2.1
  obtain ⟨k, o, h1, h2, h3, hQ⟩ := lw_walk l htr b xs p e ha hc hk s m args below hf ((Spec.applies_iff_loose hf).mp happ).1 hP trivial
  exact ⟨k, o, h1, h2, h3, hQ⟩
theorem lw_frame {s t : State} {o : Outcome} {args : Array Value} (h : Framed s o t [] 601024 7293034) :
    Framed s o t (fieldLocs frame_1_writes args s ++ arrayLocs frame_1_arrays args s ++ staticLocs frame_1_statics s) 601024 7293034 := h
theorem lw_limb (L : Cond) (hL : ∀ (args : Array Value) (s t : State), L.after args s (.returned (some (.int 1))) t = true) :
    ArmFor flags0 classFile x code maxLocals ret World_1 tables_1 room_1 Calls_1 rest_1 Pre_1
      (fun tb e a s o t => postC L tb e a s o t ∧ Framed s o t (fieldLocs frame_1_writes a s ++ arrayLocs frame_1_arrays a s ++ staticLocs frame_1_statics s) 601024 7293034) := by
  intro l htr _ _ p e ha hc hk s m args below hf hfit hheap happ hpre
  obtain ⟨k, o, h1, h2, h3, rfl, hF⟩ := lw_comes l htr p e ha hc hk s m args below hf hfit hheap happ hpre
  exact ⟨k, _, h1, h2, h3, hL args s _, lw_frame hF⟩
theorem i_vc : Claimed_1_1 ∧ Claimed_1_2 := ⟨lw_limb limb_1_1 (fun args s t => by simp [limb_1_1, Cond.after, Cond.holds, Cond.value]), lw_limb limb_1_2 (fun args s t => Cond.after_iff.mpr (by
  first | (rw [show limb_1_2 = Cond.eq .result (.int 1) from rfl, Cond.eq_ints (x := 1) (y := 1) rfl rfl]; simp; done) | (simp [limb_1_2, Cond.value, Term.eval]; done)))⟩
