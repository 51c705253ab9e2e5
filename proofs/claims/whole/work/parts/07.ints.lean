/-! Heaps in which only the ints change: K (kinds) and RJ (references, longs) stay. -/
abbrev zx_Kt : Type := Nat × (Nat → Nat × Nat)
abbrev zx_RJ : Type := (Nat → Nat → Nat) × (Nat → Nat → Int64)
abbrev zi_I : Type := Nat → Nat → Int32
abbrev zi_Q : Type := Option Value → zi_I → Prop
abbrev zi_P (K : zx_Kt) (RJ : zx_RJ) (Q : zi_Q) : Option Value → zx_H → Prop := fun r h => ∃ I : zi_I, h = (K, I, RJ) ∧ Q r I
abbrev zi_X (l : Launch) (rm : Room) (M : zx_M) (K : zx_Kt) (RJ : zx_RJ) (Q : zi_Q) (pc : Nat) (L : List (Nat × Value)) (S : List Value) (I : zi_I) : Prop := zx_X l rm M false 0 0 (zx_Zr false rm (zi_P K RJ Q)) pc L S (K, I, RJ)
abbrev zi_C (l : Launch) (rm : Room) (M : zx_M) (As : List Value) (K : zx_Kt) (RJ : zx_RJ) (I : zi_I) (Q : zi_Q) : Prop := zx_C l rm M false As (K, I, RJ) (zi_P K RJ Q)
theorem zx_C.mono {l : Launch} {rm : Room} {M : zx_M} {fl : Bool} {As : List Value} {h : zx_H} {Q Q2 : Option Value → zx_H → Prop} (hC : zx_C l rm M fl As h Q) (hq : ∀ r h2, Q r h2 → Q2 r h2) : zx_C l rm M fl As h Q2 := by
  intro D G α sz p e ha hc hk s m args below hf happ hP hK
  obtain ⟨n, o, h1, h2, h3, ⟨⟨⟨r, h', ho, hQ, hrest⟩, hF⟩, hL⟩⟩ := hC D G α sz p e ha hc hk s m args below hf happ hP hK
  exact ⟨n, o, h1, h2, h3, ⟨⟨⟨r, h', ho, hq _ _ hQ, hrest⟩, hF⟩, hL⟩⟩
theorem zi_mono {l : Launch} {rm : Room} {M : zx_M} {As : List Value} {K : zx_Kt} {RJ : zx_RJ} {I : zi_I} {Q Q2 : zi_Q} (hC : zi_C l rm M As K RJ I Q) (hq : ∀ r I2, Q r I2 → Q2 r I2) : zi_C l rm M As K RJ I Q2 := hC.mono (fun r h2 ⟨I2, e, q⟩ => ⟨I2, e, hq r I2 q⟩)
theorem zi_of {l : Launch} {d : Nat} {M : zx_M} {As : List Value} {K : zx_Kt} {RJ : zx_RJ} {I : zi_I} {Q : zi_Q} (hy : plainName M.1.cls = true) (hn : ∀ α : Nat → Nat, (lg_sl (As.map (zx_cv α))).length ≤ M.2.2.1) (k : zi_X l (zx_rm d 0 0) M K RJ Q 0 (lv_args 0 As) [] I) : zi_C l (zx_rm d 0 0) M As K RJ I Q := zx_C.of hy hn k
def zi_minv (x y : Int32) : Int32 := if y < x then y else x
def zi_maxv (x y : Int32) : Int32 := if x < y then y else x
def zi_absv (x : Int32) : Int32 := if 0 ≤ x then x else 0 - x
def zi_cpy (I : zi_I) (q p sp dp n : Nat) : zi_I := fun a i => if a = p then va_cpy (I q) (I p) sp dp n i else I a i
section ZI
variable {l : Launch} {rm : Room} {M : zx_M} {Z : zx_Zt} {pc : Nat} {L : List (Nat × Value)} {S : List Value} {K : zx_Kt} {RJ : zx_RJ} {I : zi_I} {Q : zi_Q} {fl : Bool} {kc ks : Nat}
theorem zi_getI {o ci j idx : Nat} {fin : Bool} (f : zx_fld M.1.cls idx ci j false fin) (kd : (K.2 o).1 = ci + 5) (hci : ci < 90) (d : decode M.2.1 pc = .ok (.getfield idx, 3)) (k : zx_X l rm M fl kc ks Z (pc + 3) L (.int (I o j) :: S) (K, I, RJ)) : zx_X l rm M fl kc ks Z pc L (.ref o :: S) (K, I, RJ) := zx_getI (h := (K, I, RJ)) f kd hci d k
theorem zi_getR {o ci j idx r : Nat} {fin : Bool} (f : zx_fld M.1.cls idx ci j true fin) (kd : (K.2 o).1 = ci + 5) (hci : ci < 90) (e : RJ.1 o j = r) (nz : r ≠ 0) (d : decode M.2.1 pc = .ok (.getfield idx, 3)) (k : zx_X l rm M fl kc ks Z (pc + 3) L (.ref r :: S) (K, I, RJ)) : zx_X l rm M fl kc ks Z pc L (.ref o :: S) (K, I, RJ) := by
  subst e
  exact zx_getR (h := (K, I, RJ)) f kd hci nz d k
theorem zi_putI {o ci j idx : Nat} {v : Int32} (f : zx_fld M.1.cls idx ci j false false) (kd : (K.2 o).1 = ci + 5) (hci : ci < 90) (d : decode M.2.1 pc = .ok (.putfield idx, 3)) (k : zx_X l rm M fl kc ks Z (pc + 3) L S (K, zx_u2 I o j v, RJ)) : zx_X l rm M fl kc ks Z pc L (.int v :: .ref o :: S) (K, I, RJ) := zx_putI (h := (K, I, RJ)) f kd hci d k
theorem zi_iald {q n : Nat} {x : Int32} (j : Nat) (kd : K.2 q = (0, n)) (hx : x = nI j) (hj : j < n) (d : decode M.2.1 pc = .ok (.iaload, 1)) (k : zx_X l rm M fl kc ks Z (pc + 1) L (.int (I q j) :: S) (K, I, RJ)) : zx_X l rm M fl kc ks Z pc L (.int x :: .ref q :: S) (K, I, RJ) := zx_iald (h := (K, I, RJ)) j kd hx hj d k
theorem zi_zald {q n : Nat} {x : Int32} (j : Nat) (kd : K.2 q = (1, n)) (hx : x = nI j) (hj : j < n) (d : decode M.2.1 pc = .ok (.baload, 1)) (k : zx_X l rm M fl kc ks Z (pc + 1) L (.int (I q j) :: S) (K, I, RJ)) : zx_X l rm M fl kc ks Z pc L (.int x :: .ref q :: S) (K, I, RJ) := zx_zald (h := (K, I, RJ)) j kd hx hj d k
theorem zi_iast {q n : Nat} {x v : Int32} (j : Nat) (kd : K.2 q = (0, n)) (hx : x = nI j) (hj : j < n) (d : decode M.2.1 pc = .ok (.iastore, 1)) (k : zx_X l rm M fl kc ks Z (pc + 1) L S (K, zx_u2 I q j v, RJ)) : zx_X l rm M fl kc ks Z pc L (.int v :: .int x :: .ref q :: S) (K, I, RJ) := zx_iast (h := (K, I, RJ)) j kd hx hj d k
theorem zi_zast {q n : Nat} {x v : Int32} (j : Nat) (kd : K.2 q = (1, n)) (hx : x = nI j) (hj : j < n) (hv : vp_nar .boolean v = v) (d : decode M.2.1 pc = .ok (.bastore, 1)) (k : zx_X l rm M fl kc ks Z (pc + 1) L S (K, zx_u2 I q j v, RJ)) : zx_X l rm M fl kc ks Z pc L (.int v :: .int x :: .ref q :: S) (K, I, RJ) := zx_zast (h := (K, I, RJ)) j kd hx hj hv d k
theorem zi_alen {q n : Nat} (kd : K.2 q = (0, n)) (d : decode M.2.1 pc = .ok (.arraylength, 1)) (k : zx_X l rm M fl kc ks Z (pc + 1) L (.int (nI n) :: S) (K, I, RJ)) : zx_X l rm M fl kc ks Z pc L (.ref q :: S) (K, I, RJ) := zx_alen (h := (K, I, RJ)) kd d k
theorem zi_aald3 {q n r : Nat} {x : Int32} (j : Nat) (kd : K.2 q = (3, n)) (hx : x = nI j) (hj : j < n) (e : RJ.1 q j = r) (nz : r ≠ 0) (d : decode M.2.1 pc = .ok (.aaload, 1)) (k : zx_X l rm M fl kc ks Z (pc + 1) L (.ref r :: S) (K, I, RJ)) : zx_X l rm M fl kc ks Z pc L (.int x :: .ref q :: S) (K, I, RJ) := by
  subst e
  exact zx_aald3 (h := (K, I, RJ)) j kd hx hj nz d k
theorem zi_aald4 {q n r : Nat} {x : Int32} (j : Nat) (kd : K.2 q = (4, n)) (hx : x = nI j) (hj : j < n) (e : RJ.1 q j = r) (nz : r ≠ 0) (d : decode M.2.1 pc = .ok (.aaload, 1)) (k : zx_X l rm M fl kc ks Z (pc + 1) L (.ref r :: S) (K, I, RJ)) : zx_X l rm M fl kc ks Z pc L (.int x :: .ref q :: S) (K, I, RJ) := by
  subst e
  exact zx_aald4 (h := (K, I, RJ)) j kd hx hj nz d k
theorem zi_iret {D cc sc : Nat} {v : Int32} (d : decode M.2.1 pc = .ok (.ireturn, 1)) (hr : M.2.2.2 = some .int) (hq : Q (some (.int v)) I) : zi_X l (zx_rm D cc sc) M K RJ Q pc L [.int v] I := zx_iret d hr ⟨I, rfl, hq⟩ (Nat.zero_le _) (Nat.zero_le _) (fun q => by cases q)
theorem zi_zret {D cc sc : Nat} {v : Int32} (d : decode M.2.1 pc = .ok (.ireturn, 1)) (hr : M.2.2.2 = some .boolean) (hn : narrow .boolean (.int v) = .int v) (hq : Q (some (.int v)) I) : zi_X l (zx_rm D cc sc) M K RJ Q pc L [.int v] I := zx_zret d hr hn ⟨I, rfl, hq⟩ (Nat.zero_le _) (Nat.zero_le _) (fun q => by cases q)
theorem zi_vret {D cc sc : Nat} (d : decode M.2.1 pc = .ok (.return_, 1)) (hr : M.2.2.2 = none) (hq : Q none I) : zi_X l (zx_rm D cc sc) M K RJ Q pc L [] I := zx_vret d hr ⟨I, rfl, hq⟩ (Nat.zero_le _) (Nat.zero_le _) (fun q => by cases q)
def zi_lkV (own : String) (idx : Nat) (M2 : zx_M) (n : Nat) (ci : Nat) : Prop := zx_lk own idx M2 n ∧ Cond.instanceMethod M2.1 ∈ zx_T ∧ Cond.selects M2.1.cls M2.1 M2.1 ∈ zx_T ∧ ∃ T N, zx_cl[ci]? = some (M2.1.cls, T, N)
def zi_lkS (own : String) (idx : Nat) (M2 : zx_M) (n : Nat) : Prop := zx_lk own idx M2 n ∧ Cond.static M2.1 ∈ zx_T
theorem zi_callV {dd cc sc : Nat} {M2 : zx_M} {b idx n ci : Nat} {As S2 : List Value} {Q2 : zi_Q} (hC : zi_C l (zx_rm dd 0 0) M2 (.ref b :: As) K RJ I Q2) (lk : zi_lkV M.1.cls idx M2 n ci) (kd : (K.2 b).1 = ci + 5) (hci : ci < 90) (hn : As.length = n) (hS : S = As.reverse ++ .ref b :: S2) (hW : (S2.map fun v => v.category).sum ≤ 8) (hm : M2.2.2.1 ≤ 21) (d : decode M.2.1 pc = .ok (.invokevirtual idx, 3))
    (k : ∀ r I2, Q2 r I2 → zx_X l (zx_rm (dd + 1) cc sc) M false 0 0 Z (pc + 3) L (r.toList ++ S2) (K, I2, RJ)) : zx_X l (zx_rm (dd + 1) cc sc) M false 0 0 Z pc L S (K, I, RJ) := by
  obtain ⟨l1, l2, l3, T, N, l4⟩ := lk
  refine zx_callV (h := (K, I, RJ)) hC l1 l2 l3 hn kd hci l4 hS hW ⟨Nat.le_refl _, ?_⟩ ⟨Nat.zero_le _, Nat.zero_le _⟩ d ?_
  · show 8 + (M2.2.2.1 + 11) + 40 * dd ≤ 40 * (dd + 1)
    omega
  · rintro r h2 ⟨I2, rfl, hq⟩
    exact k r I2 hq
theorem zi_callS {dd cc sc : Nat} {M2 : zx_M} {idx n : Nat} {As S2 : List Value} {Q2 : zi_Q} (hC : zi_C l (zx_rm dd 0 0) M2 As K RJ I Q2) (lk : zi_lkS M.1.cls idx M2 n) (hn : As.length = n) (hS : S = As.reverse ++ S2) (hW : (S2.map fun v => v.category).sum ≤ 8) (hm : M2.2.2.1 ≤ 21) (d : decode M.2.1 pc = .ok (.invokestatic idx, 3))
    (k : ∀ r I2, Q2 r I2 → zx_X l (zx_rm (dd + 1) cc sc) M false 0 0 Z (pc + 3) L (r.toList ++ S2) (K, I2, RJ)) : zx_X l (zx_rm (dd + 1) cc sc) M false 0 0 Z pc L S (K, I, RJ) := by
  obtain ⟨l1, l2⟩ := lk
  refine zx_callS (h := (K, I, RJ)) hC l1 l2 hn hS hW ⟨Nat.le_refl _, ?_⟩ ⟨Nat.zero_le _, Nat.zero_le _⟩ d ?_
  · show 8 + (M2.2.2.1 + 11) + 40 * dd ≤ 40 * (dd + 1)
    omega
  · rintro r h2 ⟨I2, rfl, hq⟩
    exact k r I2 hq
/-- Math.min, max, abs -/
def zi_wm (own : String) (idx : Nat) (y : MethodName) (b : ByteArray) (n : Nat) : Prop := Cond.methodLink own idx y ∈ zx_T ∧ Cond.static y ∈ zx_T ∧ Cond.initialized "java/lang/Math" ∈ zx_T ∧ Cond.code y b n (some .int) ∈ zx_T
theorem zi_min {dd cc sc idx : Nat} {x y : Int32} (w : zi_wm M.1.cls idx Lib.Math.min.name Lib.Math.min.code 2) (hW : (S.map fun v => v.category).sum ≤ 8) (d : decode M.2.1 pc = .ok (.invokestatic idx, 3)) (k : zx_X l (zx_rm (dd + 1) cc sc) M false 0 0 Z (pc + 3) L (.int (zi_minv x y) :: S) (K, I, RJ)) : zx_X l (zx_rm (dd + 1) cc sc) M false 0 0 Z pc L (.int y :: .int x :: S) (K, I, RJ) := by
  intro D G α A p e s m args below meth c H locs ls C R hl
  have hts := C.2.2.2.2.2.2.1
  exact va_mmin C.1 C.2.1 (C.2.2.1.trans hl.1.symm) C.2.2.2.2.2.1 (hts _ w.1) (hts _ w.2.1) (hts _ w.2.2.1) (hts _ w.2.2.2) (Nat.le_add_left _ _) (by rw [zx_catsum]; show _ ≤ 40 * (dd + 1); omega) (Nat.zero_le _) (Nat.zero_le _) d (k D G α A p e s m args below meth c H locs ls C R hl)
theorem zi_max {dd cc sc idx : Nat} {x y : Int32} (w : zi_wm M.1.cls idx Lib.Math.max.name Lib.Math.max.code 2) (hW : (S.map fun v => v.category).sum ≤ 8) (d : decode M.2.1 pc = .ok (.invokestatic idx, 3)) (k : zx_X l (zx_rm (dd + 1) cc sc) M false 0 0 Z (pc + 3) L (.int (zi_maxv x y) :: S) (K, I, RJ)) : zx_X l (zx_rm (dd + 1) cc sc) M false 0 0 Z pc L (.int y :: .int x :: S) (K, I, RJ) := by
  intro D G α A p e s m args below meth c H locs ls C R hl
  have hts := C.2.2.2.2.2.2.1
  exact va_mmax C.1 C.2.1 (C.2.2.1.trans hl.1.symm) C.2.2.2.2.2.1 (hts _ w.1) (hts _ w.2.1) (hts _ w.2.2.1) (hts _ w.2.2.2) (Nat.le_add_left _ _) (by rw [zx_catsum]; show _ ≤ 40 * (dd + 1); omega) (Nat.zero_le _) (Nat.zero_le _) d (k D G α A p e s m args below meth c H locs ls C R hl)
theorem zi_abs {dd cc sc idx : Nat} {x : Int32} (w : zi_wm M.1.cls idx Lib.Math.abs.name Lib.Math.abs.code 1) (hW : (S.map fun v => v.category).sum ≤ 8) (d : decode M.2.1 pc = .ok (.invokestatic idx, 3)) (k : zx_X l (zx_rm (dd + 1) cc sc) M false 0 0 Z (pc + 3) L (.int (zi_absv x) :: S) (K, I, RJ)) : zx_X l (zx_rm (dd + 1) cc sc) M false 0 0 Z pc L (.int x :: S) (K, I, RJ) := by
  intro D G α A p e s m args below meth c H locs ls C R hl
  have hts := C.2.2.2.2.2.2.1
  exact va_mabs C.1 C.2.1 (C.2.2.1.trans hl.1.symm) C.2.2.2.2.2.1 (hts _ w.1) (hts _ w.2.1) (hts _ w.2.2.1) (hts _ w.2.2.2) (Nat.le_add_left _ _) (by rw [zx_catsum]; show _ ≤ 40 * (dd + 1); omega) (Nat.zero_le _) (Nat.zero_le _) d (k D G α A p e s m args below meth c H locs ls C R hl)
/-- System.arraycopy of ints -/
def zi_wc (own : String) (idx : Nat) : Prop := Cond.methodLink own idx arraycopyName ∈ zx_T ∧ Cond.native arraycopyName ∈ zx_T ∧ Cond.static arraycopyName ∈ zx_T ∧ Cond.initialized "java/lang/System" ∈ zx_T
theorem zi_copy {dd cc sc idx q q2 n1 n2 : Nat} {x y z : Int32} (sp dp n : Nat) (w : zi_wc M.1.cls idx) (k1 : K.2 q = (0, n1)) (k2 : K.2 q2 = (0, n2)) (e1 : x = nI sp) (e2 : y = nI dp) (e3 : z = nI n) (b1 : sp + n ≤ n1) (b2 : dp + n ≤ n2) (hW : (S.map fun v => v.category).sum ≤ 8) (d : decode M.2.1 pc = .ok (.invokestatic idx, 3)) (k : zx_X l (zx_rm (dd + 1) cc sc) M false 0 0 Z (pc + 3) L S (K, zi_cpy I q q2 sp dp n, RJ)) : zx_X l (zx_rm (dd + 1) cc sc) M false 0 0 Z pc L (.int z :: .int y :: .ref q2 :: .int x :: .ref q :: S) (K, I, RJ) := by
  intro D G α A p e s m args below meth c H locs ls C R hl
  have hts := C.2.2.2.2.2.2.1
  obtain ⟨hK, hA, hP, hD, hS, hok, hfr⟩ := R
  obtain ⟨o1, o2, o3⟩ := hok q (by show (K.2 q).1 < 100; rw [k1]; omega)
  obtain ⟨p1, p2, p3⟩ := hok q2 (by show (K.2 q2).1 < 100; rw [k2]; omega)
  have o3 : n1 < 2 ^ 31 := by have : (K.2 q).2 < 2 ^ 31 := o3; rw [k1] at this; exact this
  have p3 : n2 < 2 ^ 31 := by have : (K.2 q2).2 < 2 ^ 31 := p3; rw [k2] at this; exact this
  have he : (zx_wl G α (K, I, RJ))[q - 1]? = some (α q, .inl (G.1, n1, .inl (I q))) := by rw [zx_wl_at o1 o2, zx_enc_int (n := n1) k1]
  have he2 : (zx_wl G α (K, I, RJ))[q2 - 1]? = some (α q2, .inl (G.1, n2, .inl (I q2))) := by rw [zx_wl_at p1 p2, zx_enc_int (n := n2) k2]
  subst e1; subst e2; subst e3
  have c1 : (nI sp).toNatClampNeg = sp := nI_clamp (by omega)
  have c2 : (nI dp).toNatClampNeg = dp := nI_clamp (by omega)
  have c3 : (nI n).toNatClampNeg = n := nI_clamp (by omega)
  have hnw : nativeFrameWords "java/lang/System" "arraycopy" 5 + 11 ≤ 32 := by decide +kernel
  have hlo : ((S.map (zx_cv α)).map fun v => v.category).sum + (nativeFrameWords "java/lang/System" "arraycopy" 5 + 11) ≤ (zx_rm (dd + 1) cc sc).locals := by
    rw [zx_catsum]
    show _ ≤ 40 * (dd + 1)
    omega
  refine va_copyi (sp := nI sp) (dp := nI dp) (n := nI n) C.1 C.2.1 (C.2.2.1.trans hl.1.symm) C.2.2.2.2.2.1 (hts _ w.1) (hts _ w.2.1) (hts _ w.2.2.1) (hts _ w.2.2.2) hK.1 hP hD hS (q - 1) (q2 - 1) 0 0 he he2 (ty := .int) rfl rfl rfl (nI_pos (by omega)) (nI_pos (by omega)) (nI_pos (by omega)) (by rw [c1, c3]; exact b1) (by rw [c2, c3]; exact b2) (fun i hi => rfl) (Nat.le_add_left _ _) hlo d (fun H1 locs1 hP1 hD1 hS1 => ?_)
  have hset : (zx_wl G α (K, I, RJ)).set (q2 - 1) (α q2, .inl (G.1, n2, .inl (va_cpy (I q) (I q2) (nI sp).toNatClampNeg (nI dp).toNatClampNeg (nI n).toNatClampNeg))) = zx_wl G α (K, zi_cpy I q q2 sp dp n, RJ) := by
    rw [nI_clamp (by omega), nI_clamp (by omega), nI_clamp (by omega)]
    rw [show (.inl (G.1, n2, .inl (va_cpy (I q) (I q2) sp dp n)) : va_E) = zx_enc G α (K, zi_cpy I q q2 sp dp n, RJ) q2 from by
      rw [zx_enc_int (h := (K, zi_cpy I q q2 sp dp n, RJ)) (n := n2) k2]
      show _ = Sum.inl (G.1, n2, Sum.inl (zi_cpy I q q2 sp dp n q2))
      congr 4
      funext i
      simp [zi_cpy]]
    refine zx_wl_set (h := (K, I, RJ)) (h' := (K, zi_cpy I q q2 sp dp n, RJ)) rfl (fun a ha => ?_) (fun _ _ => rfl) (fun _ _ => rfl) p1 p2
    funext i
    simp [zi_cpy, ha]
  rw [hset] at hP1 hD1
  exact k D G α A p e s m args below meth c H1 locs1 ls C ⟨hK, hA, hP1, hD1, hS1, hok, hfr⟩ hl
end ZI
theorem zx_u2_s {β : Type} {f : Nat → Nat → β} {p j : Nat} {v : β} : zx_u2 f p j v p j = v := by simp [zx_u2]
theorem zx_u2_k {β : Type} {f : Nat → Nat → β} {p j i : Nat} {v : β} (h : i ≠ j) : zx_u2 f p j v p i = f p i := by simp [zx_u2, h]
theorem zx_u2_ne {β : Type} {f : Nat → Nat → β} {p j q i : Nat} {v : β} (h : ¬ (q = p ∧ i = j)) : zx_u2 f p j v q i = f q i := by simp [zx_u2, h]
theorem zx_u2_o {K : zx_Kt} {β : Type} {f : Nat → Nat → β} {p j q i a b : Nat} {v : β} (hp : (K.2 p).1 = a) (hq : (K.2 q).1 = b) (h : a ≠ b) : zx_u2 f p j v q i = f q i := by
  have : q ≠ p := fun e => h (by rw [← hp, ← hq, e])
  simp [zx_u2, this]
theorem zx_u2_a {K : zx_Kt} {β : Type} {f : Nat → Nat → β} {p j q i a n b : Nat} {v : β} (hp : K.2 p = (a, n)) (hq : (K.2 q).1 = b) (h : a ≠ b) : zx_u2 f p j v q i = f q i := zx_u2_o (a := a) (by rw [hp]) hq h
theorem zi_cpy_o {K : zx_Kt} {I : zi_I} {x p sp dp n q i a m b : Nat} (hp : K.2 p = (a, m)) (hq : (K.2 q).1 = b) (h : a ≠ b) : zi_cpy I x p sp dp n q i = I q i := by
  have : q ≠ p := fun e => h (by rw [← hq, e, hp])
  simp [zi_cpy, this]
theorem zi_getIe {l : Launch} {rm : Room} {M : zx_M} {Z : zx_Zt} {pc : Nat} {L : List (Nat × Value)} {S : List Value} {K : zx_Kt} {RJ : zx_RJ} {I : zi_I} {fl : Bool} {kc ks : Nat} {o ci j idx : Nat} {fin : Bool} {v : Int32} (f : zx_fld M.1.cls idx ci j false fin) (kd : (K.2 o).1 = ci + 5) (hci : ci < 90) (e : I o j = v) (d : decode M.2.1 pc = .ok (.getfield idx, 3)) (k : zx_X l rm M fl kc ks Z (pc + 3) L (.int v :: S) (K, I, RJ)) : zx_X l rm M fl kc ks Z pc L (.ref o :: S) (K, I, RJ) := by
  subst e
  exact zi_getI f kd hci d k
