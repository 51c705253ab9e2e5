/-! The constructors: written by wip/whole/gen/gencons.py. -/
theorem ck_d {h : zx_H} {o t : Nat} (a : (h.1.2 o).1 = t) (b : o ≤ h.1.1) : ck h o t := ⟨a, b⟩
theorem cy_getR {l : Launch} {rm : Room} {M : zx_M} {fl : Bool} {kc ks : Nat} {Z : zx_Zt} {pc : Nat} {L : List (Nat × Value)} {S : List Value} {h : zx_H} {o ci j idx v : Nat} {fin : Bool} (f : zx_fld M.1.cls idx ci j true fin) (kd : (h.1.2 o).1 = ci + 5) (hci : ci < 90) (hv : h.2.2.1 o j = v) (nz : v ≠ 0) (d : decode M.2.1 pc = .ok (.getfield idx, 3)) (k : zx_X l rm M fl kc ks Z (pc + 3) L (.ref v :: S) h) : zx_X l rm M fl kc ks Z pc L (.ref o :: S) h := zx_getR f kd hci (by rw [hv]; exact nz) d (by rw [hv]; exact k)
def mk_Row (o : Nat) (n : Nat) (N : Nat) (h : zx_H) : zx_H := (zx_upR (pu (N + 1) (zx_upI h o 1 0) (0, n)) o 0 (N + 1))
theorem ck.c_Row {o : Nat} {n : Nat} {N : Nat} {h : zx_H} {q t : Nat} (H : ck h q t) (hN : h.1.1 = N) : ck (mk_Row o n N h) q t := (H.i.p (congrArg (fun z => z + 1) hN)).r
set_option maxRecDepth 20000 in
theorem b_Row {l : Launch} {o : Nat} {n : Nat} {N : Nat} {h : zx_H} (hn : n < 2 ^ 20) (hN : h.1.1 = N) (hk : ck h o 16) : zx_CK l (zx_rm 1 1 (0 + n)) M_Row_init [.ref o, .int (nI n)] h (fun r h2 => r = none ∧ h2 = mk_Row o n N h) := by
  refine zx_CK.of (by decide +kernel) (fun _ => Nat.le_of_ble_eq_true rfl) ?_
  refine zx_aload_n d_Row_init_0 rfl ?_
  refine zx_objInit (zx_i1 37 rfl rfl) no_im no_co (Nat.le_of_ble_eq_true rfl) (Nat.le_of_ble_eq_true rfl) d_Row_init_1 ?_
  refine zx_aload_n d_Row_init_4 rfl ?_
  refine zx_iconst (v := 0) d_Row_init_5 (by decide) ?_
  refine zx_putI f_Row_7 (hk).1 (Nat.le_of_ble_eq_true rfl) d_Row_init_6 ?_
  refine zx_aload_n d_Row_init_9 rfl ?_
  refine zx_iload_n d_Row_init_10 rfl ?_
  refine cy_newA (tag := 0) (n := n) (N := (N + 1)) na_int (congrArg (fun z => z + 1) hN) rfl hn (by simp) (Nat.le_of_ble_eq_true rfl) (by show 0 + n ≤ 0 + n; omega) d_Row_init_11 ?_
  refine cy_putF f_Row_13 nw_Row rfl (zx_i1 38 rfl rfl) (hk.i.p (congrArg (fun z => z + 1) hN)) (Nat.le_of_ble_eq_true rfl) (Nat.succ_ne_zero _) rfl d_Row_init_13 ?_
  exact zx_toA (zx_vret d_Row_init_16 rfl ⟨rfl, rfl⟩ (Nat.le_of_ble_eq_true rfl) (by show 0 + n ≤ 0 + n; omega) (fun _ => rfl))
def mk_MoveList (o : Nat) (N : Nat) (h : zx_H) : zx_H := (zx_upI (zx_upR (pu (N + 1) h (0, 256)) o 0 (N + 1)) o 1 0)
theorem ck.c_MoveList {o : Nat} {N : Nat} {h : zx_H} {q t : Nat} (H : ck h q t) (hN : h.1.1 = N) : ck (mk_MoveList o N h) q t := (H.p (congrArg (fun z => z + 1) hN)).r.i
set_option maxRecDepth 20000 in
theorem b_MoveList {l : Launch} {o : Nat} {N : Nat} {h : zx_H} (hN : h.1.1 = N) (hk : ck h o 14) : zx_CK l (zx_rm 1 1 (256)) M_MoveList_init [.ref o] h (fun r h2 => r = none ∧ h2 = mk_MoveList o N h) := by
  refine zx_CK.of (by decide +kernel) (fun _ => Nat.le_of_ble_eq_true rfl) ?_
  refine zx_aload_n d_MoveList_init_0 rfl ?_
  refine zx_objInit (zx_i1 83 rfl rfl) no_im no_co (Nat.le_of_ble_eq_true rfl) (Nat.le_of_ble_eq_true rfl) d_MoveList_init_1 ?_
  refine zx_aload_n d_MoveList_init_4 rfl ?_
  refine zx_sipush (v := (nI 256)) d_MoveList_init_5 (by decide) ?_
  refine cy_newA (tag := 0) (n := 256) (N := (N + 1)) na_int (congrArg (fun z => z + 1) hN) rfl (by decide) (by simp) (Nat.le_of_ble_eq_true rfl) (Nat.le_of_ble_eq_true rfl) d_MoveList_init_8 ?_
  refine cy_putF f_MoveList_9 nw_MoveList rfl (zx_i1 84 rfl rfl) (hk.p (congrArg (fun z => z + 1) hN)) (Nat.le_of_ble_eq_true rfl) (Nat.succ_ne_zero _) rfl d_MoveList_init_10 ?_
  refine zx_aload_n d_MoveList_init_13 rfl ?_
  refine zx_iconst (v := 0) d_MoveList_init_14 (by decide) ?_
  refine zx_putI f_MoveList_15 ((hk.p (congrArg (fun z => z + 1) hN)).r).1 (Nat.le_of_ble_eq_true rfl) d_MoveList_init_15 ?_
  exact zx_toA (zx_vret d_MoveList_init_18 rfl ⟨rfl, rfl⟩ (Nat.le_of_ble_eq_true rfl) (Nat.le_of_ble_eq_true rfl) (fun _ => rfl))
def mk_Codes (o : Nat) (n : Nat) (N : Nat) (h : zx_H) : zx_H := (zx_upR (pu (N + 5) (zx_upR (pu (N + 4) (zx_upR (pu (N + 3) (zx_upR (pu (N + 2) (zx_upR (pu (N + 1) h (0, 13)) o 0 (N + 1)) (0, 13)) o 1 (N + 2)) (0, 13)) o 2 (N + 3)) (0, n)) o 3 (N + 4)) (0, n)) o 4 (N + 5))
theorem ck.c_Codes {o : Nat} {n : Nat} {N : Nat} {h : zx_H} {q t : Nat} (H : ck h q t) (hN : h.1.1 = N) : ck (mk_Codes o n N h) q t := (((((H.p (congrArg (fun z => z + 1) hN)).r.p rfl).r.p rfl).r.p rfl).r.p rfl).r
set_option maxRecDepth 20000 in
theorem b_Codes {l : Launch} {o : Nat} {n : Nat} {N : Nat} {h : zx_H} (hn : n < 2 ^ 20) (hN : h.1.1 = N) (hk : ck h o 13) : zx_CK l (zx_rm 1 5 (39 + n + n)) M_Codes_init [.ref o, .int (nI n)] h (fun r h2 => r = none ∧ h2 = mk_Codes o n N h) := by
  refine zx_CK.of (by decide +kernel) (fun _ => Nat.le_of_ble_eq_true rfl) ?_
  refine zx_aload_n d_Codes_init_0 rfl ?_
  refine zx_objInit (zx_i1 97 rfl rfl) no_im no_co (Nat.le_of_ble_eq_true rfl) (Nat.le_of_ble_eq_true rfl) d_Codes_init_1 ?_
  refine zx_aload_n d_Codes_init_4 rfl ?_
  refine zx_bipush (v := (nI 13)) d_Codes_init_5 (by decide) ?_
  refine cy_newA (tag := 0) (n := 13) (N := (N + 1)) na_int (congrArg (fun z => z + 1) hN) rfl (by decide) (by simp) (Nat.le_of_ble_eq_true rfl) (by show 13 ≤ 39 + n + n; omega) d_Codes_init_7 ?_
  refine cy_putF f_Codes_9 nw_Codes rfl (zx_i1 98 rfl rfl) (hk.p (congrArg (fun z => z + 1) hN)) (Nat.le_of_ble_eq_true rfl) (Nat.succ_ne_zero _) rfl d_Codes_init_9 ?_
  refine zx_aload_n d_Codes_init_12 rfl ?_
  refine zx_bipush (v := (nI 13)) d_Codes_init_13 (by decide) ?_
  refine cy_newA (tag := 0) (n := 13) (N := (N + 2)) na_int rfl rfl (by decide) (by simp) (Nat.le_of_ble_eq_true rfl) (by show 26 ≤ 39 + n + n; omega) d_Codes_init_15 ?_
  refine cy_putF f_Codes_15 nw_Codes rfl (zx_i1 99 rfl rfl) ((hk.p (congrArg (fun z => z + 1) hN)).r.p rfl) (Nat.le_of_ble_eq_true rfl) (Nat.succ_ne_zero _) rfl d_Codes_init_17 ?_
  refine zx_aload_n d_Codes_init_20 rfl ?_
  refine zx_bipush (v := (nI 13)) d_Codes_init_21 (by decide) ?_
  refine cy_newA (tag := 0) (n := 13) (N := (N + 3)) na_int rfl rfl (by decide) (by simp) (Nat.le_of_ble_eq_true rfl) (by show 39 ≤ 39 + n + n; omega) d_Codes_init_23 ?_
  refine cy_putF f_Codes_18 nw_Codes rfl (zx_i1 100 rfl rfl) (((hk.p (congrArg (fun z => z + 1) hN)).r.p rfl).r.p rfl) (Nat.le_of_ble_eq_true rfl) (Nat.succ_ne_zero _) rfl d_Codes_init_25 ?_
  refine zx_aload_n d_Codes_init_28 rfl ?_
  refine zx_iload_n d_Codes_init_29 rfl ?_
  refine cy_newA (tag := 0) (n := n) (N := (N + 4)) na_int rfl rfl hn (by simp) (Nat.le_of_ble_eq_true rfl) (by show 39 + n ≤ 39 + n + n; omega) d_Codes_init_30 ?_
  refine cy_putF f_Codes_21 nw_Codes rfl (zx_i1 101 rfl rfl) ((((hk.p (congrArg (fun z => z + 1) hN)).r.p rfl).r.p rfl).r.p rfl) (Nat.le_of_ble_eq_true rfl) (Nat.succ_ne_zero _) rfl d_Codes_init_32 ?_
  refine zx_aload_n d_Codes_init_35 rfl ?_
  refine zx_iload_n d_Codes_init_36 rfl ?_
  refine cy_newA (tag := 0) (n := n) (N := (N + 5)) na_int rfl rfl hn (by simp) (Nat.le_of_ble_eq_true rfl) (by show 39 + n + n ≤ 39 + n + n; omega) d_Codes_init_37 ?_
  refine cy_putF f_Codes_24 nw_Codes rfl (zx_i1 102 rfl rfl) (((((hk.p (congrArg (fun z => z + 1) hN)).r.p rfl).r.p rfl).r.p rfl).r.p rfl) (Nat.le_of_ble_eq_true rfl) (Nat.succ_ne_zero _) rfl d_Codes_init_39 ?_
  exact zx_toA (zx_vret d_Codes_init_42 rfl ⟨rfl, rfl⟩ (Nat.le_of_ble_eq_true rfl) (by show 39 + n + n ≤ 39 + n + n; omega) (fun _ => rfl))
def mk_Trees (o : Nat) (N : Nat) (h : zx_H) : zx_H := (zx_upI (zx_upI (zx_upI (zx_upR (pu (N + 4) (zx_upR (pu (N + 3) (zx_upR (pu (N + 2) (zx_upR (pu (N + 1) h (0, 132)) o 0 (N + 1)) (0, 132)) o 1 (N + 2)) (0, 132)) o 2 (N + 3)) (0, 66)) o 3 (N + 4)) o 4 0) o 5 0) o 6 0)
theorem ck.c_Trees {o : Nat} {N : Nat} {h : zx_H} {q t : Nat} (H : ck h q t) (hN : h.1.1 = N) : ck (mk_Trees o N h) q t := ((((H.p (congrArg (fun z => z + 1) hN)).r.p rfl).r.p rfl).r.p rfl).r.i.i.i
set_option maxRecDepth 20000 in
theorem b_Trees {l : Launch} {o : Nat} {N : Nat} {h : zx_H} (hN : h.1.1 = N) (hk : ck h o 17) : zx_CK l (zx_rm 1 4 (462)) M_Trees_init [.ref o] h (fun r h2 => r = none ∧ h2 = mk_Trees o N h) := by
  refine zx_CK.of (by decide +kernel) (fun _ => Nat.le_of_ble_eq_true rfl) ?_
  refine zx_aload_n d_Trees_init_0 rfl ?_
  refine zx_objInit (zx_i1 152 rfl rfl) no_im no_co (Nat.le_of_ble_eq_true rfl) (Nat.le_of_ble_eq_true rfl) d_Trees_init_1 ?_
  refine zx_aload_n d_Trees_init_4 rfl ?_
  refine zx_sipush (v := (nI 132)) d_Trees_init_5 (by decide) ?_
  refine cy_newA (tag := 0) (n := 132) (N := (N + 1)) na_int (congrArg (fun z => z + 1) hN) rfl (by decide) (by simp) (Nat.le_of_ble_eq_true rfl) (Nat.le_of_ble_eq_true rfl) d_Trees_init_8 ?_
  refine cy_putF f_Trees_11 nw_Trees rfl (zx_i1 153 rfl rfl) (hk.p (congrArg (fun z => z + 1) hN)) (Nat.le_of_ble_eq_true rfl) (Nat.succ_ne_zero _) rfl d_Trees_init_10 ?_
  refine zx_aload_n d_Trees_init_13 rfl ?_
  refine zx_sipush (v := (nI 132)) d_Trees_init_14 (by decide) ?_
  refine cy_newA (tag := 0) (n := 132) (N := (N + 2)) na_int rfl rfl (by decide) (by simp) (Nat.le_of_ble_eq_true rfl) (Nat.le_of_ble_eq_true rfl) d_Trees_init_17 ?_
  refine cy_putF f_Trees_15 nw_Trees rfl (zx_i1 154 rfl rfl) ((hk.p (congrArg (fun z => z + 1) hN)).r.p rfl) (Nat.le_of_ble_eq_true rfl) (Nat.succ_ne_zero _) rfl d_Trees_init_19 ?_
  refine zx_aload_n d_Trees_init_22 rfl ?_
  refine zx_sipush (v := (nI 132)) d_Trees_init_23 (by decide) ?_
  refine cy_newA (tag := 0) (n := 132) (N := (N + 3)) na_int rfl rfl (by decide) (by simp) (Nat.le_of_ble_eq_true rfl) (Nat.le_of_ble_eq_true rfl) d_Trees_init_26 ?_
  refine cy_putF f_Trees_18 nw_Trees rfl (zx_i1 155 rfl rfl) (((hk.p (congrArg (fun z => z + 1) hN)).r.p rfl).r.p rfl) (Nat.le_of_ble_eq_true rfl) (Nat.succ_ne_zero _) rfl d_Trees_init_28 ?_
  refine zx_aload_n d_Trees_init_31 rfl ?_
  refine zx_bipush (v := (nI 66)) d_Trees_init_32 (by decide) ?_
  refine cy_newA (tag := 0) (n := 66) (N := (N + 4)) na_int rfl rfl (by decide) (by simp) (Nat.le_of_ble_eq_true rfl) (Nat.le_of_ble_eq_true rfl) d_Trees_init_34 ?_
  refine cy_putF f_Trees_21 nw_Trees rfl (zx_i1 156 rfl rfl) ((((hk.p (congrArg (fun z => z + 1) hN)).r.p rfl).r.p rfl).r.p rfl) (Nat.le_of_ble_eq_true rfl) (Nat.succ_ne_zero _) rfl d_Trees_init_36 ?_
  refine zx_aload_n d_Trees_init_39 rfl ?_
  refine zx_iconst (v := 0) d_Trees_init_40 (by decide) ?_
  refine zx_putI f_Trees_24 (((((hk.p (congrArg (fun z => z + 1) hN)).r.p rfl).r.p rfl).r.p rfl).r).1 (Nat.le_of_ble_eq_true rfl) d_Trees_init_41 ?_
  refine zx_aload_n d_Trees_init_44 rfl ?_
  refine zx_iconst (v := 0) d_Trees_init_45 (by decide) ?_
  refine zx_putI f_Trees_28 (((((hk.p (congrArg (fun z => z + 1) hN)).r.p rfl).r.p rfl).r.p rfl).r.i).1 (Nat.le_of_ble_eq_true rfl) d_Trees_init_46 ?_
  refine zx_aload_n d_Trees_init_49 rfl ?_
  refine zx_iconst (v := 0) d_Trees_init_50 (by decide) ?_
  refine zx_putI f_Trees_31 (((((hk.p (congrArg (fun z => z + 1) hN)).r.p rfl).r.p rfl).r.p rfl).r.i.i).1 (Nat.le_of_ble_eq_true rfl) d_Trees_init_51 ?_
  exact zx_toA (zx_vret d_Trees_init_54 rfl ⟨rfl, rfl⟩ (Nat.le_of_ble_eq_true rfl) (Nat.le_of_ble_eq_true rfl) (fun _ => rfl))
def mk_Block (o : Nat) (N : Nat) (h : zx_H) : zx_H := (zx_upR (pu (N + 10) (zx_upI (zx_upR (pm (N + 5) (zx_upI (zx_upR (pu (N + 4) (zx_upI (zx_upR (pu (N + 3) (zx_upI (zx_upR (pu (N + 2) (zx_upR (pu (N + 1) (zx_upI (zx_upI (zx_upI h o 0 0) o 1 0) o 2 0) (0, 64)) o 3 (N + 1)) (0, 64)) o 4 (N + 2)) o 5 0) (0, 256)) o 6 (N + 3)) o 7 0) (0, 65)) o 8 (N + 4)) o 9 0)) o 10 (N + 5)) o 11 0) (0, 63)) o 12 (N + 10))
theorem ck.c_Block {o : Nat} {N : Nat} {h : zx_H} {q t : Nat} (H : ck h q t) (hN : h.1.1 = N) : ck (mk_Block o N h) q t := ((((((H.i.i.i.p (congrArg (fun z => z + 1) hN)).r.p rfl).r.i.p rfl).r.i.p rfl).r.i.m rfl).r.i.p rfl).r
set_option maxRecDepth 20000 in
theorem b_Block {l : Launch} {o : Nat} {N : Nat} {h : zx_H} (hN : h.1.1 = N) (hk : ck h o 9) : zx_CK l (zx_rm 1 10 (1548)) M_Block_init [.ref o] h (fun r h2 => r = none ∧ h2 = mk_Block o N h) := by
  refine zx_CK.of (by decide +kernel) (fun _ => Nat.le_of_ble_eq_true rfl) ?_
  refine zx_aload_n d_Block_init_0 rfl ?_
  refine zx_objInit (zx_i1 239 rfl rfl) no_im no_co (Nat.le_of_ble_eq_true rfl) (Nat.le_of_ble_eq_true rfl) d_Block_init_1 ?_
  refine zx_aload_n d_Block_init_4 rfl ?_
  refine zx_iconst (v := 0) d_Block_init_5 (by decide) ?_
  refine zx_putI f_Block_9 (hk).1 (Nat.le_of_ble_eq_true rfl) d_Block_init_6 ?_
  refine zx_aload_n d_Block_init_9 rfl ?_
  refine zx_iconst (v := 0) d_Block_init_10 (by decide) ?_
  refine zx_putI f_Block_15 (hk.i).1 (Nat.le_of_ble_eq_true rfl) d_Block_init_11 ?_
  refine zx_aload_n d_Block_init_14 rfl ?_
  refine zx_iconst (v := 0) d_Block_init_15 (by decide) ?_
  refine zx_putI f_Block_18 (hk.i.i).1 (Nat.le_of_ble_eq_true rfl) d_Block_init_16 ?_
  refine zx_aload_n d_Block_init_19 rfl ?_
  refine zx_bipush (v := (nI 64)) d_Block_init_20 (by decide) ?_
  refine cy_newA (tag := 0) (n := 64) (N := (N + 1)) na_int (congrArg (fun z => z + 1) hN) rfl (by decide) (by simp) (Nat.le_of_ble_eq_true rfl) (Nat.le_of_ble_eq_true rfl) d_Block_init_22 ?_
  refine cy_putF f_Block_21 nw_Block rfl (zx_i2 16 rfl rfl) (hk.i.i.i.p (congrArg (fun z => z + 1) hN)) (Nat.le_of_ble_eq_true rfl) (Nat.succ_ne_zero _) rfl d_Block_init_24 ?_
  refine zx_aload_n d_Block_init_27 rfl ?_
  refine zx_bipush (v := (nI 64)) d_Block_init_28 (by decide) ?_
  refine cy_newA (tag := 0) (n := 64) (N := (N + 2)) na_int rfl rfl (by decide) (by simp) (Nat.le_of_ble_eq_true rfl) (Nat.le_of_ble_eq_true rfl) d_Block_init_30 ?_
  refine cy_putF f_Block_25 nw_Block rfl (zx_i2 19 rfl rfl) ((hk.i.i.i.p (congrArg (fun z => z + 1) hN)).r.p rfl) (Nat.le_of_ble_eq_true rfl) (Nat.succ_ne_zero _) rfl d_Block_init_32 ?_
  refine zx_aload_n d_Block_init_35 rfl ?_
  refine zx_iconst (v := 0) d_Block_init_36 (by decide) ?_
  refine zx_putI f_Block_28 (((hk.i.i.i.p (congrArg (fun z => z + 1) hN)).r.p rfl).r).1 (Nat.le_of_ble_eq_true rfl) d_Block_init_37 ?_
  refine zx_aload_n d_Block_init_40 rfl ?_
  refine zx_sipush (v := (nI 256)) d_Block_init_41 (by decide) ?_
  refine cy_newA (tag := 0) (n := 256) (N := (N + 3)) na_int rfl rfl (by decide) (by simp) (Nat.le_of_ble_eq_true rfl) (Nat.le_of_ble_eq_true rfl) d_Block_init_44 ?_
  refine cy_putF f_Block_31 nw_Block rfl (zx_i2 27 rfl rfl) (((hk.i.i.i.p (congrArg (fun z => z + 1) hN)).r.p rfl).r.i.p rfl) (Nat.le_of_ble_eq_true rfl) (Nat.succ_ne_zero _) rfl d_Block_init_46 ?_
  refine zx_aload_n d_Block_init_49 rfl ?_
  refine zx_iconst (v := 0) d_Block_init_50 (by decide) ?_
  refine zx_putI f_Block_34 ((((hk.i.i.i.p (congrArg (fun z => z + 1) hN)).r.p rfl).r.i.p rfl).r).1 (Nat.le_of_ble_eq_true rfl) d_Block_init_51 ?_
  refine zx_aload_n d_Block_init_54 rfl ?_
  refine zx_bipush (v := (nI 65)) d_Block_init_55 (by decide) ?_
  refine cy_newA (tag := 0) (n := 65) (N := (N + 4)) na_int rfl rfl (by decide) (by simp) (Nat.le_of_ble_eq_true rfl) (Nat.le_of_ble_eq_true rfl) d_Block_init_57 ?_
  refine cy_putF f_Block_37 nw_Block rfl (zx_i2 37 rfl rfl) ((((hk.i.i.i.p (congrArg (fun z => z + 1) hN)).r.p rfl).r.i.p rfl).r.i.p rfl) (Nat.le_of_ble_eq_true rfl) (Nat.succ_ne_zero _) rfl d_Block_init_59 ?_
  refine zx_aload_n d_Block_init_62 rfl ?_
  refine zx_iconst (v := 0) d_Block_init_63 (by decide) ?_
  refine zx_putI f_Block_40 (((((hk.i.i.i.p (congrArg (fun z => z + 1) hN)).r.p rfl).r.i.p rfl).r.i.p rfl).r).1 (Nat.le_of_ble_eq_true rfl) d_Block_init_64 ?_
  refine zx_aload_n d_Block_init_67 rfl ?_
  refine zx_iconst (v := (nI 4)) d_Block_init_68 (by decide) ?_
  refine zx_sipush (v := (nI 258)) d_Block_init_69 (by decide) ?_
  refine cy_multi (N := (N + 5)) rfl (zx_i2 0 rfl rfl) na_int (Nat.le_of_ble_eq_true rfl) (Nat.le_of_ble_eq_true rfl) d_Block_init_72 ?_
  refine cy_putF f_Block_45 nw_Block rfl (zx_i2 46 rfl rfl) (((((hk.i.i.i.p (congrArg (fun z => z + 1) hN)).r.p rfl).r.i.p rfl).r.i.p rfl).r.i.m rfl) (Nat.le_of_ble_eq_true rfl) (Nat.succ_ne_zero _) rfl d_Block_init_76 ?_
  refine zx_aload_n d_Block_init_79 rfl ?_
  refine zx_iconst (v := 0) d_Block_init_80 (by decide) ?_
  refine zx_putI f_Block_48 ((((((hk.i.i.i.p (congrArg (fun z => z + 1) hN)).r.p rfl).r.i.p rfl).r.i.p rfl).r.i.m rfl).r).1 (Nat.le_of_ble_eq_true rfl) d_Block_init_81 ?_
  refine zx_aload_n d_Block_init_84 rfl ?_
  refine zx_bipush (v := (nI 63)) d_Block_init_85 (by decide) ?_
  refine cy_newA (tag := 0) (n := 63) (N := (N + 10)) na_int rfl rfl (by decide) (by simp) (Nat.le_of_ble_eq_true rfl) (Nat.le_of_ble_eq_true rfl) d_Block_init_87 ?_
  refine cy_putF f_Block_51 nw_Block rfl (zx_i2 56 rfl rfl) ((((((hk.i.i.i.p (congrArg (fun z => z + 1) hN)).r.p rfl).r.i.p rfl).r.i.p rfl).r.i.m rfl).r.i.p rfl) (Nat.le_of_ble_eq_true rfl) (Nat.succ_ne_zero _) rfl d_Block_init_89 ?_
  exact zx_toA (zx_vret d_Block_init_92 rfl ⟨rfl, rfl⟩ (Nat.le_of_ble_eq_true rfl) (Nat.le_of_ble_eq_true rfl) (fun _ => rfl))
def mk_BitReader (o : Nat) (x : Nat) (h : zx_H) : zx_H := (zx_upR (zx_upI (zx_upI h o 1 0) o 2 0) o 0 x)
theorem ck.c_BitReader {o : Nat} {x : Nat} {h : zx_H} {q t : Nat} (H : ck h q t) : ck (mk_BitReader o x h) q t := H.i.i.r
set_option maxRecDepth 20000 in
theorem b_BitReader {l : Launch} {o : Nat} {x : Nat} {h : zx_H} (hk : ck h o 7) (hz : x ≠ 0) : zx_CK l (zx_rm 1 0 (0)) M_BitReader_init [.ref o, .ref x] h (fun r h2 => r = none ∧ h2 = mk_BitReader o x h) := by
  refine zx_CK.of (by decide +kernel) (fun _ => Nat.le_of_ble_eq_true rfl) ?_
  refine zx_aload_n d_BitReader_init_0 rfl ?_
  refine zx_objInit (zx_i1 57 rfl rfl) no_im no_co (Nat.le_of_ble_eq_true rfl) (Nat.le_of_ble_eq_true rfl) d_BitReader_init_1 ?_
  refine zx_aload_n d_BitReader_init_4 rfl ?_
  refine zx_iconst (v := 0) d_BitReader_init_5 (by decide) ?_
  refine zx_putI f_BitReader_9 (hk).1 (Nat.le_of_ble_eq_true rfl) d_BitReader_init_6 ?_
  refine zx_aload_n d_BitReader_init_9 rfl ?_
  refine zx_iconst (v := 0) d_BitReader_init_10 (by decide) ?_
  refine zx_putI f_BitReader_15 (hk.i).1 (Nat.le_of_ble_eq_true rfl) d_BitReader_init_11 ?_
  refine zx_aload_n d_BitReader_init_14 rfl ?_
  refine zx_aload_n d_BitReader_init_15 rfl ?_
  refine cy_putF f_BitReader_18 nw_BitReader rfl (zx_i1 58 rfl rfl) hk.i.i (Nat.le_of_ble_eq_true rfl) hz rfl d_BitReader_init_16 ?_
  exact zx_toA (zx_vret d_BitReader_init_19 rfl ⟨rfl, rfl⟩ (Nat.le_of_ble_eq_true rfl) (Nat.le_of_ble_eq_true rfl) (fun _ => rfl))
def mk_BitWriter (o : Nat) (x : Nat) (h : zx_H) : zx_H := (zx_upR (zx_upI (zx_upI h o 1 0) o 2 0) o 0 x)
theorem ck.c_BitWriter {o : Nat} {x : Nat} {h : zx_H} {q t : Nat} (H : ck h q t) : ck (mk_BitWriter o x h) q t := H.i.i.r
set_option maxRecDepth 20000 in
theorem b_BitWriter {l : Launch} {o : Nat} {x : Nat} {h : zx_H} (hk : ck h o 8) (hz : x ≠ 0) : zx_CK l (zx_rm 1 0 (0)) M_BitWriter_init [.ref o, .ref x] h (fun r h2 => r = none ∧ h2 = mk_BitWriter o x h) := by
  refine zx_CK.of (by decide +kernel) (fun _ => Nat.le_of_ble_eq_true rfl) ?_
  refine zx_aload_n d_BitWriter_init_0 rfl ?_
  refine zx_objInit (zx_i1 209 rfl rfl) no_im no_co (Nat.le_of_ble_eq_true rfl) (Nat.le_of_ble_eq_true rfl) d_BitWriter_init_1 ?_
  refine zx_aload_n d_BitWriter_init_4 rfl ?_
  refine zx_iconst (v := 0) d_BitWriter_init_5 (by decide) ?_
  refine zx_putI f_BitWriter_7 (hk).1 (Nat.le_of_ble_eq_true rfl) d_BitWriter_init_6 ?_
  refine zx_aload_n d_BitWriter_init_9 rfl ?_
  refine zx_iconst (v := 0) d_BitWriter_init_10 (by decide) ?_
  refine zx_putI f_BitWriter_13 (hk.i).1 (Nat.le_of_ble_eq_true rfl) d_BitWriter_init_11 ?_
  refine zx_aload_n d_BitWriter_init_14 rfl ?_
  refine zx_aload_n d_BitWriter_init_15 rfl ?_
  refine cy_putF f_BitWriter_16 nw_BitWriter rfl (zx_i1 210 rfl rfl) hk.i.i (Nat.le_of_ble_eq_true rfl) hz rfl d_BitWriter_init_16 ?_
  exact zx_toA (zx_vret d_BitWriter_init_19 rfl ⟨rfl, rfl⟩ (Nat.le_of_ble_eq_true rfl) (Nat.le_of_ble_eq_true rfl) (fun _ => rfl))
def mk_Picker (o : Nat) (N : Nat) (h : zx_H) : zx_H := (zx_upR (pu (N + 6) (zx_upR (mk_Trees (N + 1) (N + 1) (pu (N + 1) h (17, 0))) o 0 (N + 1)) (0, 66)) o 1 (N + 6))
theorem ck.c_Picker {o : Nat} {N : Nat} {h : zx_H} {q t : Nat} (H : ck h q t) (hN : h.1.1 = N) : ck (mk_Picker o N h) q t := (((H.p (congrArg (fun z => z + 1) hN)).c_Trees rfl).r.p rfl).r
set_option maxRecDepth 20000 in
theorem b_Picker {l : Launch} {o : Nat} {N : Nat} {h : zx_H} (hN : h.1.1 = N) (hk : ck h o 15) : zx_CK l (zx_rm 2 6 (535)) M_Picker_init [.ref o] h (fun r h2 => r = none ∧ h2 = mk_Picker o N h) := by
  refine zx_CK.of (by decide +kernel) (fun _ => Nat.le_of_ble_eq_true rfl) ?_
  refine zx_aload_n d_Picker_init_0 rfl ?_
  refine zx_objInit (zx_i1 146 rfl rfl) no_im no_co (Nat.le_of_ble_eq_true rfl) (Nat.le_of_ble_eq_true rfl) d_Picker_init_1 ?_
  refine zx_aload_n d_Picker_init_4 rfl ?_
  refine cy_new (N := (N + 1)) nw_Trees (congrArg (fun z => z + 1) hN) (zx_i1 147 rfl rfl) (Nat.le_of_ble_eq_true rfl) (Nat.le_of_ble_eq_true rfl) d_Picker_init_5 ?_
  refine zx_dup_a d_Picker_init_8 ?_
  refine cy_call (b_Trees rfl ck.n) kk_Picker_11 rfl rfl rfl rfl (Nat.le_of_ble_eq_true rfl) ⟨(Nat.le_of_ble_eq_true rfl), (Nat.le_of_ble_eq_true rfl)⟩ ⟨(Nat.le_of_ble_eq_true rfl), (Nat.le_of_ble_eq_true rfl)⟩ d_Picker_init_9 ?_
  refine cy_putF f_Picker_12 nw_Picker rfl (zx_i1 175 rfl rfl) ((hk.p (congrArg (fun z => z + 1) hN)).c_Trees rfl) (Nat.le_of_ble_eq_true rfl) (Nat.succ_ne_zero _) rfl d_Picker_init_12 ?_
  refine zx_aload_n d_Picker_init_15 rfl ?_
  refine zx_bipush (v := (nI 66)) d_Picker_init_16 (by decide) ?_
  refine cy_newA (tag := 0) (n := 66) (N := (N + 6)) na_int rfl rfl (by decide) (by simp) (Nat.le_of_ble_eq_true rfl) (Nat.le_of_ble_eq_true rfl) d_Picker_init_18 ?_
  refine cy_putF f_Picker_18 nw_Picker rfl (zx_i1 176 rfl rfl) (((hk.p (congrArg (fun z => z + 1) hN)).c_Trees rfl).r.p rfl) (Nat.le_of_ble_eq_true rfl) (Nat.succ_ne_zero _) rfl d_Picker_init_20 ?_
  exact zx_toA (zx_vret d_Picker_init_23 rfl ⟨rfl, rfl⟩ (Nat.le_of_ble_eq_true rfl) (Nat.le_of_ble_eq_true rfl) (fun _ => rfl))
def mk_BlockMaker (o : Nat) (N : Nat) (h : zx_H) : zx_H := (zx_upR (mk_Picker (N + 5) (N + 5) (pu (N + 5) (zx_upR (mk_MoveList (N + 3) (N + 3) (pu (N + 3) (zx_upR (pu (N + 2) (zx_upR (pu (N + 1) h (0, 64)) o 0 (N + 1)) (0, 256)) o 1 (N + 2)) (14, 0))) o 2 (N + 3)) (15, 0))) o 3 (N + 5))
theorem ck.c_BlockMaker {o : Nat} {N : Nat} {h : zx_H} {q t : Nat} (H : ck h q t) (hN : h.1.1 = N) : ck (mk_BlockMaker o N h) q t := ((((((H.p (congrArg (fun z => z + 1) hN)).r.p rfl).r.p rfl).c_MoveList rfl).r.p rfl).c_Picker rfl).r
set_option maxRecDepth 20000 in
theorem b_BlockMaker {l : Launch} {o : Nat} {N : Nat} {h : zx_H} (hN : h.1.1 = N) (hk : ck h o 10) : zx_CK l (zx_rm 3 11 (1115)) M_BlockMaker_init [.ref o] h (fun r h2 => r = none ∧ h2 = mk_BlockMaker o N h) := by
  refine zx_CK.of (by decide +kernel) (fun _ => Nat.le_of_ble_eq_true rfl) ?_
  refine zx_aload_n d_BlockMaker_init_0 rfl ?_
  refine zx_objInit (zx_i1 138 rfl rfl) no_im no_co (Nat.le_of_ble_eq_true rfl) (Nat.le_of_ble_eq_true rfl) d_BlockMaker_init_1 ?_
  refine zx_aload_n d_BlockMaker_init_4 rfl ?_
  refine zx_bipush (v := (nI 64)) d_BlockMaker_init_5 (by decide) ?_
  refine cy_newA (tag := 0) (n := 64) (N := (N + 1)) na_int (congrArg (fun z => z + 1) hN) rfl (by decide) (by simp) (Nat.le_of_ble_eq_true rfl) (Nat.le_of_ble_eq_true rfl) d_BlockMaker_init_7 ?_
  refine cy_putF f_BlockMaker_9 nw_BlockMaker rfl (zx_i1 182 rfl rfl) (hk.p (congrArg (fun z => z + 1) hN)) (Nat.le_of_ble_eq_true rfl) (Nat.succ_ne_zero _) rfl d_BlockMaker_init_9 ?_
  refine zx_aload_n d_BlockMaker_init_12 rfl ?_
  refine zx_sipush (v := (nI 256)) d_BlockMaker_init_13 (by decide) ?_
  refine cy_newA (tag := 0) (n := 256) (N := (N + 2)) na_int rfl rfl (by decide) (by simp) (Nat.le_of_ble_eq_true rfl) (Nat.le_of_ble_eq_true rfl) d_BlockMaker_init_16 ?_
  refine cy_putF f_BlockMaker_15 nw_BlockMaker rfl (zx_i1 183 rfl rfl) ((hk.p (congrArg (fun z => z + 1) hN)).r.p rfl) (Nat.le_of_ble_eq_true rfl) (Nat.succ_ne_zero _) rfl d_BlockMaker_init_18 ?_
  refine zx_aload_n d_BlockMaker_init_21 rfl ?_
  refine cy_new (N := (N + 3)) nw_MoveList rfl (zx_i1 139 rfl rfl) (Nat.le_of_ble_eq_true rfl) (Nat.le_of_ble_eq_true rfl) d_BlockMaker_init_22 ?_
  refine zx_dup_a d_BlockMaker_init_25 ?_
  refine cy_call (b_MoveList rfl ck.n) kk_BlockMaker_20 rfl rfl rfl rfl (Nat.le_of_ble_eq_true rfl) ⟨(Nat.le_of_ble_eq_true rfl), (Nat.le_of_ble_eq_true rfl)⟩ ⟨(Nat.le_of_ble_eq_true rfl), (Nat.le_of_ble_eq_true rfl)⟩ d_BlockMaker_init_26 ?_
  refine cy_putF f_BlockMaker_21 nw_BlockMaker rfl (zx_i1 184 rfl rfl) ((((hk.p (congrArg (fun z => z + 1) hN)).r.p rfl).r.p rfl).c_MoveList rfl) (Nat.le_of_ble_eq_true rfl) (Nat.succ_ne_zero _) rfl d_BlockMaker_init_29 ?_
  refine zx_aload_n d_BlockMaker_init_32 rfl ?_
  refine cy_new (N := (N + 5)) nw_Picker rfl (zx_i1 141 rfl rfl) (Nat.le_of_ble_eq_true rfl) (Nat.le_of_ble_eq_true rfl) d_BlockMaker_init_33 ?_
  refine zx_dup_a d_BlockMaker_init_36 ?_
  refine cy_call (b_Picker rfl ck.n) kk_BlockMaker_27 rfl rfl rfl rfl (Nat.le_of_ble_eq_true rfl) ⟨(Nat.le_of_ble_eq_true rfl), (Nat.le_of_ble_eq_true rfl)⟩ ⟨(Nat.le_of_ble_eq_true rfl), (Nat.le_of_ble_eq_true rfl)⟩ d_BlockMaker_init_37 ?_
  refine cy_putF f_BlockMaker_28 nw_BlockMaker rfl (zx_i1 185 rfl rfl) ((((((hk.p (congrArg (fun z => z + 1) hN)).r.p rfl).r.p rfl).c_MoveList rfl).r.p rfl).c_Picker rfl) (Nat.le_of_ble_eq_true rfl) (Nat.succ_ne_zero _) rfl d_BlockMaker_init_40 ?_
  exact zx_toA (zx_vret d_BlockMaker_init_43 rfl ⟨rfl, rfl⟩ (Nat.le_of_ble_eq_true rfl) (Nat.le_of_ble_eq_true rfl) (fun _ => rfl))
def mk_Mod (o : Nat) (N : Nat) (h : zx_H) : zx_H := (zx_upR (pu (N + 20) (zx_upR (pu (N + 19) (zx_upR (pu (N + 18) (zx_upR (pu (N + 17) (zx_upR (pu (N + 16) (zx_upR (pu (N + 15) (zx_upR (pu (N + 14) (zx_upR (pu (N + 13) (zx_upR (pu (N + 12) (zx_upR (pu (N + 11) (zx_upR (pu (N + 10) (zx_upR (pu (N + 9) (zx_upR (pu (N + 8) (zx_upR (pu (N + 7) (zx_upR (pu (N + 6) (zx_upR (pu (N + 5) (zx_upR (pu (N + 4) (zx_upI (zx_upR (pu (N + 3) (zx_upR (pu (N + 2) (zx_upR (pu (N + 1) h (0, 400)) o 2 (N + 1)) (0, 8000)) o 4 (N + 2)) (0, 8000)) o 6 (N + 3)) o 10 (-1)) (0, 3600)) o 13 (N + 4)) (0, 80)) o 15 (N + 5)) (0, 80)) o 16 (N + 6)) (0, 80)) o 18 (N + 7)) (1, 256)) o 23 (N + 8)) (0, 256)) o 24 (N + 9)) (0, 1040)) o 26 (N + 10)) (0, 1040)) o 27 (N + 11)) (0, 64)) o 29 (N + 12)) (0, 4)) o 30 (N + 13)) (0, 80)) o 31 (N + 14)) (0, 520)) o 32 (N + 15)) (0, 520)) o 33 (N + 16)) (0, 80)) o 42 (N + 17)) (0, 80)) o 43 (N + 18)) (0, 1040)) o 44 (N + 19)) (0, 64)) o 45 (N + 20))
theorem ck.c_Mod {o : Nat} {N : Nat} {h : zx_H} {q t : Nat} (H : ck h q t) (hN : h.1.1 = N) : ck (mk_Mod o N h) q t := ((((((((((((((((((((H.p (congrArg (fun z => z + 1) hN)).r.p rfl).r.p rfl).r.i.p rfl).r.p rfl).r.p rfl).r.p rfl).r.p rfl).r.p rfl).r.p rfl).r.p rfl).r.p rfl).r.p rfl).r.p rfl).r.p rfl).r.p rfl).r.p rfl).r.p rfl).r.p rfl).r.p rfl).r
set_option maxRecDepth 20000 in
theorem b_Mod {l : Launch} {o : Nat} {N : Nat} {h : zx_H} (hN : h.1.1 = N) (hk : ck h o 6) : zx_CK l (zx_rm 1 20 (25284)) M_Mod_init [.ref o] h (fun r h2 => r = none ∧ h2 = mk_Mod o N h) := by
  refine zx_CK.of (by decide +kernel) (fun _ => Nat.le_of_ble_eq_true rfl) ?_
  refine zx_aload_n d_Mod_init_0 rfl ?_
  refine zx_objInit (zx_i4 239 rfl rfl) no_im no_co (Nat.le_of_ble_eq_true rfl) (Nat.le_of_ble_eq_true rfl) d_Mod_init_1 ?_
  refine zx_aload_n d_Mod_init_4 rfl ?_
  refine zx_sipush (v := (nI 400)) d_Mod_init_5 (by decide) ?_
  refine cy_newA (tag := 0) (n := 400) (N := (N + 1)) na_int (congrArg (fun z => z + 1) hN) rfl (by decide) (by simp) (Nat.le_of_ble_eq_true rfl) (Nat.le_of_ble_eq_true rfl) d_Mod_init_8 ?_
  refine cy_putF f_Mod_7 nw_Mod rfl (zx_i5 2 rfl rfl) (hk.p (congrArg (fun z => z + 1) hN)) (Nat.le_of_ble_eq_true rfl) (Nat.succ_ne_zero _) rfl d_Mod_init_10 ?_
  refine zx_aload_n d_Mod_init_13 rfl ?_
  refine zx_sipush (v := (nI 8000)) d_Mod_init_14 (by decide) ?_
  refine cy_newA (tag := 0) (n := 8000) (N := (N + 2)) na_int rfl rfl (by decide) (by simp) (Nat.le_of_ble_eq_true rfl) (Nat.le_of_ble_eq_true rfl) d_Mod_init_17 ?_
  refine cy_putF f_Mod_13 nw_Mod rfl (zx_i5 4 rfl rfl) ((hk.p (congrArg (fun z => z + 1) hN)).r.p rfl) (Nat.le_of_ble_eq_true rfl) (Nat.succ_ne_zero _) rfl d_Mod_init_19 ?_
  refine zx_aload_n d_Mod_init_22 rfl ?_
  refine zx_sipush (v := (nI 8000)) d_Mod_init_23 (by decide) ?_
  refine cy_newA (tag := 0) (n := 8000) (N := (N + 3)) na_int rfl rfl (by decide) (by simp) (Nat.le_of_ble_eq_true rfl) (Nat.le_of_ble_eq_true rfl) d_Mod_init_26 ?_
  refine cy_putF f_Mod_16 nw_Mod rfl (zx_i5 6 rfl rfl) (((hk.p (congrArg (fun z => z + 1) hN)).r.p rfl).r.p rfl) (Nat.le_of_ble_eq_true rfl) (Nat.succ_ne_zero _) rfl d_Mod_init_28 ?_
  refine zx_aload_n d_Mod_init_31 rfl ?_
  refine zx_iconst (v := (-1)) d_Mod_init_32 (by decide) ?_
  refine zx_putI f_Mod_19 ((((hk.p (congrArg (fun z => z + 1) hN)).r.p rfl).r.p rfl).r).1 (Nat.le_of_ble_eq_true rfl) d_Mod_init_33 ?_
  refine zx_aload_n d_Mod_init_36 rfl ?_
  refine zx_sipush (v := (nI 3600)) d_Mod_init_37 (by decide) ?_
  refine cy_newA (tag := 0) (n := 3600) (N := (N + 4)) na_int rfl rfl (by decide) (by simp) (Nat.le_of_ble_eq_true rfl) (Nat.le_of_ble_eq_true rfl) d_Mod_init_40 ?_
  refine cy_putF f_Mod_23 nw_Mod rfl (zx_i5 13 rfl rfl) ((((hk.p (congrArg (fun z => z + 1) hN)).r.p rfl).r.p rfl).r.i.p rfl) (Nat.le_of_ble_eq_true rfl) (Nat.succ_ne_zero _) rfl d_Mod_init_42 ?_
  refine zx_aload_n d_Mod_init_45 rfl ?_
  refine zx_bipush (v := (nI 80)) d_Mod_init_46 (by decide) ?_
  refine cy_newA (tag := 0) (n := 80) (N := (N + 5)) na_int rfl rfl (by decide) (by simp) (Nat.le_of_ble_eq_true rfl) (Nat.le_of_ble_eq_true rfl) d_Mod_init_48 ?_
  refine cy_putF f_Mod_26 nw_Mod rfl (zx_i5 15 rfl rfl) (((((hk.p (congrArg (fun z => z + 1) hN)).r.p rfl).r.p rfl).r.i.p rfl).r.p rfl) (Nat.le_of_ble_eq_true rfl) (Nat.succ_ne_zero _) rfl d_Mod_init_50 ?_
  refine zx_aload_n d_Mod_init_53 rfl ?_
  refine zx_bipush (v := (nI 80)) d_Mod_init_54 (by decide) ?_
  refine cy_newA (tag := 0) (n := 80) (N := (N + 6)) na_int rfl rfl (by decide) (by simp) (Nat.le_of_ble_eq_true rfl) (Nat.le_of_ble_eq_true rfl) d_Mod_init_56 ?_
  refine cy_putF f_Mod_29 nw_Mod rfl (zx_i5 16 rfl rfl) ((((((hk.p (congrArg (fun z => z + 1) hN)).r.p rfl).r.p rfl).r.i.p rfl).r.p rfl).r.p rfl) (Nat.le_of_ble_eq_true rfl) (Nat.succ_ne_zero _) rfl d_Mod_init_58 ?_
  refine zx_aload_n d_Mod_init_61 rfl ?_
  refine zx_bipush (v := (nI 80)) d_Mod_init_62 (by decide) ?_
  refine cy_newA (tag := 0) (n := 80) (N := (N + 7)) na_int rfl rfl (by decide) (by simp) (Nat.le_of_ble_eq_true rfl) (Nat.le_of_ble_eq_true rfl) d_Mod_init_64 ?_
  refine cy_putF f_Mod_32 nw_Mod rfl (zx_i5 18 rfl rfl) (((((((hk.p (congrArg (fun z => z + 1) hN)).r.p rfl).r.p rfl).r.i.p rfl).r.p rfl).r.p rfl).r.p rfl) (Nat.le_of_ble_eq_true rfl) (Nat.succ_ne_zero _) rfl d_Mod_init_66 ?_
  refine zx_aload_n d_Mod_init_69 rfl ?_
  refine zx_sipush (v := (nI 256)) d_Mod_init_70 (by decide) ?_
  refine cy_newA (tag := 1) (n := 256) (N := (N + 8)) na_boolean rfl rfl (by decide) (by simp) (Nat.le_of_ble_eq_true rfl) (Nat.le_of_ble_eq_true rfl) d_Mod_init_73 ?_
  refine cy_putF f_Mod_35 nw_Mod rfl (zx_i5 23 rfl rfl) ((((((((hk.p (congrArg (fun z => z + 1) hN)).r.p rfl).r.p rfl).r.i.p rfl).r.p rfl).r.p rfl).r.p rfl).r.p rfl) (Nat.le_of_ble_eq_true rfl) (Nat.succ_ne_zero _) rfl d_Mod_init_75 ?_
  refine zx_aload_n d_Mod_init_78 rfl ?_
  refine zx_sipush (v := (nI 256)) d_Mod_init_79 (by decide) ?_
  refine cy_newA (tag := 0) (n := 256) (N := (N + 9)) na_int rfl rfl (by decide) (by simp) (Nat.le_of_ble_eq_true rfl) (Nat.le_of_ble_eq_true rfl) d_Mod_init_82 ?_
  refine cy_putF f_Mod_39 nw_Mod rfl (zx_i5 24 rfl rfl) (((((((((hk.p (congrArg (fun z => z + 1) hN)).r.p rfl).r.p rfl).r.i.p rfl).r.p rfl).r.p rfl).r.p rfl).r.p rfl).r.p rfl) (Nat.le_of_ble_eq_true rfl) (Nat.succ_ne_zero _) rfl d_Mod_init_84 ?_
  refine zx_aload_n d_Mod_init_87 rfl ?_
  refine zx_sipush (v := (nI 1040)) d_Mod_init_88 (by decide) ?_
  refine cy_newA (tag := 0) (n := 1040) (N := (N + 10)) na_int rfl rfl (by decide) (by simp) (Nat.le_of_ble_eq_true rfl) (Nat.le_of_ble_eq_true rfl) d_Mod_init_91 ?_
  refine cy_putF f_Mod_42 nw_Mod rfl (zx_i5 26 rfl rfl) ((((((((((hk.p (congrArg (fun z => z + 1) hN)).r.p rfl).r.p rfl).r.i.p rfl).r.p rfl).r.p rfl).r.p rfl).r.p rfl).r.p rfl).r.p rfl) (Nat.le_of_ble_eq_true rfl) (Nat.succ_ne_zero _) rfl d_Mod_init_93 ?_
  refine zx_aload_n d_Mod_init_96 rfl ?_
  refine zx_sipush (v := (nI 1040)) d_Mod_init_97 (by decide) ?_
  refine cy_newA (tag := 0) (n := 1040) (N := (N + 11)) na_int rfl rfl (by decide) (by simp) (Nat.le_of_ble_eq_true rfl) (Nat.le_of_ble_eq_true rfl) d_Mod_init_100 ?_
  refine cy_putF f_Mod_45 nw_Mod rfl (zx_i5 27 rfl rfl) (((((((((((hk.p (congrArg (fun z => z + 1) hN)).r.p rfl).r.p rfl).r.i.p rfl).r.p rfl).r.p rfl).r.p rfl).r.p rfl).r.p rfl).r.p rfl).r.p rfl) (Nat.le_of_ble_eq_true rfl) (Nat.succ_ne_zero _) rfl d_Mod_init_102 ?_
  refine zx_aload_n d_Mod_init_105 rfl ?_
  refine zx_bipush (v := (nI 64)) d_Mod_init_106 (by decide) ?_
  refine cy_newA (tag := 0) (n := 64) (N := (N + 12)) na_int rfl rfl (by decide) (by simp) (Nat.le_of_ble_eq_true rfl) (Nat.le_of_ble_eq_true rfl) d_Mod_init_108 ?_
  refine cy_putF f_Mod_48 nw_Mod rfl (zx_i5 29 rfl rfl) ((((((((((((hk.p (congrArg (fun z => z + 1) hN)).r.p rfl).r.p rfl).r.i.p rfl).r.p rfl).r.p rfl).r.p rfl).r.p rfl).r.p rfl).r.p rfl).r.p rfl).r.p rfl) (Nat.le_of_ble_eq_true rfl) (Nat.succ_ne_zero _) rfl d_Mod_init_110 ?_
  refine zx_aload_n d_Mod_init_113 rfl ?_
  refine zx_iconst (v := (nI 4)) d_Mod_init_114 (by decide) ?_
  refine cy_newA (tag := 0) (n := 4) (N := (N + 13)) na_int rfl rfl (by decide) (by simp) (Nat.le_of_ble_eq_true rfl) (Nat.le_of_ble_eq_true rfl) d_Mod_init_115 ?_
  refine cy_putF f_Mod_51 nw_Mod rfl (zx_i5 30 rfl rfl) (((((((((((((hk.p (congrArg (fun z => z + 1) hN)).r.p rfl).r.p rfl).r.i.p rfl).r.p rfl).r.p rfl).r.p rfl).r.p rfl).r.p rfl).r.p rfl).r.p rfl).r.p rfl).r.p rfl) (Nat.le_of_ble_eq_true rfl) (Nat.succ_ne_zero _) rfl d_Mod_init_117 ?_
  refine zx_aload_n d_Mod_init_120 rfl ?_
  refine zx_bipush (v := (nI 80)) d_Mod_init_121 (by decide) ?_
  refine cy_newA (tag := 0) (n := 80) (N := (N + 14)) na_int rfl rfl (by decide) (by simp) (Nat.le_of_ble_eq_true rfl) (Nat.le_of_ble_eq_true rfl) d_Mod_init_123 ?_
  refine cy_putF f_Mod_54 nw_Mod rfl (zx_i5 31 rfl rfl) ((((((((((((((hk.p (congrArg (fun z => z + 1) hN)).r.p rfl).r.p rfl).r.i.p rfl).r.p rfl).r.p rfl).r.p rfl).r.p rfl).r.p rfl).r.p rfl).r.p rfl).r.p rfl).r.p rfl).r.p rfl) (Nat.le_of_ble_eq_true rfl) (Nat.succ_ne_zero _) rfl d_Mod_init_125 ?_
  refine zx_aload_n d_Mod_init_128 rfl ?_
  refine zx_sipush (v := (nI 520)) d_Mod_init_129 (by decide) ?_
  refine cy_newA (tag := 0) (n := 520) (N := (N + 15)) na_int rfl rfl (by decide) (by simp) (Nat.le_of_ble_eq_true rfl) (Nat.le_of_ble_eq_true rfl) d_Mod_init_132 ?_
  refine cy_putF f_Mod_57 nw_Mod rfl (zx_i5 32 rfl rfl) (((((((((((((((hk.p (congrArg (fun z => z + 1) hN)).r.p rfl).r.p rfl).r.i.p rfl).r.p rfl).r.p rfl).r.p rfl).r.p rfl).r.p rfl).r.p rfl).r.p rfl).r.p rfl).r.p rfl).r.p rfl).r.p rfl) (Nat.le_of_ble_eq_true rfl) (Nat.succ_ne_zero _) rfl d_Mod_init_134 ?_
  refine zx_aload_n d_Mod_init_137 rfl ?_
  refine zx_sipush (v := (nI 520)) d_Mod_init_138 (by decide) ?_
  refine cy_newA (tag := 0) (n := 520) (N := (N + 16)) na_int rfl rfl (by decide) (by simp) (Nat.le_of_ble_eq_true rfl) (Nat.le_of_ble_eq_true rfl) d_Mod_init_141 ?_
  refine cy_putF f_Mod_60 nw_Mod rfl (zx_i5 33 rfl rfl) ((((((((((((((((hk.p (congrArg (fun z => z + 1) hN)).r.p rfl).r.p rfl).r.i.p rfl).r.p rfl).r.p rfl).r.p rfl).r.p rfl).r.p rfl).r.p rfl).r.p rfl).r.p rfl).r.p rfl).r.p rfl).r.p rfl).r.p rfl) (Nat.le_of_ble_eq_true rfl) (Nat.succ_ne_zero _) rfl d_Mod_init_143 ?_
  refine zx_aload_n d_Mod_init_146 rfl ?_
  refine zx_bipush (v := (nI 80)) d_Mod_init_147 (by decide) ?_
  refine cy_newA (tag := 0) (n := 80) (N := (N + 17)) na_int rfl rfl (by decide) (by simp) (Nat.le_of_ble_eq_true rfl) (Nat.le_of_ble_eq_true rfl) d_Mod_init_149 ?_
  refine cy_putF f_Mod_63 nw_Mod rfl (zx_i5 42 rfl rfl) (((((((((((((((((hk.p (congrArg (fun z => z + 1) hN)).r.p rfl).r.p rfl).r.i.p rfl).r.p rfl).r.p rfl).r.p rfl).r.p rfl).r.p rfl).r.p rfl).r.p rfl).r.p rfl).r.p rfl).r.p rfl).r.p rfl).r.p rfl).r.p rfl) (Nat.le_of_ble_eq_true rfl) (Nat.succ_ne_zero _) rfl d_Mod_init_151 ?_
  refine zx_aload_n d_Mod_init_154 rfl ?_
  refine zx_bipush (v := (nI 80)) d_Mod_init_155 (by decide) ?_
  refine cy_newA (tag := 0) (n := 80) (N := (N + 18)) na_int rfl rfl (by decide) (by simp) (Nat.le_of_ble_eq_true rfl) (Nat.le_of_ble_eq_true rfl) d_Mod_init_157 ?_
  refine cy_putF f_Mod_66 nw_Mod rfl (zx_i5 43 rfl rfl) ((((((((((((((((((hk.p (congrArg (fun z => z + 1) hN)).r.p rfl).r.p rfl).r.i.p rfl).r.p rfl).r.p rfl).r.p rfl).r.p rfl).r.p rfl).r.p rfl).r.p rfl).r.p rfl).r.p rfl).r.p rfl).r.p rfl).r.p rfl).r.p rfl).r.p rfl) (Nat.le_of_ble_eq_true rfl) (Nat.succ_ne_zero _) rfl d_Mod_init_159 ?_
  refine zx_aload_n d_Mod_init_162 rfl ?_
  refine zx_sipush (v := (nI 1040)) d_Mod_init_163 (by decide) ?_
  refine cy_newA (tag := 0) (n := 1040) (N := (N + 19)) na_int rfl rfl (by decide) (by simp) (Nat.le_of_ble_eq_true rfl) (Nat.le_of_ble_eq_true rfl) d_Mod_init_166 ?_
  refine cy_putF f_Mod_69 nw_Mod rfl (zx_i5 44 rfl rfl) (((((((((((((((((((hk.p (congrArg (fun z => z + 1) hN)).r.p rfl).r.p rfl).r.i.p rfl).r.p rfl).r.p rfl).r.p rfl).r.p rfl).r.p rfl).r.p rfl).r.p rfl).r.p rfl).r.p rfl).r.p rfl).r.p rfl).r.p rfl).r.p rfl).r.p rfl).r.p rfl) (Nat.le_of_ble_eq_true rfl) (Nat.succ_ne_zero _) rfl d_Mod_init_168 ?_
  refine zx_aload_n d_Mod_init_171 rfl ?_
  refine zx_bipush (v := (nI 64)) d_Mod_init_172 (by decide) ?_
  refine cy_newA (tag := 0) (n := 64) (N := (N + 20)) na_int rfl rfl (by decide) (by simp) (Nat.le_of_ble_eq_true rfl) (Nat.le_of_ble_eq_true rfl) d_Mod_init_174 ?_
  refine cy_putF f_Mod_72 nw_Mod rfl (zx_i5 45 rfl rfl) ((((((((((((((((((((hk.p (congrArg (fun z => z + 1) hN)).r.p rfl).r.p rfl).r.i.p rfl).r.p rfl).r.p rfl).r.p rfl).r.p rfl).r.p rfl).r.p rfl).r.p rfl).r.p rfl).r.p rfl).r.p rfl).r.p rfl).r.p rfl).r.p rfl).r.p rfl).r.p rfl).r.p rfl) (Nat.le_of_ble_eq_true rfl) (Nat.succ_ne_zero _) rfl d_Mod_init_176 ?_
  exact zx_toA (zx_vret d_Mod_init_179 rfl ⟨rfl, rfl⟩ (Nat.le_of_ble_eq_true rfl) (Nat.le_of_ble_eq_true rfl) (fun _ => rfl))
def h_zero : zx_H := ((0, fun _ => (100, 0)), (fun _ _ => 0), (fun _ _ => 0), (fun _ _ => 0))
def h0_Main : zx_H := pu 1 h_zero (5, 0)
def h0_BlockReader : zx_H := (pu 9 (zx_upR (mk_BitReader 8 2 (pu 8 (zx_upR (mk_Row 6 2000 6 (pu 6 (zx_upR (mk_Row 4 4600 4 (pu 4 (zx_upR (mk_Row 2 400 2 (pu 2 h0_Main (16, 0))) 1 0 2) (16, 0))) 1 1 4) (16, 0))) 1 2 6) (7, 0))) 1 3 8) (11, 0))
def h1_BlockReader : zx_H := (zx_upR (mk_Codes 33 258 33 (pu 33 (zx_upR (mk_Codes 27 258 27 (pu 27 (zx_upR (mk_Codes 21 258 21 (pu 21 (zx_upR (mk_Codes 15 258 15 (pu 15 (zx_upR (zx_upI (zx_upR (pu 14 (zx_upR (pu 13 (zx_upR (pu 12 (zx_upR (mk_MoveList 10 10 (pu 10 h0_BlockReader (14, 0))) 9 1 10) (3, 4)) 9 2 12) (0, 64)) 9 3 13) (0, 256)) 9 4 14) 9 5 1) 9 0 8) (13, 0))) 12 0 15) (13, 0))) 12 1 21) (13, 0))) 12 2 27) (13, 0))) 12 3 33)
set_option maxRecDepth 20000 in
theorem b_BlockReader {l : Launch} : zx_CK l (zx_rm 2 29 (2822)) M_BlockReader_init [.ref 9, .ref 8] h0_BlockReader (fun r h2 => r = none ∧ h2 = h1_BlockReader) := by
  refine zx_CK.of (by decide +kernel) (fun _ => Nat.le_of_ble_eq_true rfl) ?_
  refine zx_aload_n d_BlockReader_init_0 rfl ?_
  refine zx_objInit (zx_i1 77 rfl rfl) no_im no_co (Nat.le_of_ble_eq_true rfl) (Nat.le_of_ble_eq_true rfl) d_BlockReader_init_1 ?_
  refine zx_aload_n d_BlockReader_init_4 rfl ?_
  refine cy_new (N := 10) nw_MoveList rfl (zx_i1 78 rfl rfl) (Nat.le_of_ble_eq_true rfl) (Nat.le_of_ble_eq_true rfl) d_BlockReader_init_5 ?_
  refine zx_dup_a d_BlockReader_init_8 ?_
  refine cy_call (b_MoveList rfl ck.n) kk_BlockReader_11 rfl rfl rfl rfl (Nat.le_of_ble_eq_true rfl) ⟨(Nat.le_of_ble_eq_true rfl), (Nat.le_of_ble_eq_true rfl)⟩ ⟨(Nat.le_of_ble_eq_true rfl), (Nat.le_of_ble_eq_true rfl)⟩ d_BlockReader_init_9 ?_
  refine cy_putF f_BlockReader_12 nw_BlockReader rfl (zx_i1 115 rfl rfl) (ck_d (by decide +kernel) (by decide +kernel)) (Nat.le_of_ble_eq_true rfl) (by decide) rfl d_BlockReader_init_12 ?_
  refine zx_aload_n d_BlockReader_init_15 rfl ?_
  refine zx_iconst (v := (nI 4)) d_BlockReader_init_16 (by decide) ?_
  refine cy_newQ (n := 4) (N := 12) (zx_i1 91 rfl rfl) rfl rfl (by decide) (Nat.le_of_ble_eq_true rfl) (Nat.le_of_ble_eq_true rfl) d_BlockReader_init_17 ?_
  refine cy_putF f_BlockReader_20 nw_BlockReader rfl (zx_i1 116 rfl rfl) (ck_d (by decide +kernel) (by decide +kernel)) (Nat.le_of_ble_eq_true rfl) (by decide) rfl d_BlockReader_init_20 ?_
  refine zx_aload_n d_BlockReader_init_23 rfl ?_
  refine zx_bipush (v := (nI 64)) d_BlockReader_init_24 (by decide) ?_
  refine cy_newA (tag := 0) (n := 64) (N := 13) na_int rfl rfl (by decide) (by simp) (Nat.le_of_ble_eq_true rfl) (Nat.le_of_ble_eq_true rfl) d_BlockReader_init_26 ?_
  refine cy_putF f_BlockReader_24 nw_BlockReader rfl (zx_i1 117 rfl rfl) (ck_d (by decide +kernel) (by decide +kernel)) (Nat.le_of_ble_eq_true rfl) (by decide) rfl d_BlockReader_init_28 ?_
  refine zx_aload_n d_BlockReader_init_31 rfl ?_
  refine zx_sipush (v := (nI 256)) d_BlockReader_init_32 (by decide) ?_
  refine cy_newA (tag := 0) (n := 256) (N := 14) na_int rfl rfl (by decide) (by simp) (Nat.le_of_ble_eq_true rfl) (Nat.le_of_ble_eq_true rfl) d_BlockReader_init_35 ?_
  refine cy_putF f_BlockReader_28 nw_BlockReader rfl (zx_i1 118 rfl rfl) (ck_d (by decide +kernel) (by decide +kernel)) (Nat.le_of_ble_eq_true rfl) (by decide) rfl d_BlockReader_init_37 ?_
  refine zx_aload_n d_BlockReader_init_40 rfl ?_
  refine zx_iconst (v := 1) d_BlockReader_init_41 (by decide) ?_
  refine zx_putI f_BlockReader_31 (by decide +kernel) (Nat.le_of_ble_eq_true rfl) d_BlockReader_init_42 ?_
  refine zx_aload_n d_BlockReader_init_45 rfl ?_
  refine zx_aload_n d_BlockReader_init_46 rfl ?_
  refine cy_putF f_BlockReader_35 nw_BlockReader rfl (zx_i1 114 rfl rfl) (ck_d (by decide +kernel) (by decide +kernel)) (Nat.le_of_ble_eq_true rfl) (by decide) rfl d_BlockReader_init_47 ?_
  refine zx_iconst (v := (nI 0)) d_BlockReader_init_50 (by decide) ?_
  refine zx_istore_n d_BlockReader_init_51 (Nat.le_of_ble_eq_true rfl) rfl ?_
  refine zx_iload_n d_BlockReader_init_52 rfl ?_
  refine zx_iconst (v := (nI 4)) d_BlockReader_init_53 (by decide) ?_
  refine zx_icmp_ge (tgt := 79) d_BlockReader_init_54 (by decide) (fun q => absurd q (by decide)) (fun _ => ?_)
  refine zx_aload_n d_BlockReader_init_57 rfl ?_
  refine cy_getR (v := 12) f_BlockReader_20 (by decide +kernel) (Nat.le_of_ble_eq_true rfl) (by decide +kernel) (by decide) d_BlockReader_init_58 ?_
  refine zx_iload_n d_BlockReader_init_61 rfl ?_
  refine cy_new (N := 15) nw_Codes rfl (zx_i1 91 rfl rfl) (Nat.le_of_ble_eq_true rfl) (Nat.le_of_ble_eq_true rfl) d_BlockReader_init_62 ?_
  refine zx_dup_a d_BlockReader_init_65 ?_
  refine zx_sipush (v := (nI 258)) d_BlockReader_init_66 (by decide) ?_
  refine cy_call (b_Codes (by decide) rfl ck.n) kk_BlockReader_39 rfl rfl rfl rfl (Nat.le_of_ble_eq_true rfl) ⟨(Nat.le_of_ble_eq_true rfl), (Nat.le_of_ble_eq_true rfl)⟩ ⟨(Nat.le_of_ble_eq_true rfl), (Nat.le_of_ble_eq_true rfl)⟩ d_BlockReader_init_69 ?_
  refine zx_aast3 (n := 4) 0 (by decide +kernel) (ci := 8) (by decide +kernel) (Nat.le_of_ble_eq_true rfl) (T := F_Codes) (N := 5) rfl rfl (by decide) (by decide) d_BlockReader_init_72 ?_
  refine zx_iinc (v := 1) (L2 := [(0, .ref 9), (1, .ref 8), (2, .int (nI 1))]) d_BlockReader_init_73 rfl (Nat.le_of_ble_eq_true rfl) (by decide) (by rw [show (nI 0 : Int32) + 1 = nI 1 by decide]; rfl) ?_
  refine zx_goto (tgt := 52) d_BlockReader_init_76 (by decide) ?_
  refine zx_iload_n d_BlockReader_init_52 rfl ?_
  refine zx_iconst (v := (nI 4)) d_BlockReader_init_53 (by decide) ?_
  refine zx_icmp_ge (tgt := 79) d_BlockReader_init_54 (by decide) (fun q => absurd q (by decide)) (fun _ => ?_)
  refine zx_aload_n d_BlockReader_init_57 rfl ?_
  refine cy_getR (v := 12) f_BlockReader_20 (by decide +kernel) (Nat.le_of_ble_eq_true rfl) (by decide +kernel) (by decide) d_BlockReader_init_58 ?_
  refine zx_iload_n d_BlockReader_init_61 rfl ?_
  refine cy_new (N := 21) nw_Codes rfl (zx_i1 91 rfl rfl) (Nat.le_of_ble_eq_true rfl) (Nat.le_of_ble_eq_true rfl) d_BlockReader_init_62 ?_
  refine zx_dup_a d_BlockReader_init_65 ?_
  refine zx_sipush (v := (nI 258)) d_BlockReader_init_66 (by decide) ?_
  refine cy_call (b_Codes (by decide) rfl ck.n) kk_BlockReader_39 rfl rfl rfl rfl (Nat.le_of_ble_eq_true rfl) ⟨(Nat.le_of_ble_eq_true rfl), (Nat.le_of_ble_eq_true rfl)⟩ ⟨(Nat.le_of_ble_eq_true rfl), (Nat.le_of_ble_eq_true rfl)⟩ d_BlockReader_init_69 ?_
  refine zx_aast3 (n := 4) 1 (by decide +kernel) (ci := 8) (by decide +kernel) (Nat.le_of_ble_eq_true rfl) (T := F_Codes) (N := 5) rfl rfl (by decide) (by decide) d_BlockReader_init_72 ?_
  refine zx_iinc (v := 1) (L2 := [(0, .ref 9), (1, .ref 8), (2, .int (nI 2))]) d_BlockReader_init_73 rfl (Nat.le_of_ble_eq_true rfl) (by decide) (by rw [show (nI 1 : Int32) + 1 = nI 2 by decide]; rfl) ?_
  refine zx_goto (tgt := 52) d_BlockReader_init_76 (by decide) ?_
  refine zx_iload_n d_BlockReader_init_52 rfl ?_
  refine zx_iconst (v := (nI 4)) d_BlockReader_init_53 (by decide) ?_
  refine zx_icmp_ge (tgt := 79) d_BlockReader_init_54 (by decide) (fun q => absurd q (by decide)) (fun _ => ?_)
  refine zx_aload_n d_BlockReader_init_57 rfl ?_
  refine cy_getR (v := 12) f_BlockReader_20 (by decide +kernel) (Nat.le_of_ble_eq_true rfl) (by decide +kernel) (by decide) d_BlockReader_init_58 ?_
  refine zx_iload_n d_BlockReader_init_61 rfl ?_
  refine cy_new (N := 27) nw_Codes rfl (zx_i1 91 rfl rfl) (Nat.le_of_ble_eq_true rfl) (Nat.le_of_ble_eq_true rfl) d_BlockReader_init_62 ?_
  refine zx_dup_a d_BlockReader_init_65 ?_
  refine zx_sipush (v := (nI 258)) d_BlockReader_init_66 (by decide) ?_
  refine cy_call (b_Codes (by decide) rfl ck.n) kk_BlockReader_39 rfl rfl rfl rfl (Nat.le_of_ble_eq_true rfl) ⟨(Nat.le_of_ble_eq_true rfl), (Nat.le_of_ble_eq_true rfl)⟩ ⟨(Nat.le_of_ble_eq_true rfl), (Nat.le_of_ble_eq_true rfl)⟩ d_BlockReader_init_69 ?_
  refine zx_aast3 (n := 4) 2 (by decide +kernel) (ci := 8) (by decide +kernel) (Nat.le_of_ble_eq_true rfl) (T := F_Codes) (N := 5) rfl rfl (by decide) (by decide) d_BlockReader_init_72 ?_
  refine zx_iinc (v := 1) (L2 := [(0, .ref 9), (1, .ref 8), (2, .int (nI 3))]) d_BlockReader_init_73 rfl (Nat.le_of_ble_eq_true rfl) (by decide) (by rw [show (nI 2 : Int32) + 1 = nI 3 by decide]; rfl) ?_
  refine zx_goto (tgt := 52) d_BlockReader_init_76 (by decide) ?_
  refine zx_iload_n d_BlockReader_init_52 rfl ?_
  refine zx_iconst (v := (nI 4)) d_BlockReader_init_53 (by decide) ?_
  refine zx_icmp_ge (tgt := 79) d_BlockReader_init_54 (by decide) (fun q => absurd q (by decide)) (fun _ => ?_)
  refine zx_aload_n d_BlockReader_init_57 rfl ?_
  refine cy_getR (v := 12) f_BlockReader_20 (by decide +kernel) (Nat.le_of_ble_eq_true rfl) (by decide +kernel) (by decide) d_BlockReader_init_58 ?_
  refine zx_iload_n d_BlockReader_init_61 rfl ?_
  refine cy_new (N := 33) nw_Codes rfl (zx_i1 91 rfl rfl) (Nat.le_of_ble_eq_true rfl) (Nat.le_of_ble_eq_true rfl) d_BlockReader_init_62 ?_
  refine zx_dup_a d_BlockReader_init_65 ?_
  refine zx_sipush (v := (nI 258)) d_BlockReader_init_66 (by decide) ?_
  refine cy_call (b_Codes (by decide) rfl ck.n) kk_BlockReader_39 rfl rfl rfl rfl (Nat.le_of_ble_eq_true rfl) ⟨(Nat.le_of_ble_eq_true rfl), (Nat.le_of_ble_eq_true rfl)⟩ ⟨(Nat.le_of_ble_eq_true rfl), (Nat.le_of_ble_eq_true rfl)⟩ d_BlockReader_init_69 ?_
  refine zx_aast3 (n := 4) 3 (by decide +kernel) (ci := 8) (by decide +kernel) (Nat.le_of_ble_eq_true rfl) (T := F_Codes) (N := 5) rfl rfl (by decide) (by decide) d_BlockReader_init_72 ?_
  refine zx_iinc (v := 1) (L2 := [(0, .ref 9), (1, .ref 8), (2, .int (nI 4))]) d_BlockReader_init_73 rfl (Nat.le_of_ble_eq_true rfl) (by decide) (by rw [show (nI 3 : Int32) + 1 = nI 4 by decide]; rfl) ?_
  refine zx_goto (tgt := 52) d_BlockReader_init_76 (by decide) ?_
  refine zx_iload_n d_BlockReader_init_52 rfl ?_
  refine zx_iconst (v := (nI 4)) d_BlockReader_init_53 (by decide) ?_
  refine zx_icmp_ge (tgt := 79) d_BlockReader_init_54 (by decide) (fun _ => ?_) (fun q => absurd (by decide) q)
  exact zx_toA (zx_vret d_BlockReader_init_79 rfl ⟨rfl, rfl⟩ (Nat.le_of_ble_eq_true rfl) (Nat.le_of_ble_eq_true rfl) (fun _ => rfl))
def h0_BlockWriter : zx_H := (pu 51 (zx_upR (mk_BlockMaker 39 39 (pu 39 (zx_upR h1_BlockReader 1 4 9) (10, 0))) 1 5 39) (12, 0))
def h1_BlockWriter : zx_H := (zx_upR (mk_Codes 75 66 75 (pu 75 (zx_upR (mk_Codes 69 66 69 (pu 69 (zx_upR (mk_Codes 63 66 63 (pu 63 (zx_upR (mk_Codes 57 66 57 (pu 57 (zx_upR (mk_BitWriter 56 4 (pu 56 (zx_upR (pu 55 (zx_upR (mk_MoveList 53 53 (pu 53 (zx_upR (pu 52 h0_BlockWriter (0, 16)) 51 1 52) (14, 0))) 51 2 53) (3, 4)) 51 3 55) (8, 0))) 51 0 56) (13, 0))) 55 0 57) (13, 0))) 55 1 63) (13, 0))) 55 2 69) (13, 0))) 55 3 75)
set_option maxRecDepth 20000 in
theorem b_BlockWriter {l : Launch} : zx_CK l (zx_rm 2 29 (985)) M_BlockWriter_init [.ref 51, .ref 4] h0_BlockWriter (fun r h2 => r = none ∧ h2 = h1_BlockWriter) := by
  refine zx_CK.of (by decide +kernel) (fun _ => Nat.le_of_ble_eq_true rfl) ?_
  refine zx_aload_n d_BlockWriter_init_0 rfl ?_
  refine zx_objInit (zx_i1 200 rfl rfl) no_im no_co (Nat.le_of_ble_eq_true rfl) (Nat.le_of_ble_eq_true rfl) d_BlockWriter_init_1 ?_
  refine zx_aload_n d_BlockWriter_init_4 rfl ?_
  refine zx_bipush (v := (nI 16)) d_BlockWriter_init_5 (by decide) ?_
  refine cy_newA (tag := 0) (n := 16) (N := 52) na_int rfl rfl (by decide) (by simp) (Nat.le_of_ble_eq_true rfl) (Nat.le_of_ble_eq_true rfl) d_BlockWriter_init_7 ?_
  refine cy_putF f_BlockWriter_9 nw_BlockWriter rfl (zx_i1 222 rfl rfl) (ck_d (by decide +kernel) (by decide +kernel)) (Nat.le_of_ble_eq_true rfl) (by decide) rfl d_BlockWriter_init_9 ?_
  refine zx_aload_n d_BlockWriter_init_12 rfl ?_
  refine cy_new (N := 53) nw_MoveList rfl (zx_i1 201 rfl rfl) (Nat.le_of_ble_eq_true rfl) (Nat.le_of_ble_eq_true rfl) d_BlockWriter_init_13 ?_
  refine zx_dup_a d_BlockWriter_init_16 ?_
  refine cy_call (b_MoveList rfl ck.n) kk_BlockWriter_17 rfl rfl rfl rfl (Nat.le_of_ble_eq_true rfl) ⟨(Nat.le_of_ble_eq_true rfl), (Nat.le_of_ble_eq_true rfl)⟩ ⟨(Nat.le_of_ble_eq_true rfl), (Nat.le_of_ble_eq_true rfl)⟩ d_BlockWriter_init_17 ?_
  refine cy_putF f_BlockWriter_18 nw_BlockWriter rfl (zx_i1 223 rfl rfl) (ck_d (by decide +kernel) (by decide +kernel)) (Nat.le_of_ble_eq_true rfl) (by decide) rfl d_BlockWriter_init_20 ?_
  refine zx_aload_n d_BlockWriter_init_23 rfl ?_
  refine zx_iconst (v := (nI 4)) d_BlockWriter_init_24 (by decide) ?_
  refine cy_newQ (n := 4) (N := 55) (zx_i1 203 rfl rfl) rfl rfl (by decide) (Nat.le_of_ble_eq_true rfl) (Nat.le_of_ble_eq_true rfl) d_BlockWriter_init_25 ?_
  refine cy_putF f_BlockWriter_24 nw_BlockWriter rfl (zx_i1 224 rfl rfl) (ck_d (by decide +kernel) (by decide +kernel)) (Nat.le_of_ble_eq_true rfl) (by decide) rfl d_BlockWriter_init_28 ?_
  refine zx_aload_n d_BlockWriter_init_31 rfl ?_
  refine cy_new (N := 56) nw_BitWriter rfl (zx_i1 204 rfl rfl) (Nat.le_of_ble_eq_true rfl) (Nat.le_of_ble_eq_true rfl) d_BlockWriter_init_32 ?_
  refine zx_dup_a d_BlockWriter_init_35 ?_
  refine zx_aload_n d_BlockWriter_init_36 rfl ?_
  refine cy_call (b_BitWriter ck.n (by decide)) kk_BlockWriter_30 rfl rfl rfl rfl (Nat.le_of_ble_eq_true rfl) ⟨(Nat.le_of_ble_eq_true rfl), (Nat.le_of_ble_eq_true rfl)⟩ ⟨(Nat.le_of_ble_eq_true rfl), (Nat.le_of_ble_eq_true rfl)⟩ d_BlockWriter_init_37 ?_
  refine cy_putF f_BlockWriter_33 nw_BlockWriter rfl (zx_i1 221 rfl rfl) (ck_d (by decide +kernel) (by decide +kernel)) (Nat.le_of_ble_eq_true rfl) (by decide) rfl d_BlockWriter_init_40 ?_
  refine zx_iconst (v := (nI 0)) d_BlockWriter_init_43 (by decide) ?_
  refine zx_istore_n d_BlockWriter_init_44 (Nat.le_of_ble_eq_true rfl) rfl ?_
  refine zx_iload_n d_BlockWriter_init_45 rfl ?_
  refine zx_iconst (v := (nI 4)) d_BlockWriter_init_46 (by decide) ?_
  refine zx_icmp_ge (tgt := 71) d_BlockWriter_init_47 (by decide) (fun q => absurd q (by decide)) (fun _ => ?_)
  refine zx_aload_n d_BlockWriter_init_50 rfl ?_
  refine cy_getR (v := 55) f_BlockWriter_24 (by decide +kernel) (Nat.le_of_ble_eq_true rfl) (by decide +kernel) (by decide) d_BlockWriter_init_51 ?_
  refine zx_iload_n d_BlockWriter_init_54 rfl ?_
  refine cy_new (N := 57) nw_Codes rfl (zx_i1 203 rfl rfl) (Nat.le_of_ble_eq_true rfl) (Nat.le_of_ble_eq_true rfl) d_BlockWriter_init_55 ?_
  refine zx_dup_a d_BlockWriter_init_58 ?_
  refine zx_bipush (v := (nI 66)) d_BlockWriter_init_59 (by decide) ?_
  refine cy_call (b_Codes (by decide) rfl ck.n) kk_BlockWriter_37 rfl rfl rfl rfl (Nat.le_of_ble_eq_true rfl) ⟨(Nat.le_of_ble_eq_true rfl), (Nat.le_of_ble_eq_true rfl)⟩ ⟨(Nat.le_of_ble_eq_true rfl), (Nat.le_of_ble_eq_true rfl)⟩ d_BlockWriter_init_61 ?_
  refine zx_aast3 (n := 4) 0 (by decide +kernel) (ci := 8) (by decide +kernel) (Nat.le_of_ble_eq_true rfl) (T := F_Codes) (N := 5) rfl rfl (by decide) (by decide) d_BlockWriter_init_64 ?_
  refine zx_iinc (v := 1) (L2 := [(0, .ref 51), (1, .ref 4), (2, .int (nI 1))]) d_BlockWriter_init_65 rfl (Nat.le_of_ble_eq_true rfl) (by decide) (by rw [show (nI 0 : Int32) + 1 = nI 1 by decide]; rfl) ?_
  refine zx_goto (tgt := 45) d_BlockWriter_init_68 (by decide) ?_
  refine zx_iload_n d_BlockWriter_init_45 rfl ?_
  refine zx_iconst (v := (nI 4)) d_BlockWriter_init_46 (by decide) ?_
  refine zx_icmp_ge (tgt := 71) d_BlockWriter_init_47 (by decide) (fun q => absurd q (by decide)) (fun _ => ?_)
  refine zx_aload_n d_BlockWriter_init_50 rfl ?_
  refine cy_getR (v := 55) f_BlockWriter_24 (by decide +kernel) (Nat.le_of_ble_eq_true rfl) (by decide +kernel) (by decide) d_BlockWriter_init_51 ?_
  refine zx_iload_n d_BlockWriter_init_54 rfl ?_
  refine cy_new (N := 63) nw_Codes rfl (zx_i1 203 rfl rfl) (Nat.le_of_ble_eq_true rfl) (Nat.le_of_ble_eq_true rfl) d_BlockWriter_init_55 ?_
  refine zx_dup_a d_BlockWriter_init_58 ?_
  refine zx_bipush (v := (nI 66)) d_BlockWriter_init_59 (by decide) ?_
  refine cy_call (b_Codes (by decide) rfl ck.n) kk_BlockWriter_37 rfl rfl rfl rfl (Nat.le_of_ble_eq_true rfl) ⟨(Nat.le_of_ble_eq_true rfl), (Nat.le_of_ble_eq_true rfl)⟩ ⟨(Nat.le_of_ble_eq_true rfl), (Nat.le_of_ble_eq_true rfl)⟩ d_BlockWriter_init_61 ?_
  refine zx_aast3 (n := 4) 1 (by decide +kernel) (ci := 8) (by decide +kernel) (Nat.le_of_ble_eq_true rfl) (T := F_Codes) (N := 5) rfl rfl (by decide) (by decide) d_BlockWriter_init_64 ?_
  refine zx_iinc (v := 1) (L2 := [(0, .ref 51), (1, .ref 4), (2, .int (nI 2))]) d_BlockWriter_init_65 rfl (Nat.le_of_ble_eq_true rfl) (by decide) (by rw [show (nI 1 : Int32) + 1 = nI 2 by decide]; rfl) ?_
  refine zx_goto (tgt := 45) d_BlockWriter_init_68 (by decide) ?_
  refine zx_iload_n d_BlockWriter_init_45 rfl ?_
  refine zx_iconst (v := (nI 4)) d_BlockWriter_init_46 (by decide) ?_
  refine zx_icmp_ge (tgt := 71) d_BlockWriter_init_47 (by decide) (fun q => absurd q (by decide)) (fun _ => ?_)
  refine zx_aload_n d_BlockWriter_init_50 rfl ?_
  refine cy_getR (v := 55) f_BlockWriter_24 (by decide +kernel) (Nat.le_of_ble_eq_true rfl) (by decide +kernel) (by decide) d_BlockWriter_init_51 ?_
  refine zx_iload_n d_BlockWriter_init_54 rfl ?_
  refine cy_new (N := 69) nw_Codes rfl (zx_i1 203 rfl rfl) (Nat.le_of_ble_eq_true rfl) (Nat.le_of_ble_eq_true rfl) d_BlockWriter_init_55 ?_
  refine zx_dup_a d_BlockWriter_init_58 ?_
  refine zx_bipush (v := (nI 66)) d_BlockWriter_init_59 (by decide) ?_
  refine cy_call (b_Codes (by decide) rfl ck.n) kk_BlockWriter_37 rfl rfl rfl rfl (Nat.le_of_ble_eq_true rfl) ⟨(Nat.le_of_ble_eq_true rfl), (Nat.le_of_ble_eq_true rfl)⟩ ⟨(Nat.le_of_ble_eq_true rfl), (Nat.le_of_ble_eq_true rfl)⟩ d_BlockWriter_init_61 ?_
  refine zx_aast3 (n := 4) 2 (by decide +kernel) (ci := 8) (by decide +kernel) (Nat.le_of_ble_eq_true rfl) (T := F_Codes) (N := 5) rfl rfl (by decide) (by decide) d_BlockWriter_init_64 ?_
  refine zx_iinc (v := 1) (L2 := [(0, .ref 51), (1, .ref 4), (2, .int (nI 3))]) d_BlockWriter_init_65 rfl (Nat.le_of_ble_eq_true rfl) (by decide) (by rw [show (nI 2 : Int32) + 1 = nI 3 by decide]; rfl) ?_
  refine zx_goto (tgt := 45) d_BlockWriter_init_68 (by decide) ?_
  refine zx_iload_n d_BlockWriter_init_45 rfl ?_
  refine zx_iconst (v := (nI 4)) d_BlockWriter_init_46 (by decide) ?_
  refine zx_icmp_ge (tgt := 71) d_BlockWriter_init_47 (by decide) (fun q => absurd q (by decide)) (fun _ => ?_)
  refine zx_aload_n d_BlockWriter_init_50 rfl ?_
  refine cy_getR (v := 55) f_BlockWriter_24 (by decide +kernel) (Nat.le_of_ble_eq_true rfl) (by decide +kernel) (by decide) d_BlockWriter_init_51 ?_
  refine zx_iload_n d_BlockWriter_init_54 rfl ?_
  refine cy_new (N := 75) nw_Codes rfl (zx_i1 203 rfl rfl) (Nat.le_of_ble_eq_true rfl) (Nat.le_of_ble_eq_true rfl) d_BlockWriter_init_55 ?_
  refine zx_dup_a d_BlockWriter_init_58 ?_
  refine zx_bipush (v := (nI 66)) d_BlockWriter_init_59 (by decide) ?_
  refine cy_call (b_Codes (by decide) rfl ck.n) kk_BlockWriter_37 rfl rfl rfl rfl (Nat.le_of_ble_eq_true rfl) ⟨(Nat.le_of_ble_eq_true rfl), (Nat.le_of_ble_eq_true rfl)⟩ ⟨(Nat.le_of_ble_eq_true rfl), (Nat.le_of_ble_eq_true rfl)⟩ d_BlockWriter_init_61 ?_
  refine zx_aast3 (n := 4) 3 (by decide +kernel) (ci := 8) (by decide +kernel) (Nat.le_of_ble_eq_true rfl) (T := F_Codes) (N := 5) rfl rfl (by decide) (by decide) d_BlockWriter_init_64 ?_
  refine zx_iinc (v := 1) (L2 := [(0, .ref 51), (1, .ref 4), (2, .int (nI 4))]) d_BlockWriter_init_65 rfl (Nat.le_of_ble_eq_true rfl) (by decide) (by rw [show (nI 3 : Int32) + 1 = nI 4 by decide]; rfl) ?_
  refine zx_goto (tgt := 45) d_BlockWriter_init_68 (by decide) ?_
  refine zx_iload_n d_BlockWriter_init_45 rfl ?_
  refine zx_iconst (v := (nI 4)) d_BlockWriter_init_46 (by decide) ?_
  refine zx_icmp_ge (tgt := 71) d_BlockWriter_init_47 (by decide) (fun _ => ?_) (fun q => absurd (by decide) q)
  exact zx_toA (zx_vret d_BlockWriter_init_71 rfl ⟨rfl, rfl⟩ (Nat.le_of_ble_eq_true rfl) (Nat.le_of_ble_eq_true rfl) (fun _ => rfl))
def h1_Main : zx_H := (zx_upI (zx_upI (zx_upI (zx_upR (mk_Block 92 92 (pu 92 (zx_upR (mk_Block 81 81 (pu 81 (zx_upR h1_BlockWriter 1 6 51) (9, 0))) 1 7 81) (9, 0))) 1 8 92) 1 9 0) 1 10 0) 1 11 (-1))
set_option maxRecDepth 20000 in
theorem b_Main {l : Launch} : zx_CK l (zx_rm 4 101 (15067)) M_Main_init [.ref 1] h0_Main (fun r h2 => r = none ∧ h2 = h1_Main) := by
  refine zx_CK.of (by decide +kernel) (fun _ => Nat.le_of_ble_eq_true rfl) ?_
  refine zx_aload_n d_Main_init_0 rfl ?_
  refine zx_objInit (zx_i1 29 rfl rfl) no_im no_co (Nat.le_of_ble_eq_true rfl) (Nat.le_of_ble_eq_true rfl) d_Main_init_1 ?_
  refine zx_aload_n d_Main_init_4 rfl ?_
  refine cy_new (N := 2) nw_Row rfl (zx_i1 32 rfl rfl) (Nat.le_of_ble_eq_true rfl) (Nat.le_of_ble_eq_true rfl) d_Main_init_5 ?_
  refine zx_dup_a d_Main_init_8 ?_
  refine zx_sipush (v := (nI 400)) d_Main_init_9 (by decide) ?_
  refine cy_call (b_Row (by decide) rfl ck.n) kk_Main_11 rfl rfl rfl rfl (Nat.le_of_ble_eq_true rfl) ⟨(Nat.le_of_ble_eq_true rfl), (Nat.le_of_ble_eq_true rfl)⟩ ⟨(Nat.le_of_ble_eq_true rfl), (Nat.le_of_ble_eq_true rfl)⟩ d_Main_init_12 ?_
  refine cy_putF f_Main_14 nw_Main rfl (zx_i2 88 rfl rfl) (ck_d (by decide +kernel) (by decide +kernel)) (Nat.le_of_ble_eq_true rfl) (by decide) rfl d_Main_init_15 ?_
  refine zx_aload_n d_Main_init_18 rfl ?_
  refine cy_new (N := 4) nw_Row rfl (zx_i1 32 rfl rfl) (Nat.le_of_ble_eq_true rfl) (Nat.le_of_ble_eq_true rfl) d_Main_init_19 ?_
  refine zx_dup_a d_Main_init_22 ?_
  refine zx_sipush (v := (nI 4600)) d_Main_init_23 (by decide) ?_
  refine cy_call (b_Row (by decide) rfl ck.n) kk_Main_11 rfl rfl rfl rfl (Nat.le_of_ble_eq_true rfl) ⟨(Nat.le_of_ble_eq_true rfl), (Nat.le_of_ble_eq_true rfl)⟩ ⟨(Nat.le_of_ble_eq_true rfl), (Nat.le_of_ble_eq_true rfl)⟩ d_Main_init_26 ?_
  refine cy_putF f_Main_18 nw_Main rfl (zx_i2 89 rfl rfl) (ck_d (by decide +kernel) (by decide +kernel)) (Nat.le_of_ble_eq_true rfl) (by decide) rfl d_Main_init_29 ?_
  refine zx_aload_n d_Main_init_32 rfl ?_
  refine cy_new (N := 6) nw_Row rfl (zx_i1 32 rfl rfl) (Nat.le_of_ble_eq_true rfl) (Nat.le_of_ble_eq_true rfl) d_Main_init_33 ?_
  refine zx_dup_a d_Main_init_36 ?_
  refine zx_sipush (v := (nI 2000)) d_Main_init_37 (by decide) ?_
  refine cy_call (b_Row (by decide) rfl ck.n) kk_Main_11 rfl rfl rfl rfl (Nat.le_of_ble_eq_true rfl) ⟨(Nat.le_of_ble_eq_true rfl), (Nat.le_of_ble_eq_true rfl)⟩ ⟨(Nat.le_of_ble_eq_true rfl), (Nat.le_of_ble_eq_true rfl)⟩ d_Main_init_40 ?_
  refine cy_putF f_Main_21 nw_Main rfl (zx_i2 90 rfl rfl) (ck_d (by decide +kernel) (by decide +kernel)) (Nat.le_of_ble_eq_true rfl) (by decide) rfl d_Main_init_43 ?_
  refine zx_aload_n d_Main_init_46 rfl ?_
  refine cy_new (N := 8) nw_BitReader rfl (zx_i1 52 rfl rfl) (Nat.le_of_ble_eq_true rfl) (Nat.le_of_ble_eq_true rfl) d_Main_init_47 ?_
  refine zx_dup_a d_Main_init_50 ?_
  refine zx_aload_n d_Main_init_51 rfl ?_
  refine cy_getR (v := 2) f_Main_14 (by decide +kernel) (Nat.le_of_ble_eq_true rfl) (by decide +kernel) (by decide) d_Main_init_52 ?_
  refine cy_call (b_BitReader ck.n (by decide)) kk_Main_26 rfl rfl rfl rfl (Nat.le_of_ble_eq_true rfl) ⟨(Nat.le_of_ble_eq_true rfl), (Nat.le_of_ble_eq_true rfl)⟩ ⟨(Nat.le_of_ble_eq_true rfl), (Nat.le_of_ble_eq_true rfl)⟩ d_Main_init_55 ?_
  refine cy_putF f_Main_29 nw_Main rfl (zx_i2 91 rfl rfl) (ck_d (by decide +kernel) (by decide +kernel)) (Nat.le_of_ble_eq_true rfl) (by decide) rfl d_Main_init_58 ?_
  refine zx_aload_n d_Main_init_61 rfl ?_
  refine cy_new (N := 9) nw_BlockReader rfl (zx_i1 72 rfl rfl) (Nat.le_of_ble_eq_true rfl) (Nat.le_of_ble_eq_true rfl) d_Main_init_62 ?_
  refine zx_dup_a d_Main_init_65 ?_
  refine zx_aload_n d_Main_init_66 rfl ?_
  refine cy_getR (v := 8) f_Main_29 (by decide +kernel) (Nat.le_of_ble_eq_true rfl) (by decide +kernel) (by decide) d_Main_init_67 ?_
  refine cy_call b_BlockReader kk_Main_35 rfl rfl rfl rfl (Nat.le_of_ble_eq_true rfl) ⟨(Nat.le_of_ble_eq_true rfl), (Nat.le_of_ble_eq_true rfl)⟩ ⟨(Nat.le_of_ble_eq_true rfl), (Nat.le_of_ble_eq_true rfl)⟩ d_Main_init_70 ?_
  refine cy_putF f_Main_38 nw_Main rfl (zx_i2 92 rfl rfl) (ck_d (by decide +kernel) (by decide +kernel)) (Nat.le_of_ble_eq_true rfl) (by decide) rfl d_Main_init_73 ?_
  refine zx_aload_n d_Main_init_76 rfl ?_
  refine cy_new (N := 39) nw_BlockMaker rfl (zx_i1 133 rfl rfl) (Nat.le_of_ble_eq_true rfl) (Nat.le_of_ble_eq_true rfl) d_Main_init_77 ?_
  refine zx_dup_a d_Main_init_80 ?_
  refine cy_call (b_BlockMaker rfl ck.n) kk_Main_44 rfl rfl rfl rfl (Nat.le_of_ble_eq_true rfl) ⟨(Nat.le_of_ble_eq_true rfl), (Nat.le_of_ble_eq_true rfl)⟩ ⟨(Nat.le_of_ble_eq_true rfl), (Nat.le_of_ble_eq_true rfl)⟩ d_Main_init_81 ?_
  refine cy_putF f_Main_45 nw_Main rfl (zx_i2 93 rfl rfl) (ck_d (by decide +kernel) (by decide +kernel)) (Nat.le_of_ble_eq_true rfl) (by decide) rfl d_Main_init_84 ?_
  refine zx_aload_n d_Main_init_87 rfl ?_
  refine cy_new (N := 51) nw_BlockWriter rfl (zx_i1 195 rfl rfl) (Nat.le_of_ble_eq_true rfl) (Nat.le_of_ble_eq_true rfl) d_Main_init_88 ?_
  refine zx_dup_a d_Main_init_91 ?_
  refine zx_aload_n d_Main_init_92 rfl ?_
  refine cy_getR (v := 4) f_Main_18 (by decide +kernel) (Nat.le_of_ble_eq_true rfl) (by decide +kernel) (by decide) d_Main_init_93 ?_
  refine cy_call b_BlockWriter kk_Main_51 rfl rfl rfl rfl (Nat.le_of_ble_eq_true rfl) ⟨(Nat.le_of_ble_eq_true rfl), (Nat.le_of_ble_eq_true rfl)⟩ ⟨(Nat.le_of_ble_eq_true rfl), (Nat.le_of_ble_eq_true rfl)⟩ d_Main_init_96 ?_
  refine cy_putF f_Main_52 nw_Main rfl (zx_i2 94 rfl rfl) (ck_d (by decide +kernel) (by decide +kernel)) (Nat.le_of_ble_eq_true rfl) (by decide) rfl d_Main_init_99 ?_
  refine zx_aload_n d_Main_init_102 rfl ?_
  refine cy_new (N := 81) nw_Block rfl (zx_i1 234 rfl rfl) (Nat.le_of_ble_eq_true rfl) (Nat.le_of_ble_eq_true rfl) d_Main_init_103 ?_
  refine zx_dup_a d_Main_init_106 ?_
  refine cy_call (b_Block rfl ck.n) kk_Main_58 rfl rfl rfl rfl (Nat.le_of_ble_eq_true rfl) ⟨(Nat.le_of_ble_eq_true rfl), (Nat.le_of_ble_eq_true rfl)⟩ ⟨(Nat.le_of_ble_eq_true rfl), (Nat.le_of_ble_eq_true rfl)⟩ d_Main_init_107 ?_
  refine zx_putR f_Main_59 (by decide +kernel) (Nat.le_of_ble_eq_true rfl) (by decide) d_Main_init_110 ?_
  refine zx_aload_n d_Main_init_113 rfl ?_
  refine cy_new (N := 92) nw_Block rfl (zx_i1 234 rfl rfl) (Nat.le_of_ble_eq_true rfl) (Nat.le_of_ble_eq_true rfl) d_Main_init_114 ?_
  refine zx_dup_a d_Main_init_117 ?_
  refine cy_call (b_Block rfl ck.n) kk_Main_58 rfl rfl rfl rfl (Nat.le_of_ble_eq_true rfl) ⟨(Nat.le_of_ble_eq_true rfl), (Nat.le_of_ble_eq_true rfl)⟩ ⟨(Nat.le_of_ble_eq_true rfl), (Nat.le_of_ble_eq_true rfl)⟩ d_Main_init_118 ?_
  refine zx_putR f_Main_63 (by decide +kernel) (Nat.le_of_ble_eq_true rfl) (by decide) d_Main_init_121 ?_
  refine zx_aload_n d_Main_init_124 rfl ?_
  refine zx_iconst (v := 0) d_Main_init_125 (by decide) ?_
  refine zx_putI f_Main_66 (by decide +kernel) (Nat.le_of_ble_eq_true rfl) d_Main_init_126 ?_
  refine zx_aload_n d_Main_init_129 rfl ?_
  refine zx_iconst (v := 0) d_Main_init_130 (by decide) ?_
  refine zx_putI f_Main_70 (by decide +kernel) (Nat.le_of_ble_eq_true rfl) d_Main_init_131 ?_
  refine zx_aload_n d_Main_init_134 rfl ?_
  refine zx_iconst (v := (-1)) d_Main_init_135 (by decide) ?_
  refine zx_putI f_Main_73 (by decide +kernel) (Nat.le_of_ble_eq_true rfl) d_Main_init_136 ?_
  exact zx_toA (zx_vret d_Main_init_139 rfl ⟨rfl, rfl⟩ (Nat.le_of_ble_eq_true rfl) (Nat.le_of_ble_eq_true rfl) (fun _ => rfl))
