/-! Regions of methods between loop heads: written by wip/whole/gen. -/
set_option maxRecDepth 20000 in
theorem r_BitReader_isAtEnd_0 (l : Launch) (d : Nat) {K : zx_Kt} {RJ : zx_RJ} {Q : zi_Q} {I : zi_I} (o0 : Nat) (q1 : (K.2 o0).1 = 7) {r2 : Nat} (e3 : RJ.1 o0 0 = r2) (z4 : r2 ≠ 0) (q5 : (K.2 r2).1 = 16)
    (k : (((I o0 1) < (8 * (I r2 1))) → Q (some (.int 0)) I) ∧ ((¬ (I o0 1) < (8 * (I r2 1))) → Q (some (.int 1)) I)) :
    zi_X l (zx_rm d 0 0) M_BitReader_isAtEnd K RJ Q 0 [(0, .ref o0)] [] I := by
  refine zx_aload_n d_BitReader_isAtEnd_0 rfl ?_
  refine zi_getI f_BitReader_9 q1 (by decide) d_BitReader_isAtEnd_1 ?_
  refine zx_bipush d_BitReader_isAtEnd_4 zb_8 ?_
  refine zx_aload_n d_BitReader_isAtEnd_6 rfl ?_
  refine zi_getR f_BitReader_18 q1 (by decide) e3 z4 d_BitReader_isAtEnd_7 ?_
  refine zi_getI f_BitReader_22 q5 (by decide) d_BitReader_isAtEnd_10 ?_
  refine zx_imul d_BitReader_isAtEnd_13 ?_
  refine zx_icmp_lt (tgt := 21) d_BitReader_isAtEnd_14 rfl (fun c => ?_) (fun c => ?_)
  · have k := k.1 c
    refine zx_iconst d_BitReader_isAtEnd_21 zc_0 ?_
    exact zi_zret d_BitReader_isAtEnd_22 rfl rfl k
  · have k := k.2 c
    refine zx_iconst d_BitReader_isAtEnd_17 zc_1 ?_
    refine zx_goto (tgt := 22) d_BitReader_isAtEnd_18 rfl ?_
    exact zi_zret d_BitReader_isAtEnd_22 rfl rfl k
set_option maxRecDepth 20000 in
theorem r_BitReader_goTo_0 (l : Launch) (d : Nat) {K : zx_Kt} {RJ : zx_RJ} {Q : zi_Q} {I : zi_I} (o0 : Nat) (x1 : Int32) (q1 : (K.2 o0).1 = 7)
    (k : Q none (zx_u2 I o0 1 x1)) :
    zi_X l (zx_rm d 0 0) M_BitReader_goTo K RJ Q 0 [(0, .ref o0), (1, .int x1)] [] I := by
  refine zx_aload_n d_BitReader_goTo_0 rfl ?_
  refine zx_iload_n d_BitReader_goTo_1 rfl ?_
  refine zi_putI f_BitReader_9 q1 (by decide) d_BitReader_goTo_2 ?_
  exact zi_vret d_BitReader_goTo_5 rfl k
set_option maxRecDepth 20000 in
theorem r_BitReader_skipToByte_0 (l : Launch) (d : Nat) {K : zx_Kt} {RJ : zx_RJ} {Q : zi_Q} {I : zi_I} (o0 : Nat) (q1 : (K.2 o0).1 = 7)
    (k : Q none (zx_u2 I o0 1 ((((I o0 1) + 7) / 8) * 8))) :
    zi_X l (zx_rm d 0 0) M_BitReader_skipToByte K RJ Q 0 [(0, .ref o0)] [] I := by
  refine zx_aload_n d_BitReader_skipToByte_0 rfl ?_
  refine zx_aload_n d_BitReader_skipToByte_1 rfl ?_
  refine zi_getI f_BitReader_9 q1 (by decide) d_BitReader_skipToByte_2 ?_
  refine zx_bipush d_BitReader_skipToByte_5 zb_7 ?_
  refine zx_iadd d_BitReader_skipToByte_7 ?_
  refine zx_bipush d_BitReader_skipToByte_8 zb_8 ?_
  refine zx_idiv d_BitReader_skipToByte_10 (by decide) ?_
  refine zx_bipush d_BitReader_skipToByte_11 zb_8 ?_
  refine zx_imul d_BitReader_skipToByte_13 ?_
  refine zi_putI f_BitReader_9 q1 (by decide) d_BitReader_skipToByte_14 ?_
  exact zi_vret d_BitReader_skipToByte_17 rfl k
set_option maxRecDepth 20000 in
theorem r_BitReader_beginNumber_0 (l : Launch) (d : Nat) {K : zx_Kt} {RJ : zx_RJ} {Q : zi_Q} {I : zi_I} (o0 : Nat) (q1 : (K.2 o0).1 = 7)
    (k : Q none (zx_u2 I o0 2 (I o0 1))) :
    zi_X l (zx_rm d 0 0) M_BitReader_beginNumber K RJ Q 0 [(0, .ref o0)] [] I := by
  refine zx_aload_n d_BitReader_beginNumber_0 rfl ?_
  refine zx_aload_n d_BitReader_beginNumber_1 rfl ?_
  refine zi_getI f_BitReader_9 q1 (by decide) d_BitReader_beginNumber_2 ?_
  refine zi_putI f_BitReader_15 q1 (by decide) d_BitReader_beginNumber_5 ?_
  exact zi_vret d_BitReader_beginNumber_8 rfl k
set_option maxRecDepth 20000 in
theorem r_BitReader_takeBit_0 (l : Launch) (d : Nat) {K : zx_Kt} {RJ : zx_RJ} {Q : zi_Q} {I : zi_I} (o0 : Nat) (q1 : (K.2 o0).1 = 7) {r2 : Nat} (e3 : RJ.1 o0 0 = r2) (z4 : r2 ≠ 0) (q5 : (K.2 r2).1 = 16) {r6 : Nat} (e7 : RJ.1 r2 0 = r6) (z8 : r6 ≠ 0) {n10 : Nat} (a9 : K.2 r6 = (0, n10))
    (k : ((((I o0 1) / 8) < 0) → Q (some (.int ((-2)))) I) ∧ ((¬ ((I o0 1) / 8) < 0) → ((((I o0 1) / 8) < (I r2 1)) → ∃ j11, (I o0 1) / 8 = nI j11 ∧ j11 < n10 ∧ Q (some (.int ((((I r6 j11) : Int32) >>> (((7 - ((I o0 1) - (I o0 1) / 8 * 8)) : Int32) &&& 31)) &&& 1))) (zx_u2 I o0 1 ((I o0 1) + 1))) ∧ ((¬ ((I o0 1) / 8) < (I r2 1)) → Q (some (.int ((-2)))) I))) :
    zi_X l (zx_rm d 0 0) M_BitReader_takeBit K RJ Q 0 [(0, .ref o0)] [] I := by
  refine zx_aload_n d_BitReader_takeBit_0 rfl ?_
  refine zi_getI f_BitReader_9 q1 (by decide) d_BitReader_takeBit_1 ?_
  refine zx_bipush d_BitReader_takeBit_4 zb_8 ?_
  refine zx_idiv d_BitReader_takeBit_6 (by decide) ?_
  refine zx_istore_n (L2 := [(0, .ref o0), (1, .int ((I o0 1) / 8))]) d_BitReader_takeBit_7 (Nat.le_of_ble_eq_true rfl) rfl ?_
  refine zx_iload_n d_BitReader_takeBit_8 rfl ?_
  refine zx_if_lt (tgt := 23) d_BitReader_takeBit_9 rfl (fun c => ?_) (fun c => ?_)
  · have k := k.1 c
    refine zx_bipush d_BitReader_takeBit_23 zb_m2 ?_
    exact zi_iret d_BitReader_takeBit_25 rfl k
  · have k := k.2 c
    refine zx_iload_n d_BitReader_takeBit_12 rfl ?_
    refine zx_aload_n d_BitReader_takeBit_13 rfl ?_
    refine zi_getR f_BitReader_18 q1 (by decide) e3 z4 d_BitReader_takeBit_14 ?_
    refine zi_getI f_BitReader_22 q5 (by decide) d_BitReader_takeBit_17 ?_
    refine zx_icmp_lt (tgt := 26) d_BitReader_takeBit_20 rfl (fun c => ?_) (fun c => ?_)
    · have k := k.1 c
      refine zx_aload_n d_BitReader_takeBit_26 rfl ?_
      refine zi_getR f_BitReader_18 q1 (by decide) e3 z4 d_BitReader_takeBit_27 ?_
      refine zi_getR f_BitReader_27 q5 (by decide) e7 z8 d_BitReader_takeBit_30 ?_
      refine zx_iload_n d_BitReader_takeBit_33 rfl ?_
      obtain ⟨j11, e12, b13, k⟩ := k
      refine zi_iald j11 a9 e12 b13 d_BitReader_takeBit_34 ?_
      refine zx_bipush d_BitReader_takeBit_35 zb_7 ?_
      refine zx_aload_n d_BitReader_takeBit_37 rfl ?_
      refine zi_getI f_BitReader_9 q1 (by decide) d_BitReader_takeBit_38 ?_
      refine zx_bipush d_BitReader_takeBit_41 zb_8 ?_
      refine zx_irem d_BitReader_takeBit_43 (by decide) ?_
      refine zx_isub d_BitReader_takeBit_44 ?_
      refine zx_ishr d_BitReader_takeBit_45 ?_
      refine zx_iconst d_BitReader_takeBit_46 zc_1 ?_
      refine zx_iand d_BitReader_takeBit_47 ?_
      refine zx_istore_n (L2 := [(0, .ref o0), (1, .int ((I o0 1) / 8)), (2, .int ((((I r6 j11) : Int32) >>> (((7 - ((I o0 1) - (I o0 1) / 8 * 8)) : Int32) &&& 31)) &&& 1))]) d_BitReader_takeBit_48 (Nat.le_of_ble_eq_true rfl) rfl ?_
      refine zx_aload_n d_BitReader_takeBit_49 rfl ?_
      refine zx_dup_a d_BitReader_takeBit_50 ?_
      refine zi_getI f_BitReader_9 q1 (by decide) d_BitReader_takeBit_51 ?_
      refine zx_iconst d_BitReader_takeBit_54 zc_1 ?_
      refine zx_iadd d_BitReader_takeBit_55 ?_
      refine zi_putI f_BitReader_9 q1 (by decide) d_BitReader_takeBit_56 ?_
      refine zx_iload_n d_BitReader_takeBit_59 rfl ?_
      exact zi_iret d_BitReader_takeBit_60 rfl k
    · have k := k.2 c
      refine zx_bipush d_BitReader_takeBit_23 zb_m2 ?_
      exact zi_iret d_BitReader_takeBit_25 rfl k
set_option maxRecDepth 20000 in
theorem r_BitReader_takeNumber_0 (l : Launch) (d : Nat) {K : zx_Kt} {RJ : zx_RJ} {Q : zi_Q} {I : zi_I} (o0 : Nat) (x1 : Int32) (q1 : (K.2 o0).1 = 7)
    (k : zi_C l (zx_rm d 0 0) M_BitReader_beginNumber [.ref o0] K RJ I (fun r I2 => r = none ∧ zi_X l (zx_rm (d + 1) 0 0) M_BitReader_takeNumber K RJ Q 8 [(0, .ref o0), (1, .int x1), (2, .int 0), (3, .int 0)] [] I2)) :
    zi_X l (zx_rm (d + 1) 0 0) M_BitReader_takeNumber K RJ Q 0 [(0, .ref o0), (1, .int x1)] [] I := by
  refine zx_aload_n d_BitReader_takeNumber_0 rfl ?_
  refine zi_callV (hC := k) k_BitReader_31 q1 (by decide) rfl rfl (Nat.le_of_ble_eq_true rfl) (Nat.le_of_ble_eq_true rfl) d_BitReader_takeNumber_1 (fun r I2 k => ?_)
  obtain ⟨rfl, k⟩ := k
  refine zx_iconst d_BitReader_takeNumber_4 zc_0 ?_
  refine zx_istore_n (L2 := [(0, .ref o0), (1, .int x1), (2, .int 0)]) d_BitReader_takeNumber_5 (Nat.le_of_ble_eq_true rfl) rfl ?_
  refine zx_iconst d_BitReader_takeNumber_6 zc_0 ?_
  refine zx_istore_n (L2 := [(0, .ref o0), (1, .int x1), (2, .int 0), (3, .int 0)]) d_BitReader_takeNumber_7 (Nat.le_of_ble_eq_true rfl) rfl ?_
  exact k
set_option maxRecDepth 20000 in
theorem r_BitReader_takeNumber_8 (l : Launch) (d : Nat) {K : zx_Kt} {RJ : zx_RJ} {Q : zi_Q} {I : zi_I} (o0 : Nat) (x1 : Int32) (x2 : Int32) (x3 : Int32) (q1 : (K.2 o0).1 = 7)
    (k : ((x1 ≤ x3) → Q (some (.int x2)) I) ∧ ((¬ x1 ≤ x3) → zi_C l (zx_rm d 0 0) M_BitReader_takeBit [.ref o0] K RJ I (fun r I2 => ∃ v3, r = some (.int v3) ∧ ((0 ≤ v3) → zi_X l (zx_rm (d + 1) 0 0) M_BitReader_takeNumber K RJ Q 8 [(0, .ref o0), (1, .int x1), (2, .int (((x2 : Int32) <<< ((1 : Int32) &&& 31)) ||| v3)), (3, .int (x3 + 1))] [] I2) ∧ ((¬ 0 ≤ v3) → Q (some (.int v3)) I2)))) :
    zi_X l (zx_rm (d + 1) 0 0) M_BitReader_takeNumber K RJ Q 8 [(0, .ref o0), (1, .int x1), (2, .int x2), (3, .int x3)] [] I := by
  refine zx_iload_n d_BitReader_takeNumber_8 rfl ?_
  refine zx_iload_n d_BitReader_takeNumber_9 rfl ?_
  refine zx_icmp_ge (tgt := 40) d_BitReader_takeNumber_10 rfl (fun c => ?_) (fun c => ?_)
  · have k := k.1 c
    refine zx_iload_n d_BitReader_takeNumber_40 rfl ?_
    exact zi_iret d_BitReader_takeNumber_41 rfl k
  · have k := k.2 c
    refine zx_aload_n d_BitReader_takeNumber_13 rfl ?_
    refine zi_callV (hC := k) k_BitReader_34 q1 (by decide) rfl rfl (Nat.le_of_ble_eq_true rfl) (Nat.le_of_ble_eq_true rfl) d_BitReader_takeNumber_14 (fun r I2 k => ?_)
    obtain ⟨v3, rfl, k⟩ := k
    refine zx_istore (L2 := [(0, .ref o0), (1, .int x1), (2, .int x2), (3, .int x3), (4, .int v3)]) d_BitReader_takeNumber_17 (Nat.le_of_ble_eq_true rfl) rfl ?_
    refine zx_iload d_BitReader_takeNumber_19 rfl ?_
    refine zx_if_ge (tgt := 27) d_BitReader_takeNumber_21 rfl (fun c => ?_) (fun c => ?_)
    · have k := k.1 c
      refine zx_iload_n d_BitReader_takeNumber_27 rfl ?_
      refine zx_iconst d_BitReader_takeNumber_28 zc_1 ?_
      refine zx_ishl d_BitReader_takeNumber_29 ?_
      refine zx_iload d_BitReader_takeNumber_30 rfl ?_
      refine zx_ior d_BitReader_takeNumber_32 ?_
      refine zx_istore_n (L2 := [(0, .ref o0), (1, .int x1), (2, .int (((x2 : Int32) <<< ((1 : Int32) &&& 31)) ||| v3)), (3, .int x3), (4, .int v3)]) d_BitReader_takeNumber_33 (Nat.le_of_ble_eq_true rfl) rfl ?_
      refine zx_iinc (L2 := [(0, .ref o0), (1, .int x1), (2, .int (((x2 : Int32) <<< ((1 : Int32) &&& 31)) ||| v3)), (3, .int (x3 + 1)), (4, .int v3)]) d_BitReader_takeNumber_34 rfl (Nat.le_of_ble_eq_true rfl) zc_1 rfl ?_
      refine zx_goto (tgt := 8) d_BitReader_takeNumber_37 rfl ?_
      refine zx_locs [0, 1, 2, 3] rfl ?_
      exact k
    · have k := k.2 c
      refine zx_iload d_BitReader_takeNumber_24 rfl ?_
      exact zi_iret d_BitReader_takeNumber_26 rfl k
set_option maxRecDepth 20000 in
theorem r_BitReader_findMark_0 (l : Launch) (d : Nat) {K : zx_Kt} {RJ : zx_RJ} {Q : zi_Q} {I : zi_I} (o0 : Nat) (x1 : Int32) (q1 : (K.2 o0).1 = 7)
    (k : zi_C l (zx_rm d 0 0) M_BitReader_goTo [.ref o0, .int x1] K RJ I (fun r I2 => r = none ∧ zi_X l (zx_rm (d + 1) 0 0) M_BitReader_findMark K RJ Q 9 [(0, .ref o0), (1, .int x1), (2, .int 0), (3, .int 1)] [] I2)) :
    zi_X l (zx_rm (d + 1) 0 0) M_BitReader_findMark K RJ Q 0 [(0, .ref o0), (1, .int x1)] [] I := by
  refine zx_aload_n d_BitReader_findMark_0 rfl ?_
  refine zx_iload_n d_BitReader_findMark_1 rfl ?_
  refine zi_callV (hC := k) k_BitReader_38 q1 (by decide) rfl rfl (Nat.le_of_ble_eq_true rfl) (Nat.le_of_ble_eq_true rfl) d_BitReader_findMark_2 (fun r I2 k => ?_)
  obtain ⟨rfl, k⟩ := k
  refine zx_iconst d_BitReader_findMark_5 zc_0 ?_
  refine zx_istore_n (L2 := [(0, .ref o0), (1, .int x1), (2, .int 0)]) d_BitReader_findMark_6 (Nat.le_of_ble_eq_true rfl) rfl ?_
  refine zx_iconst d_BitReader_findMark_7 zc_1 ?_
  refine zx_istore_n (L2 := [(0, .ref o0), (1, .int x1), (2, .int 0), (3, .int 1)]) d_BitReader_findMark_8 (Nat.le_of_ble_eq_true rfl) rfl ?_
  exact k
set_option maxRecDepth 20000 in
theorem r_BitReader_findMark_9 (l : Launch) (d : Nat) {K : zx_Kt} {RJ : zx_RJ} {Q : zi_Q} {I : zi_I} (o0 : Nat) (x1 : Int32) (x2 : Int32) (x3 : Int32) (q1 : (K.2 o0).1 = 7)
    (k : ((3200 < x3) → Q (some (.int 0)) I) ∧ ((¬ 3200 < x3) → zi_C l (zx_rm d 0 0) M_BitReader_takeBit [.ref o0] K RJ I (fun r I2 => ∃ v3, r = some (.int v3) ∧ ((0 ≤ v3) → ((¬ ((((x2 : Int32) <<< ((1 : Int32) &&& 31)) ||| v3) &&& 16777215) = 3227993) → zi_X l (zx_rm (d + 1) 0 0) M_BitReader_findMark K RJ Q 9 [(0, .ref o0), (1, .int x1), (2, .int ((((x2 : Int32) <<< ((1 : Int32) &&& 31)) ||| v3) &&& 16777215)), (3, .int (x3 + 1))] [] I2) ∧ ((((((x2 : Int32) <<< ((1 : Int32) &&& 31)) ||| v3) &&& 16777215) = 3227993) → ((x3 < 24) → zi_X l (zx_rm (d + 1) 0 0) M_BitReader_findMark K RJ Q 9 [(0, .ref o0), (1, .int x1), (2, .int ((((x2 : Int32) <<< ((1 : Int32) &&& 31)) ||| v3) &&& 16777215)), (3, .int (x3 + 1))] [] I2) ∧ ((¬ x3 < 24) → Q (some (.int 1)) I2))) ∧ ((¬ 0 ≤ v3) → Q (some (.int 0)) I2)))) :
    zi_X l (zx_rm (d + 1) 0 0) M_BitReader_findMark K RJ Q 9 [(0, .ref o0), (1, .int x1), (2, .int x2), (3, .int x3)] [] I := by
  refine zx_iload_n d_BitReader_findMark_9 rfl ?_
  refine zx_sipush d_BitReader_findMark_10 zs_3200 ?_
  refine zx_icmp_gt (tgt := 59) d_BitReader_findMark_13 rfl (fun c => ?_) (fun c => ?_)
  · have k := k.1 c
    refine zx_iconst d_BitReader_findMark_59 zc_0 ?_
    exact zi_zret d_BitReader_findMark_60 rfl rfl k
  · have k := k.2 c
    refine zx_aload_n d_BitReader_findMark_16 rfl ?_
    refine zi_callV (hC := k) k_BitReader_34 q1 (by decide) rfl rfl (Nat.le_of_ble_eq_true rfl) (Nat.le_of_ble_eq_true rfl) d_BitReader_findMark_17 (fun r I2 k => ?_)
    obtain ⟨v3, rfl, k⟩ := k
    refine zx_istore (L2 := [(0, .ref o0), (1, .int x1), (2, .int x2), (3, .int x3), (4, .int v3)]) d_BitReader_findMark_20 (Nat.le_of_ble_eq_true rfl) rfl ?_
    refine zx_iload d_BitReader_findMark_22 rfl ?_
    refine zx_if_ge (tgt := 29) d_BitReader_findMark_24 rfl (fun c => ?_) (fun c => ?_)
    · have k := k.1 c
      refine zx_iload_n d_BitReader_findMark_29 rfl ?_
      refine zx_iconst d_BitReader_findMark_30 zc_1 ?_
      refine zx_ishl d_BitReader_findMark_31 ?_
      refine zx_iload d_BitReader_findMark_32 rfl ?_
      refine zx_ior d_BitReader_findMark_34 ?_
      refine zx_ldc w_BitReader_42 d_BitReader_findMark_35 ?_
      refine zx_iand d_BitReader_findMark_37 ?_
      refine zx_istore_n (L2 := [(0, .ref o0), (1, .int x1), (2, .int ((((x2 : Int32) <<< ((1 : Int32) &&& 31)) ||| v3) &&& 16777215)), (3, .int x3), (4, .int v3)]) d_BitReader_findMark_38 (Nat.le_of_ble_eq_true rfl) rfl ?_
      refine zx_iload_n d_BitReader_findMark_39 rfl ?_
      refine zx_ldc w_BitReader_43 d_BitReader_findMark_40 ?_
      refine zx_icmp_ne (tgt := 53) d_BitReader_findMark_42 rfl (fun c => ?_) (fun c => ?_)
      · have k := k.1 c
        refine zx_iinc (L2 := [(0, .ref o0), (1, .int x1), (2, .int ((((x2 : Int32) <<< ((1 : Int32) &&& 31)) ||| v3) &&& 16777215)), (3, .int (x3 + 1)), (4, .int v3)]) d_BitReader_findMark_53 rfl (Nat.le_of_ble_eq_true rfl) zc_1 rfl ?_
        refine zx_goto (tgt := 9) d_BitReader_findMark_56 rfl ?_
        refine zx_locs [0, 1, 2, 3] rfl ?_
        exact k
      · have k := k.2 c
        refine zx_iload_n d_BitReader_findMark_45 rfl ?_
        refine zx_bipush d_BitReader_findMark_46 zb_24 ?_
        refine zx_icmp_lt (tgt := 53) d_BitReader_findMark_48 rfl (fun c => ?_) (fun c => ?_)
        · have k := k.1 c
          refine zx_iinc (L2 := [(0, .ref o0), (1, .int x1), (2, .int ((((x2 : Int32) <<< ((1 : Int32) &&& 31)) ||| v3) &&& 16777215)), (3, .int (x3 + 1)), (4, .int v3)]) d_BitReader_findMark_53 rfl (Nat.le_of_ble_eq_true rfl) zc_1 rfl ?_
          refine zx_goto (tgt := 9) d_BitReader_findMark_56 rfl ?_
          refine zx_locs [0, 1, 2, 3] rfl ?_
          exact k
        · have k := k.2 c
          refine zx_iconst d_BitReader_findMark_51 zc_1 ?_
          exact zi_zret d_BitReader_findMark_52 rfl rfl k
    · have k := k.2 c
      refine zx_iconst d_BitReader_findMark_27 zc_0 ?_
      exact zi_zret d_BitReader_findMark_28 rfl rfl k
set_option maxRecDepth 20000 in
theorem r_BitWriter_put_0 (l : Launch) (d : Nat) {K : zx_Kt} {RJ : zx_RJ} {Q : zi_Q} {I : zi_I} (o0 : Nat) (x1 : Int32) (x2 : Int32) 
    (k : zi_X l (zx_rm (d + 1) 0 0) M_BitWriter_put K RJ Q 4 [(0, .ref o0), (1, .int x1), (2, .int x2), (3, .int (x2 - 1))] [] I) :
    zi_X l (zx_rm (d + 1) 0 0) M_BitWriter_put K RJ Q 0 [(0, .ref o0), (1, .int x1), (2, .int x2)] [] I := by
  refine zx_iload_n d_BitWriter_put_0 rfl ?_
  refine zx_iconst d_BitWriter_put_1 zc_1 ?_
  refine zx_isub d_BitWriter_put_2 ?_
  refine zx_istore_n (L2 := [(0, .ref o0), (1, .int x1), (2, .int x2), (3, .int (x2 - 1))]) d_BitWriter_put_3 (Nat.le_of_ble_eq_true rfl) rfl ?_
  exact k
set_option maxRecDepth 20000 in
theorem r_BitWriter_put_4 (l : Launch) (d : Nat) {K : zx_Kt} {RJ : zx_RJ} {Q : zi_Q} {I : zi_I} (o0 : Nat) (x1 : Int32) (x2 : Int32) (x3 : Int32) (q1 : (K.2 o0).1 = 8)
    (k : ((x3 < 0) → Q none I) ∧ ((¬ x3 < 0) → zi_C l (zx_rm d 0 0) M_BitWriter_putBit [.ref o0, .int (((x1 : Int32) >>> ((x3 : Int32) &&& 31)) &&& 1)] K RJ I (fun r I2 => r = none ∧ zi_X l (zx_rm (d + 1) 0 0) M_BitWriter_put K RJ Q 4 [(0, .ref o0), (1, .int x1), (2, .int x2), (3, .int (x3 + (-1)))] [] I2))) :
    zi_X l (zx_rm (d + 1) 0 0) M_BitWriter_put K RJ Q 4 [(0, .ref o0), (1, .int x1), (2, .int x2), (3, .int x3)] [] I := by
  refine zx_iload_n d_BitWriter_put_4 rfl ?_
  refine zx_if_lt (tgt := 23) d_BitWriter_put_5 rfl (fun c => ?_) (fun c => ?_)
  · have k := k.1 c
    exact zi_vret d_BitWriter_put_23 rfl k
  · have k := k.2 c
    refine zx_aload_n d_BitWriter_put_8 rfl ?_
    refine zx_iload_n d_BitWriter_put_9 rfl ?_
    refine zx_iload_n d_BitWriter_put_10 rfl ?_
    refine zx_ishr d_BitWriter_put_11 ?_
    refine zx_iconst d_BitWriter_put_12 zc_1 ?_
    refine zx_iand d_BitWriter_put_13 ?_
    refine zi_callV (hC := k) k_BitWriter_20 q1 (by decide) rfl rfl (Nat.le_of_ble_eq_true rfl) (Nat.le_of_ble_eq_true rfl) d_BitWriter_put_14 (fun r I2 k => ?_)
    obtain ⟨rfl, k⟩ := k
    refine zx_iinc (L2 := [(0, .ref o0), (1, .int x1), (2, .int x2), (3, .int (x3 + (-1)))]) d_BitWriter_put_17 rfl (Nat.le_of_ble_eq_true rfl) zc_m1 rfl ?_
    refine zx_goto (tgt := 4) d_BitWriter_put_20 rfl ?_
    exact k
set_option maxRecDepth 20000 in
theorem r_BitWriter_fillByte_0 (l : Launch) (d : Nat) {K : zx_Kt} {RJ : zx_RJ} {Q : zi_Q} {I : zi_I} (o0 : Nat) (q1 : (K.2 o0).1 = 8)
    (k : (((I o0 2) ≤ 0) → Q none I) ∧ ((¬ (I o0 2) ≤ 0) → zi_C l (zx_rm d 0 0) M_BitWriter_put [.ref o0, .int 0, .int (8 - (I o0 2))] K RJ I (fun r I2 => r = none ∧ Q none I2))) :
    zi_X l (zx_rm (d + 1) 0 0) M_BitWriter_fillByte K RJ Q 0 [(0, .ref o0)] [] I := by
  refine zx_aload_n d_BitWriter_fillByte_0 rfl ?_
  refine zi_getI f_BitWriter_13 q1 (by decide) d_BitWriter_fillByte_1 ?_
  refine zx_if_le (tgt := 19) d_BitWriter_fillByte_4 rfl (fun c => ?_) (fun c => ?_)
  · have k := k.1 c
    exact zi_vret d_BitWriter_fillByte_19 rfl k
  · have k := k.2 c
    refine zx_aload_n d_BitWriter_fillByte_7 rfl ?_
    refine zx_iconst d_BitWriter_fillByte_8 zc_0 ?_
    refine zx_bipush d_BitWriter_fillByte_9 zb_8 ?_
    refine zx_aload_n d_BitWriter_fillByte_11 rfl ?_
    refine zi_getI f_BitWriter_13 q1 (by decide) d_BitWriter_fillByte_12 ?_
    refine zx_isub d_BitWriter_fillByte_15 ?_
    refine zi_callV (hC := k) k_BitWriter_24 q1 (by decide) rfl rfl (Nat.le_of_ble_eq_true rfl) (Nat.le_of_ble_eq_true rfl) d_BitWriter_fillByte_16 (fun r I2 k => ?_)
    obtain ⟨rfl, k⟩ := k
    exact zi_vret d_BitWriter_fillByte_19 rfl k
set_option maxRecDepth 20000 in
theorem r_BitWriter_putBit_0 (l : Launch) (d : Nat) {K : zx_Kt} {RJ : zx_RJ} {Q : zi_Q} {I : zi_I} (o0 : Nat) (x1 : Int32) (q1 : (K.2 o0).1 = 8) {r2 : Nat} (e3 : RJ.1 o0 0 = r2) (z4 : r2 ≠ 0) (q5 : (K.2 r2).1 = 16)
    (k : ((¬ ((I o0 2) + 1) = 8) → Q none (zx_u2 (zx_u2 I o0 1 ((((I o0 1) : Int32) <<< ((1 : Int32) &&& 31)) ||| x1)) o0 2 ((I o0 2) + 1))) ∧ ((((I o0 2) + 1) = 8) → zi_C l (zx_rm d 0 0) M_Row_add [.ref r2, .int ((((I o0 1) : Int32) <<< ((1 : Int32) &&& 31)) ||| x1)] K RJ (zx_u2 (zx_u2 I o0 1 ((((I o0 1) : Int32) <<< ((1 : Int32) &&& 31)) ||| x1)) o0 2 ((I o0 2) + 1)) (fun r I6 => r = none ∧ Q none (zx_u2 (zx_u2 I6 o0 1 0) o0 2 0)))) :
    zi_X l (zx_rm (d + 1) 0 0) M_BitWriter_putBit K RJ Q 0 [(0, .ref o0), (1, .int x1)] [] I := by
  refine zx_aload_n d_BitWriter_putBit_0 rfl ?_
  refine zx_aload_n d_BitWriter_putBit_1 rfl ?_
  refine zi_getI f_BitWriter_7 q1 (by decide) d_BitWriter_putBit_2 ?_
  refine zx_iconst d_BitWriter_putBit_5 zc_1 ?_
  refine zx_ishl d_BitWriter_putBit_6 ?_
  refine zx_iload_n d_BitWriter_putBit_7 rfl ?_
  refine zx_ior d_BitWriter_putBit_8 ?_
  refine zi_putI f_BitWriter_7 q1 (by decide) d_BitWriter_putBit_9 ?_
  refine zx_aload_n d_BitWriter_putBit_12 rfl ?_
  refine zx_dup_a d_BitWriter_putBit_13 ?_
  refine zi_getIe f_BitWriter_13 q1 (by decide) (zx_u2_k (by decide)) d_BitWriter_putBit_14 ?_
  refine zx_iconst d_BitWriter_putBit_17 zc_1 ?_
  refine zx_iadd d_BitWriter_putBit_18 ?_
  refine zi_putI f_BitWriter_13 q1 (by decide) d_BitWriter_putBit_19 ?_
  refine zx_aload_n d_BitWriter_putBit_22 rfl ?_
  refine zi_getIe f_BitWriter_13 q1 (by decide) zx_u2_s d_BitWriter_putBit_23 ?_
  refine zx_bipush d_BitWriter_putBit_26 zb_8 ?_
  refine zx_icmp_ne (tgt := 52) d_BitWriter_putBit_28 rfl (fun c => ?_) (fun c => ?_)
  · have k := k.1 c
    exact zi_vret d_BitWriter_putBit_52 rfl k
  · have k := k.2 c
    refine zx_aload_n d_BitWriter_putBit_31 rfl ?_
    refine zi_getR f_BitWriter_16 q1 (by decide) e3 z4 d_BitWriter_putBit_32 ?_
    refine zx_aload_n d_BitWriter_putBit_35 rfl ?_
    refine zi_getIe f_BitWriter_7 q1 (by decide) ((zx_u2_k (by decide)).trans zx_u2_s) d_BitWriter_putBit_36 ?_
    refine zi_callV (hC := k) k_BitWriter_28 q5 (by decide) rfl rfl (Nat.le_of_ble_eq_true rfl) (Nat.le_of_ble_eq_true rfl) d_BitWriter_putBit_39 (fun r I6 k => ?_)
    obtain ⟨rfl, k⟩ := k
    refine zx_aload_n d_BitWriter_putBit_42 rfl ?_
    refine zx_iconst d_BitWriter_putBit_43 zc_0 ?_
    refine zi_putI f_BitWriter_7 q1 (by decide) d_BitWriter_putBit_44 ?_
    refine zx_aload_n d_BitWriter_putBit_47 rfl ?_
    refine zx_iconst d_BitWriter_putBit_48 zc_0 ?_
    refine zi_putI f_BitWriter_13 q1 (by decide) d_BitWriter_putBit_49 ?_
    exact zi_vret d_BitWriter_putBit_52 rfl k
set_option maxRecDepth 20000 in
theorem r_Block_symbolKinds_0 (l : Launch) (d : Nat) {K : zx_Kt} {RJ : zx_RJ} {Q : zi_Q} {I : zi_I} (o0 : Nat) (q1 : (K.2 o0).1 = 9)
    (k : Q (some (.int ((I o0 5) + 2))) I) :
    zi_X l (zx_rm d 0 0) M_Block_symbolKinds K RJ Q 0 [(0, .ref o0)] [] I := by
  refine zx_aload_n d_Block_symbolKinds_0 rfl ?_
  refine zi_getI f_Block_28 q1 (by decide) d_Block_symbolKinds_1 ?_
  refine zx_iconst d_Block_symbolKinds_4 zc_2 ?_
  refine zx_iadd d_Block_symbolKinds_5 ?_
  exact zi_iret d_Block_symbolKinds_6 rfl k
set_option maxRecDepth 20000 in
theorem r_Block_endSymbol_0 (l : Launch) (d : Nat) {K : zx_Kt} {RJ : zx_RJ} {Q : zi_Q} {I : zi_I} (o0 : Nat) (q1 : (K.2 o0).1 = 9)
    (k : Q (some (.int ((I o0 5) + 1))) I) :
    zi_X l (zx_rm d 0 0) M_Block_endSymbol K RJ Q 0 [(0, .ref o0)] [] I := by
  refine zx_aload_n d_Block_endSymbol_0 rfl ?_
  refine zi_getI f_Block_28 q1 (by decide) d_Block_endSymbol_1 ?_
  refine zx_iconst d_Block_endSymbol_4 zc_1 ?_
  refine zx_iadd d_Block_endSymbol_5 ?_
  exact zi_iret d_Block_endSymbol_6 rfl k
set_option maxRecDepth 20000 in
theorem r_Block_addKind_0 (l : Launch) (d : Nat) {K : zx_Kt} {RJ : zx_RJ} {Q : zi_Q} {I : zi_I} (o0 : Nat) (x1 : Int32) (q1 : (K.2 o0).1 = 9) {r2 : Nat} (e3 : RJ.1 o0 6 = r2) (z4 : r2 ≠ 0) {n6 : Nat} (a5 : K.2 r2 = (0, n6))
    (k : ((256 ≤ (I o0 5)) → Q none I) ∧ ((¬ 256 ≤ (I o0 5)) → ∃ j7, I o0 5 = nI j7 ∧ j7 < n6 ∧ Q none (zx_u2 (zx_u2 I r2 j7 x1) o0 5 ((I o0 5) + 1)))) :
    zi_X l (zx_rm d 0 0) M_Block_addKind K RJ Q 0 [(0, .ref o0), (1, .int x1)] [] I := by
  refine zx_aload_n d_Block_addKind_0 rfl ?_
  refine zi_getI f_Block_28 q1 (by decide) d_Block_addKind_1 ?_
  refine zx_sipush d_Block_addKind_4 zs_256 ?_
  refine zx_icmp_ge (tgt := 30) d_Block_addKind_7 rfl (fun c => ?_) (fun c => ?_)
  · have k := k.1 c
    exact zi_vret d_Block_addKind_30 rfl k
  · have k := k.2 c
    refine zx_aload_n d_Block_addKind_10 rfl ?_
    refine zi_getR f_Block_31 q1 (by decide) e3 z4 d_Block_addKind_11 ?_
    refine zx_aload_n d_Block_addKind_14 rfl ?_
    refine zi_getI f_Block_28 q1 (by decide) d_Block_addKind_15 ?_
    refine zx_iload_n d_Block_addKind_18 rfl ?_
    obtain ⟨j7, e8, b9, k⟩ := k
    refine zi_iast j7 a5 e8 b9 d_Block_addKind_19 ?_
    refine zx_aload_n d_Block_addKind_20 rfl ?_
    refine zx_dup_a d_Block_addKind_21 ?_
    refine zi_getIe f_Block_28 q1 (by decide) (zx_u2_a a5 q1 (by decide)) d_Block_addKind_22 ?_
    refine zx_iconst d_Block_addKind_25 zc_1 ?_
    refine zx_iadd d_Block_addKind_26 ?_
    refine zi_putI f_Block_28 q1 (by decide) d_Block_addKind_27 ?_
    exact zi_vret d_Block_addKind_30 rfl k
set_option maxRecDepth 20000 in
theorem r_Block_addShortened_0 (l : Launch) (d : Nat) {K : zx_Kt} {RJ : zx_RJ} {Q : zi_Q} {I : zi_I} (o0 : Nat) (x1 : Int32) (q1 : (K.2 o0).1 = 9) {r2 : Nat} (e3 : RJ.1 o0 3 = r2) (z4 : r2 ≠ 0) {n6 : Nat} (a5 : K.2 r2 = (0, n6))
    (k : ((64 ≤ (I o0 2)) → Q none I) ∧ ((¬ 64 ≤ (I o0 2)) → ∃ j7, I o0 2 = nI j7 ∧ j7 < n6 ∧ Q none (zx_u2 (zx_u2 I r2 j7 x1) o0 2 ((I o0 2) + 1)))) :
    zi_X l (zx_rm d 0 0) M_Block_addShortened K RJ Q 0 [(0, .ref o0), (1, .int x1)] [] I := by
  refine zx_aload_n d_Block_addShortened_0 rfl ?_
  refine zi_getI f_Block_18 q1 (by decide) d_Block_addShortened_1 ?_
  refine zx_bipush d_Block_addShortened_4 zb_64 ?_
  refine zx_icmp_ge (tgt := 29) d_Block_addShortened_6 rfl (fun c => ?_) (fun c => ?_)
  · have k := k.1 c
    exact zi_vret d_Block_addShortened_29 rfl k
  · have k := k.2 c
    refine zx_aload_n d_Block_addShortened_9 rfl ?_
    refine zi_getR f_Block_21 q1 (by decide) e3 z4 d_Block_addShortened_10 ?_
    refine zx_aload_n d_Block_addShortened_13 rfl ?_
    refine zi_getI f_Block_18 q1 (by decide) d_Block_addShortened_14 ?_
    refine zx_iload_n d_Block_addShortened_17 rfl ?_
    obtain ⟨j7, e8, b9, k⟩ := k
    refine zi_iast j7 a5 e8 b9 d_Block_addShortened_18 ?_
    refine zx_aload_n d_Block_addShortened_19 rfl ?_
    refine zx_dup_a d_Block_addShortened_20 ?_
    refine zi_getIe f_Block_18 q1 (by decide) (zx_u2_a a5 q1 (by decide)) d_Block_addShortened_21 ?_
    refine zx_iconst d_Block_addShortened_24 zc_1 ?_
    refine zx_iadd d_Block_addShortened_25 ?_
    refine zi_putI f_Block_18 q1 (by decide) d_Block_addShortened_26 ?_
    exact zi_vret d_Block_addShortened_29 rfl k
set_option maxRecDepth 20000 in
theorem r_Block_addToColumn_0 (l : Launch) (d : Nat) {K : zx_Kt} {RJ : zx_RJ} {Q : zi_Q} {I : zi_I} (o0 : Nat) (x1 : Int32) (q1 : (K.2 o0).1 = 9) {r2 : Nat} (e3 : RJ.1 o0 4 = r2) (z4 : r2 ≠ 0) {n6 : Nat} (a5 : K.2 r2 = (0, n6))
    (k : ((64 ≤ (I o0 2)) → Q none I) ∧ ((¬ 64 ≤ (I o0 2)) → ∃ j7, I o0 2 = nI j7 ∧ j7 < n6 ∧ Q none (zx_u2 (zx_u2 I r2 j7 x1) o0 2 ((I o0 2) + 1)))) :
    zi_X l (zx_rm d 0 0) M_Block_addToColumn K RJ Q 0 [(0, .ref o0), (1, .int x1)] [] I := by
  refine zx_aload_n d_Block_addToColumn_0 rfl ?_
  refine zi_getI f_Block_18 q1 (by decide) d_Block_addToColumn_1 ?_
  refine zx_bipush d_Block_addToColumn_4 zb_64 ?_
  refine zx_icmp_ge (tgt := 29) d_Block_addToColumn_6 rfl (fun c => ?_) (fun c => ?_)
  · have k := k.1 c
    exact zi_vret d_Block_addToColumn_29 rfl k
  · have k := k.2 c
    refine zx_aload_n d_Block_addToColumn_9 rfl ?_
    refine zi_getR f_Block_25 q1 (by decide) e3 z4 d_Block_addToColumn_10 ?_
    refine zx_aload_n d_Block_addToColumn_13 rfl ?_
    refine zi_getI f_Block_18 q1 (by decide) d_Block_addToColumn_14 ?_
    refine zx_iload_n d_Block_addToColumn_17 rfl ?_
    obtain ⟨j7, e8, b9, k⟩ := k
    refine zi_iast j7 a5 e8 b9 d_Block_addToColumn_18 ?_
    refine zx_aload_n d_Block_addToColumn_19 rfl ?_
    refine zx_dup_a d_Block_addToColumn_20 ?_
    refine zi_getIe f_Block_18 q1 (by decide) (zx_u2_a a5 q1 (by decide)) d_Block_addToColumn_21 ?_
    refine zx_iconst d_Block_addToColumn_24 zc_1 ?_
    refine zx_iadd d_Block_addToColumn_25 ?_
    refine zi_putI f_Block_18 q1 (by decide) d_Block_addToColumn_26 ?_
    exact zi_vret d_Block_addToColumn_29 rfl k
set_option maxRecDepth 20000 in
theorem r_Block_addSymbol_0 (l : Launch) (d : Nat) {K : zx_Kt} {RJ : zx_RJ} {Q : zi_Q} {I : zi_I} (o0 : Nat) (x1 : Int32) (q1 : (K.2 o0).1 = 9) {r2 : Nat} (e3 : RJ.1 o0 8 = r2) (z4 : r2 ≠ 0) {n6 : Nat} (a5 : K.2 r2 = (0, n6))
    (k : ((65 ≤ (I o0 7)) → Q none I) ∧ ((¬ 65 ≤ (I o0 7)) → ∃ j7, I o0 7 = nI j7 ∧ j7 < n6 ∧ Q none (zx_u2 (zx_u2 I r2 j7 x1) o0 7 ((I o0 7) + 1)))) :
    zi_X l (zx_rm d 0 0) M_Block_addSymbol K RJ Q 0 [(0, .ref o0), (1, .int x1)] [] I := by
  refine zx_aload_n d_Block_addSymbol_0 rfl ?_
  refine zi_getI f_Block_34 q1 (by decide) d_Block_addSymbol_1 ?_
  refine zx_bipush d_Block_addSymbol_4 zb_65 ?_
  refine zx_icmp_ge (tgt := 29) d_Block_addSymbol_6 rfl (fun c => ?_) (fun c => ?_)
  · have k := k.1 c
    exact zi_vret d_Block_addSymbol_29 rfl k
  · have k := k.2 c
    refine zx_aload_n d_Block_addSymbol_9 rfl ?_
    refine zi_getR f_Block_37 q1 (by decide) e3 z4 d_Block_addSymbol_10 ?_
    refine zx_aload_n d_Block_addSymbol_13 rfl ?_
    refine zi_getI f_Block_34 q1 (by decide) d_Block_addSymbol_14 ?_
    refine zx_iload_n d_Block_addSymbol_17 rfl ?_
    obtain ⟨j7, e8, b9, k⟩ := k
    refine zi_iast j7 a5 e8 b9 d_Block_addSymbol_18 ?_
    refine zx_aload_n d_Block_addSymbol_19 rfl ?_
    refine zx_dup_a d_Block_addSymbol_20 ?_
    refine zi_getIe f_Block_34 q1 (by decide) (zx_u2_a a5 q1 (by decide)) d_Block_addSymbol_21 ?_
    refine zx_iconst d_Block_addSymbol_24 zc_1 ?_
    refine zx_iadd d_Block_addSymbol_25 ?_
    refine zi_putI f_Block_34 q1 (by decide) d_Block_addSymbol_26 ?_
    exact zi_vret d_Block_addSymbol_29 rfl k
set_option maxRecDepth 20000 in
theorem r_Block_pickOfSymbol_0 (l : Launch) (d : Nat) {K : zx_Kt} {RJ : zx_RJ} {Q : zi_Q} {I : zi_I} (o0 : Nat) (x1 : Int32) (q1 : (K.2 o0).1 = 9) {r2 : Nat} (e3 : RJ.1 o0 12 = r2) (z4 : r2 ≠ 0) {n6 : Nat} (a5 : K.2 r2 = (0, n6))
    (k : (((x1 / 8) < 0) → Q (some (.int 0)) I) ∧ ((¬ (x1 / 8) < 0) → (((I o0 11) ≤ (x1 / 8)) → Q (some (.int 0)) I) ∧ ((¬ (I o0 11) ≤ (x1 / 8)) → ∃ j7, x1 / 8 = nI j7 ∧ j7 < n6 ∧ Q (some (.int (I r2 j7))) I))) :
    zi_X l (zx_rm d 0 0) M_Block_pickOfSymbol K RJ Q 0 [(0, .ref o0), (1, .int x1)] [] I := by
  refine zx_iload_n d_Block_pickOfSymbol_0 rfl ?_
  refine zx_bipush d_Block_pickOfSymbol_1 zb_8 ?_
  refine zx_idiv d_Block_pickOfSymbol_3 (by decide) ?_
  refine zx_istore_n (L2 := [(0, .ref o0), (1, .int x1), (2, .int (x1 / 8))]) d_Block_pickOfSymbol_4 (Nat.le_of_ble_eq_true rfl) rfl ?_
  refine zx_iload_n d_Block_pickOfSymbol_5 rfl ?_
  refine zx_if_lt (tgt := 26) d_Block_pickOfSymbol_6 rfl (fun c => ?_) (fun c => ?_)
  · have k := k.1 c
    refine zx_iconst d_Block_pickOfSymbol_26 zc_0 ?_
    exact zi_iret d_Block_pickOfSymbol_27 rfl k
  · have k := k.2 c
    refine zx_iload_n d_Block_pickOfSymbol_9 rfl ?_
    refine zx_aload_n d_Block_pickOfSymbol_10 rfl ?_
    refine zi_getI f_Block_48 q1 (by decide) d_Block_pickOfSymbol_11 ?_
    refine zx_icmp_ge (tgt := 26) d_Block_pickOfSymbol_14 rfl (fun c => ?_) (fun c => ?_)
    · have k := k.1 c
      refine zx_iconst d_Block_pickOfSymbol_26 zc_0 ?_
      exact zi_iret d_Block_pickOfSymbol_27 rfl k
    · have k := k.2 c
      refine zx_aload_n d_Block_pickOfSymbol_17 rfl ?_
      refine zi_getR f_Block_51 q1 (by decide) e3 z4 d_Block_pickOfSymbol_18 ?_
      refine zx_iload_n d_Block_pickOfSymbol_21 rfl ?_
      obtain ⟨j7, e8, b9, k⟩ := k
      refine zi_iald j7 a5 e8 b9 d_Block_pickOfSymbol_22 ?_
      refine zx_goto (tgt := 27) d_Block_pickOfSymbol_23 rfl ?_
      exact zi_iret d_Block_pickOfSymbol_27 rfl k
set_option maxRecDepth 20000 in
theorem r_MoveList_setTo_0 (l : Launch) (d : Nat) {K : zx_Kt} {RJ : zx_RJ} {Q : zi_Q} {I : zi_I} (o0 : Nat) (o1 : Nat) (x2 : Int32) {n2 : Nat} (a1 : K.2 o1 = (0, n2)) (q3 : (K.2 o0).1 = 14) {r4 : Nat} (e5 : RJ.1 o0 0 = r4) (z6 : r4 ≠ 0) {n8 : Nat} (a7 : K.2 r4 = (0, n8))
    (k : ∃ j9 j10 j11, 0 = nI j9 ∧ 0 = nI j10 ∧ zi_minv x2 (zi_minv (nI n2) (nI n8)) = nI j11 ∧ j9 + j11 ≤ n2 ∧ j10 + j11 ≤ n8 ∧ Q none (zi_cpy (zx_u2 I o0 1 (zi_minv x2 (zi_minv (nI n2) (nI n8)))) o1 r4 j9 j10 j11)) :
    zi_X l (zx_rm (d + 1) 0 0) M_MoveList_setTo K RJ Q 0 [(0, .ref o0), (1, .ref o1), (2, .int x2)] [] I := by
  refine zx_aload_n d_MoveList_setTo_0 rfl ?_
  refine zx_iload_n d_MoveList_setTo_1 rfl ?_
  refine zx_aload_n d_MoveList_setTo_2 rfl ?_
  refine zi_alen a1 d_MoveList_setTo_3 ?_
  refine zx_aload_n d_MoveList_setTo_4 rfl ?_
  refine zi_getR f_MoveList_9 q3 (by decide) e5 z6 d_MoveList_setTo_5 ?_
  refine zi_alen a7 d_MoveList_setTo_8 ?_
  refine zi_min w_min_MoveList_19 (Nat.le_of_ble_eq_true rfl) d_MoveList_setTo_9 ?_
  refine zi_min w_min_MoveList_19 (Nat.le_of_ble_eq_true rfl) d_MoveList_setTo_12 ?_
  refine zi_putI f_MoveList_15 q3 (by decide) d_MoveList_setTo_15 ?_
  refine zx_aload_n d_MoveList_setTo_18 rfl ?_
  refine zx_iconst d_MoveList_setTo_19 zc_0 ?_
  refine zx_aload_n d_MoveList_setTo_20 rfl ?_
  refine zi_getR f_MoveList_9 q3 (by decide) e5 z6 d_MoveList_setTo_21 ?_
  refine zx_iconst d_MoveList_setTo_24 zc_0 ?_
  refine zx_aload_n d_MoveList_setTo_25 rfl ?_
  refine zi_getIe f_MoveList_15 q3 (by decide) zx_u2_s d_MoveList_setTo_26 ?_
  obtain ⟨j9, j10, j11, e12, e13, e14, b15, b16, k⟩ := k
  refine zi_copy j9 j10 j11 w_copy_MoveList_25 a1 a7 e12 e13 e14 b15 b16 (Nat.le_of_ble_eq_true rfl) d_MoveList_setTo_29 ?_
  exact zi_vret d_MoveList_setTo_32 rfl k
set_option maxRecDepth 20000 in
theorem r_MoveList_setToNumbers_0 (l : Launch) (d : Nat) {K : zx_Kt} {RJ : zx_RJ} {Q : zi_Q} {I : zi_I} (o0 : Nat) (x1 : Int32) (q1 : (K.2 o0).1 = 14) {r2 : Nat} (e3 : RJ.1 o0 0 = r2) (z4 : r2 ≠ 0) {n6 : Nat} (a5 : K.2 r2 = (0, n6))
    (k : zi_X l (zx_rm (d + 1) 0 0) M_MoveList_setToNumbers K RJ Q 15 [(0, .ref o0), (1, .int x1), (2, .int 0)] [] (zx_u2 I o0 1 (zi_minv x1 (nI n6)))) :
    zi_X l (zx_rm (d + 1) 0 0) M_MoveList_setToNumbers K RJ Q 0 [(0, .ref o0), (1, .int x1)] [] I := by
  refine zx_aload_n d_MoveList_setToNumbers_0 rfl ?_
  refine zx_iload_n d_MoveList_setToNumbers_1 rfl ?_
  refine zx_aload_n d_MoveList_setToNumbers_2 rfl ?_
  refine zi_getR f_MoveList_9 q1 (by decide) e3 z4 d_MoveList_setToNumbers_3 ?_
  refine zi_alen a5 d_MoveList_setToNumbers_6 ?_
  refine zi_min w_min_MoveList_19 (Nat.le_of_ble_eq_true rfl) d_MoveList_setToNumbers_7 ?_
  refine zi_putI f_MoveList_15 q1 (by decide) d_MoveList_setToNumbers_10 ?_
  refine zx_iconst d_MoveList_setToNumbers_13 zc_0 ?_
  refine zx_istore_n (L2 := [(0, .ref o0), (1, .int x1), (2, .int 0)]) d_MoveList_setToNumbers_14 (Nat.le_of_ble_eq_true rfl) rfl ?_
  exact k
set_option maxRecDepth 20000 in
theorem r_MoveList_setToNumbers_15 (l : Launch) (d : Nat) {K : zx_Kt} {RJ : zx_RJ} {Q : zi_Q} {I : zi_I} (o0 : Nat) (x1 : Int32) (x2 : Int32) (q1 : (K.2 o0).1 = 14) {r2 : Nat} (e3 : RJ.1 o0 0 = r2) (z4 : r2 ≠ 0) {n6 : Nat} (a5 : K.2 r2 = (0, n6))
    (k : (((I o0 1) ≤ x2) → Q none I) ∧ ((¬ (I o0 1) ≤ x2) → ∃ j7, x2 = nI j7 ∧ j7 < n6 ∧ zi_X l (zx_rm (d + 1) 0 0) M_MoveList_setToNumbers K RJ Q 15 [(0, .ref o0), (1, .int x1), (2, .int (x2 + 1))] [] (zx_u2 I r2 j7 x2))) :
    zi_X l (zx_rm (d + 1) 0 0) M_MoveList_setToNumbers K RJ Q 15 [(0, .ref o0), (1, .int x1), (2, .int x2)] [] I := by
  refine zx_iload_n d_MoveList_setToNumbers_15 rfl ?_
  refine zx_aload_n d_MoveList_setToNumbers_16 rfl ?_
  refine zi_getI f_MoveList_15 q1 (by decide) d_MoveList_setToNumbers_17 ?_
  refine zx_icmp_ge (tgt := 36) d_MoveList_setToNumbers_20 rfl (fun c => ?_) (fun c => ?_)
  · have k := k.1 c
    exact zi_vret d_MoveList_setToNumbers_36 rfl k
  · have k := k.2 c
    refine zx_aload_n d_MoveList_setToNumbers_23 rfl ?_
    refine zi_getR f_MoveList_9 q1 (by decide) e3 z4 d_MoveList_setToNumbers_24 ?_
    refine zx_iload_n d_MoveList_setToNumbers_27 rfl ?_
    refine zx_iload_n d_MoveList_setToNumbers_28 rfl ?_
    obtain ⟨j7, e8, b9, k⟩ := k
    refine zi_iast j7 a5 e8 b9 d_MoveList_setToNumbers_29 ?_
    refine zx_iinc (L2 := [(0, .ref o0), (1, .int x1), (2, .int (x2 + 1))]) d_MoveList_setToNumbers_30 rfl (Nat.le_of_ble_eq_true rfl) zc_1 rfl ?_
    refine zx_goto (tgt := 15) d_MoveList_setToNumbers_33 rfl ?_
    exact k
set_option maxRecDepth 20000 in
theorem r_MoveList_moveValue_0 (l : Launch) (d : Nat) {K : zx_Kt} {RJ : zx_RJ} {Q : zi_Q} {I : zi_I} (o0 : Nat) (x1 : Int32) 
    (k : zi_X l (zx_rm (d + 1) 0 0) M_MoveList_moveValue K RJ Q 2 [(0, .ref o0), (1, .int x1), (2, .int 0)] [] I) :
    zi_X l (zx_rm (d + 1) 0 0) M_MoveList_moveValue K RJ Q 0 [(0, .ref o0), (1, .int x1)] [] I := by
  refine zx_iconst d_MoveList_moveValue_0 zc_0 ?_
  refine zx_istore_n (L2 := [(0, .ref o0), (1, .int x1), (2, .int 0)]) d_MoveList_moveValue_1 (Nat.le_of_ble_eq_true rfl) rfl ?_
  exact k
set_option maxRecDepth 20000 in
theorem r_MoveList_moveValue_2 (l : Launch) (d : Nat) {K : zx_Kt} {RJ : zx_RJ} {Q : zi_Q} {I : zi_I} (o0 : Nat) (x1 : Int32) (x2 : Int32) (q1 : (K.2 o0).1 = 14) {r4 : Nat} (e5 : RJ.1 o0 0 = r4) (z6 : r4 ≠ 0) {n8 : Nat} (a7 : K.2 r4 = (0, n8))
    (k : ((((I o0 1) - 1) ≤ x2) → zi_C l (zx_rm d 0 0) M_MoveList_movePlace [.ref o0, .int x2] K RJ I (fun r I2 => ∃ v3, r = some (.int v3) ∧ Q (some (.int x2)) I2)) ∧ ((¬ ((I o0 1) - 1) ≤ x2) → ∃ j9, x2 = nI j9 ∧ j9 < n8 ∧ (((I r4 j9) = x1) → zi_C l (zx_rm d 0 0) M_MoveList_movePlace [.ref o0, .int x2] K RJ I (fun r I12 => ∃ v13, r = some (.int v13) ∧ Q (some (.int x2)) I12)) ∧ ((¬ (I r4 j9) = x1) → zi_X l (zx_rm (d + 1) 0 0) M_MoveList_moveValue K RJ Q 2 [(0, .ref o0), (1, .int x1), (2, .int (x2 + 1))] [] I))) :
    zi_X l (zx_rm (d + 1) 0 0) M_MoveList_moveValue K RJ Q 2 [(0, .ref o0), (1, .int x1), (2, .int x2)] [] I := by
  refine zx_iload_n d_MoveList_moveValue_2 rfl ?_
  refine zx_aload_n d_MoveList_moveValue_3 rfl ?_
  refine zi_getI f_MoveList_15 q1 (by decide) d_MoveList_moveValue_4 ?_
  refine zx_iconst d_MoveList_moveValue_7 zc_1 ?_
  refine zx_isub d_MoveList_moveValue_8 ?_
  refine zx_icmp_ge (tgt := 28) d_MoveList_moveValue_9 rfl (fun c => ?_) (fun c => ?_)
  · have k := k.1 c
    refine zx_aload_n d_MoveList_moveValue_28 rfl ?_
    refine zx_iload_n d_MoveList_moveValue_29 rfl ?_
    refine zi_callV (hC := k) k_MoveList_31 q1 (by decide) rfl rfl (Nat.le_of_ble_eq_true rfl) (Nat.le_of_ble_eq_true rfl) d_MoveList_moveValue_30 (fun r I2 k => ?_)
    obtain ⟨v3, rfl, k⟩ := k
    refine zx_pop_i d_MoveList_moveValue_33 ?_
    refine zx_iload_n d_MoveList_moveValue_34 rfl ?_
    exact zi_iret d_MoveList_moveValue_35 rfl k
  · have k := k.2 c
    refine zx_aload_n d_MoveList_moveValue_12 rfl ?_
    refine zi_getR f_MoveList_9 q1 (by decide) e5 z6 d_MoveList_moveValue_13 ?_
    refine zx_iload_n d_MoveList_moveValue_16 rfl ?_
    obtain ⟨j9, e10, b11, k⟩ := k
    refine zi_iald j9 a7 e10 b11 d_MoveList_moveValue_17 ?_
    refine zx_iload_n d_MoveList_moveValue_18 rfl ?_
    refine zx_icmp_eq (tgt := 28) d_MoveList_moveValue_19 rfl (fun c => ?_) (fun c => ?_)
    · have k := k.1 c
      refine zx_aload_n d_MoveList_moveValue_28 rfl ?_
      refine zx_iload_n d_MoveList_moveValue_29 rfl ?_
      refine zi_callV (hC := k) k_MoveList_31 q1 (by decide) rfl rfl (Nat.le_of_ble_eq_true rfl) (Nat.le_of_ble_eq_true rfl) d_MoveList_moveValue_30 (fun r I12 k => ?_)
      obtain ⟨v13, rfl, k⟩ := k
      refine zx_pop_i d_MoveList_moveValue_33 ?_
      refine zx_iload_n d_MoveList_moveValue_34 rfl ?_
      exact zi_iret d_MoveList_moveValue_35 rfl k
    · have k := k.2 c
      refine zx_iinc (L2 := [(0, .ref o0), (1, .int x1), (2, .int (x2 + 1))]) d_MoveList_moveValue_22 rfl (Nat.le_of_ble_eq_true rfl) zc_1 rfl ?_
      refine zx_goto (tgt := 2) d_MoveList_moveValue_25 rfl ?_
      exact k
set_option maxRecDepth 20000 in
theorem r_MoveList_movePlace_0 (l : Launch) (d : Nat) {K : zx_Kt} {RJ : zx_RJ} {Q : zi_Q} {I : zi_I} (o0 : Nat) (x1 : Int32) (q1 : (K.2 o0).1 = 14) {r2 : Nat} (e3 : RJ.1 o0 0 = r2) (z4 : r2 ≠ 0) {n6 : Nat} (a5 : K.2 r2 = (0, n6))
    (k : ((x1 < 0) → Q (some (.int 0)) I) ∧ ((¬ x1 < 0) → ((x1 < (I o0 1)) → ∃ j7, x1 = nI j7 ∧ j7 < n6 ∧ ∃ j10 j11 j12, 0 = nI j10 ∧ 1 = nI j11 ∧ x1 = nI j12 ∧ j10 + j12 ≤ n6 ∧ j11 + j12 ≤ n6 ∧ 0 < n6 ∧ Q (some (.int (I r2 j7))) (zx_u2 (zi_cpy I r2 r2 j10 j11 j12) r2 0 (I r2 j7))) ∧ ((¬ x1 < (I o0 1)) → Q (some (.int 0)) I))) :
    zi_X l (zx_rm (d + 1) 0 0) M_MoveList_movePlace K RJ Q 0 [(0, .ref o0), (1, .int x1)] [] I := by
  refine zx_iload_n d_MoveList_movePlace_0 rfl ?_
  refine zx_if_lt (tgt := 12) d_MoveList_movePlace_1 rfl (fun c => ?_) (fun c => ?_)
  · have k := k.1 c
    refine zx_iconst d_MoveList_movePlace_12 zc_0 ?_
    exact zi_iret d_MoveList_movePlace_13 rfl k
  · have k := k.2 c
    refine zx_iload_n d_MoveList_movePlace_4 rfl ?_
    refine zx_aload_n d_MoveList_movePlace_5 rfl ?_
    refine zi_getI f_MoveList_15 q1 (by decide) d_MoveList_movePlace_6 ?_
    refine zx_icmp_lt (tgt := 14) d_MoveList_movePlace_9 rfl (fun c => ?_) (fun c => ?_)
    · have k := k.1 c
      refine zx_aload_n d_MoveList_movePlace_14 rfl ?_
      refine zi_getR f_MoveList_9 q1 (by decide) e3 z4 d_MoveList_movePlace_15 ?_
      refine zx_iload_n d_MoveList_movePlace_18 rfl ?_
      obtain ⟨j7, e8, b9, k⟩ := k
      refine zi_iald j7 a5 e8 b9 d_MoveList_movePlace_19 ?_
      refine zx_istore_n (L2 := [(0, .ref o0), (1, .int x1), (2, .int (I r2 j7))]) d_MoveList_movePlace_20 (Nat.le_of_ble_eq_true rfl) rfl ?_
      refine zx_aload_n d_MoveList_movePlace_21 rfl ?_
      refine zi_getR f_MoveList_9 q1 (by decide) e3 z4 d_MoveList_movePlace_22 ?_
      refine zx_iconst d_MoveList_movePlace_25 zc_0 ?_
      refine zx_aload_n d_MoveList_movePlace_26 rfl ?_
      refine zi_getR f_MoveList_9 q1 (by decide) e3 z4 d_MoveList_movePlace_27 ?_
      refine zx_iconst d_MoveList_movePlace_30 zc_1 ?_
      refine zx_iload_n d_MoveList_movePlace_31 rfl ?_
      obtain ⟨j10, j11, j12, e13, e14, e15, b16, b17, k⟩ := k
      refine zi_copy j10 j11 j12 w_copy_MoveList_25 a5 a5 e13 e14 e15 b16 b17 (Nat.le_of_ble_eq_true rfl) d_MoveList_movePlace_32 ?_
      refine zx_aload_n d_MoveList_movePlace_35 rfl ?_
      refine zi_getR f_MoveList_9 q1 (by decide) e3 z4 d_MoveList_movePlace_36 ?_
      refine zx_iconst d_MoveList_movePlace_39 zc_0 ?_
      refine zx_iload_n d_MoveList_movePlace_40 rfl ?_
      obtain ⟨b20, k⟩ := k
      refine zi_iast 0 a5 rfl b20 d_MoveList_movePlace_41 ?_
      refine zx_iload_n d_MoveList_movePlace_42 rfl ?_
      exact zi_iret d_MoveList_movePlace_43 rfl k
    · have k := k.2 c
      refine zx_iconst d_MoveList_movePlace_12 zc_0 ?_
      exact zi_iret d_MoveList_movePlace_13 rfl k
set_option maxRecDepth 20000 in
theorem r_Row_hasRoom_0 (l : Launch) (d : Nat) {K : zx_Kt} {RJ : zx_RJ} {Q : zi_Q} {I : zi_I} (o0 : Nat) (x1 : Int32) (q1 : (K.2 o0).1 = 16) {r2 : Nat} (e3 : RJ.1 o0 0 = r2) (z4 : r2 ≠ 0) {n6 : Nat} (a5 : K.2 r2 = (0, n6))
    (k : ((((nI n6) - (I o0 1)) < x1) → Q (some (.int 0)) I) ∧ ((¬ ((nI n6) - (I o0 1)) < x1) → Q (some (.int 1)) I)) :
    zi_X l (zx_rm d 0 0) M_Row_hasRoom K RJ Q 0 [(0, .ref o0), (1, .int x1)] [] I := by
  refine zx_iload_n d_Row_hasRoom_0 rfl ?_
  refine zx_aload_n d_Row_hasRoom_1 rfl ?_
  refine zi_getR f_Row_13 q1 (by decide) e3 z4 d_Row_hasRoom_2 ?_
  refine zi_alen a5 d_Row_hasRoom_5 ?_
  refine zx_aload_n d_Row_hasRoom_6 rfl ?_
  refine zi_getI f_Row_7 q1 (by decide) d_Row_hasRoom_7 ?_
  refine zx_isub d_Row_hasRoom_10 ?_
  refine zx_icmp_gt (tgt := 18) d_Row_hasRoom_11 rfl (fun c => ?_) (fun c => ?_)
  · have k := k.1 c
    refine zx_iconst d_Row_hasRoom_18 zc_0 ?_
    exact zi_zret d_Row_hasRoom_19 rfl rfl k
  · have k := k.2 c
    refine zx_iconst d_Row_hasRoom_14 zc_1 ?_
    refine zx_goto (tgt := 19) d_Row_hasRoom_15 rfl ?_
    exact zi_zret d_Row_hasRoom_19 rfl rfl k
set_option maxRecDepth 20000 in
theorem r_Row_add_0 (l : Launch) (d : Nat) {K : zx_Kt} {RJ : zx_RJ} {Q : zi_Q} {I : zi_I} (o0 : Nat) (x1 : Int32) (q1 : (K.2 o0).1 = 16) {r2 : Nat} (e3 : RJ.1 o0 0 = r2) (z4 : r2 ≠ 0) {n6 : Nat} (a5 : K.2 r2 = (0, n6))
    (k : (((nI n6) ≤ (I o0 1)) → Q none I) ∧ ((¬ (nI n6) ≤ (I o0 1)) → ∃ j7, I o0 1 = nI j7 ∧ j7 < n6 ∧ Q none (zx_u2 (zx_u2 I r2 j7 x1) o0 1 ((I o0 1) + 1)))) :
    zi_X l (zx_rm d 0 0) M_Row_add K RJ Q 0 [(0, .ref o0), (1, .int x1)] [] I := by
  refine zx_aload_n d_Row_add_0 rfl ?_
  refine zi_getI f_Row_7 q1 (by decide) d_Row_add_1 ?_
  refine zx_aload_n d_Row_add_4 rfl ?_
  refine zi_getR f_Row_13 q1 (by decide) e3 z4 d_Row_add_5 ?_
  refine zi_alen a5 d_Row_add_8 ?_
  refine zx_icmp_ge (tgt := 32) d_Row_add_9 rfl (fun c => ?_) (fun c => ?_)
  · have k := k.1 c
    exact zi_vret d_Row_add_32 rfl k
  · have k := k.2 c
    refine zx_aload_n d_Row_add_12 rfl ?_
    refine zi_getR f_Row_13 q1 (by decide) e3 z4 d_Row_add_13 ?_
    refine zx_aload_n d_Row_add_16 rfl ?_
    refine zi_getI f_Row_7 q1 (by decide) d_Row_add_17 ?_
    refine zx_iload_n d_Row_add_20 rfl ?_
    obtain ⟨j7, e8, b9, k⟩ := k
    refine zi_iast j7 a5 e8 b9 d_Row_add_21 ?_
    refine zx_aload_n d_Row_add_22 rfl ?_
    refine zx_dup_a d_Row_add_23 ?_
    refine zi_getIe f_Row_7 q1 (by decide) (zx_u2_a a5 q1 (by decide)) d_Row_add_24 ?_
    refine zx_iconst d_Row_add_27 zc_1 ?_
    refine zx_iadd d_Row_add_28 ?_
    refine zi_putI f_Row_7 q1 (by decide) d_Row_add_29 ?_
    exact zi_vret d_Row_add_32 rfl k
set_option maxRecDepth 20000 in
theorem r_Row_addAll_0 (l : Launch) (d : Nat) {K : zx_Kt} {RJ : zx_RJ} {Q : zi_Q} {I : zi_I} (o0 : Nat) (o1 : Nat) (q1 : (K.2 o1).1 = 16) (q2 : (K.2 o0).1 = 16) {r5 : Nat} (e6 : RJ.1 o1 0 = r5) (z7 : r5 ≠ 0) {r8 : Nat} (e9 : RJ.1 o0 0 = r8) (z10 : r8 ≠ 0) {n12 : Nat} (a11 : K.2 r5 = (0, n12)) {n14 : Nat} (a13 : K.2 r8 = (0, n14))
    (k : zi_C l (zx_rm d 0 0) M_Row_hasRoom [.ref o0, .int (I o1 1)] K RJ I (fun r I3 => ∃ v4, r = some (.int v4) ∧ ((v4 = 0) → Q none I3) ∧ ((¬ v4 = 0) → ∃ j15 j16 j17, 0 = nI j15 ∧ I3 o0 1 = nI j16 ∧ I3 o1 1 = nI j17 ∧ j15 + j17 ≤ n12 ∧ j16 + j17 ≤ n14 ∧ Q none (zx_u2 (zi_cpy I3 r5 r8 j15 j16 j17) o0 1 ((I3 o0 1) + (I3 o1 1)))))) :
    zi_X l (zx_rm (d + 1) 0 0) M_Row_addAll K RJ Q 0 [(0, .ref o0), (1, .ref o1)] [] I := by
  refine zx_aload_n d_Row_addAll_0 rfl ?_
  refine zx_aload_n d_Row_addAll_1 rfl ?_
  refine zi_getI f_Row_7 q1 (by decide) d_Row_addAll_2 ?_
  refine zi_callV (hC := k) k_Row_17 q2 (by decide) rfl rfl (Nat.le_of_ble_eq_true rfl) (Nat.le_of_ble_eq_true rfl) d_Row_addAll_5 (fun r I3 k => ?_)
  obtain ⟨v4, rfl, k⟩ := k
  refine zx_if_eq (tgt := 44) d_Row_addAll_8 rfl (fun c => ?_) (fun c => ?_)
  · have k := k.1 c
    exact zi_vret d_Row_addAll_44 rfl k
  · have k := k.2 c
    refine zx_aload_n d_Row_addAll_11 rfl ?_
    refine zi_getR f_Row_13 q1 (by decide) e6 z7 d_Row_addAll_12 ?_
    refine zx_iconst d_Row_addAll_15 zc_0 ?_
    refine zx_aload_n d_Row_addAll_16 rfl ?_
    refine zi_getR f_Row_13 q2 (by decide) e9 z10 d_Row_addAll_17 ?_
    refine zx_aload_n d_Row_addAll_20 rfl ?_
    refine zi_getI f_Row_7 q2 (by decide) d_Row_addAll_21 ?_
    refine zx_aload_n d_Row_addAll_24 rfl ?_
    refine zi_getI f_Row_7 q1 (by decide) d_Row_addAll_25 ?_
    obtain ⟨j15, j16, j17, e18, e19, e20, b21, b22, k⟩ := k
    refine zi_copy j15 j16 j17 w_copy_Row_21 a11 a13 e18 e19 e20 b21 b22 (Nat.le_of_ble_eq_true rfl) d_Row_addAll_28 ?_
    refine zx_aload_n d_Row_addAll_31 rfl ?_
    refine zx_dup_a d_Row_addAll_32 ?_
    refine zi_getIe f_Row_7 q2 (by decide) (zi_cpy_o a13 q2 (by decide)) d_Row_addAll_33 ?_
    refine zx_aload_n d_Row_addAll_36 rfl ?_
    refine zi_getIe f_Row_7 q1 (by decide) (zi_cpy_o a13 q1 (by decide)) d_Row_addAll_37 ?_
    refine zx_iadd d_Row_addAll_40 ?_
    refine zi_putI f_Row_7 q2 (by decide) d_Row_addAll_41 ?_
    exact zi_vret d_Row_addAll_44 rfl k
set_option maxRecDepth 20000 in
theorem r_Row_cut_0 (l : Launch) (d : Nat) {K : zx_Kt} {RJ : zx_RJ} {Q : zi_Q} {I : zi_I} (o0 : Nat) (x1 : Int32) (q1 : (K.2 o0).1 = 16)
    (k : ((x1 < 0) → Q none I) ∧ ((¬ x1 < 0) → (((I o0 1) ≤ x1) → Q none I) ∧ ((¬ (I o0 1) ≤ x1) → Q none (zx_u2 I o0 1 x1)))) :
    zi_X l (zx_rm d 0 0) M_Row_cut K RJ Q 0 [(0, .ref o0), (1, .int x1)] [] I := by
  refine zx_iload_n d_Row_cut_0 rfl ?_
  refine zx_if_lt (tgt := 17) d_Row_cut_1 rfl (fun c => ?_) (fun c => ?_)
  · have k := k.1 c
    exact zi_vret d_Row_cut_17 rfl k
  · have k := k.2 c
    refine zx_iload_n d_Row_cut_4 rfl ?_
    refine zx_aload_n d_Row_cut_5 rfl ?_
    refine zi_getI f_Row_7 q1 (by decide) d_Row_cut_6 ?_
    refine zx_icmp_ge (tgt := 17) d_Row_cut_9 rfl (fun c => ?_) (fun c => ?_)
    · have k := k.1 c
      exact zi_vret d_Row_cut_17 rfl k
    · have k := k.2 c
      refine zx_aload_n d_Row_cut_12 rfl ?_
      refine zx_iload_n d_Row_cut_13 rfl ?_
      refine zi_putI f_Row_7 q1 (by decide) d_Row_cut_14 ?_
      exact zi_vret d_Row_cut_17 rfl k
set_option maxRecDepth 20000 in
theorem r_Row_get_0 (l : Launch) (d : Nat) {K : zx_Kt} {RJ : zx_RJ} {Q : zi_Q} {I : zi_I} (o0 : Nat) (x1 : Int32) (q1 : (K.2 o0).1 = 16) {r2 : Nat} (e3 : RJ.1 o0 0 = r2) (z4 : r2 ≠ 0) {n6 : Nat} (a5 : K.2 r2 = (0, n6))
    (k : ((x1 < 0) → Q (some (.int 0)) I) ∧ ((¬ x1 < 0) → (((I o0 1) ≤ x1) → Q (some (.int 0)) I) ∧ ((¬ (I o0 1) ≤ x1) → ∃ j7, x1 = nI j7 ∧ j7 < n6 ∧ Q (some (.int (I r2 j7))) I))) :
    zi_X l (zx_rm d 0 0) M_Row_get K RJ Q 0 [(0, .ref o0), (1, .int x1)] [] I := by
  refine zx_iload_n d_Row_get_0 rfl ?_
  refine zx_if_lt (tgt := 21) d_Row_get_1 rfl (fun c => ?_) (fun c => ?_)
  · have k := k.1 c
    refine zx_iconst d_Row_get_21 zc_0 ?_
    exact zi_iret d_Row_get_22 rfl k
  · have k := k.2 c
    refine zx_iload_n d_Row_get_4 rfl ?_
    refine zx_aload_n d_Row_get_5 rfl ?_
    refine zi_getI f_Row_7 q1 (by decide) d_Row_get_6 ?_
    refine zx_icmp_ge (tgt := 21) d_Row_get_9 rfl (fun c => ?_) (fun c => ?_)
    · have k := k.1 c
      refine zx_iconst d_Row_get_21 zc_0 ?_
      exact zi_iret d_Row_get_22 rfl k
    · have k := k.2 c
      refine zx_aload_n d_Row_get_12 rfl ?_
      refine zi_getR f_Row_13 q1 (by decide) e3 z4 d_Row_get_13 ?_
      refine zx_iload_n d_Row_get_16 rfl ?_
      obtain ⟨j7, e8, b9, k⟩ := k
      refine zi_iald j7 a5 e8 b9 d_Row_get_17 ?_
      refine zx_goto (tgt := 22) d_Row_get_18 rfl ?_
      exact zi_iret d_Row_get_22 rfl k
set_option maxRecDepth 20000 in
theorem r_Row_turnBit_0 (l : Launch) (d : Nat) {K : zx_Kt} {RJ : zx_RJ} {Q : zi_Q} {I : zi_I} (o0 : Nat) (x1 : Int32) (q1 : (K.2 o0).1 = 16) {r2 : Nat} (e3 : RJ.1 o0 0 = r2) (z4 : r2 ≠ 0) {n6 : Nat} (a5 : K.2 r2 = (0, n6))
    (k : ((x1 < 0) → Q none I) ∧ ((¬ x1 < 0) → (((I o0 1) ≤ (x1 / 8)) → Q none I) ∧ ((¬ (I o0 1) ≤ (x1 / 8)) → ∃ j7, x1 / 8 = nI j7 ∧ j7 < n6 ∧ ∃ j10, x1 / 8 = nI j10 ∧ j10 < n6 ∧ Q none (zx_u2 I r2 j10 ((I r2 j7) ^^^ ((1 : Int32) <<< (((7 - (x1 - x1 / 8 * 8)) : Int32) &&& 31))))))) :
    zi_X l (zx_rm d 0 0) M_Row_turnBit K RJ Q 0 [(0, .ref o0), (1, .int x1)] [] I := by
  refine zx_iload_n d_Row_turnBit_0 rfl ?_
  refine zx_if_lt (tgt := 36) d_Row_turnBit_1 rfl (fun c => ?_) (fun c => ?_)
  · have k := k.1 c
    exact zi_vret d_Row_turnBit_36 rfl k
  · have k := k.2 c
    refine zx_iload_n d_Row_turnBit_4 rfl ?_
    refine zx_bipush d_Row_turnBit_5 zb_8 ?_
    refine zx_idiv d_Row_turnBit_7 (by decide) ?_
    refine zx_aload_n d_Row_turnBit_8 rfl ?_
    refine zi_getI f_Row_7 q1 (by decide) d_Row_turnBit_9 ?_
    refine zx_icmp_ge (tgt := 36) d_Row_turnBit_12 rfl (fun c => ?_) (fun c => ?_)
    · have k := k.1 c
      exact zi_vret d_Row_turnBit_36 rfl k
    · have k := k.2 c
      refine zx_aload_n d_Row_turnBit_15 rfl ?_
      refine zi_getR f_Row_13 q1 (by decide) e3 z4 d_Row_turnBit_16 ?_
      refine zx_iload_n d_Row_turnBit_19 rfl ?_
      refine zx_bipush d_Row_turnBit_20 zb_8 ?_
      refine zx_idiv d_Row_turnBit_22 (by decide) ?_
      refine zx_dup2_ai d_Row_turnBit_23 ?_
      obtain ⟨j7, e8, b9, k⟩ := k
      refine zi_iald j7 a5 e8 b9 d_Row_turnBit_24 ?_
      refine zx_iconst d_Row_turnBit_25 zc_1 ?_
      refine zx_bipush d_Row_turnBit_26 zb_7 ?_
      refine zx_iload_n d_Row_turnBit_28 rfl ?_
      refine zx_bipush d_Row_turnBit_29 zb_8 ?_
      refine zx_irem d_Row_turnBit_31 (by decide) ?_
      refine zx_isub d_Row_turnBit_32 ?_
      refine zx_ishl d_Row_turnBit_33 ?_
      refine zx_ixor d_Row_turnBit_34 ?_
      obtain ⟨j10, e11, b12, k⟩ := k
      refine zi_iast j10 a5 e11 b12 d_Row_turnBit_35 ?_
      exact zi_vret d_Row_turnBit_36 rfl k
set_option maxRecDepth 20000 in
theorem r_Arrays_fill_0 (l : Launch) (d : Nat) {K : zx_Kt} {RJ : zx_RJ} {Q : zi_Q} {I : zi_I} (o0 : Nat) (x1 : Int32) {n2 : Nat} (a1 : K.2 o0 = (0, n2))
    (k : zi_X l (zx_rm d 0 0) M_Arrays_fill K RJ Q 5 [(0, .ref o0), (1, .int x1), (2, .int 0), (3, .int (nI n2))] [] I) :
    zi_X l (zx_rm d 0 0) M_Arrays_fill K RJ Q 0 [(0, .ref o0), (1, .int x1)] [] I := by
  refine zx_iconst d_Arrays_fill_0 zc_0 ?_
  refine zx_istore_n (L2 := [(0, .ref o0), (1, .int x1), (2, .int 0)]) d_Arrays_fill_1 (Nat.le_of_ble_eq_true rfl) rfl ?_
  refine zx_aload_n d_Arrays_fill_2 rfl ?_
  refine zi_alen a1 d_Arrays_fill_3 ?_
  refine zx_istore_n (L2 := [(0, .ref o0), (1, .int x1), (2, .int 0), (3, .int (nI n2))]) d_Arrays_fill_4 (Nat.le_of_ble_eq_true rfl) rfl ?_
  exact k
set_option maxRecDepth 20000 in
theorem r_Arrays_fill_5 (l : Launch) (d : Nat) {K : zx_Kt} {RJ : zx_RJ} {Q : zi_Q} {I : zi_I} (o0 : Nat) (x1 : Int32) (x2 : Int32) (x3 : Int32) {n2 : Nat} (a1 : K.2 o0 = (0, n2))
    (k : ((x3 ≤ x2) → Q none I) ∧ ((¬ x3 ≤ x2) → ∃ j3, x2 = nI j3 ∧ j3 < n2 ∧ zi_X l (zx_rm d 0 0) M_Arrays_fill K RJ Q 5 [(0, .ref o0), (1, .int x1), (2, .int (x2 + 1)), (3, .int x3)] [] (zx_u2 I o0 j3 x1))) :
    zi_X l (zx_rm d 0 0) M_Arrays_fill K RJ Q 5 [(0, .ref o0), (1, .int x1), (2, .int x2), (3, .int x3)] [] I := by
  refine zx_iload_n d_Arrays_fill_5 rfl ?_
  refine zx_iload_n d_Arrays_fill_6 rfl ?_
  refine zx_icmp_ge (tgt := 20) d_Arrays_fill_7 rfl (fun c => ?_) (fun c => ?_)
  · have k := k.1 c
    exact zi_vret d_Arrays_fill_20 rfl k
  · have k := k.2 c
    refine zx_aload_n d_Arrays_fill_10 rfl ?_
    refine zx_iload_n d_Arrays_fill_11 rfl ?_
    refine zx_iload_n d_Arrays_fill_12 rfl ?_
    obtain ⟨j3, e4, b5, k⟩ := k
    refine zi_iast j3 a1 e4 b5 d_Arrays_fill_13 ?_
    refine zx_iinc (L2 := [(0, .ref o0), (1, .int x1), (2, .int (x2 + 1)), (3, .int x3)]) d_Arrays_fill_14 rfl (Nat.le_of_ble_eq_true rfl) zc_1 rfl ?_
    refine zx_goto (tgt := 5) d_Arrays_fill_17 rfl ?_
    exact k
