/-! Regions of methods between loop heads: written by wip/whole/gen. -/
set_option maxRecDepth 20000 in
theorem r_Codes_setTo_0 (l : Launch) (d : Nat) {K : zx_Kt} {RJ : zx_RJ} {Q : zi_Q} {I : zi_I} (o0 : Nat) (o1 : Nat) (x2 : Int32) {n2 : Nat} (a1 : K.2 o1 = (0, n2)) (q3 : (K.2 o0).1 = 13) {r4 : Nat} (e5 : RJ.1 o0 3 = r4) (z6 : r4 ≠ 0) {n8 : Nat} (a7 : K.2 r4 = (0, n8)) {r11 : Nat} (e12 : RJ.1 o0 1 = r11) (z13 : r11 ≠ 0)
    (k : zi_C l (zx_rm d 0 0) M_Codes_countLengths [.ref o0, .ref o1, .int (zi_minv x2 (zi_minv (nI n2) (nI n8)))] K RJ I (fun r I9 => r = none ∧ zi_C l (zx_rm d 0 0) M_Codes_placeLengths [.ref o0] K RJ I9 (fun r I10 => r = none ∧ zi_C l (zx_rm d 0 0) M_Arrays_fill [.ref r11, .int 0] K RJ I10 (fun r I14 => r = none ∧ zi_X l (zx_rm (d + 1) 0 0) M_Codes_setTo K RJ Q 36 [(0, .ref o0), (1, .ref o1), (2, .int x2), (3, .int (zi_minv x2 (zi_minv (nI n2) (nI n8)))), (4, .int 0)] [] I14)))) :
    zi_X l (zx_rm (d + 1) 0 0) M_Codes_setTo K RJ Q 0 [(0, .ref o0), (1, .ref o1), (2, .int x2)] [] I := by
  refine zx_iload_n d_Codes_setTo_0 rfl ?_
  refine zx_aload_n d_Codes_setTo_1 rfl ?_
  refine zi_alen a1 d_Codes_setTo_2 ?_
  refine zx_aload_n d_Codes_setTo_3 rfl ?_
  refine zi_getR f_Codes_21 q3 (by decide) e5 z6 d_Codes_setTo_4 ?_
  refine zi_alen a7 d_Codes_setTo_7 ?_
  refine zi_min w_min_Codes_27 (Nat.le_of_ble_eq_true rfl) d_Codes_setTo_8 ?_
  refine zi_min w_min_Codes_27 (Nat.le_of_ble_eq_true rfl) d_Codes_setTo_11 ?_
  refine zx_istore_n (L2 := [(0, .ref o0), (1, .ref o1), (2, .int x2), (3, .int (zi_minv x2 (zi_minv (nI n2) (nI n8))))]) d_Codes_setTo_14 (Nat.le_of_ble_eq_true rfl) rfl ?_
  refine zx_aload_n d_Codes_setTo_15 rfl ?_
  refine zx_aload_n d_Codes_setTo_16 rfl ?_
  refine zx_iload_n d_Codes_setTo_17 rfl ?_
  refine zi_callV (hC := k) k_Codes_33 q3 (by decide) rfl rfl (Nat.le_of_ble_eq_true rfl) (Nat.le_of_ble_eq_true rfl) d_Codes_setTo_18 (fun r I9 k => ?_)
  obtain ⟨rfl, k⟩ := k
  refine zx_aload_n d_Codes_setTo_21 rfl ?_
  refine zi_callV (hC := k) k_Codes_37 q3 (by decide) rfl rfl (Nat.le_of_ble_eq_true rfl) (Nat.le_of_ble_eq_true rfl) d_Codes_setTo_22 (fun r I10 k => ?_)
  obtain ⟨rfl, k⟩ := k
  refine zx_aload_n d_Codes_setTo_25 rfl ?_
  refine zi_getR f_Codes_15 q3 (by decide) e12 z13 d_Codes_setTo_26 ?_
  refine zx_iconst d_Codes_setTo_29 zc_0 ?_
  refine zi_callS (hC := k) k_Codes_40 rfl rfl (Nat.le_of_ble_eq_true rfl) (Nat.le_of_ble_eq_true rfl) d_Codes_setTo_30 (fun r I14 k => ?_)
  obtain ⟨rfl, k⟩ := k
  refine zx_iconst d_Codes_setTo_33 zc_0 ?_
  refine zx_istore (L2 := [(0, .ref o0), (1, .ref o1), (2, .int x2), (3, .int (zi_minv x2 (zi_minv (nI n2) (nI n8)))), (4, .int 0)]) d_Codes_setTo_34 (Nat.le_of_ble_eq_true rfl) rfl ?_
  exact k
set_option maxRecDepth 20000 in
theorem r_Codes_setTo_36 (l : Launch) (d : Nat) {K : zx_Kt} {RJ : zx_RJ} {Q : zi_Q} {I : zi_I} (o0 : Nat) (o1 : Nat) (x2 : Int32) (x3 : Int32) (x4 : Int32) {n2 : Nat} (a1 : K.2 o1 = (0, n2)) (q8 : (K.2 o0).1 = 13) {r9 : Nat} (e10 : RJ.1 o0 4 = r9) (z11 : r9 ≠ 0) {r12 : Nat} (e13 : RJ.1 o0 0 = r12) (z14 : r12 ≠ 0) {n16 : Nat} (a15 : K.2 r12 = (0, n16)) {r20 : Nat} (e21 : RJ.1 o0 1 = r20) (z22 : r20 ≠ 0) {n24 : Nat} (a23 : K.2 r20 = (0, n24)) {n31 : Nat} (a30 : K.2 r9 = (0, n31)) {r35 : Nat} (e36 : RJ.1 o0 3 = r35) (z37 : r35 ≠ 0) {r38 : Nat} (e39 : RJ.1 o0 2 = r38) (z40 : r38 ≠ 0) {n42 : Nat} (a41 : K.2 r38 = (0, n42)) {n50 : Nat} (a49 : K.2 r35 = (0, n50))
    (k : ((x3 ≤ x4) → Q none I) ∧ ((¬ x3 ≤ x4) → ∃ j3, x4 = nI j3 ∧ j3 < n2 ∧ zi_C l (zx_rm d 0 0) M_Codes_isLength [.int (I o1 j3)] K RJ I (fun r I6 => ∃ v7, r = some (.int v7) ∧ ((v7 = 0) → zi_X l (zx_rm (d + 1) 0 0) M_Codes_setTo K RJ Q 36 [(0, .ref o0), (1, .ref o1), (2, .int x2), (3, .int x3), (4, .int (x4 + 1))] [] I6) ∧ ((¬ v7 = 0) → ∃ j17, I o1 j3 = nI j17 ∧ j17 < n16 ∧ ∃ j25, I o1 j3 = nI j25 ∧ j25 < n24 ∧ zi_C l (zx_rm d 0 0) M_Codes_mask [.int (I o1 j3)] K RJ I6 (fun r I28 => ∃ v29, r = some (.int v29) ∧ ∃ j32, x4 = nI j32 ∧ j32 < n31 ∧ ∃ j43, I o1 j3 = nI j43 ∧ j43 < n42 ∧ ∃ j46, I o1 j3 = nI j46 ∧ j46 < n24 ∧ ∃ j51, ((zx_u2 I28 r9 j32 (((I6 r12 j17) + (I6 r20 j25)) &&& v29)) r38 j43) + ((zx_u2 I28 r9 j32 (((I6 r12 j17) + (I6 r20 j25)) &&& v29)) r20 j46) = nI j51 ∧ j51 < n50 ∧ ∃ j54, I o1 j3 = nI j54 ∧ j54 < n24 ∧ ∃ j57, I o1 j3 = nI j57 ∧ j57 < n24 ∧ zi_X l (zx_rm (d + 1) 0 0) M_Codes_setTo K RJ Q 36 [(0, .ref o0), (1, .ref o1), (2, .int x2), (3, .int x3), (4, .int (x4 + 1))] [] (zx_u2 (zx_u2 (zx_u2 I28 r9 j32 (((I6 r12 j17) + (I6 r20 j25)) &&& v29)) r35 j51 x4) r20 j57 (((zx_u2 (zx_u2 I28 r9 j32 (((I6 r12 j17) + (I6 r20 j25)) &&& v29)) r35 j51 x4) r20 j54) + 1))))))) :
    zi_X l (zx_rm (d + 1) 0 0) M_Codes_setTo K RJ Q 36 [(0, .ref o0), (1, .ref o1), (2, .int x2), (3, .int x3), (4, .int x4)] [] I := by
  refine zx_iload d_Codes_setTo_36 rfl ?_
  refine zx_iload_n d_Codes_setTo_38 rfl ?_
  refine zx_icmp_ge (tgt := 123) d_Codes_setTo_39 rfl (fun c => ?_) (fun c => ?_)
  · have k := k.1 c
    exact zi_vret d_Codes_setTo_123 rfl k
  · have k := k.2 c
    refine zx_aload_n d_Codes_setTo_42 rfl ?_
    refine zx_iload d_Codes_setTo_43 rfl ?_
    obtain ⟨j3, e4, b5, k⟩ := k
    refine zi_iald j3 a1 e4 b5 d_Codes_setTo_45 ?_
    refine zx_istore (L2 := [(0, .ref o0), (1, .ref o1), (2, .int x2), (3, .int x3), (4, .int x4), (5, .int (I o1 j3))]) d_Codes_setTo_46 (Nat.le_of_ble_eq_true rfl) rfl ?_
    refine zx_iload d_Codes_setTo_48 rfl ?_
    refine zi_callS (hC := k) k_Codes_45 rfl rfl (Nat.le_of_ble_eq_true rfl) (Nat.le_of_ble_eq_true rfl) d_Codes_setTo_50 (fun r I6 k => ?_)
    obtain ⟨v7, rfl, k⟩ := k
    refine zx_if_eq (tgt := 117) d_Codes_setTo_53 rfl (fun c => ?_) (fun c => ?_)
    · have k := k.1 c
      refine zx_iinc (L2 := [(0, .ref o0), (1, .ref o1), (2, .int x2), (3, .int x3), (4, .int (x4 + 1)), (5, .int (I o1 j3))]) d_Codes_setTo_117 rfl (Nat.le_of_ble_eq_true rfl) zc_1 rfl ?_
      refine zx_goto (tgt := 36) d_Codes_setTo_120 rfl ?_
      refine zx_locs [0, 1, 2, 3, 4] rfl ?_
      exact k
    · have k := k.2 c
      refine zx_aload_n d_Codes_setTo_56 rfl ?_
      refine zi_getR f_Codes_24 q8 (by decide) e10 z11 d_Codes_setTo_57 ?_
      refine zx_iload d_Codes_setTo_60 rfl ?_
      refine zx_aload_n d_Codes_setTo_62 rfl ?_
      refine zi_getR f_Codes_9 q8 (by decide) e13 z14 d_Codes_setTo_63 ?_
      refine zx_iload d_Codes_setTo_66 rfl ?_
      obtain ⟨j17, e18, b19, k⟩ := k
      refine zi_iald j17 a15 e18 b19 d_Codes_setTo_68 ?_
      refine zx_aload_n d_Codes_setTo_69 rfl ?_
      refine zi_getR f_Codes_15 q8 (by decide) e21 z22 d_Codes_setTo_70 ?_
      refine zx_iload d_Codes_setTo_73 rfl ?_
      obtain ⟨j25, e26, b27, k⟩ := k
      refine zi_iald j25 a23 e26 b27 d_Codes_setTo_75 ?_
      refine zx_iadd d_Codes_setTo_76 ?_
      refine zx_iload d_Codes_setTo_77 rfl ?_
      refine zi_callS (hC := k) k_Codes_49 rfl rfl (Nat.le_of_ble_eq_true rfl) (Nat.le_of_ble_eq_true rfl) d_Codes_setTo_79 (fun r I28 k => ?_)
      obtain ⟨v29, rfl, k⟩ := k
      refine zx_iand d_Codes_setTo_82 ?_
      obtain ⟨j32, e33, b34, k⟩ := k
      refine zi_iast j32 a30 e33 b34 d_Codes_setTo_83 ?_
      refine zx_aload_n d_Codes_setTo_84 rfl ?_
      refine zi_getR f_Codes_21 q8 (by decide) e36 z37 d_Codes_setTo_85 ?_
      refine zx_aload_n d_Codes_setTo_88 rfl ?_
      refine zi_getR f_Codes_18 q8 (by decide) e39 z40 d_Codes_setTo_89 ?_
      refine zx_iload d_Codes_setTo_92 rfl ?_
      obtain ⟨j43, e44, b45, k⟩ := k
      refine zi_iald j43 a41 e44 b45 d_Codes_setTo_94 ?_
      refine zx_aload_n d_Codes_setTo_95 rfl ?_
      refine zi_getR f_Codes_15 q8 (by decide) e21 z22 d_Codes_setTo_96 ?_
      refine zx_iload d_Codes_setTo_99 rfl ?_
      obtain ⟨j46, e47, b48, k⟩ := k
      refine zi_iald j46 a23 e47 b48 d_Codes_setTo_101 ?_
      refine zx_iadd d_Codes_setTo_102 ?_
      refine zx_iload d_Codes_setTo_103 rfl ?_
      obtain ⟨j51, e52, b53, k⟩ := k
      refine zi_iast j51 a49 e52 b53 d_Codes_setTo_105 ?_
      refine zx_aload_n d_Codes_setTo_106 rfl ?_
      refine zi_getR f_Codes_15 q8 (by decide) e21 z22 d_Codes_setTo_107 ?_
      refine zx_iload d_Codes_setTo_110 rfl ?_
      refine zx_dup2_ai d_Codes_setTo_112 ?_
      obtain ⟨j54, e55, b56, k⟩ := k
      refine zi_iald j54 a23 e55 b56 d_Codes_setTo_113 ?_
      refine zx_iconst d_Codes_setTo_114 zc_1 ?_
      refine zx_iadd d_Codes_setTo_115 ?_
      obtain ⟨j57, e58, b59, k⟩ := k
      refine zi_iast j57 a23 e58 b59 d_Codes_setTo_116 ?_
      refine zx_iinc (L2 := [(0, .ref o0), (1, .ref o1), (2, .int x2), (3, .int x3), (4, .int (x4 + 1)), (5, .int (I o1 j3))]) d_Codes_setTo_117 rfl (Nat.le_of_ble_eq_true rfl) zc_1 rfl ?_
      refine zx_goto (tgt := 36) d_Codes_setTo_120 rfl ?_
      refine zx_locs [0, 1, 2, 3, 4] rfl ?_
      exact k
set_option maxRecDepth 20000 in
theorem r_Codes_codeOf_0 (l : Launch) (d : Nat) {K : zx_Kt} {RJ : zx_RJ} {Q : zi_Q} {I : zi_I} (o0 : Nat) (x1 : Int32) (q1 : (K.2 o0).1 = 13) {r2 : Nat} (e3 : RJ.1 o0 4 = r2) (z4 : r2 ≠ 0) {n6 : Nat} (a5 : K.2 r2 = (0, n6))
    (k : ((x1 < 0) → Q (some (.int 0)) I) ∧ ((¬ x1 < 0) → (((nI n6) ≤ x1) → Q (some (.int 0)) I) ∧ ((¬ (nI n6) ≤ x1) → ∃ j7, x1 = nI j7 ∧ j7 < n6 ∧ Q (some (.int (I r2 j7))) I))) :
    zi_X l (zx_rm d 0 0) M_Codes_codeOf K RJ Q 0 [(0, .ref o0), (1, .int x1)] [] I := by
  refine zx_iload_n d_Codes_codeOf_0 rfl ?_
  refine zx_if_lt (tgt := 22) d_Codes_codeOf_1 rfl (fun c => ?_) (fun c => ?_)
  · have k := k.1 c
    refine zx_iconst d_Codes_codeOf_22 zc_0 ?_
    exact zi_iret d_Codes_codeOf_23 rfl k
  · have k := k.2 c
    refine zx_iload_n d_Codes_codeOf_4 rfl ?_
    refine zx_aload_n d_Codes_codeOf_5 rfl ?_
    refine zi_getR f_Codes_24 q1 (by decide) e3 z4 d_Codes_codeOf_6 ?_
    refine zi_alen a5 d_Codes_codeOf_9 ?_
    refine zx_icmp_ge (tgt := 22) d_Codes_codeOf_10 rfl (fun c => ?_) (fun c => ?_)
    · have k := k.1 c
      refine zx_iconst d_Codes_codeOf_22 zc_0 ?_
      exact zi_iret d_Codes_codeOf_23 rfl k
    · have k := k.2 c
      refine zx_aload_n d_Codes_codeOf_13 rfl ?_
      refine zi_getR f_Codes_24 q1 (by decide) e3 z4 d_Codes_codeOf_14 ?_
      refine zx_iload_n d_Codes_codeOf_17 rfl ?_
      obtain ⟨j7, e8, b9, k⟩ := k
      refine zi_iald j7 a5 e8 b9 d_Codes_codeOf_18 ?_
      refine zx_goto (tgt := 23) d_Codes_codeOf_19 rfl ?_
      exact zi_iret d_Codes_codeOf_23 rfl k
set_option maxRecDepth 20000 in
theorem r_Codes_find_0 (l : Launch) (d : Nat) {K : zx_Kt} {RJ : zx_RJ} {Q : zi_Q} {I : zi_I} (o0 : Nat) (x1 : Int32) (x2 : Int32) (q3 : (K.2 o0).1 = 13) {r4 : Nat} (e5 : RJ.1 o0 0 = r4) (z6 : r4 ≠ 0) {n8 : Nat} (a7 : K.2 r4 = (0, n8)) {r14 : Nat} (e15 : RJ.1 o0 1 = r14) (z16 : r14 ≠ 0) {n18 : Nat} (a17 : K.2 r14 = (0, n18)) {r22 : Nat} (e23 : RJ.1 o0 3 = r22) (z24 : r22 ≠ 0) {r25 : Nat} (e26 : RJ.1 o0 2 = r25) (z27 : r25 ≠ 0) {n29 : Nat} (a28 : K.2 r25 = (0, n29)) {n34 : Nat} (a33 : K.2 r22 = (0, n34))
    (k : zi_C l (zx_rm d 0 0) M_Codes_isLength [.int x2] K RJ I (fun r I1 => ∃ v2, r = some (.int v2) ∧ ((¬ v2 = 0) → ∃ j9, x2 = nI j9 ∧ j9 < n8 ∧ zi_C l (zx_rm d 0 0) M_Codes_mask [.int x2] K RJ I1 (fun r I12 => ∃ v13, r = some (.int v13) ∧ ∃ j19, x2 = nI j19 ∧ j19 < n18 ∧ (((I12 r14 j19) ≤ ((x1 - (I1 r4 j9)) &&& v13)) → Q (some (.int ((-1)))) I12) ∧ ((¬ (I12 r14 j19) ≤ ((x1 - (I1 r4 j9)) &&& v13)) → ∃ j30, x2 = nI j30 ∧ j30 < n29 ∧ ∃ j35, (I12 r25 j30) + ((x1 - (I1 r4 j9)) &&& v13) = nI j35 ∧ j35 < n34 ∧ Q (some (.int (I12 r22 j35))) I12))) ∧ ((v2 = 0) → Q (some (.int ((-1)))) I1))) :
    zi_X l (zx_rm (d + 1) 0 0) M_Codes_find K RJ Q 0 [(0, .ref o0), (1, .int x1), (2, .int x2)] [] I := by
  refine zx_iload_n d_Codes_find_0 rfl ?_
  refine zi_callS (hC := k) k_Codes_45 rfl rfl (Nat.le_of_ble_eq_true rfl) (Nat.le_of_ble_eq_true rfl) d_Codes_find_1 (fun r I1 k => ?_)
  obtain ⟨v2, rfl, k⟩ := k
  refine zx_if_ne (tgt := 9) d_Codes_find_4 rfl (fun c => ?_) (fun c => ?_)
  · have k := k.1 c
    refine zx_iload_n d_Codes_find_9 rfl ?_
    refine zx_aload_n d_Codes_find_10 rfl ?_
    refine zi_getR f_Codes_9 q3 (by decide) e5 z6 d_Codes_find_11 ?_
    refine zx_iload_n d_Codes_find_14 rfl ?_
    obtain ⟨j9, e10, b11, k⟩ := k
    refine zi_iald j9 a7 e10 b11 d_Codes_find_15 ?_
    refine zx_isub d_Codes_find_16 ?_
    refine zx_iload_n d_Codes_find_17 rfl ?_
    refine zi_callS (hC := k) k_Codes_49 rfl rfl (Nat.le_of_ble_eq_true rfl) (Nat.le_of_ble_eq_true rfl) d_Codes_find_18 (fun r I12 k => ?_)
    obtain ⟨v13, rfl, k⟩ := k
    refine zx_iand d_Codes_find_21 ?_
    refine zx_istore_n (L2 := [(0, .ref o0), (1, .int x1), (2, .int x2), (3, .int ((x1 - (I1 r4 j9)) &&& v13))]) d_Codes_find_22 (Nat.le_of_ble_eq_true rfl) rfl ?_
    refine zx_iload_n d_Codes_find_23 rfl ?_
    refine zx_aload_n d_Codes_find_24 rfl ?_
    refine zi_getR f_Codes_15 q3 (by decide) e15 z16 d_Codes_find_25 ?_
    refine zx_iload_n d_Codes_find_28 rfl ?_
    obtain ⟨j19, e20, b21, k⟩ := k
    refine zi_iald j19 a17 e20 b21 d_Codes_find_29 ?_
    refine zx_icmp_ge (tgt := 49) d_Codes_find_30 rfl (fun c => ?_) (fun c => ?_)
    · have k := k.1 c
      refine zx_iconst d_Codes_find_49 zc_m1 ?_
      exact zi_iret d_Codes_find_50 rfl k
    · have k := k.2 c
      refine zx_aload_n d_Codes_find_33 rfl ?_
      refine zi_getR f_Codes_21 q3 (by decide) e23 z24 d_Codes_find_34 ?_
      refine zx_aload_n d_Codes_find_37 rfl ?_
      refine zi_getR f_Codes_18 q3 (by decide) e26 z27 d_Codes_find_38 ?_
      refine zx_iload_n d_Codes_find_41 rfl ?_
      obtain ⟨j30, e31, b32, k⟩ := k
      refine zi_iald j30 a28 e31 b32 d_Codes_find_42 ?_
      refine zx_iload_n d_Codes_find_43 rfl ?_
      refine zx_iadd d_Codes_find_44 ?_
      obtain ⟨j35, e36, b37, k⟩ := k
      refine zi_iald j35 a33 e36 b37 d_Codes_find_45 ?_
      refine zx_goto (tgt := 50) d_Codes_find_46 rfl ?_
      exact zi_iret d_Codes_find_50 rfl k
  · have k := k.2 c
    refine zx_iconst d_Codes_find_7 zc_m1 ?_
    exact zi_iret d_Codes_find_8 rfl k
set_option maxRecDepth 20000 in
theorem r_Codes_countLengths_0 (l : Launch) (d : Nat) {K : zx_Kt} {RJ : zx_RJ} {Q : zi_Q} {I : zi_I} (o0 : Nat) (o1 : Nat) (x2 : Int32) (q1 : (K.2 o0).1 = 13) {r2 : Nat} (e3 : RJ.1 o0 1 = r2) (z4 : r2 ≠ 0)
    (k : zi_C l (zx_rm d 0 0) M_Arrays_fill [.ref r2, .int 0] K RJ I (fun r I5 => r = none ∧ zi_X l (zx_rm (d + 1) 0 0) M_Codes_countLengths K RJ Q 10 [(0, .ref o0), (1, .ref o1), (2, .int x2), (3, .int 0)] [] I5)) :
    zi_X l (zx_rm (d + 1) 0 0) M_Codes_countLengths K RJ Q 0 [(0, .ref o0), (1, .ref o1), (2, .int x2)] [] I := by
  refine zx_aload_n d_Codes_countLengths_0 rfl ?_
  refine zi_getR f_Codes_15 q1 (by decide) e3 z4 d_Codes_countLengths_1 ?_
  refine zx_iconst d_Codes_countLengths_4 zc_0 ?_
  refine zi_callS (hC := k) k_Codes_40 rfl rfl (Nat.le_of_ble_eq_true rfl) (Nat.le_of_ble_eq_true rfl) d_Codes_countLengths_5 (fun r I5 k => ?_)
  obtain ⟨rfl, k⟩ := k
  refine zx_iconst d_Codes_countLengths_8 zc_0 ?_
  refine zx_istore_n (L2 := [(0, .ref o0), (1, .ref o1), (2, .int x2), (3, .int 0)]) d_Codes_countLengths_9 (Nat.le_of_ble_eq_true rfl) rfl ?_
  exact k
set_option maxRecDepth 20000 in
theorem r_Codes_countLengths_10 (l : Launch) (d : Nat) {K : zx_Kt} {RJ : zx_RJ} {Q : zi_Q} {I : zi_I} (o0 : Nat) (o1 : Nat) (x2 : Int32) (x3 : Int32) {n2 : Nat} (a1 : K.2 o1 = (0, n2)) (q8 : (K.2 o0).1 = 13) {r9 : Nat} (e10 : RJ.1 o0 1 = r9) (z11 : r9 ≠ 0) {n16 : Nat} (a15 : K.2 r9 = (0, n16))
    (k : ((x2 ≤ x3) → Q none I) ∧ ((¬ x2 ≤ x3) → ∃ j3, x3 = nI j3 ∧ j3 < n2 ∧ zi_C l (zx_rm d 0 0) M_Codes_isLength [.int (I o1 j3)] K RJ I (fun r I6 => ∃ v7, r = some (.int v7) ∧ ((v7 = 0) → zi_X l (zx_rm (d + 1) 0 0) M_Codes_countLengths K RJ Q 10 [(0, .ref o0), (1, .ref o1), (2, .int x2), (3, .int (x3 + 1))] [] I6) ∧ ((¬ v7 = 0) → ∃ j12, x3 = nI j12 ∧ j12 < n2 ∧ ∃ j17, I6 o1 j12 = nI j17 ∧ j17 < n16 ∧ ∃ j20, I6 o1 j12 = nI j20 ∧ j20 < n16 ∧ zi_X l (zx_rm (d + 1) 0 0) M_Codes_countLengths K RJ Q 10 [(0, .ref o0), (1, .ref o1), (2, .int x2), (3, .int (x3 + 1))] [] (zx_u2 I6 r9 j20 ((I6 r9 j17) + 1)))))) :
    zi_X l (zx_rm (d + 1) 0 0) M_Codes_countLengths K RJ Q 10 [(0, .ref o0), (1, .ref o1), (2, .int x2), (3, .int x3)] [] I := by
  refine zx_iload_n d_Codes_countLengths_10 rfl ?_
  refine zx_iload_n d_Codes_countLengths_11 rfl ?_
  refine zx_icmp_ge (tgt := 42) d_Codes_countLengths_12 rfl (fun c => ?_) (fun c => ?_)
  · have k := k.1 c
    exact zi_vret d_Codes_countLengths_42 rfl k
  · have k := k.2 c
    refine zx_aload_n d_Codes_countLengths_15 rfl ?_
    refine zx_iload_n d_Codes_countLengths_16 rfl ?_
    obtain ⟨j3, e4, b5, k⟩ := k
    refine zi_iald j3 a1 e4 b5 d_Codes_countLengths_17 ?_
    refine zi_callS (hC := k) k_Codes_45 rfl rfl (Nat.le_of_ble_eq_true rfl) (Nat.le_of_ble_eq_true rfl) d_Codes_countLengths_18 (fun r I6 k => ?_)
    obtain ⟨v7, rfl, k⟩ := k
    refine zx_if_eq (tgt := 36) d_Codes_countLengths_21 rfl (fun c => ?_) (fun c => ?_)
    · have k := k.1 c
      refine zx_iinc (L2 := [(0, .ref o0), (1, .ref o1), (2, .int x2), (3, .int (x3 + 1))]) d_Codes_countLengths_36 rfl (Nat.le_of_ble_eq_true rfl) zc_1 rfl ?_
      refine zx_goto (tgt := 10) d_Codes_countLengths_39 rfl ?_
      exact k
    · have k := k.2 c
      refine zx_aload_n d_Codes_countLengths_24 rfl ?_
      refine zi_getR f_Codes_15 q8 (by decide) e10 z11 d_Codes_countLengths_25 ?_
      refine zx_aload_n d_Codes_countLengths_28 rfl ?_
      refine zx_iload_n d_Codes_countLengths_29 rfl ?_
      obtain ⟨j12, e13, b14, k⟩ := k
      refine zi_iald j12 a1 e13 b14 d_Codes_countLengths_30 ?_
      refine zx_dup2_ai d_Codes_countLengths_31 ?_
      obtain ⟨j17, e18, b19, k⟩ := k
      refine zi_iald j17 a15 e18 b19 d_Codes_countLengths_32 ?_
      refine zx_iconst d_Codes_countLengths_33 zc_1 ?_
      refine zx_iadd d_Codes_countLengths_34 ?_
      obtain ⟨j20, e21, b22, k⟩ := k
      refine zi_iast j20 a15 e21 b22 d_Codes_countLengths_35 ?_
      refine zx_iinc (L2 := [(0, .ref o0), (1, .ref o1), (2, .int x2), (3, .int (x3 + 1))]) d_Codes_countLengths_36 rfl (Nat.le_of_ble_eq_true rfl) zc_1 rfl ?_
      refine zx_goto (tgt := 10) d_Codes_countLengths_39 rfl ?_
      exact k
set_option maxRecDepth 20000 in
theorem r_Codes_placeLengths_0 (l : Launch) (d : Nat) {K : zx_Kt} {RJ : zx_RJ} {Q : zi_Q} {I : zi_I} (o0 : Nat) 
    (k : zi_X l (zx_rm (d + 1) 0 0) M_Codes_placeLengths K RJ Q 6 [(0, .ref o0), (1, .int 0), (2, .int 0), (3, .int 1)] [] I) :
    zi_X l (zx_rm (d + 1) 0 0) M_Codes_placeLengths K RJ Q 0 [(0, .ref o0)] [] I := by
  refine zx_iconst d_Codes_placeLengths_0 zc_0 ?_
  refine zx_istore_n (L2 := [(0, .ref o0), (1, .int 0)]) d_Codes_placeLengths_1 (Nat.le_of_ble_eq_true rfl) rfl ?_
  refine zx_iconst d_Codes_placeLengths_2 zc_0 ?_
  refine zx_istore_n (L2 := [(0, .ref o0), (1, .int 0), (2, .int 0)]) d_Codes_placeLengths_3 (Nat.le_of_ble_eq_true rfl) rfl ?_
  refine zx_iconst d_Codes_placeLengths_4 zc_1 ?_
  refine zx_istore_n (L2 := [(0, .ref o0), (1, .int 0), (2, .int 0), (3, .int 1)]) d_Codes_placeLengths_5 (Nat.le_of_ble_eq_true rfl) rfl ?_
  exact k
set_option maxRecDepth 20000 in
theorem r_Codes_placeLengths_6 (l : Launch) (d : Nat) {K : zx_Kt} {RJ : zx_RJ} {Q : zi_Q} {I : zi_I} (o0 : Nat) (x1 : Int32) (x2 : Int32) (x3 : Int32) (q1 : (K.2 o0).1 = 13) {r2 : Nat} (e3 : RJ.1 o0 0 = r2) (z4 : r2 ≠ 0) {n6 : Nat} (a5 : K.2 r2 = (0, n6)) {r10 : Nat} (e11 : RJ.1 o0 2 = r10) (z12 : r10 ≠ 0) {n14 : Nat} (a13 : K.2 r10 = (0, n14)) {r18 : Nat} (e19 : RJ.1 o0 1 = r18) (z20 : r18 ≠ 0) {n22 : Nat} (a21 : K.2 r18 = (0, n22))
    (k : ((12 < x3) → Q none I) ∧ ((¬ 12 < x3) → ∃ j7, x3 = nI j7 ∧ j7 < n6 ∧ ∃ j15, x3 = nI j15 ∧ j15 < n14 ∧ ∃ j23, x3 = nI j23 ∧ j23 < n22 ∧ zi_C l (zx_rm d 0 0) M_Codes_mask [.int x3] K RJ (zx_u2 (zx_u2 I r2 j7 ((x2 : Int32) <<< ((1 : Int32) &&& 31))) r10 j15 x1) (fun r I26 => ∃ v27, r = some (.int v27) ∧ ∃ j28, x3 = nI j28 ∧ j28 < n22 ∧ zi_X l (zx_rm (d + 1) 0 0) M_Codes_placeLengths K RJ Q 6 [(0, .ref o0), (1, .int (x1 + (I26 r18 j28))), (2, .int ((((x2 : Int32) <<< ((1 : Int32) &&& 31)) + ((zx_u2 (zx_u2 I r2 j7 ((x2 : Int32) <<< ((1 : Int32) &&& 31))) r10 j15 x1) r18 j23)) &&& v27)), (3, .int (x3 + 1))] [] I26))) :
    zi_X l (zx_rm (d + 1) 0 0) M_Codes_placeLengths K RJ Q 6 [(0, .ref o0), (1, .int x1), (2, .int x2), (3, .int x3)] [] I := by
  refine zx_iload_n d_Codes_placeLengths_6 rfl ?_
  refine zx_bipush d_Codes_placeLengths_7 zb_12 ?_
  refine zx_icmp_gt (tgt := 59) d_Codes_placeLengths_9 rfl (fun c => ?_) (fun c => ?_)
  · have k := k.1 c
    exact zi_vret d_Codes_placeLengths_59 rfl k
  · have k := k.2 c
    refine zx_iload_n d_Codes_placeLengths_12 rfl ?_
    refine zx_iconst d_Codes_placeLengths_13 zc_1 ?_
    refine zx_ishl d_Codes_placeLengths_14 ?_
    refine zx_istore_n (L2 := [(0, .ref o0), (1, .int x1), (2, .int ((x2 : Int32) <<< ((1 : Int32) &&& 31))), (3, .int x3)]) d_Codes_placeLengths_15 (Nat.le_of_ble_eq_true rfl) rfl ?_
    refine zx_aload_n d_Codes_placeLengths_16 rfl ?_
    refine zi_getR f_Codes_9 q1 (by decide) e3 z4 d_Codes_placeLengths_17 ?_
    refine zx_iload_n d_Codes_placeLengths_20 rfl ?_
    refine zx_iload_n d_Codes_placeLengths_21 rfl ?_
    obtain ⟨j7, e8, b9, k⟩ := k
    refine zi_iast j7 a5 e8 b9 d_Codes_placeLengths_22 ?_
    refine zx_aload_n d_Codes_placeLengths_23 rfl ?_
    refine zi_getR f_Codes_18 q1 (by decide) e11 z12 d_Codes_placeLengths_24 ?_
    refine zx_iload_n d_Codes_placeLengths_27 rfl ?_
    refine zx_iload_n d_Codes_placeLengths_28 rfl ?_
    obtain ⟨j15, e16, b17, k⟩ := k
    refine zi_iast j15 a13 e16 b17 d_Codes_placeLengths_29 ?_
    refine zx_iload_n d_Codes_placeLengths_30 rfl ?_
    refine zx_aload_n d_Codes_placeLengths_31 rfl ?_
    refine zi_getR f_Codes_15 q1 (by decide) e19 z20 d_Codes_placeLengths_32 ?_
    refine zx_iload_n d_Codes_placeLengths_35 rfl ?_
    obtain ⟨j23, e24, b25, k⟩ := k
    refine zi_iald j23 a21 e24 b25 d_Codes_placeLengths_36 ?_
    refine zx_iadd d_Codes_placeLengths_37 ?_
    refine zx_iload_n d_Codes_placeLengths_38 rfl ?_
    refine zi_callS (hC := k) k_Codes_49 rfl rfl (Nat.le_of_ble_eq_true rfl) (Nat.le_of_ble_eq_true rfl) d_Codes_placeLengths_39 (fun r I26 k => ?_)
    obtain ⟨v27, rfl, k⟩ := k
    refine zx_iand d_Codes_placeLengths_42 ?_
    refine zx_istore_n (L2 := [(0, .ref o0), (1, .int x1), (2, .int ((((x2 : Int32) <<< ((1 : Int32) &&& 31)) + ((zx_u2 (zx_u2 I r2 j7 ((x2 : Int32) <<< ((1 : Int32) &&& 31))) r10 j15 x1) r18 j23)) &&& v27)), (3, .int x3)]) d_Codes_placeLengths_43 (Nat.le_of_ble_eq_true rfl) rfl ?_
    refine zx_iload_n d_Codes_placeLengths_44 rfl ?_
    refine zx_aload_n d_Codes_placeLengths_45 rfl ?_
    refine zi_getR f_Codes_15 q1 (by decide) e19 z20 d_Codes_placeLengths_46 ?_
    refine zx_iload_n d_Codes_placeLengths_49 rfl ?_
    obtain ⟨j28, e29, b30, k⟩ := k
    refine zi_iald j28 a21 e29 b30 d_Codes_placeLengths_50 ?_
    refine zx_iadd d_Codes_placeLengths_51 ?_
    refine zx_istore_n (L2 := [(0, .ref o0), (1, .int (x1 + (I26 r18 j28))), (2, .int ((((x2 : Int32) <<< ((1 : Int32) &&& 31)) + ((zx_u2 (zx_u2 I r2 j7 ((x2 : Int32) <<< ((1 : Int32) &&& 31))) r10 j15 x1) r18 j23)) &&& v27)), (3, .int x3)]) d_Codes_placeLengths_52 (Nat.le_of_ble_eq_true rfl) rfl ?_
    refine zx_iinc (L2 := [(0, .ref o0), (1, .int (x1 + (I26 r18 j28))), (2, .int ((((x2 : Int32) <<< ((1 : Int32) &&& 31)) + ((zx_u2 (zx_u2 I r2 j7 ((x2 : Int32) <<< ((1 : Int32) &&& 31))) r10 j15 x1) r18 j23)) &&& v27)), (3, .int (x3 + 1))]) d_Codes_placeLengths_53 rfl (Nat.le_of_ble_eq_true rfl) zc_1 rfl ?_
    refine zx_goto (tgt := 6) d_Codes_placeLengths_56 rfl ?_
    exact k
set_option maxRecDepth 20000 in
theorem r_Codes_isLength_0 (l : Launch) (d : Nat) {K : zx_Kt} {RJ : zx_RJ} {Q : zi_Q} {I : zi_I} (x0 : Int32) 
    (k : ((x0 < 1) → Q (some (.int 0)) I) ∧ ((¬ x0 < 1) → ((12 < x0) → Q (some (.int 0)) I) ∧ ((¬ 12 < x0) → Q (some (.int 1)) I))) :
    zi_X l (zx_rm d 0 0) M_Codes_isLength K RJ Q 0 [(0, .int x0)] [] I := by
  refine zx_iload_n d_Codes_isLength_0 rfl ?_
  refine zx_iconst d_Codes_isLength_1 zc_1 ?_
  refine zx_icmp_lt (tgt := 15) d_Codes_isLength_2 rfl (fun c => ?_) (fun c => ?_)
  · have k := k.1 c
    refine zx_iconst d_Codes_isLength_15 zc_0 ?_
    exact zi_zret d_Codes_isLength_16 rfl rfl k
  · have k := k.2 c
    refine zx_iload_n d_Codes_isLength_5 rfl ?_
    refine zx_bipush d_Codes_isLength_6 zb_12 ?_
    refine zx_icmp_gt (tgt := 15) d_Codes_isLength_8 rfl (fun c => ?_) (fun c => ?_)
    · have k := k.1 c
      refine zx_iconst d_Codes_isLength_15 zc_0 ?_
      exact zi_zret d_Codes_isLength_16 rfl rfl k
    · have k := k.2 c
      refine zx_iconst d_Codes_isLength_11 zc_1 ?_
      refine zx_goto (tgt := 16) d_Codes_isLength_12 rfl ?_
      exact zi_zret d_Codes_isLength_16 rfl rfl k
set_option maxRecDepth 20000 in
theorem r_Codes_mask_0 (l : Launch) (d : Nat) {K : zx_Kt} {RJ : zx_RJ} {Q : zi_Q} {I : zi_I} (x0 : Int32) 
    (k : Q (some (.int (((1 : Int32) <<< ((x0 : Int32) &&& 31)) - 1))) I) :
    zi_X l (zx_rm d 0 0) M_Codes_mask K RJ Q 0 [(0, .int x0)] [] I := by
  refine zx_iconst d_Codes_mask_0 zc_1 ?_
  refine zx_iload_n d_Codes_mask_1 rfl ?_
  refine zx_ishl d_Codes_mask_2 ?_
  refine zx_iconst d_Codes_mask_3 zc_1 ?_
  refine zx_isub d_Codes_mask_4 ?_
  exact zi_iret d_Codes_mask_5 rfl k
set_option maxRecDepth 20000 in
theorem r_Picker_pickTables_0 (l : Launch) (d : Nat) {K : zx_Kt} {RJ : zx_RJ} {Q : zi_Q} {I : zi_I} (o0 : Nat) (o1 : Nat) (q1 : (K.2 o1).1 = 9)
    (k : ((((((I o1 7) + 8) - 1) / 8) ≤ 4) → zi_X l (zx_rm (d + 1) 0 0) M_Picker_pickTables K RJ Q 35 [(0, .ref o0), (1, .ref o1), (2, .int 0)] [] (zx_u2 (zx_u2 I o1 11 ((((I o1 7) + 8) - 1) / 8)) o1 9 2)) ∧ ((¬ ((((I o1 7) + 8) - 1) / 8) ≤ 4) → zi_X l (zx_rm (d + 1) 0 0) M_Picker_pickTables K RJ Q 35 [(0, .ref o0), (1, .ref o1), (2, .int 0)] [] (zx_u2 (zx_u2 I o1 11 ((((I o1 7) + 8) - 1) / 8)) o1 9 3))) :
    zi_X l (zx_rm (d + 1) 0 0) M_Picker_pickTables K RJ Q 0 [(0, .ref o0), (1, .ref o1)] [] I := by
  refine zx_aload_n d_Picker_pickTables_0 rfl ?_
  refine zx_aload_n d_Picker_pickTables_1 rfl ?_
  refine zi_getI f_Picker_22 q1 (by decide) d_Picker_pickTables_2 ?_
  refine zx_bipush d_Picker_pickTables_5 zb_8 ?_
  refine zx_iadd d_Picker_pickTables_7 ?_
  refine zx_iconst d_Picker_pickTables_8 zc_1 ?_
  refine zx_isub d_Picker_pickTables_9 ?_
  refine zx_bipush d_Picker_pickTables_10 zb_8 ?_
  refine zx_idiv d_Picker_pickTables_12 (by decide) ?_
  refine zi_putI f_Picker_28 q1 (by decide) d_Picker_pickTables_13 ?_
  refine zx_aload_n d_Picker_pickTables_16 rfl ?_
  refine zx_aload_n d_Picker_pickTables_17 rfl ?_
  refine zi_getIe f_Picker_28 q1 (by decide) zx_u2_s d_Picker_pickTables_18 ?_
  refine zx_iconst d_Picker_pickTables_21 zc_4 ?_
  refine zx_icmp_le (tgt := 29) d_Picker_pickTables_22 rfl (fun c => ?_) (fun c => ?_)
  · have k := k.1 c
    refine zx_iconst d_Picker_pickTables_29 zc_2 ?_
    refine zi_putI f_Picker_31 q1 (by decide) d_Picker_pickTables_30 ?_
    refine zx_iconst d_Picker_pickTables_33 zc_0 ?_
    refine zx_istore_n (L2 := [(0, .ref o0), (1, .ref o1), (2, .int 0)]) d_Picker_pickTables_34 (Nat.le_of_ble_eq_true rfl) rfl ?_
    exact k
  · have k := k.2 c
    refine zx_iconst d_Picker_pickTables_25 zc_3 ?_
    refine zx_goto (tgt := 30) d_Picker_pickTables_26 rfl ?_
    refine zi_putI f_Picker_31 q1 (by decide) d_Picker_pickTables_30 ?_
    refine zx_iconst d_Picker_pickTables_33 zc_0 ?_
    refine zx_istore_n (L2 := [(0, .ref o0), (1, .ref o1), (2, .int 0)]) d_Picker_pickTables_34 (Nat.le_of_ble_eq_true rfl) rfl ?_
    exact k
set_option maxRecDepth 20000 in
theorem r_Picker_pickTables_35 (l : Launch) (d : Nat) {K : zx_Kt} {RJ : zx_RJ} {Q : zi_Q} {I : zi_I} (o0 : Nat) (o1 : Nat) (x2 : Int32) (q1 : (K.2 o1).1 = 9) {r2 : Nat} (e3 : RJ.1 o1 12 = r2) (z4 : r2 ≠ 0) {n7 : Nat} (a6 : K.2 r2 = (0, n7))
    (k : (((I o1 11) ≤ x2) → zi_X l (zx_rm (d + 1) 0 0) M_Picker_pickTables K RJ Q 63 [(0, .ref o0), (1, .ref o1), (2, .int 0)] [] I) ∧ ((¬ (I o1 11) ≤ x2) → ¬ (I o1 9) = 0 ∧ ∃ j8, x2 = nI j8 ∧ j8 < n7 ∧ zi_X l (zx_rm (d + 1) 0 0) M_Picker_pickTables K RJ Q 35 [(0, .ref o0), (1, .ref o1), (2, .int (x2 + 1))] [] (zx_u2 I r2 j8 (x2 - x2 / (I o1 9) * (I o1 9))))) :
    zi_X l (zx_rm (d + 1) 0 0) M_Picker_pickTables K RJ Q 35 [(0, .ref o0), (1, .ref o1), (2, .int x2)] [] I := by
  refine zx_iload_n d_Picker_pickTables_35 rfl ?_
  refine zx_aload_n d_Picker_pickTables_36 rfl ?_
  refine zi_getI f_Picker_28 q1 (by decide) d_Picker_pickTables_37 ?_
  refine zx_icmp_ge (tgt := 61) d_Picker_pickTables_40 rfl (fun c => ?_) (fun c => ?_)
  · have k := k.1 c
    refine zx_iconst d_Picker_pickTables_61 zc_0 ?_
    refine zx_istore_n (L2 := [(0, .ref o0), (1, .ref o1), (2, .int 0)]) d_Picker_pickTables_62 (Nat.le_of_ble_eq_true rfl) rfl ?_
    exact k
  · have k := k.2 c
    refine zx_aload_n d_Picker_pickTables_43 rfl ?_
    refine zi_getR f_Picker_34 q1 (by decide) e3 z4 d_Picker_pickTables_44 ?_
    refine zx_iload_n d_Picker_pickTables_47 rfl ?_
    refine zx_iload_n d_Picker_pickTables_48 rfl ?_
    refine zx_aload_n d_Picker_pickTables_49 rfl ?_
    refine zi_getI f_Picker_31 q1 (by decide) d_Picker_pickTables_50 ?_
    obtain ⟨z5, k⟩ := k
    refine zx_irem d_Picker_pickTables_53 z5 ?_
    obtain ⟨j8, e9, b10, k⟩ := k
    refine zi_iast j8 a6 e9 b10 d_Picker_pickTables_54 ?_
    refine zx_iinc (L2 := [(0, .ref o0), (1, .ref o1), (2, .int (x2 + 1))]) d_Picker_pickTables_55 rfl (Nat.le_of_ble_eq_true rfl) zc_1 rfl ?_
    refine zx_goto (tgt := 35) d_Picker_pickTables_58 rfl ?_
    exact k
set_option maxRecDepth 20000 in
theorem r_Picker_pickTables_63 (l : Launch) (d : Nat) {K : zx_Kt} {RJ : zx_RJ} {Q : zi_Q} {I : zi_I} (o0 : Nat) (o1 : Nat) (x2 : Int32) 
    (k : ((3 ≤ x2) → Q none I) ∧ ((¬ 3 ≤ x2) → zi_X l (zx_rm (d + 1) 0 0) M_Picker_pickTables K RJ Q 70 [(0, .ref o0), (1, .ref o1), (2, .int x2), (3, .int 0)] [] I)) :
    zi_X l (zx_rm (d + 1) 0 0) M_Picker_pickTables K RJ Q 63 [(0, .ref o0), (1, .ref o1), (2, .int x2)] [] I := by
  refine zx_iload_n d_Picker_pickTables_63 rfl ?_
  refine zx_iconst d_Picker_pickTables_64 zc_3 ?_
  refine zx_icmp_ge (tgt := 145) d_Picker_pickTables_65 rfl (fun c => ?_) (fun c => ?_)
  · have k := k.1 c
    exact zi_vret d_Picker_pickTables_145 rfl k
  · have k := k.2 c
    refine zx_iconst d_Picker_pickTables_68 zc_0 ?_
    refine zx_istore_n (L2 := [(0, .ref o0), (1, .ref o1), (2, .int x2), (3, .int 0)]) d_Picker_pickTables_69 (Nat.le_of_ble_eq_true rfl) rfl ?_
    exact k
set_option maxRecDepth 20000 in
theorem r_Picker_pickTables_70 (l : Launch) (d : Nat) {K : zx_Kt} {RJ : zx_RJ} {Q : zi_Q} {I : zi_I} (o0 : Nat) (o1 : Nat) (x2 : Int32) (x3 : Int32) (q1 : (K.2 o1).1 = 9) (q2 : (K.2 o0).1 = 15) {r4 : Nat} (e5 : RJ.1 o0 0 = r4) (z6 : r4 ≠ 0) {r7 : Nat} (e8 : RJ.1 o0 1 = r7) (z9 : r7 ≠ 0) {r12 : Nat} (e13 : RJ.1 o1 10 = r12) (z14 : r12 ≠ 0) {n16 : Nat} (a15 : K.2 r12 = (4, n16)) (q23 : (K.2 r4).1 = 17)
    (k : (((I o1 9) ≤ x3) → zi_X l (zx_rm (d + 1) 0 0) M_Picker_pickTables K RJ Q 113 [(0, .ref o0), (1, .ref o1), (2, .int x2), (3, .int 0)] [] I) ∧ ((¬ (I o1 9) ≤ x3) → zi_C l (zx_rm d 0 0) M_Picker_weigh [.ref o0, .ref o1, .int x3] K RJ I (fun r I3 => r = none ∧ zi_C l (zx_rm d 0 0) M_Block_symbolKinds [.ref o1] K RJ I3 (fun r I10 => ∃ v11, r = some (.int v11) ∧ ∃ j17, x3 = nI j17 ∧ j17 < n16 ∧ ∃ r21, RJ.1 r12 j17 = r21 ∧ r21 ≠ 0 ∧ zi_C l (zx_rm d 0 0) M_Trees_findLengths [.ref r4, .ref r7, .int v11, .ref r21] K RJ I10 (fun r I24 => r = none ∧ zi_X l (zx_rm (d + 1) 0 0) M_Picker_pickTables K RJ Q 70 [(0, .ref o0), (1, .ref o1), (2, .int x2), (3, .int (x3 + 1))] [] I24))))) :
    zi_X l (zx_rm (d + 1) 0 0) M_Picker_pickTables K RJ Q 70 [(0, .ref o0), (1, .ref o1), (2, .int x2), (3, .int x3)] [] I := by
  refine zx_iload_n d_Picker_pickTables_70 rfl ?_
  refine zx_aload_n d_Picker_pickTables_71 rfl ?_
  refine zi_getI f_Picker_31 q1 (by decide) d_Picker_pickTables_72 ?_
  refine zx_icmp_ge (tgt := 111) d_Picker_pickTables_75 rfl (fun c => ?_) (fun c => ?_)
  · have k := k.1 c
    refine zx_iconst d_Picker_pickTables_111 zc_0 ?_
    refine zx_istore_n (L2 := [(0, .ref o0), (1, .ref o1), (2, .int x2), (3, .int 0)]) d_Picker_pickTables_112 (Nat.le_of_ble_eq_true rfl) rfl ?_
    exact k
  · have k := k.2 c
    refine zx_aload_n d_Picker_pickTables_78 rfl ?_
    refine zx_aload_n d_Picker_pickTables_79 rfl ?_
    refine zx_iload_n d_Picker_pickTables_80 rfl ?_
    refine zi_callV (hC := k) k_Picker_37 q2 (by decide) rfl rfl (Nat.le_of_ble_eq_true rfl) (Nat.le_of_ble_eq_true rfl) d_Picker_pickTables_81 (fun r I3 k => ?_)
    obtain ⟨rfl, k⟩ := k
    refine zx_aload_n d_Picker_pickTables_84 rfl ?_
    refine zi_getR f_Picker_12 q2 (by decide) e5 z6 d_Picker_pickTables_85 ?_
    refine zx_aload_n d_Picker_pickTables_88 rfl ?_
    refine zi_getR f_Picker_18 q2 (by decide) e8 z9 d_Picker_pickTables_89 ?_
    refine zx_aload_n d_Picker_pickTables_92 rfl ?_
    refine zi_callV (hC := k) k_Picker_41 q1 (by decide) rfl rfl (Nat.le_of_ble_eq_true rfl) (Nat.le_of_ble_eq_true rfl) d_Picker_pickTables_93 (fun r I10 k => ?_)
    obtain ⟨v11, rfl, k⟩ := k
    refine zx_aload_n d_Picker_pickTables_96 rfl ?_
    refine zi_getR f_Picker_45 q1 (by decide) e13 z14 d_Picker_pickTables_97 ?_
    refine zx_iload_n d_Picker_pickTables_100 rfl ?_
    obtain ⟨j17, e18, b19, k⟩ := k
    obtain ⟨r21, e22, z20, k⟩ := k
    refine zi_aald4 j17 a15 e18 b19 e22 z20 d_Picker_pickTables_101 ?_
    refine zi_callV (hC := k) k_Picker_49 q23 (by decide) rfl rfl (Nat.le_of_ble_eq_true rfl) (Nat.le_of_ble_eq_true rfl) d_Picker_pickTables_102 (fun r I24 k => ?_)
    obtain ⟨rfl, k⟩ := k
    refine zx_iinc (L2 := [(0, .ref o0), (1, .ref o1), (2, .int x2), (3, .int (x3 + 1))]) d_Picker_pickTables_105 rfl (Nat.le_of_ble_eq_true rfl) zc_1 rfl ?_
    refine zx_goto (tgt := 70) d_Picker_pickTables_108 rfl ?_
    exact k
set_option maxRecDepth 20000 in
theorem r_Picker_pickTables_113 (l : Launch) (d : Nat) {K : zx_Kt} {RJ : zx_RJ} {Q : zi_Q} {I : zi_I} (o0 : Nat) (o1 : Nat) (x2 : Int32) (x3 : Int32) (q1 : (K.2 o1).1 = 9) {r2 : Nat} (e3 : RJ.1 o1 12 = r2) (z4 : r2 ≠ 0) (q5 : (K.2 o0).1 = 15) {n9 : Nat} (a8 : K.2 r2 = (0, n9))
    (k : (((I o1 11) ≤ x3) → zi_X l (zx_rm (d + 1) 0 0) M_Picker_pickTables K RJ Q 63 [(0, .ref o0), (1, .ref o1), (2, .int (x2 + 1))] [] I) ∧ ((¬ (I o1 11) ≤ x3) → zi_C l (zx_rm d 0 0) M_Picker_cheapest [.ref o0, .ref o1, .int x3] K RJ I (fun r I6 => ∃ v7, r = some (.int v7) ∧ ∃ j10, x3 = nI j10 ∧ j10 < n9 ∧ zi_X l (zx_rm (d + 1) 0 0) M_Picker_pickTables K RJ Q 113 [(0, .ref o0), (1, .ref o1), (2, .int x2), (3, .int (x3 + 1))] [] (zx_u2 I6 r2 j10 v7)))) :
    zi_X l (zx_rm (d + 1) 0 0) M_Picker_pickTables K RJ Q 113 [(0, .ref o0), (1, .ref o1), (2, .int x2), (3, .int x3)] [] I := by
  refine zx_iload_n d_Picker_pickTables_113 rfl ?_
  refine zx_aload_n d_Picker_pickTables_114 rfl ?_
  refine zi_getI f_Picker_28 q1 (by decide) d_Picker_pickTables_115 ?_
  refine zx_icmp_ge (tgt := 139) d_Picker_pickTables_118 rfl (fun c => ?_) (fun c => ?_)
  · have k := k.1 c
    refine zx_iinc (L2 := [(0, .ref o0), (1, .ref o1), (2, .int (x2 + 1)), (3, .int x3)]) d_Picker_pickTables_139 rfl (Nat.le_of_ble_eq_true rfl) zc_1 rfl ?_
    refine zx_goto (tgt := 63) d_Picker_pickTables_142 rfl ?_
    refine zx_locs [0, 1, 2] rfl ?_
    exact k
  · have k := k.2 c
    refine zx_aload_n d_Picker_pickTables_121 rfl ?_
    refine zi_getR f_Picker_34 q1 (by decide) e3 z4 d_Picker_pickTables_122 ?_
    refine zx_iload_n d_Picker_pickTables_125 rfl ?_
    refine zx_aload_n d_Picker_pickTables_126 rfl ?_
    refine zx_aload_n d_Picker_pickTables_127 rfl ?_
    refine zx_iload_n d_Picker_pickTables_128 rfl ?_
    refine zi_callV (hC := k) k_Picker_53 q5 (by decide) rfl rfl (Nat.le_of_ble_eq_true rfl) (Nat.le_of_ble_eq_true rfl) d_Picker_pickTables_129 (fun r I6 k => ?_)
    obtain ⟨v7, rfl, k⟩ := k
    obtain ⟨j10, e11, b12, k⟩ := k
    refine zi_iast j10 a8 e11 b12 d_Picker_pickTables_132 ?_
    refine zx_iinc (L2 := [(0, .ref o0), (1, .ref o1), (2, .int x2), (3, .int (x3 + 1))]) d_Picker_pickTables_133 rfl (Nat.le_of_ble_eq_true rfl) zc_1 rfl ?_
    refine zx_goto (tgt := 113) d_Picker_pickTables_136 rfl ?_
    exact k
set_option maxRecDepth 20000 in
theorem r_Picker_weigh_0 (l : Launch) (d : Nat) {K : zx_Kt} {RJ : zx_RJ} {Q : zi_Q} {I : zi_I} (o0 : Nat) (o1 : Nat) (x2 : Int32) (q1 : (K.2 o0).1 = 15) {r2 : Nat} (e3 : RJ.1 o0 1 = r2) (z4 : r2 ≠ 0)
    (k : zi_C l (zx_rm d 0 0) M_Arrays_fill [.ref r2, .int 0] K RJ I (fun r I5 => r = none ∧ zi_X l (zx_rm (d + 1) 0 0) M_Picker_weigh K RJ Q 10 [(0, .ref o0), (1, .ref o1), (2, .int x2), (3, .int 0)] [] I5)) :
    zi_X l (zx_rm (d + 1) 0 0) M_Picker_weigh K RJ Q 0 [(0, .ref o0), (1, .ref o1), (2, .int x2)] [] I := by
  refine zx_aload_n d_Picker_weigh_0 rfl ?_
  refine zi_getR f_Picker_18 q1 (by decide) e3 z4 d_Picker_weigh_1 ?_
  refine zx_iconst d_Picker_weigh_4 zc_0 ?_
  refine zi_callS (hC := k) k_Picker_57 rfl rfl (Nat.le_of_ble_eq_true rfl) (Nat.le_of_ble_eq_true rfl) d_Picker_weigh_5 (fun r I5 k => ?_)
  obtain ⟨rfl, k⟩ := k
  refine zx_iconst d_Picker_weigh_8 zc_0 ?_
  refine zx_istore_n (L2 := [(0, .ref o0), (1, .ref o1), (2, .int x2), (3, .int 0)]) d_Picker_weigh_9 (Nat.le_of_ble_eq_true rfl) rfl ?_
  exact k
set_option maxRecDepth 20000 in
theorem r_Picker_weigh_10 (l : Launch) (d : Nat) {K : zx_Kt} {RJ : zx_RJ} {Q : zi_Q} {I : zi_I} (o0 : Nat) (o1 : Nat) (x2 : Int32) (x3 : Int32) (q1 : (K.2 o1).1 = 9) (q4 : (K.2 o0).1 = 15) {r5 : Nat} (e6 : RJ.1 o0 1 = r5) (z7 : r5 ≠ 0) {r8 : Nat} (e9 : RJ.1 o1 8 = r8) (z10 : r8 ≠ 0) {n12 : Nat} (a11 : K.2 r8 = (0, n12)) {n17 : Nat} (a16 : K.2 r5 = (0, n17))
    (k : (((I o1 7) ≤ x3) → zi_X l (zx_rm (d + 1) 0 0) M_Picker_weigh K RJ Q 50 [(0, .ref o0), (1, .ref o1), (2, .int x2), (3, .int 0)] [] I) ∧ ((¬ (I o1 7) ≤ x3) → zi_C l (zx_rm d 0 0) M_Block_pickOfSymbol [.ref o1, .int x3] K RJ I (fun r I2 => ∃ v3, r = some (.int v3) ∧ ((¬ v3 = x2) → zi_X l (zx_rm (d + 1) 0 0) M_Picker_weigh K RJ Q 10 [(0, .ref o0), (1, .ref o1), (2, .int x2), (3, .int (x3 + 1))] [] I2) ∧ ((v3 = x2) → ∃ j13, x3 = nI j13 ∧ j13 < n12 ∧ ∃ j18, I2 r8 j13 = nI j18 ∧ j18 < n17 ∧ ∃ j21, I2 r8 j13 = nI j21 ∧ j21 < n17 ∧ zi_X l (zx_rm (d + 1) 0 0) M_Picker_weigh K RJ Q 10 [(0, .ref o0), (1, .ref o1), (2, .int x2), (3, .int (x3 + 1))] [] (zx_u2 I2 r5 j21 ((I2 r5 j18) + 1)))))) :
    zi_X l (zx_rm (d + 1) 0 0) M_Picker_weigh K RJ Q 10 [(0, .ref o0), (1, .ref o1), (2, .int x2), (3, .int x3)] [] I := by
  refine zx_iload_n d_Picker_weigh_10 rfl ?_
  refine zx_aload_n d_Picker_weigh_11 rfl ?_
  refine zi_getI f_Picker_22 q1 (by decide) d_Picker_weigh_12 ?_
  refine zx_icmp_ge (tgt := 48) d_Picker_weigh_15 rfl (fun c => ?_) (fun c => ?_)
  · have k := k.1 c
    refine zx_iconst d_Picker_weigh_48 zc_0 ?_
    refine zx_istore_n (L2 := [(0, .ref o0), (1, .ref o1), (2, .int x2), (3, .int 0)]) d_Picker_weigh_49 (Nat.le_of_ble_eq_true rfl) rfl ?_
    exact k
  · have k := k.2 c
    refine zx_aload_n d_Picker_weigh_18 rfl ?_
    refine zx_iload_n d_Picker_weigh_19 rfl ?_
    refine zi_callV (hC := k) k_Picker_63 q1 (by decide) rfl rfl (Nat.le_of_ble_eq_true rfl) (Nat.le_of_ble_eq_true rfl) d_Picker_weigh_20 (fun r I2 k => ?_)
    obtain ⟨v3, rfl, k⟩ := k
    refine zx_iload_n d_Picker_weigh_23 rfl ?_
    refine zx_icmp_ne (tgt := 42) d_Picker_weigh_24 rfl (fun c => ?_) (fun c => ?_)
    · have k := k.1 c
      refine zx_iinc (L2 := [(0, .ref o0), (1, .ref o1), (2, .int x2), (3, .int (x3 + 1))]) d_Picker_weigh_42 rfl (Nat.le_of_ble_eq_true rfl) zc_1 rfl ?_
      refine zx_goto (tgt := 10) d_Picker_weigh_45 rfl ?_
      exact k
    · have k := k.2 c
      refine zx_aload_n d_Picker_weigh_27 rfl ?_
      refine zi_getR f_Picker_18 q4 (by decide) e6 z7 d_Picker_weigh_28 ?_
      refine zx_aload_n d_Picker_weigh_31 rfl ?_
      refine zi_getR f_Picker_67 q1 (by decide) e9 z10 d_Picker_weigh_32 ?_
      refine zx_iload_n d_Picker_weigh_35 rfl ?_
      obtain ⟨j13, e14, b15, k⟩ := k
      refine zi_iald j13 a11 e14 b15 d_Picker_weigh_36 ?_
      refine zx_dup2_ai d_Picker_weigh_37 ?_
      obtain ⟨j18, e19, b20, k⟩ := k
      refine zi_iald j18 a16 e19 b20 d_Picker_weigh_38 ?_
      refine zx_iconst d_Picker_weigh_39 zc_1 ?_
      refine zx_iadd d_Picker_weigh_40 ?_
      obtain ⟨j21, e22, b23, k⟩ := k
      refine zi_iast j21 a16 e22 b23 d_Picker_weigh_41 ?_
      refine zx_iinc (L2 := [(0, .ref o0), (1, .ref o1), (2, .int x2), (3, .int (x3 + 1))]) d_Picker_weigh_42 rfl (Nat.le_of_ble_eq_true rfl) zc_1 rfl ?_
      refine zx_goto (tgt := 10) d_Picker_weigh_45 rfl ?_
      exact k
set_option maxRecDepth 20000 in
theorem r_Picker_weigh_50 (l : Launch) (d : Nat) {K : zx_Kt} {RJ : zx_RJ} {Q : zi_Q} {I : zi_I} (o0 : Nat) (o1 : Nat) (x2 : Int32) (x3 : Int32) (q1 : (K.2 o0).1 = 15) {r2 : Nat} (e3 : RJ.1 o0 1 = r2) (z4 : r2 ≠ 0) {n6 : Nat} (a5 : K.2 r2 = (0, n6))
    (k : (((nI n6) ≤ x3) → Q none I) ∧ ((¬ (nI n6) ≤ x3) → ∃ j7, x3 = nI j7 ∧ j7 < n6 ∧ ∃ j10, x3 = nI j10 ∧ j10 < n6 ∧ zi_X l (zx_rm (d + 1) 0 0) M_Picker_weigh K RJ Q 50 [(0, .ref o0), (1, .ref o1), (2, .int x2), (3, .int (x3 + 1))] [] (zx_u2 I r2 j10 (zi_maxv (I r2 j7) 1)))) :
    zi_X l (zx_rm (d + 1) 0 0) M_Picker_weigh K RJ Q 50 [(0, .ref o0), (1, .ref o1), (2, .int x2), (3, .int x3)] [] I := by
  refine zx_iload_n d_Picker_weigh_50 rfl ?_
  refine zx_aload_n d_Picker_weigh_51 rfl ?_
  refine zi_getR f_Picker_18 q1 (by decide) e3 z4 d_Picker_weigh_52 ?_
  refine zi_alen a5 d_Picker_weigh_55 ?_
  refine zx_icmp_ge (tgt := 81) d_Picker_weigh_56 rfl (fun c => ?_) (fun c => ?_)
  · have k := k.1 c
    exact zi_vret d_Picker_weigh_81 rfl k
  · have k := k.2 c
    refine zx_aload_n d_Picker_weigh_59 rfl ?_
    refine zi_getR f_Picker_18 q1 (by decide) e3 z4 d_Picker_weigh_60 ?_
    refine zx_iload_n d_Picker_weigh_63 rfl ?_
    refine zx_aload_n d_Picker_weigh_64 rfl ?_
    refine zi_getR f_Picker_18 q1 (by decide) e3 z4 d_Picker_weigh_65 ?_
    refine zx_iload_n d_Picker_weigh_68 rfl ?_
    obtain ⟨j7, e8, b9, k⟩ := k
    refine zi_iald j7 a5 e8 b9 d_Picker_weigh_69 ?_
    refine zx_iconst d_Picker_weigh_70 zc_1 ?_
    refine zi_max w_max_Picker_70 (Nat.le_of_ble_eq_true rfl) d_Picker_weigh_71 ?_
    obtain ⟨j10, e11, b12, k⟩ := k
    refine zi_iast j10 a5 e11 b12 d_Picker_weigh_74 ?_
    refine zx_iinc (L2 := [(0, .ref o0), (1, .ref o1), (2, .int x2), (3, .int (x3 + 1))]) d_Picker_weigh_75 rfl (Nat.le_of_ble_eq_true rfl) zc_1 rfl ?_
    refine zx_goto (tgt := 50) d_Picker_weigh_78 rfl ?_
    exact k
set_option maxRecDepth 20000 in
theorem r_Picker_cheapest_0 (l : Launch) (d : Nat) {K : zx_Kt} {RJ : zx_RJ} {Q : zi_Q} {I : zi_I} (o0 : Nat) (o1 : Nat) (x2 : Int32) 
    (k : zi_X l (zx_rm (d + 1) 0 0) M_Picker_cheapest K RJ Q 5 [(0, .ref o0), (1, .ref o1), (2, .int x2), (3, .int 0), (4, .int 1)] [] I) :
    zi_X l (zx_rm (d + 1) 0 0) M_Picker_cheapest K RJ Q 0 [(0, .ref o0), (1, .ref o1), (2, .int x2)] [] I := by
  refine zx_iconst d_Picker_cheapest_0 zc_0 ?_
  refine zx_istore_n (L2 := [(0, .ref o0), (1, .ref o1), (2, .int x2), (3, .int 0)]) d_Picker_cheapest_1 (Nat.le_of_ble_eq_true rfl) rfl ?_
  refine zx_iconst d_Picker_cheapest_2 zc_1 ?_
  refine zx_istore (L2 := [(0, .ref o0), (1, .ref o1), (2, .int x2), (3, .int 0), (4, .int 1)]) d_Picker_cheapest_3 (Nat.le_of_ble_eq_true rfl) rfl ?_
  exact k
set_option maxRecDepth 20000 in
theorem r_Picker_cheapest_5 (l : Launch) (d : Nat) {K : zx_Kt} {RJ : zx_RJ} {Q : zi_Q} {I : zi_I} (o0 : Nat) (o1 : Nat) (x2 : Int32) (x3 : Int32) (x4 : Int32) (q1 : (K.2 o1).1 = 9) (q2 : (K.2 o0).1 = 15)
    (k : (((I o1 9) ≤ x4) → Q (some (.int x3)) I) ∧ ((¬ (I o1 9) ≤ x4) → zi_C l (zx_rm d 0 0) M_Picker_cost [.ref o0, .ref o1, .int x2, .int x4] K RJ I (fun r I3 => ∃ v4, r = some (.int v4) ∧ zi_C l (zx_rm d 0 0) M_Picker_cost [.ref o0, .ref o1, .int x2, .int x3] K RJ I3 (fun r I5 => ∃ v6, r = some (.int v6) ∧ ((v6 ≤ v4) → zi_X l (zx_rm (d + 1) 0 0) M_Picker_cheapest K RJ Q 5 [(0, .ref o0), (1, .ref o1), (2, .int x2), (3, .int x3), (4, .int (x4 + 1))] [] I5) ∧ ((¬ v6 ≤ v4) → zi_X l (zx_rm (d + 1) 0 0) M_Picker_cheapest K RJ Q 5 [(0, .ref o0), (1, .ref o1), (2, .int x2), (3, .int x4), (4, .int (x4 + 1))] [] I5))))) :
    zi_X l (zx_rm (d + 1) 0 0) M_Picker_cheapest K RJ Q 5 [(0, .ref o0), (1, .ref o1), (2, .int x2), (3, .int x3), (4, .int x4)] [] I := by
  refine zx_iload d_Picker_cheapest_5 rfl ?_
  refine zx_aload_n d_Picker_cheapest_7 rfl ?_
  refine zi_getI f_Picker_31 q1 (by decide) d_Picker_cheapest_8 ?_
  refine zx_icmp_ge (tgt := 41) d_Picker_cheapest_11 rfl (fun c => ?_) (fun c => ?_)
  · have k := k.1 c
    refine zx_iload_n d_Picker_cheapest_41 rfl ?_
    exact zi_iret d_Picker_cheapest_42 rfl k
  · have k := k.2 c
    refine zx_aload_n d_Picker_cheapest_14 rfl ?_
    refine zx_aload_n d_Picker_cheapest_15 rfl ?_
    refine zx_iload_n d_Picker_cheapest_16 rfl ?_
    refine zx_iload d_Picker_cheapest_17 rfl ?_
    refine zi_callV (hC := k) k_Picker_76 q2 (by decide) rfl rfl (Nat.le_of_ble_eq_true rfl) (Nat.le_of_ble_eq_true rfl) d_Picker_cheapest_19 (fun r I3 k => ?_)
    obtain ⟨v4, rfl, k⟩ := k
    refine zx_aload_n d_Picker_cheapest_22 rfl ?_
    refine zx_aload_n d_Picker_cheapest_23 rfl ?_
    refine zx_iload_n d_Picker_cheapest_24 rfl ?_
    refine zx_iload_n d_Picker_cheapest_25 rfl ?_
    refine zi_callV (hC := k) k_Picker_76 q2 (by decide) rfl rfl (Nat.le_of_ble_eq_true rfl) (Nat.le_of_ble_eq_true rfl) d_Picker_cheapest_26 (fun r I5 k => ?_)
    obtain ⟨v6, rfl, k⟩ := k
    refine zx_icmp_ge (tgt := 35) d_Picker_cheapest_29 rfl (fun c => ?_) (fun c => ?_)
    · have k := k.1 c
      refine zx_iinc (L2 := [(0, .ref o0), (1, .ref o1), (2, .int x2), (3, .int x3), (4, .int (x4 + 1))]) d_Picker_cheapest_35 rfl (Nat.le_of_ble_eq_true rfl) zc_1 rfl ?_
      refine zx_goto (tgt := 5) d_Picker_cheapest_38 rfl ?_
      exact k
    · have k := k.2 c
      refine zx_iload d_Picker_cheapest_32 rfl ?_
      refine zx_istore_n (L2 := [(0, .ref o0), (1, .ref o1), (2, .int x2), (3, .int x4), (4, .int x4)]) d_Picker_cheapest_34 (Nat.le_of_ble_eq_true rfl) rfl ?_
      refine zx_iinc (L2 := [(0, .ref o0), (1, .ref o1), (2, .int x2), (3, .int x4), (4, .int (x4 + 1))]) d_Picker_cheapest_35 rfl (Nat.le_of_ble_eq_true rfl) zc_1 rfl ?_
      refine zx_goto (tgt := 5) d_Picker_cheapest_38 rfl ?_
      exact k
set_option maxRecDepth 20000 in
theorem r_Picker_cost_0 (l : Launch) (d : Nat) {K : zx_Kt} {RJ : zx_RJ} {Q : zi_Q} {I : zi_I} (o0 : Nat) (o1 : Nat) (x2 : Int32) (x3 : Int32) (q1 : (K.2 o1).1 = 9)
    (k : zi_X l (zx_rm (d + 1) 0 0) M_Picker_cost K RJ Q 24 [(0, .ref o0), (1, .ref o1), (2, .int x2), (3, .int x3), (4, .int (zi_minv (I o1 7) (8 * (x2 + 1)))), (5, .int 0), (6, .int (8 * x2))] [] I) :
    zi_X l (zx_rm (d + 1) 0 0) M_Picker_cost K RJ Q 0 [(0, .ref o0), (1, .ref o1), (2, .int x2), (3, .int x3)] [] I := by
  refine zx_aload_n d_Picker_cost_0 rfl ?_
  refine zi_getI f_Picker_22 q1 (by decide) d_Picker_cost_1 ?_
  refine zx_bipush d_Picker_cost_4 zb_8 ?_
  refine zx_iload_n d_Picker_cost_6 rfl ?_
  refine zx_iconst d_Picker_cost_7 zc_1 ?_
  refine zx_iadd d_Picker_cost_8 ?_
  refine zx_imul d_Picker_cost_9 ?_
  refine zi_min w_min_Picker_80 (Nat.le_of_ble_eq_true rfl) d_Picker_cost_10 ?_
  refine zx_istore (L2 := [(0, .ref o0), (1, .ref o1), (2, .int x2), (3, .int x3), (4, .int (zi_minv (I o1 7) (8 * (x2 + 1))))]) d_Picker_cost_13 (Nat.le_of_ble_eq_true rfl) rfl ?_
  refine zx_iconst d_Picker_cost_15 zc_0 ?_
  refine zx_istore (L2 := [(0, .ref o0), (1, .ref o1), (2, .int x2), (3, .int x3), (4, .int (zi_minv (I o1 7) (8 * (x2 + 1)))), (5, .int 0)]) d_Picker_cost_16 (Nat.le_of_ble_eq_true rfl) rfl ?_
  refine zx_bipush d_Picker_cost_18 zb_8 ?_
  refine zx_iload_n d_Picker_cost_20 rfl ?_
  refine zx_imul d_Picker_cost_21 ?_
  refine zx_istore (L2 := [(0, .ref o0), (1, .ref o1), (2, .int x2), (3, .int x3), (4, .int (zi_minv (I o1 7) (8 * (x2 + 1)))), (5, .int 0), (6, .int (8 * x2))]) d_Picker_cost_22 (Nat.le_of_ble_eq_true rfl) rfl ?_
  exact k
set_option maxRecDepth 20000 in
theorem r_Picker_cost_24 (l : Launch) (d : Nat) {K : zx_Kt} {RJ : zx_RJ} {Q : zi_Q} {I : zi_I} (o0 : Nat) (o1 : Nat) (x2 : Int32) (x3 : Int32) (x4 : Int32) (x5 : Int32) (x6 : Int32) (q1 : (K.2 o1).1 = 9) {r2 : Nat} (e3 : RJ.1 o1 10 = r2) (z4 : r2 ≠ 0) {n6 : Nat} (a5 : K.2 r2 = (4, n6)) {r13 : Nat} (e14 : RJ.1 o1 8 = r13) (z15 : r13 ≠ 0) {n17 : Nat} (a16 : K.2 r13 = (0, n17))
    (k : ((x4 ≤ x6) → Q (some (.int x5)) I) ∧ ((¬ x4 ≤ x6) → ∃ j7, x3 = nI j7 ∧ j7 < n6 ∧ ∃ r11, RJ.1 r2 j7 = r11 ∧ r11 ≠ 0 ∧ ∃ j18, x6 = nI j18 ∧ j18 < n17 ∧ ∃ n22, K.2 r11 = (0, n22) ∧ ∃ j23, I r13 j18 = nI j23 ∧ j23 < n22 ∧ zi_X l (zx_rm (d + 1) 0 0) M_Picker_cost K RJ Q 24 [(0, .ref o0), (1, .ref o1), (2, .int x2), (3, .int x3), (4, .int x4), (5, .int (x5 + (I r11 j23))), (6, .int (x6 + 1))] [] I)) :
    zi_X l (zx_rm (d + 1) 0 0) M_Picker_cost K RJ Q 24 [(0, .ref o0), (1, .ref o1), (2, .int x2), (3, .int x3), (4, .int x4), (5, .int x5), (6, .int x6)] [] I := by
  refine zx_iload d_Picker_cost_24 rfl ?_
  refine zx_iload d_Picker_cost_26 rfl ?_
  refine zx_icmp_ge (tgt := 56) d_Picker_cost_28 rfl (fun c => ?_) (fun c => ?_)
  · have k := k.1 c
    refine zx_iload d_Picker_cost_56 rfl ?_
    exact zi_iret d_Picker_cost_58 rfl k
  · have k := k.2 c
    refine zx_iload d_Picker_cost_31 rfl ?_
    refine zx_aload_n d_Picker_cost_33 rfl ?_
    refine zi_getR f_Picker_45 q1 (by decide) e3 z4 d_Picker_cost_34 ?_
    refine zx_iload_n d_Picker_cost_37 rfl ?_
    obtain ⟨j7, e8, b9, k⟩ := k
    obtain ⟨r11, e12, z10, k⟩ := k
    refine zi_aald4 j7 a5 e8 b9 e12 z10 d_Picker_cost_38 ?_
    refine zx_aload_n d_Picker_cost_39 rfl ?_
    refine zi_getR f_Picker_67 q1 (by decide) e14 z15 d_Picker_cost_40 ?_
    refine zx_iload d_Picker_cost_43 rfl ?_
    obtain ⟨j18, e19, b20, k⟩ := k
    refine zi_iald j18 a16 e19 b20 d_Picker_cost_45 ?_
    obtain ⟨n22, a21, k⟩ := k
    obtain ⟨j23, e24, b25, k⟩ := k
    refine zi_iald j23 a21 e24 b25 d_Picker_cost_46 ?_
    refine zx_iadd d_Picker_cost_47 ?_
    refine zx_istore (L2 := [(0, .ref o0), (1, .ref o1), (2, .int x2), (3, .int x3), (4, .int x4), (5, .int (x5 + (I r11 j23))), (6, .int x6)]) d_Picker_cost_48 (Nat.le_of_ble_eq_true rfl) rfl ?_
    refine zx_iinc (L2 := [(0, .ref o0), (1, .ref o1), (2, .int x2), (3, .int x3), (4, .int x4), (5, .int (x5 + (I r11 j23))), (6, .int (x6 + 1))]) d_Picker_cost_50 rfl (Nat.le_of_ble_eq_true rfl) zc_1 rfl ?_
    refine zx_goto (tgt := 24) d_Picker_cost_53 rfl ?_
    exact k
set_option maxRecDepth 20000 in
theorem r_Trees_findLengths_0 (l : Launch) (d : Nat) {K : zx_Kt} {RJ : zx_RJ} {Q : zi_Q} {I : zi_I} (o0 : Nat) (o1 : Nat) (x2 : Int32) (o3 : Nat) {n2 : Nat} (a1 : K.2 o1 = (0, n2)) {n4 : Nat} (a3 : K.2 o3 = (0, n4)) (q5 : (K.2 o0).1 = 17) {r6 : Nat} (e7 : RJ.1 o0 0 = r6) (z8 : r6 ≠ 0) {n10 : Nat} (a9 : K.2 r6 = (0, n10)) {r22 : Nat} (e23 : RJ.1 o0 2 = r22) (z24 : r22 ≠ 0) {n26 : Nat} (a25 : K.2 r22 = (0, n26))
    (k : ((1 ≤ (zi_minv (zi_minv x2 66) (zi_minv (nI n2) (nI n4)))) → ∃ j11 j12 j13, 0 = nI j11 ∧ 0 = nI j12 ∧ zi_minv (zi_minv x2 66) (zi_minv (nI n2) (nI n4)) = nI j13 ∧ j11 + j13 ≤ n2 ∧ j12 + j13 ≤ n10 ∧ zi_C l (zx_rm d 0 0) M_Trees_sortSymbols [.ref o0] K RJ (zi_cpy (zx_u2 I o0 4 (zi_minv (zi_minv x2 66) (zi_minv (nI n2) (nI n4)))) o1 r6 j11 j12 j13) (fun r I19 => r = none ∧ zi_C l (zx_rm d 0 0) M_Trees_joinTrees [.ref o0] K RJ I19 (fun r I20 => r = none ∧ zi_C l (zx_rm d 0 0) M_Trees_measureDepths [.ref o0] K RJ I20 (fun r I21 => r = none ∧ ∃ j27 j28 j29, 0 = nI j27 ∧ 0 = nI j28 ∧ I21 o0 4 = nI j29 ∧ j27 + j29 ≤ n26 ∧ j28 + j29 ≤ n4 ∧ Q none (zi_cpy I21 r22 o3 j27 j28 j29))))) ∧ ((¬ 1 ≤ (zi_minv (zi_minv x2 66) (zi_minv (nI n2) (nI n4)))) → Q none (zx_u2 I o0 4 (zi_minv (zi_minv x2 66) (zi_minv (nI n2) (nI n4)))))) :
    zi_X l (zx_rm (d + 1) 0 0) M_Trees_findLengths K RJ Q 0 [(0, .ref o0), (1, .ref o1), (2, .int x2), (3, .ref o3)] [] I := by
  refine zx_aload_n d_Trees_findLengths_0 rfl ?_
  refine zx_iload_n d_Trees_findLengths_1 rfl ?_
  refine zx_bipush d_Trees_findLengths_2 zb_66 ?_
  refine zi_min w_min_Trees_34 (Nat.le_of_ble_eq_true rfl) d_Trees_findLengths_4 ?_
  refine zx_aload_n d_Trees_findLengths_7 rfl ?_
  refine zi_alen a1 d_Trees_findLengths_8 ?_
  refine zx_aload_n d_Trees_findLengths_9 rfl ?_
  refine zi_alen a3 d_Trees_findLengths_10 ?_
  refine zi_min w_min_Trees_34 (Nat.le_of_ble_eq_true rfl) d_Trees_findLengths_11 ?_
  refine zi_min w_min_Trees_34 (Nat.le_of_ble_eq_true rfl) d_Trees_findLengths_14 ?_
  refine zi_putI f_Trees_24 q5 (by decide) d_Trees_findLengths_17 ?_
  refine zx_aload_n d_Trees_findLengths_20 rfl ?_
  refine zi_getIe f_Trees_24 q5 (by decide) zx_u2_s d_Trees_findLengths_21 ?_
  refine zx_iconst d_Trees_findLengths_24 zc_1 ?_
  refine zx_icmp_ge (tgt := 29) d_Trees_findLengths_25 rfl (fun c => ?_) (fun c => ?_)
  · have k := k.1 c
    refine zx_aload_n d_Trees_findLengths_29 rfl ?_
    refine zx_iconst d_Trees_findLengths_30 zc_0 ?_
    refine zx_aload_n d_Trees_findLengths_31 rfl ?_
    refine zi_getR f_Trees_11 q5 (by decide) e7 z8 d_Trees_findLengths_32 ?_
    refine zx_iconst d_Trees_findLengths_35 zc_0 ?_
    refine zx_aload_n d_Trees_findLengths_36 rfl ?_
    refine zi_getIe f_Trees_24 q5 (by decide) zx_u2_s d_Trees_findLengths_37 ?_
    obtain ⟨j11, j12, j13, e14, e15, e16, b17, b18, k⟩ := k
    refine zi_copy j11 j12 j13 w_copy_Trees_40 a1 a9 e14 e15 e16 b17 b18 (Nat.le_of_ble_eq_true rfl) d_Trees_findLengths_40 ?_
    refine zx_aload_n d_Trees_findLengths_43 rfl ?_
    refine zi_callV (hC := k) k_Trees_46 q5 (by decide) rfl rfl (Nat.le_of_ble_eq_true rfl) (Nat.le_of_ble_eq_true rfl) d_Trees_findLengths_44 (fun r I19 k => ?_)
    obtain ⟨rfl, k⟩ := k
    refine zx_aload_n d_Trees_findLengths_47 rfl ?_
    refine zi_callV (hC := k) k_Trees_49 q5 (by decide) rfl rfl (Nat.le_of_ble_eq_true rfl) (Nat.le_of_ble_eq_true rfl) d_Trees_findLengths_48 (fun r I20 k => ?_)
    obtain ⟨rfl, k⟩ := k
    refine zx_aload_n d_Trees_findLengths_51 rfl ?_
    refine zi_callV (hC := k) k_Trees_52 q5 (by decide) rfl rfl (Nat.le_of_ble_eq_true rfl) (Nat.le_of_ble_eq_true rfl) d_Trees_findLengths_52 (fun r I21 k => ?_)
    obtain ⟨rfl, k⟩ := k
    refine zx_aload_n d_Trees_findLengths_55 rfl ?_
    refine zi_getR f_Trees_18 q5 (by decide) e23 z24 d_Trees_findLengths_56 ?_
    refine zx_iconst d_Trees_findLengths_59 zc_0 ?_
    refine zx_aload_n d_Trees_findLengths_60 rfl ?_
    refine zx_iconst d_Trees_findLengths_61 zc_0 ?_
    refine zx_aload_n d_Trees_findLengths_62 rfl ?_
    refine zi_getI f_Trees_24 q5 (by decide) d_Trees_findLengths_63 ?_
    obtain ⟨j27, j28, j29, e30, e31, e32, b33, b34, k⟩ := k
    refine zi_copy j27 j28 j29 w_copy_Trees_40 a25 a3 e30 e31 e32 b33 b34 (Nat.le_of_ble_eq_true rfl) d_Trees_findLengths_66 ?_
    exact zi_vret d_Trees_findLengths_69 rfl k
  · have k := k.2 c
    exact zi_vret d_Trees_findLengths_28 rfl k
set_option maxRecDepth 20000 in
theorem r_Trees_sortSymbols_0 (l : Launch) (d : Nat) {K : zx_Kt} {RJ : zx_RJ} {Q : zi_Q} {I : zi_I} (o0 : Nat) 
    (k : zi_X l (zx_rm d 0 0) M_Trees_sortSymbols K RJ Q 2 [(0, .ref o0), (1, .int 0)] [] I) :
    zi_X l (zx_rm d 0 0) M_Trees_sortSymbols K RJ Q 0 [(0, .ref o0)] [] I := by
  refine zx_iconst d_Trees_sortSymbols_0 zc_0 ?_
  refine zx_istore_n (L2 := [(0, .ref o0), (1, .int 0)]) d_Trees_sortSymbols_1 (Nat.le_of_ble_eq_true rfl) rfl ?_
  exact k
set_option maxRecDepth 20000 in
theorem r_Trees_sortSymbols_2 (l : Launch) (d : Nat) {K : zx_Kt} {RJ : zx_RJ} {Q : zi_Q} {I : zi_I} (o0 : Nat) (x1 : Int32) (q1 : (K.2 o0).1 = 17)
    (k : (((I o0 4) ≤ x1) → Q none I) ∧ ((¬ (I o0 4) ≤ x1) → zi_X l (zx_rm d 0 0) M_Trees_sortSymbols K RJ Q 12 [(0, .ref o0), (1, .int x1), (2, .int x1)] [] I)) :
    zi_X l (zx_rm d 0 0) M_Trees_sortSymbols K RJ Q 2 [(0, .ref o0), (1, .int x1)] [] I := by
  refine zx_iload_n d_Trees_sortSymbols_2 rfl ?_
  refine zx_aload_n d_Trees_sortSymbols_3 rfl ?_
  refine zi_getI f_Trees_24 q1 (by decide) d_Trees_sortSymbols_4 ?_
  refine zx_icmp_ge (tgt := 71) d_Trees_sortSymbols_7 rfl (fun c => ?_) (fun c => ?_)
  · have k := k.1 c
    exact zi_vret d_Trees_sortSymbols_71 rfl k
  · have k := k.2 c
    refine zx_iload_n d_Trees_sortSymbols_10 rfl ?_
    refine zx_istore_n (L2 := [(0, .ref o0), (1, .int x1), (2, .int x1)]) d_Trees_sortSymbols_11 (Nat.le_of_ble_eq_true rfl) rfl ?_
    exact k
set_option maxRecDepth 20000 in
theorem r_Trees_sortSymbols_12 (l : Launch) (d : Nat) {K : zx_Kt} {RJ : zx_RJ} {Q : zi_Q} {I : zi_I} (o0 : Nat) (x1 : Int32) (x2 : Int32) (q1 : (K.2 o0).1 = 17) {r2 : Nat} (e3 : RJ.1 o0 3 = r2) (z4 : r2 ≠ 0) {n6 : Nat} (a5 : K.2 r2 = (0, n6)) {r10 : Nat} (e11 : RJ.1 o0 0 = r10) (z12 : r10 ≠ 0) {n17 : Nat} (a16 : K.2 r10 = (0, n17))
    (k : ((x2 ≤ 0) → ∃ j7, x2 = nI j7 ∧ j7 < n6 ∧ zi_X l (zx_rm d 0 0) M_Trees_sortSymbols K RJ Q 2 [(0, .ref o0), (1, .int (x1 + 1))] [] (zx_u2 I r2 j7 x1)) ∧ ((¬ x2 ≤ 0) → ∃ j13, x2 - 1 = nI j13 ∧ j13 < n6 ∧ ∃ j18, I r2 j13 = nI j18 ∧ j18 < n17 ∧ ∃ j21, x1 = nI j21 ∧ j21 < n17 ∧ (((I r10 j18) ≤ (I r10 j21)) → ∃ j24, x2 = nI j24 ∧ j24 < n6 ∧ zi_X l (zx_rm d 0 0) M_Trees_sortSymbols K RJ Q 2 [(0, .ref o0), (1, .int (x1 + 1))] [] (zx_u2 I r2 j24 x1)) ∧ ((¬ (I r10 j18) ≤ (I r10 j21)) → ∃ j27, x2 - 1 = nI j27 ∧ j27 < n6 ∧ ∃ j30, x2 = nI j30 ∧ j30 < n6 ∧ zi_X l (zx_rm d 0 0) M_Trees_sortSymbols K RJ Q 12 [(0, .ref o0), (1, .int x1), (2, .int (x2 + (-1)))] [] (zx_u2 I r2 j30 (I r2 j27))))) :
    zi_X l (zx_rm d 0 0) M_Trees_sortSymbols K RJ Q 12 [(0, .ref o0), (1, .int x1), (2, .int x2)] [] I := by
  refine zx_iload_n d_Trees_sortSymbols_12 rfl ?_
  refine zx_if_le (tgt := 58) d_Trees_sortSymbols_13 rfl (fun c => ?_) (fun c => ?_)
  · have k := k.1 c
    refine zx_aload_n d_Trees_sortSymbols_58 rfl ?_
    refine zi_getR f_Trees_21 q1 (by decide) e3 z4 d_Trees_sortSymbols_59 ?_
    refine zx_iload_n d_Trees_sortSymbols_62 rfl ?_
    refine zx_iload_n d_Trees_sortSymbols_63 rfl ?_
    obtain ⟨j7, e8, b9, k⟩ := k
    refine zi_iast j7 a5 e8 b9 d_Trees_sortSymbols_64 ?_
    refine zx_iinc (L2 := [(0, .ref o0), (1, .int (x1 + 1)), (2, .int x2)]) d_Trees_sortSymbols_65 rfl (Nat.le_of_ble_eq_true rfl) zc_1 rfl ?_
    refine zx_goto (tgt := 2) d_Trees_sortSymbols_68 rfl ?_
    refine zx_locs [0, 1] rfl ?_
    exact k
  · have k := k.2 c
    refine zx_aload_n d_Trees_sortSymbols_16 rfl ?_
    refine zi_getR f_Trees_11 q1 (by decide) e11 z12 d_Trees_sortSymbols_17 ?_
    refine zx_aload_n d_Trees_sortSymbols_20 rfl ?_
    refine zi_getR f_Trees_21 q1 (by decide) e3 z4 d_Trees_sortSymbols_21 ?_
    refine zx_iload_n d_Trees_sortSymbols_24 rfl ?_
    refine zx_iconst d_Trees_sortSymbols_25 zc_1 ?_
    refine zx_isub d_Trees_sortSymbols_26 ?_
    obtain ⟨j13, e14, b15, k⟩ := k
    refine zi_iald j13 a5 e14 b15 d_Trees_sortSymbols_27 ?_
    obtain ⟨j18, e19, b20, k⟩ := k
    refine zi_iald j18 a16 e19 b20 d_Trees_sortSymbols_28 ?_
    refine zx_aload_n d_Trees_sortSymbols_29 rfl ?_
    refine zi_getR f_Trees_11 q1 (by decide) e11 z12 d_Trees_sortSymbols_30 ?_
    refine zx_iload_n d_Trees_sortSymbols_33 rfl ?_
    obtain ⟨j21, e22, b23, k⟩ := k
    refine zi_iald j21 a16 e22 b23 d_Trees_sortSymbols_34 ?_
    refine zx_icmp_le (tgt := 58) d_Trees_sortSymbols_35 rfl (fun c => ?_) (fun c => ?_)
    · have k := k.1 c
      refine zx_aload_n d_Trees_sortSymbols_58 rfl ?_
      refine zi_getR f_Trees_21 q1 (by decide) e3 z4 d_Trees_sortSymbols_59 ?_
      refine zx_iload_n d_Trees_sortSymbols_62 rfl ?_
      refine zx_iload_n d_Trees_sortSymbols_63 rfl ?_
      obtain ⟨j24, e25, b26, k⟩ := k
      refine zi_iast j24 a5 e25 b26 d_Trees_sortSymbols_64 ?_
      refine zx_iinc (L2 := [(0, .ref o0), (1, .int (x1 + 1)), (2, .int x2)]) d_Trees_sortSymbols_65 rfl (Nat.le_of_ble_eq_true rfl) zc_1 rfl ?_
      refine zx_goto (tgt := 2) d_Trees_sortSymbols_68 rfl ?_
      refine zx_locs [0, 1] rfl ?_
      exact k
    · have k := k.2 c
      refine zx_aload_n d_Trees_sortSymbols_38 rfl ?_
      refine zi_getR f_Trees_21 q1 (by decide) e3 z4 d_Trees_sortSymbols_39 ?_
      refine zx_iload_n d_Trees_sortSymbols_42 rfl ?_
      refine zx_aload_n d_Trees_sortSymbols_43 rfl ?_
      refine zi_getR f_Trees_21 q1 (by decide) e3 z4 d_Trees_sortSymbols_44 ?_
      refine zx_iload_n d_Trees_sortSymbols_47 rfl ?_
      refine zx_iconst d_Trees_sortSymbols_48 zc_1 ?_
      refine zx_isub d_Trees_sortSymbols_49 ?_
      obtain ⟨j27, e28, b29, k⟩ := k
      refine zi_iald j27 a5 e28 b29 d_Trees_sortSymbols_50 ?_
      obtain ⟨j30, e31, b32, k⟩ := k
      refine zi_iast j30 a5 e31 b32 d_Trees_sortSymbols_51 ?_
      refine zx_iinc (L2 := [(0, .ref o0), (1, .int x1), (2, .int (x2 + (-1)))]) d_Trees_sortSymbols_52 rfl (Nat.le_of_ble_eq_true rfl) zc_m1 rfl ?_
      refine zx_goto (tgt := 12) d_Trees_sortSymbols_55 rfl ?_
      exact k
set_option maxRecDepth 20000 in
theorem r_Trees_joinTrees_0 (l : Launch) (d : Nat) {K : zx_Kt} {RJ : zx_RJ} {Q : zi_Q} {I : zi_I} (o0 : Nat) (q1 : (K.2 o0).1 = 17)
    (k : zi_X l (zx_rm (d + 1) 0 0) M_Trees_joinTrees K RJ Q 18 [(0, .ref o0), (1, .int (I o0 4))] [] (zx_u2 (zx_u2 I o0 5 0) o0 6 (I o0 4))) :
    zi_X l (zx_rm (d + 1) 0 0) M_Trees_joinTrees K RJ Q 0 [(0, .ref o0)] [] I := by
  refine zx_aload_n d_Trees_joinTrees_0 rfl ?_
  refine zx_iconst d_Trees_joinTrees_1 zc_0 ?_
  refine zi_putI f_Trees_28 q1 (by decide) d_Trees_joinTrees_2 ?_
  refine zx_aload_n d_Trees_joinTrees_5 rfl ?_
  refine zx_aload_n d_Trees_joinTrees_6 rfl ?_
  refine zi_getIe f_Trees_24 q1 (by decide) (zx_u2_k (by decide)) d_Trees_joinTrees_7 ?_
  refine zi_putI f_Trees_31 q1 (by decide) d_Trees_joinTrees_10 ?_
  refine zx_aload_n d_Trees_joinTrees_13 rfl ?_
  refine zi_getIe f_Trees_24 q1 (by decide) ((zx_u2_k (by decide)).trans (zx_u2_k (by decide))) d_Trees_joinTrees_14 ?_
  refine zx_istore_n (L2 := [(0, .ref o0), (1, .int (I o0 4))]) d_Trees_joinTrees_17 (Nat.le_of_ble_eq_true rfl) rfl ?_
  exact k
set_option maxRecDepth 20000 in
theorem r_Trees_joinTrees_18 (l : Launch) (d : Nat) {K : zx_Kt} {RJ : zx_RJ} {Q : zi_Q} {I : zi_I} (o0 : Nat) (x1 : Int32) (q1 : (K.2 o0).1 = 17) {r6 : Nat} (e7 : RJ.1 o0 0 = r6) (z8 : r6 ≠ 0) {n10 : Nat} (a9 : K.2 r6 = (0, n10)) {r20 : Nat} (e21 : RJ.1 o0 1 = r20) (z22 : r20 ≠ 0) {n24 : Nat} (a23 : K.2 r20 = (0, n24))
    (k : ((((2 * (I o0 4)) - 1) ≤ x1) → Q none I) ∧ ((¬ ((2 * (I o0 4)) - 1) ≤ x1) → zi_C l (zx_rm d 0 0) M_Trees_takeFirst [.ref o0, .int x1] K RJ I (fun r I2 => ∃ v3, r = some (.int v3) ∧ zi_C l (zx_rm d 0 0) M_Trees_takeFirst [.ref o0, .int x1] K RJ I2 (fun r I4 => ∃ v5, r = some (.int v5) ∧ ∃ j11, v3 = nI j11 ∧ j11 < n10 ∧ ∃ j14, v5 = nI j14 ∧ j14 < n10 ∧ ∃ j17, x1 = nI j17 ∧ j17 < n10 ∧ ∃ j25, v3 = nI j25 ∧ j25 < n24 ∧ ∃ j28, v5 = nI j28 ∧ j28 < n24 ∧ zi_X l (zx_rm (d + 1) 0 0) M_Trees_joinTrees K RJ Q 18 [(0, .ref o0), (1, .int (x1 + 1))] [] (zx_u2 (zx_u2 (zx_u2 I4 r6 j17 ((I4 r6 j11) + (I4 r6 j14))) r20 j25 x1) r20 j28 x1))))) :
    zi_X l (zx_rm (d + 1) 0 0) M_Trees_joinTrees K RJ Q 18 [(0, .ref o0), (1, .int x1)] [] I := by
  refine zx_iload_n d_Trees_joinTrees_18 rfl ?_
  refine zx_iconst d_Trees_joinTrees_19 zc_2 ?_
  refine zx_aload_n d_Trees_joinTrees_20 rfl ?_
  refine zi_getI f_Trees_24 q1 (by decide) d_Trees_joinTrees_21 ?_
  refine zx_imul d_Trees_joinTrees_24 ?_
  refine zx_iconst d_Trees_joinTrees_25 zc_1 ?_
  refine zx_isub d_Trees_joinTrees_26 ?_
  refine zx_icmp_ge (tgt := 81) d_Trees_joinTrees_27 rfl (fun c => ?_) (fun c => ?_)
  · have k := k.1 c
    exact zi_vret d_Trees_joinTrees_81 rfl k
  · have k := k.2 c
    refine zx_aload_n d_Trees_joinTrees_30 rfl ?_
    refine zx_iload_n d_Trees_joinTrees_31 rfl ?_
    refine zi_callV (hC := k) k_Trees_55 q1 (by decide) rfl rfl (Nat.le_of_ble_eq_true rfl) (Nat.le_of_ble_eq_true rfl) d_Trees_joinTrees_32 (fun r I2 k => ?_)
    obtain ⟨v3, rfl, k⟩ := k
    refine zx_istore_n (L2 := [(0, .ref o0), (1, .int x1), (2, .int v3)]) d_Trees_joinTrees_35 (Nat.le_of_ble_eq_true rfl) rfl ?_
    refine zx_aload_n d_Trees_joinTrees_36 rfl ?_
    refine zx_iload_n d_Trees_joinTrees_37 rfl ?_
    refine zi_callV (hC := k) k_Trees_55 q1 (by decide) rfl rfl (Nat.le_of_ble_eq_true rfl) (Nat.le_of_ble_eq_true rfl) d_Trees_joinTrees_38 (fun r I4 k => ?_)
    obtain ⟨v5, rfl, k⟩ := k
    refine zx_istore_n (L2 := [(0, .ref o0), (1, .int x1), (2, .int v3), (3, .int v5)]) d_Trees_joinTrees_41 (Nat.le_of_ble_eq_true rfl) rfl ?_
    refine zx_aload_n d_Trees_joinTrees_42 rfl ?_
    refine zi_getR f_Trees_11 q1 (by decide) e7 z8 d_Trees_joinTrees_43 ?_
    refine zx_iload_n d_Trees_joinTrees_46 rfl ?_
    refine zx_aload_n d_Trees_joinTrees_47 rfl ?_
    refine zi_getR f_Trees_11 q1 (by decide) e7 z8 d_Trees_joinTrees_48 ?_
    refine zx_iload_n d_Trees_joinTrees_51 rfl ?_
    obtain ⟨j11, e12, b13, k⟩ := k
    refine zi_iald j11 a9 e12 b13 d_Trees_joinTrees_52 ?_
    refine zx_aload_n d_Trees_joinTrees_53 rfl ?_
    refine zi_getR f_Trees_11 q1 (by decide) e7 z8 d_Trees_joinTrees_54 ?_
    refine zx_iload_n d_Trees_joinTrees_57 rfl ?_
    obtain ⟨j14, e15, b16, k⟩ := k
    refine zi_iald j14 a9 e15 b16 d_Trees_joinTrees_58 ?_
    refine zx_iadd d_Trees_joinTrees_59 ?_
    obtain ⟨j17, e18, b19, k⟩ := k
    refine zi_iast j17 a9 e18 b19 d_Trees_joinTrees_60 ?_
    refine zx_aload_n d_Trees_joinTrees_61 rfl ?_
    refine zi_getR f_Trees_15 q1 (by decide) e21 z22 d_Trees_joinTrees_62 ?_
    refine zx_iload_n d_Trees_joinTrees_65 rfl ?_
    refine zx_iload_n d_Trees_joinTrees_66 rfl ?_
    obtain ⟨j25, e26, b27, k⟩ := k
    refine zi_iast j25 a23 e26 b27 d_Trees_joinTrees_67 ?_
    refine zx_aload_n d_Trees_joinTrees_68 rfl ?_
    refine zi_getR f_Trees_15 q1 (by decide) e21 z22 d_Trees_joinTrees_69 ?_
    refine zx_iload_n d_Trees_joinTrees_72 rfl ?_
    refine zx_iload_n d_Trees_joinTrees_73 rfl ?_
    obtain ⟨j28, e29, b30, k⟩ := k
    refine zi_iast j28 a23 e29 b30 d_Trees_joinTrees_74 ?_
    refine zx_iinc (L2 := [(0, .ref o0), (1, .int (x1 + 1)), (2, .int v3), (3, .int v5)]) d_Trees_joinTrees_75 rfl (Nat.le_of_ble_eq_true rfl) zc_1 rfl ?_
    refine zx_goto (tgt := 18) d_Trees_joinTrees_78 rfl ?_
    refine zx_locs [0, 1] rfl ?_
    exact k
set_option maxRecDepth 20000 in
theorem r_Trees_takeFirst_0 (l : Launch) (d : Nat) {K : zx_Kt} {RJ : zx_RJ} {Q : zi_Q} {I : zi_I} (o0 : Nat) (x1 : Int32) (q1 : (K.2 o0).1 = 17)
    (k : (((I o0 4) ≤ (I o0 5)) → zi_X l (zx_rm d 0 0) M_Trees_takeFirst K RJ Q 16 [(0, .ref o0), (1, .int x1)] [.int 0] I) ∧ ((¬ (I o0 4) ≤ (I o0 5)) → zi_X l (zx_rm d 0 0) M_Trees_takeFirst K RJ Q 16 [(0, .ref o0), (1, .int x1)] [.int 1] I)) :
    zi_X l (zx_rm d 0 0) M_Trees_takeFirst K RJ Q 0 [(0, .ref o0), (1, .int x1)] [] I := by
  refine zx_aload_n d_Trees_takeFirst_0 rfl ?_
  refine zi_getI f_Trees_28 q1 (by decide) d_Trees_takeFirst_1 ?_
  refine zx_aload_n d_Trees_takeFirst_4 rfl ?_
  refine zi_getI f_Trees_24 q1 (by decide) d_Trees_takeFirst_5 ?_
  refine zx_icmp_ge (tgt := 15) d_Trees_takeFirst_8 rfl (fun c => ?_) (fun c => ?_)
  · have k := k.1 c
    refine zx_iconst d_Trees_takeFirst_15 zc_0 ?_
    exact k
  · have k := k.2 c
    refine zx_iconst d_Trees_takeFirst_11 zc_1 ?_
    refine zx_goto (tgt := 16) d_Trees_takeFirst_12 rfl ?_
    exact k
set_option maxRecDepth 20000 in
theorem r_Trees_takeFirst_16 (l : Launch) (d : Nat) {K : zx_Kt} {RJ : zx_RJ} {Q : zi_Q} {I : zi_I} (o0 : Nat) (x1 : Int32) (y0 : Int32) (q1 : (K.2 o0).1 = 17)
    (k : ((x1 ≤ (I o0 6)) → zi_X l (zx_rm d 0 0) M_Trees_takeFirst K RJ Q 30 [(0, .ref o0), (1, .int x1), (2, .int y0)] [.int 0] I) ∧ ((¬ x1 ≤ (I o0 6)) → zi_X l (zx_rm d 0 0) M_Trees_takeFirst K RJ Q 30 [(0, .ref o0), (1, .int x1), (2, .int y0)] [.int 1] I)) :
    zi_X l (zx_rm d 0 0) M_Trees_takeFirst K RJ Q 16 [(0, .ref o0), (1, .int x1)] [.int y0] I := by
  refine zx_istore_n (L2 := [(0, .ref o0), (1, .int x1), (2, .int y0)]) d_Trees_takeFirst_16 (Nat.le_of_ble_eq_true rfl) rfl ?_
  refine zx_aload_n d_Trees_takeFirst_17 rfl ?_
  refine zi_getI f_Trees_31 q1 (by decide) d_Trees_takeFirst_18 ?_
  refine zx_iload_n d_Trees_takeFirst_21 rfl ?_
  refine zx_icmp_ge (tgt := 29) d_Trees_takeFirst_22 rfl (fun c => ?_) (fun c => ?_)
  · have k := k.1 c
    refine zx_iconst d_Trees_takeFirst_29 zc_0 ?_
    exact k
  · have k := k.2 c
    refine zx_iconst d_Trees_takeFirst_25 zc_1 ?_
    refine zx_goto (tgt := 30) d_Trees_takeFirst_26 rfl ?_
    exact k
set_option maxRecDepth 20000 in
theorem r_Trees_takeFirst_30 (l : Launch) (d : Nat) {K : zx_Kt} {RJ : zx_RJ} {Q : zi_Q} {I : zi_I} (o0 : Nat) (x1 : Int32) (x2 : Int32) (y0 : Int32) (q1 : (K.2 o0).1 = 17) {r2 : Nat} (e3 : RJ.1 o0 0 = r2) (z4 : r2 ≠ 0) {r5 : Nat} (e6 : RJ.1 o0 3 = r5) (z7 : r5 ≠ 0) {n9 : Nat} (a8 : K.2 r5 = (0, n9)) {n14 : Nat} (a13 : K.2 r2 = (0, n14))
    (k : ((x2 = 0) → zi_X l (zx_rm d 0 0) M_Trees_takeFirst K RJ Q 87 [(0, .ref o0), (1, .int x1), (2, .int x2), (3, .int y0)] [] I) ∧ ((¬ x2 = 0) → ((y0 = 0) → zi_X l (zx_rm d 0 0) M_Trees_takeFirst K RJ Q 65 [(0, .ref o0), (1, .int x1), (2, .int x2), (3, .int y0)] [] I) ∧ ((¬ y0 = 0) → ∃ j10, I o0 5 = nI j10 ∧ j10 < n9 ∧ ∃ j15, I r5 j10 = nI j15 ∧ j15 < n14 ∧ ∃ j18, I o0 6 = nI j18 ∧ j18 < n14 ∧ (((I r2 j18) < (I r2 j15)) → zi_X l (zx_rm d 0 0) M_Trees_takeFirst K RJ Q 87 [(0, .ref o0), (1, .int x1), (2, .int x2), (3, .int y0)] [] I) ∧ ((¬ (I r2 j18) < (I r2 j15)) → zi_X l (zx_rm d 0 0) M_Trees_takeFirst K RJ Q 65 [(0, .ref o0), (1, .int x1), (2, .int x2), (3, .int y0)] [] I)))) :
    zi_X l (zx_rm d 0 0) M_Trees_takeFirst K RJ Q 30 [(0, .ref o0), (1, .int x1), (2, .int x2)] [.int y0] I := by
  refine zx_istore_n (L2 := [(0, .ref o0), (1, .int x1), (2, .int x2), (3, .int y0)]) d_Trees_takeFirst_30 (Nat.le_of_ble_eq_true rfl) rfl ?_
  refine zx_iload_n d_Trees_takeFirst_31 rfl ?_
  refine zx_if_eq (tgt := 87) d_Trees_takeFirst_32 rfl (fun c => ?_) (fun c => ?_)
  · have k := k.1 c
    exact k
  · have k := k.2 c
    refine zx_iload_n d_Trees_takeFirst_35 rfl ?_
    refine zx_if_eq (tgt := 65) d_Trees_takeFirst_36 rfl (fun c => ?_) (fun c => ?_)
    · have k := k.1 c
      exact k
    · have k := k.2 c
      refine zx_aload_n d_Trees_takeFirst_39 rfl ?_
      refine zi_getR f_Trees_11 q1 (by decide) e3 z4 d_Trees_takeFirst_40 ?_
      refine zx_aload_n d_Trees_takeFirst_43 rfl ?_
      refine zi_getR f_Trees_21 q1 (by decide) e6 z7 d_Trees_takeFirst_44 ?_
      refine zx_aload_n d_Trees_takeFirst_47 rfl ?_
      refine zi_getI f_Trees_28 q1 (by decide) d_Trees_takeFirst_48 ?_
      obtain ⟨j10, e11, b12, k⟩ := k
      refine zi_iald j10 a8 e11 b12 d_Trees_takeFirst_51 ?_
      obtain ⟨j15, e16, b17, k⟩ := k
      refine zi_iald j15 a13 e16 b17 d_Trees_takeFirst_52 ?_
      refine zx_aload_n d_Trees_takeFirst_53 rfl ?_
      refine zi_getR f_Trees_11 q1 (by decide) e3 z4 d_Trees_takeFirst_54 ?_
      refine zx_aload_n d_Trees_takeFirst_57 rfl ?_
      refine zi_getI f_Trees_31 q1 (by decide) d_Trees_takeFirst_58 ?_
      obtain ⟨j18, e19, b20, k⟩ := k
      refine zi_iald j18 a13 e19 b20 d_Trees_takeFirst_61 ?_
      refine zx_icmp_gt (tgt := 87) d_Trees_takeFirst_62 rfl (fun c => ?_) (fun c => ?_)
      · have k := k.1 c
        exact k
      · have k := k.2 c
        exact k
set_option maxRecDepth 20000 in
theorem r_Trees_takeFirst_65 (l : Launch) (d : Nat) {K : zx_Kt} {RJ : zx_RJ} {Q : zi_Q} {I : zi_I} (o0 : Nat) (x1 : Int32) (x2 : Int32) (x3 : Int32) (q1 : (K.2 o0).1 = 17) {r2 : Nat} (e3 : RJ.1 o0 3 = r2) (z4 : r2 ≠ 0) {n6 : Nat} (a5 : K.2 r2 = (0, n6))
    (k : ∃ j7, ((I o0 5) + 1) - 1 = nI j7 ∧ j7 < n6 ∧ Q (some (.int ((zx_u2 I o0 5 ((I o0 5) + 1)) r2 j7))) (zx_u2 I o0 5 ((I o0 5) + 1))) :
    zi_X l (zx_rm d 0 0) M_Trees_takeFirst K RJ Q 65 [(0, .ref o0), (1, .int x1), (2, .int x2), (3, .int x3)] [] I := by
  refine zx_aload_n d_Trees_takeFirst_65 rfl ?_
  refine zx_dup_a d_Trees_takeFirst_66 ?_
  refine zi_getI f_Trees_28 q1 (by decide) d_Trees_takeFirst_67 ?_
  refine zx_iconst d_Trees_takeFirst_70 zc_1 ?_
  refine zx_iadd d_Trees_takeFirst_71 ?_
  refine zi_putI f_Trees_28 q1 (by decide) d_Trees_takeFirst_72 ?_
  refine zx_aload_n d_Trees_takeFirst_75 rfl ?_
  refine zi_getR f_Trees_21 q1 (by decide) e3 z4 d_Trees_takeFirst_76 ?_
  refine zx_aload_n d_Trees_takeFirst_79 rfl ?_
  refine zi_getIe f_Trees_28 q1 (by decide) zx_u2_s d_Trees_takeFirst_80 ?_
  refine zx_iconst d_Trees_takeFirst_83 zc_1 ?_
  refine zx_isub d_Trees_takeFirst_84 ?_
  obtain ⟨j7, e8, b9, k⟩ := k
  refine zi_iald j7 a5 e8 b9 d_Trees_takeFirst_85 ?_
  exact zi_iret d_Trees_takeFirst_86 rfl k
set_option maxRecDepth 20000 in
theorem r_Trees_takeFirst_87 (l : Launch) (d : Nat) {K : zx_Kt} {RJ : zx_RJ} {Q : zi_Q} {I : zi_I} (o0 : Nat) (x1 : Int32) (x2 : Int32) (x3 : Int32) (q1 : (K.2 o0).1 = 17)
    (k : ((¬ x3 = 0) → Q (some (.int (((I o0 6) + 1) - 1))) (zx_u2 I o0 6 ((I o0 6) + 1))) ∧ ((x3 = 0) → Q (some (.int 0)) I)) :
    zi_X l (zx_rm d 0 0) M_Trees_takeFirst K RJ Q 87 [(0, .ref o0), (1, .int x1), (2, .int x2), (3, .int x3)] [] I := by
  refine zx_iload_n d_Trees_takeFirst_87 rfl ?_
  refine zx_if_ne (tgt := 93) d_Trees_takeFirst_88 rfl (fun c => ?_) (fun c => ?_)
  · have k := k.1 c
    refine zx_aload_n d_Trees_takeFirst_93 rfl ?_
    refine zx_dup_a d_Trees_takeFirst_94 ?_
    refine zi_getI f_Trees_31 q1 (by decide) d_Trees_takeFirst_95 ?_
    refine zx_iconst d_Trees_takeFirst_98 zc_1 ?_
    refine zx_iadd d_Trees_takeFirst_99 ?_
    refine zi_putI f_Trees_31 q1 (by decide) d_Trees_takeFirst_100 ?_
    refine zx_aload_n d_Trees_takeFirst_103 rfl ?_
    refine zi_getIe f_Trees_31 q1 (by decide) zx_u2_s d_Trees_takeFirst_104 ?_
    refine zx_iconst d_Trees_takeFirst_107 zc_1 ?_
    refine zx_isub d_Trees_takeFirst_108 ?_
    exact zi_iret d_Trees_takeFirst_109 rfl k
  · have k := k.2 c
    refine zx_iconst d_Trees_takeFirst_91 zc_0 ?_
    exact zi_iret d_Trees_takeFirst_92 rfl k
set_option maxRecDepth 20000 in
theorem r_Trees_measureDepths_0 (l : Launch) (d : Nat) {K : zx_Kt} {RJ : zx_RJ} {Q : zi_Q} {I : zi_I} (o0 : Nat) (q1 : (K.2 o0).1 = 17) {r2 : Nat} (e3 : RJ.1 o0 2 = r2) (z4 : r2 ≠ 0) {n6 : Nat} (a5 : K.2 r2 = (0, n6))
    (k : ∃ j7, (2 * (I o0 4)) - 2 = nI j7 ∧ j7 < n6 ∧ zi_X l (zx_rm d 0 0) M_Trees_measureDepths K RJ Q 20 [(0, .ref o0), (1, .int ((2 * (I o0 4)) - 2)), (2, .int (((2 * (I o0 4)) - 2) - 1))] [] (zx_u2 I r2 j7 0)) :
    zi_X l (zx_rm d 0 0) M_Trees_measureDepths K RJ Q 0 [(0, .ref o0)] [] I := by
  refine zx_iconst d_Trees_measureDepths_0 zc_2 ?_
  refine zx_aload_n d_Trees_measureDepths_1 rfl ?_
  refine zi_getI f_Trees_24 q1 (by decide) d_Trees_measureDepths_2 ?_
  refine zx_imul d_Trees_measureDepths_5 ?_
  refine zx_iconst d_Trees_measureDepths_6 zc_2 ?_
  refine zx_isub d_Trees_measureDepths_7 ?_
  refine zx_istore_n (L2 := [(0, .ref o0), (1, .int ((2 * (I o0 4)) - 2))]) d_Trees_measureDepths_8 (Nat.le_of_ble_eq_true rfl) rfl ?_
  refine zx_aload_n d_Trees_measureDepths_9 rfl ?_
  refine zi_getR f_Trees_18 q1 (by decide) e3 z4 d_Trees_measureDepths_10 ?_
  refine zx_iload_n d_Trees_measureDepths_13 rfl ?_
  refine zx_iconst d_Trees_measureDepths_14 zc_0 ?_
  obtain ⟨j7, e8, b9, k⟩ := k
  refine zi_iast j7 a5 e8 b9 d_Trees_measureDepths_15 ?_
  refine zx_iload_n d_Trees_measureDepths_16 rfl ?_
  refine zx_iconst d_Trees_measureDepths_17 zc_1 ?_
  refine zx_isub d_Trees_measureDepths_18 ?_
  refine zx_istore_n (L2 := [(0, .ref o0), (1, .int ((2 * (I o0 4)) - 2)), (2, .int (((2 * (I o0 4)) - 2) - 1))]) d_Trees_measureDepths_19 (Nat.le_of_ble_eq_true rfl) rfl ?_
  exact k
set_option maxRecDepth 20000 in
theorem r_Trees_measureDepths_20 (l : Launch) (d : Nat) {K : zx_Kt} {RJ : zx_RJ} {Q : zi_Q} {I : zi_I} (o0 : Nat) (x1 : Int32) (x2 : Int32) (q1 : (K.2 o0).1 = 17) {r2 : Nat} (e3 : RJ.1 o0 2 = r2) (z4 : r2 ≠ 0) {r5 : Nat} (e6 : RJ.1 o0 1 = r5) (z7 : r5 ≠ 0) {n9 : Nat} (a8 : K.2 r5 = (0, n9)) {n14 : Nat} (a13 : K.2 r2 = (0, n14))
    (k : ((x2 < 0) → Q none I) ∧ ((¬ x2 < 0) → ∃ j10, x2 = nI j10 ∧ j10 < n9 ∧ ∃ j15, I r5 j10 = nI j15 ∧ j15 < n14 ∧ ∃ j18, x2 = nI j18 ∧ j18 < n14 ∧ zi_X l (zx_rm d 0 0) M_Trees_measureDepths K RJ Q 20 [(0, .ref o0), (1, .int x1), (2, .int (x2 + (-1)))] [] (zx_u2 I r2 j18 ((I r2 j15) + 1)))) :
    zi_X l (zx_rm d 0 0) M_Trees_measureDepths K RJ Q 20 [(0, .ref o0), (1, .int x1), (2, .int x2)] [] I := by
  refine zx_iload_n d_Trees_measureDepths_20 rfl ?_
  refine zx_if_lt (tgt := 49) d_Trees_measureDepths_21 rfl (fun c => ?_) (fun c => ?_)
  · have k := k.1 c
    exact zi_vret d_Trees_measureDepths_49 rfl k
  · have k := k.2 c
    refine zx_aload_n d_Trees_measureDepths_24 rfl ?_
    refine zi_getR f_Trees_18 q1 (by decide) e3 z4 d_Trees_measureDepths_25 ?_
    refine zx_iload_n d_Trees_measureDepths_28 rfl ?_
    refine zx_aload_n d_Trees_measureDepths_29 rfl ?_
    refine zi_getR f_Trees_18 q1 (by decide) e3 z4 d_Trees_measureDepths_30 ?_
    refine zx_aload_n d_Trees_measureDepths_33 rfl ?_
    refine zi_getR f_Trees_15 q1 (by decide) e6 z7 d_Trees_measureDepths_34 ?_
    refine zx_iload_n d_Trees_measureDepths_37 rfl ?_
    obtain ⟨j10, e11, b12, k⟩ := k
    refine zi_iald j10 a8 e11 b12 d_Trees_measureDepths_38 ?_
    obtain ⟨j15, e16, b17, k⟩ := k
    refine zi_iald j15 a13 e16 b17 d_Trees_measureDepths_39 ?_
    refine zx_iconst d_Trees_measureDepths_40 zc_1 ?_
    refine zx_iadd d_Trees_measureDepths_41 ?_
    obtain ⟨j18, e19, b20, k⟩ := k
    refine zi_iast j18 a13 e19 b20 d_Trees_measureDepths_42 ?_
    refine zx_iinc (L2 := [(0, .ref o0), (1, .int x1), (2, .int (x2 + (-1)))]) d_Trees_measureDepths_43 rfl (Nat.le_of_ble_eq_true rfl) zc_m1 rfl ?_
    refine zx_goto (tgt := 20) d_Trees_measureDepths_46 rfl ?_
    exact k
