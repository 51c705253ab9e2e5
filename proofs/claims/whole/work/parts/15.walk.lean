/-! Regions of methods between loop heads: written by wip/whole/gen. -/
set_option maxRecDepth 20000 in
theorem r_Mod_fail_0 (l : Launch) (d : Nat) {K : zx_Kt} {RJ : zx_RJ} {Q : zi_Q} {I : zi_I} (o0 : Nat) (x1 : Int32) (x2 : Int32) (q1 : (K.2 o0).1 = 6)
    (k : ((¬ (I o0 8) = 0) → Q none I) ∧ (((I o0 8) = 0) → Q none (zx_u2 (zx_u2 I o0 8 x1) o0 9 x2))) :
    zi_X l (zx_rm d 0 0) M_Mod_fail K RJ Q 0 [(0, .ref o0), (1, .int x1), (2, .int x2)] [] I := by
  refine zx_aload_n d_Mod_fail_0 rfl ?_
  refine zi_getI f_Mod_231 q1 (by decide) d_Mod_fail_1 ?_
  refine zx_if_ne (tgt := 17) d_Mod_fail_4 rfl (fun c => ?_) (fun c => ?_)
  · have k := k.1 c
    exact zi_vret d_Mod_fail_17 rfl k
  · have k := k.2 c
    refine zx_aload_n d_Mod_fail_7 rfl ?_
    refine zx_iload_n d_Mod_fail_8 rfl ?_
    refine zi_putI f_Mod_231 q1 (by decide) d_Mod_fail_9 ?_
    refine zx_aload_n d_Mod_fail_12 rfl ?_
    refine zx_iload_n d_Mod_fail_13 rfl ?_
    refine zi_putI f_Mod_234 q1 (by decide) d_Mod_fail_14 ?_
    exact zi_vret d_Mod_fail_17 rfl k
set_option maxRecDepth 20000 in
theorem r_Mod_take_0 (l : Launch) (d : Nat) {K : zx_Kt} {RJ : zx_RJ} {Q : zi_Q} {I : zi_I} (o0 : Nat) (x1 : Int32) (x2 : Int32) (q1 : (K.2 o0).1 = 6)
    (k : ((¬ (I o0 8) = 0) → zi_C l (zx_rm d 0 0) M_Mod_fail [.ref o0, .int ((-2)), .int x2] K RJ I (fun r I2 => r = none ∧ Q (some (.int 0)) I2)) ∧ (((I o0 8) = 0) → ((((I o0 7) + x1) ≤ (8 * (I o0 1))) → zi_X l (zx_rm (d + 1) 0 0) M_Mod_take K RJ Q 37 [(0, .ref o0), (1, .int x1), (2, .int x2), (3, .int 0), (4, .int 0)] [] I) ∧ ((¬ ((I o0 7) + x1) ≤ (8 * (I o0 1))) → zi_C l (zx_rm d 0 0) M_Mod_fail [.ref o0, .int ((-2)), .int x2] K RJ I (fun r I3 => r = none ∧ Q (some (.int 0)) I3)))) :
    zi_X l (zx_rm (d + 1) 0 0) M_Mod_take K RJ Q 0 [(0, .ref o0), (1, .int x1), (2, .int x2)] [] I := by
  refine zx_aload_n d_Mod_take_0 rfl ?_
  refine zi_getI f_Mod_231 q1 (by decide) d_Mod_take_1 ?_
  refine zx_if_ne (tgt := 23) d_Mod_take_4 rfl (fun c => ?_) (fun c => ?_)
  · have k := k.1 c
    refine zx_aload_n d_Mod_take_23 rfl ?_
    refine zx_bipush d_Mod_take_24 zb_m2 ?_
    refine zx_iload_n d_Mod_take_26 rfl ?_
    refine zi_callV (hC := k) k_Mod_240 q1 (by decide) rfl rfl (Nat.le_of_ble_eq_true rfl) (Nat.le_of_ble_eq_true rfl) d_Mod_take_27 (fun r I2 k => ?_)
    obtain ⟨rfl, k⟩ := k
    refine zx_iconst d_Mod_take_30 zc_0 ?_
    exact zi_iret d_Mod_take_31 rfl k
  · have k := k.2 c
    refine zx_aload_n d_Mod_take_7 rfl ?_
    refine zi_getI f_Mod_237 q1 (by decide) d_Mod_take_8 ?_
    refine zx_iload_n d_Mod_take_11 rfl ?_
    refine zx_iadd d_Mod_take_12 ?_
    refine zx_bipush d_Mod_take_13 zb_8 ?_
    refine zx_aload_n d_Mod_take_15 rfl ?_
    refine zi_getI f_Mod_78 q1 (by decide) d_Mod_take_16 ?_
    refine zx_imul d_Mod_take_19 ?_
    refine zx_icmp_le (tgt := 32) d_Mod_take_20 rfl (fun c => ?_) (fun c => ?_)
    · have k := k.1 c
      refine zx_iconst d_Mod_take_32 zc_0 ?_
      refine zx_istore_n (L2 := [(0, .ref o0), (1, .int x1), (2, .int x2), (3, .int 0)]) d_Mod_take_33 (Nat.le_of_ble_eq_true rfl) rfl ?_
      refine zx_iconst d_Mod_take_34 zc_0 ?_
      refine zx_istore (L2 := [(0, .ref o0), (1, .int x1), (2, .int x2), (3, .int 0), (4, .int 0)]) d_Mod_take_35 (Nat.le_of_ble_eq_true rfl) rfl ?_
      exact k
    · have k := k.2 c
      refine zx_aload_n d_Mod_take_23 rfl ?_
      refine zx_bipush d_Mod_take_24 zb_m2 ?_
      refine zx_iload_n d_Mod_take_26 rfl ?_
      refine zi_callV (hC := k) k_Mod_240 q1 (by decide) rfl rfl (Nat.le_of_ble_eq_true rfl) (Nat.le_of_ble_eq_true rfl) d_Mod_take_27 (fun r I3 k => ?_)
      obtain ⟨rfl, k⟩ := k
      refine zx_iconst d_Mod_take_30 zc_0 ?_
      exact zi_iret d_Mod_take_31 rfl k
set_option maxRecDepth 20000 in
theorem r_Mod_take_37 (l : Launch) (d : Nat) {K : zx_Kt} {RJ : zx_RJ} {Q : zi_Q} {I : zi_I} (o0 : Nat) (x1 : Int32) (x2 : Int32) (x3 : Int32) (x4 : Int32) (q1 : (K.2 o0).1 = 6) {r2 : Nat} (e3 : RJ.1 o0 2 = r2) (z4 : r2 ≠ 0) {n6 : Nat} (a5 : K.2 r2 = (0, n6))
    (k : ((x1 ≤ x4) → Q (some (.int x3)) I) ∧ ((¬ x1 ≤ x4) → ∃ j7, (I o0 7) / 8 = nI j7 ∧ j7 < n6 ∧ zi_X l (zx_rm (d + 1) 0 0) M_Mod_take K RJ Q 37 [(0, .ref o0), (1, .int x1), (2, .int x2), (3, .int ((2 * x3) + ((((I r2 j7) : Int32) >>> (((7 - ((I o0 7) - (I o0 7) / 8 * 8)) : Int32) &&& 31)) &&& 1))), (4, .int (x4 + 1))] [] (zx_u2 I o0 7 ((I o0 7) + 1)))) :
    zi_X l (zx_rm (d + 1) 0 0) M_Mod_take K RJ Q 37 [(0, .ref o0), (1, .int x1), (2, .int x2), (3, .int x3), (4, .int x4)] [] I := by
  refine zx_iload d_Mod_take_37 rfl ?_
  refine zx_iload_n d_Mod_take_39 rfl ?_
  refine zx_icmp_ge (tgt := 89) d_Mod_take_40 rfl (fun c => ?_) (fun c => ?_)
  · have k := k.1 c
    refine zx_iload_n d_Mod_take_89 rfl ?_
    exact zi_iret d_Mod_take_90 rfl k
  · have k := k.2 c
    refine zx_iconst d_Mod_take_43 zc_2 ?_
    refine zx_iload_n d_Mod_take_44 rfl ?_
    refine zx_imul d_Mod_take_45 ?_
    refine zx_aload_n d_Mod_take_46 rfl ?_
    refine zi_getR f_Mod_7 q1 (by decide) e3 z4 d_Mod_take_47 ?_
    refine zx_aload_n d_Mod_take_50 rfl ?_
    refine zi_getI f_Mod_237 q1 (by decide) d_Mod_take_51 ?_
    refine zx_bipush d_Mod_take_54 zb_8 ?_
    refine zx_idiv d_Mod_take_56 (by decide) ?_
    obtain ⟨j7, e8, b9, k⟩ := k
    refine zi_iald j7 a5 e8 b9 d_Mod_take_57 ?_
    refine zx_bipush d_Mod_take_58 zb_7 ?_
    refine zx_aload_n d_Mod_take_60 rfl ?_
    refine zi_getI f_Mod_237 q1 (by decide) d_Mod_take_61 ?_
    refine zx_bipush d_Mod_take_64 zb_8 ?_
    refine zx_irem d_Mod_take_66 (by decide) ?_
    refine zx_isub d_Mod_take_67 ?_
    refine zx_ishr d_Mod_take_68 ?_
    refine zx_iconst d_Mod_take_69 zc_1 ?_
    refine zx_iand d_Mod_take_70 ?_
    refine zx_iadd d_Mod_take_71 ?_
    refine zx_istore_n (L2 := [(0, .ref o0), (1, .int x1), (2, .int x2), (3, .int ((2 * x3) + ((((I r2 j7) : Int32) >>> (((7 - ((I o0 7) - (I o0 7) / 8 * 8)) : Int32) &&& 31)) &&& 1))), (4, .int x4)]) d_Mod_take_72 (Nat.le_of_ble_eq_true rfl) rfl ?_
    refine zx_aload_n d_Mod_take_73 rfl ?_
    refine zx_dup_a d_Mod_take_74 ?_
    refine zi_getI f_Mod_237 q1 (by decide) d_Mod_take_75 ?_
    refine zx_iconst d_Mod_take_78 zc_1 ?_
    refine zx_iadd d_Mod_take_79 ?_
    refine zi_putI f_Mod_237 q1 (by decide) d_Mod_take_80 ?_
    refine zx_iinc (L2 := [(0, .ref o0), (1, .int x1), (2, .int x2), (3, .int ((2 * x3) + ((((I r2 j7) : Int32) >>> (((7 - ((I o0 7) - (I o0 7) / 8 * 8)) : Int32) &&& 31)) &&& 1))), (4, .int (x4 + 1))]) d_Mod_take_83 rfl (Nat.le_of_ble_eq_true rfl) zc_1 rfl ?_
    refine zx_goto (tgt := 37) d_Mod_take_86 rfl ?_
    exact k
set_option maxRecDepth 20000 in
theorem r_Mod_failIf_0 (l : Launch) (d : Nat) {K : zx_Kt} {RJ : zx_RJ} {Q : zi_Q} {I : zi_I} (o0 : Nat) (x1 : Int32) (x2 : Int32) (x3 : Int32) (q1 : (K.2 o0).1 = 6)
    (k : ((x1 = 0) → Q none I) ∧ ((¬ x1 = 0) → zi_C l (zx_rm d 0 0) M_Mod_fail [.ref o0, .int x2, .int x3] K RJ I (fun r I2 => r = none ∧ Q none I2))) :
    zi_X l (zx_rm (d + 1) 0 0) M_Mod_failIf K RJ Q 0 [(0, .ref o0), (1, .int x1), (2, .int x2), (3, .int x3)] [] I := by
  refine zx_iload_n d_Mod_failIf_0 rfl ?_
  refine zx_if_eq (tgt := 10) d_Mod_failIf_1 rfl (fun c => ?_) (fun c => ?_)
  · have k := k.1 c
    exact zi_vret d_Mod_failIf_10 rfl k
  · have k := k.2 c
    refine zx_aload_n d_Mod_failIf_4 rfl ?_
    refine zx_iload_n d_Mod_failIf_5 rfl ?_
    refine zx_iload_n d_Mod_failIf_6 rfl ?_
    refine zi_callV (hC := k) k_Mod_240 q1 (by decide) rfl rfl (Nat.le_of_ble_eq_true rfl) (Nat.le_of_ble_eq_true rfl) d_Mod_failIf_7 (fun r I2 k => ?_)
    obtain ⟨rfl, k⟩ := k
    exact zi_vret d_Mod_failIf_10 rfl k
set_option maxRecDepth 20000 in
theorem r_Mod_readMaps_0 (l : Launch) (d : Nat) {K : zx_Kt} {RJ : zx_RJ} {Q : zi_Q} {I : zi_I} (o0 : Nat) 
    (k : zi_X l (zx_rm (d + 1) 0 0) M_Mod_readMaps K RJ Q 2 [(0, .ref o0), (1, .int 0)] [] I) :
    zi_X l (zx_rm (d + 1) 0 0) M_Mod_readMaps K RJ Q 0 [(0, .ref o0)] [] I := by
  refine zx_iconst d_Mod_readMaps_0 zc_0 ?_
  refine zx_istore_n (L2 := [(0, .ref o0), (1, .int 0)]) d_Mod_readMaps_1 (Nat.le_of_ble_eq_true rfl) rfl ?_
  exact k
set_option maxRecDepth 20000 in
theorem r_Mod_readMaps_2 (l : Launch) (d : Nat) {K : zx_Kt} {RJ : zx_RJ} {Q : zi_Q} {I : zi_I} (o0 : Nat) (x1 : Int32) (q1 : (K.2 o0).1 = 6) {r4 : Nat} (e5 : RJ.1 o0 23 = r4) (z6 : r4 ≠ 0) {n8 : Nat} (a7 : K.2 r4 = (1, n8))
    (k : ((256 ≤ x1) → zi_C l (zx_rm d 0 0) M_Mod_take [.ref o0, .int 16, .int (I o0 7)] K RJ I (fun r I2 => ∃ v3, r = some (.int v3) ∧ zi_X l (zx_rm (d + 1) 0 0) M_Mod_readMaps K RJ Q 37 [(0, .ref o0), (1, .int (I o0 7)), (2, .int v3), (3, .int 0)] [] I2)) ∧ ((¬ 256 ≤ x1) → ∃ j9, x1 = nI j9 ∧ j9 < n8 ∧ zi_X l (zx_rm (d + 1) 0 0) M_Mod_readMaps K RJ Q 2 [(0, .ref o0), (1, .int (x1 + 1))] [] (zx_u2 I r4 j9 0))) :
    zi_X l (zx_rm (d + 1) 0 0) M_Mod_readMaps K RJ Q 2 [(0, .ref o0), (1, .int x1)] [] I := by
  refine zx_iload_n d_Mod_readMaps_2 rfl ?_
  refine zx_sipush d_Mod_readMaps_3 zs_256 ?_
  refine zx_icmp_ge (tgt := 22) d_Mod_readMaps_6 rfl (fun c => ?_) (fun c => ?_)
  · have k := k.1 c
    refine zx_aload_n d_Mod_readMaps_22 rfl ?_
    refine zi_getI f_Mod_237 q1 (by decide) d_Mod_readMaps_23 ?_
    refine zx_istore_n (L2 := [(0, .ref o0), (1, .int (I o0 7))]) d_Mod_readMaps_26 (Nat.le_of_ble_eq_true rfl) rfl ?_
    refine zx_aload_n d_Mod_readMaps_27 rfl ?_
    refine zx_bipush d_Mod_readMaps_28 zb_16 ?_
    refine zx_iload_n d_Mod_readMaps_30 rfl ?_
    refine zi_callV (hC := k) k_Mod_243 q1 (by decide) rfl rfl (Nat.le_of_ble_eq_true rfl) (Nat.le_of_ble_eq_true rfl) d_Mod_readMaps_31 (fun r I2 k => ?_)
    obtain ⟨v3, rfl, k⟩ := k
    refine zx_istore_n (L2 := [(0, .ref o0), (1, .int (I o0 7)), (2, .int v3)]) d_Mod_readMaps_34 (Nat.le_of_ble_eq_true rfl) rfl ?_
    refine zx_iconst d_Mod_readMaps_35 zc_0 ?_
    refine zx_istore_n (L2 := [(0, .ref o0), (1, .int (I o0 7)), (2, .int v3), (3, .int 0)]) d_Mod_readMaps_36 (Nat.le_of_ble_eq_true rfl) rfl ?_
    exact k
  · have k := k.2 c
    refine zx_aload_n d_Mod_readMaps_9 rfl ?_
    refine zi_getR f_Mod_35 q1 (by decide) e5 z6 d_Mod_readMaps_10 ?_
    refine zx_iload_n d_Mod_readMaps_13 rfl ?_
    refine zx_iconst d_Mod_readMaps_14 zc_0 ?_
    obtain ⟨j9, e10, b11, k⟩ := k
    refine zi_zast j9 a7 e10 b11 rfl d_Mod_readMaps_15 ?_
    refine zx_iinc (L2 := [(0, .ref o0), (1, .int (x1 + 1))]) d_Mod_readMaps_16 rfl (Nat.le_of_ble_eq_true rfl) zc_1 rfl ?_
    refine zx_goto (tgt := 2) d_Mod_readMaps_19 rfl ?_
    exact k
set_option maxRecDepth 20000 in
theorem r_Mod_readMaps_37 (l : Launch) (d : Nat) {K : zx_Kt} {RJ : zx_RJ} {Q : zi_Q} {I : zi_I} (o0 : Nat) (x1 : Int32) (x2 : Int32) (x3 : Int32) (q1 : (K.2 o0).1 = 6)
    (k : ((16 ≤ x3) → zi_C l (zx_rm d 0 0) M_Mod_listUsed [.ref o0] K RJ I (fun r I2 => r = none ∧ ((¬ (I2 o0 22) = 0) → zi_C l (zx_rm d 0 0) M_Mod_failIf [.ref o0, .int 0, .int ((-5)), .int x1] K RJ I2 (fun r I3 => r = none ∧ Q none I3)) ∧ (((I2 o0 22) = 0) → zi_C l (zx_rm d 0 0) M_Mod_failIf [.ref o0, .int 1, .int ((-5)), .int x1] K RJ I2 (fun r I4 => r = none ∧ Q none I4)))) ∧ ((¬ 16 ≤ x3) → ((¬ (I o0 8) = 0) → zi_C l (zx_rm d 0 0) M_Mod_listUsed [.ref o0] K RJ I (fun r I5 => r = none ∧ ((¬ (I5 o0 22) = 0) → zi_C l (zx_rm d 0 0) M_Mod_failIf [.ref o0, .int 0, .int ((-5)), .int x1] K RJ I5 (fun r I6 => r = none ∧ Q none I6)) ∧ (((I5 o0 22) = 0) → zi_C l (zx_rm d 0 0) M_Mod_failIf [.ref o0, .int 1, .int ((-5)), .int x1] K RJ I5 (fun r I7 => r = none ∧ Q none I7)))) ∧ (((I o0 8) = 0) → ((¬ (((x2 : Int32) >>> (((15 - x3) : Int32) &&& 31)) &&& 1) = 1) → zi_X l (zx_rm (d + 1) 0 0) M_Mod_readMaps K RJ Q 37 [(0, .ref o0), (1, .int x1), (2, .int x2), (3, .int (x3 + 1))] [] I) ∧ (((((x2 : Int32) >>> (((15 - x3) : Int32) &&& 31)) &&& 1) = 1) → zi_C l (zx_rm d 0 0) M_Mod_take [.ref o0, .int 16, .int (I o0 7)] K RJ I (fun r I8 => ∃ v9, r = some (.int v9) ∧ zi_X l (zx_rm (d + 1) 0 0) M_Mod_readMaps K RJ Q 79 [(0, .ref o0), (1, .int (I o0 7)), (2, .int x2), (3, .int x3), (4, .int v9), (5, .int 0)] [] I8))))) :
    zi_X l (zx_rm (d + 1) 0 0) M_Mod_readMaps K RJ Q 37 [(0, .ref o0), (1, .int x1), (2, .int x2), (3, .int x3)] [] I := by
  refine zx_iload_n d_Mod_readMaps_37 rfl ?_
  refine zx_bipush d_Mod_readMaps_38 zb_16 ?_
  refine zx_icmp_ge (tgt := 129) d_Mod_readMaps_40 rfl (fun c => ?_) (fun c => ?_)
  · have k := k.1 c
    refine zx_aload_n d_Mod_readMaps_129 rfl ?_
    refine zi_callV (hC := k) k_Mod_118 q1 (by decide) rfl rfl (Nat.le_of_ble_eq_true rfl) (Nat.le_of_ble_eq_true rfl) d_Mod_readMaps_130 (fun r I2 k => ?_)
    obtain ⟨rfl, k⟩ := k
    refine zx_aload_n d_Mod_readMaps_133 rfl ?_
    refine zx_aload_n d_Mod_readMaps_134 rfl ?_
    refine zi_getI f_Mod_108 q1 (by decide) d_Mod_readMaps_135 ?_
    refine zx_if_ne (tgt := 145) d_Mod_readMaps_138 rfl (fun c => ?_) (fun c => ?_)
    · have k := k.1 c
      refine zx_iconst d_Mod_readMaps_145 zc_0 ?_
      refine zx_bipush d_Mod_readMaps_146 zb_m5 ?_
      refine zx_iload_n d_Mod_readMaps_148 rfl ?_
      refine zi_callV (hC := k) k_Mod_246 q1 (by decide) rfl rfl (Nat.le_of_ble_eq_true rfl) (Nat.le_of_ble_eq_true rfl) d_Mod_readMaps_149 (fun r I3 k => ?_)
      obtain ⟨rfl, k⟩ := k
      exact zi_vret d_Mod_readMaps_152 rfl k
    · have k := k.2 c
      refine zx_iconst d_Mod_readMaps_141 zc_1 ?_
      refine zx_goto (tgt := 146) d_Mod_readMaps_142 rfl ?_
      refine zx_bipush d_Mod_readMaps_146 zb_m5 ?_
      refine zx_iload_n d_Mod_readMaps_148 rfl ?_
      refine zi_callV (hC := k) k_Mod_246 q1 (by decide) rfl rfl (Nat.le_of_ble_eq_true rfl) (Nat.le_of_ble_eq_true rfl) d_Mod_readMaps_149 (fun r I4 k => ?_)
      obtain ⟨rfl, k⟩ := k
      exact zi_vret d_Mod_readMaps_152 rfl k
  · have k := k.2 c
    refine zx_aload_n d_Mod_readMaps_43 rfl ?_
    refine zi_getI f_Mod_231 q1 (by decide) d_Mod_readMaps_44 ?_
    refine zx_if_ne (tgt := 129) d_Mod_readMaps_47 rfl (fun c => ?_) (fun c => ?_)
    · have k := k.1 c
      refine zx_aload_n d_Mod_readMaps_129 rfl ?_
      refine zi_callV (hC := k) k_Mod_118 q1 (by decide) rfl rfl (Nat.le_of_ble_eq_true rfl) (Nat.le_of_ble_eq_true rfl) d_Mod_readMaps_130 (fun r I5 k => ?_)
      obtain ⟨rfl, k⟩ := k
      refine zx_aload_n d_Mod_readMaps_133 rfl ?_
      refine zx_aload_n d_Mod_readMaps_134 rfl ?_
      refine zi_getI f_Mod_108 q1 (by decide) d_Mod_readMaps_135 ?_
      refine zx_if_ne (tgt := 145) d_Mod_readMaps_138 rfl (fun c => ?_) (fun c => ?_)
      · have k := k.1 c
        refine zx_iconst d_Mod_readMaps_145 zc_0 ?_
        refine zx_bipush d_Mod_readMaps_146 zb_m5 ?_
        refine zx_iload_n d_Mod_readMaps_148 rfl ?_
        refine zi_callV (hC := k) k_Mod_246 q1 (by decide) rfl rfl (Nat.le_of_ble_eq_true rfl) (Nat.le_of_ble_eq_true rfl) d_Mod_readMaps_149 (fun r I6 k => ?_)
        obtain ⟨rfl, k⟩ := k
        exact zi_vret d_Mod_readMaps_152 rfl k
      · have k := k.2 c
        refine zx_iconst d_Mod_readMaps_141 zc_1 ?_
        refine zx_goto (tgt := 146) d_Mod_readMaps_142 rfl ?_
        refine zx_bipush d_Mod_readMaps_146 zb_m5 ?_
        refine zx_iload_n d_Mod_readMaps_148 rfl ?_
        refine zi_callV (hC := k) k_Mod_246 q1 (by decide) rfl rfl (Nat.le_of_ble_eq_true rfl) (Nat.le_of_ble_eq_true rfl) d_Mod_readMaps_149 (fun r I7 k => ?_)
        obtain ⟨rfl, k⟩ := k
        exact zi_vret d_Mod_readMaps_152 rfl k
    · have k := k.2 c
      refine zx_iload_n d_Mod_readMaps_50 rfl ?_
      refine zx_bipush d_Mod_readMaps_51 zb_15 ?_
      refine zx_iload_n d_Mod_readMaps_53 rfl ?_
      refine zx_isub d_Mod_readMaps_54 ?_
      refine zx_ishr d_Mod_readMaps_55 ?_
      refine zx_iconst d_Mod_readMaps_56 zc_1 ?_
      refine zx_iand d_Mod_readMaps_57 ?_
      refine zx_iconst d_Mod_readMaps_58 zc_1 ?_
      refine zx_icmp_ne (tgt := 123) d_Mod_readMaps_59 rfl (fun c => ?_) (fun c => ?_)
      · have k := k.1 c
        refine zx_iinc (L2 := [(0, .ref o0), (1, .int x1), (2, .int x2), (3, .int (x3 + 1))]) d_Mod_readMaps_123 rfl (Nat.le_of_ble_eq_true rfl) zc_1 rfl ?_
        refine zx_goto (tgt := 37) d_Mod_readMaps_126 rfl ?_
        exact k
      · have k := k.2 c
        refine zx_aload_n d_Mod_readMaps_62 rfl ?_
        refine zi_getI f_Mod_237 q1 (by decide) d_Mod_readMaps_63 ?_
        refine zx_istore_n (L2 := [(0, .ref o0), (1, .int (I o0 7)), (2, .int x2), (3, .int x3)]) d_Mod_readMaps_66 (Nat.le_of_ble_eq_true rfl) rfl ?_
        refine zx_aload_n d_Mod_readMaps_67 rfl ?_
        refine zx_bipush d_Mod_readMaps_68 zb_16 ?_
        refine zx_iload_n d_Mod_readMaps_70 rfl ?_
        refine zi_callV (hC := k) k_Mod_243 q1 (by decide) rfl rfl (Nat.le_of_ble_eq_true rfl) (Nat.le_of_ble_eq_true rfl) d_Mod_readMaps_71 (fun r I8 k => ?_)
        obtain ⟨v9, rfl, k⟩ := k
        refine zx_istore (L2 := [(0, .ref o0), (1, .int (I o0 7)), (2, .int x2), (3, .int x3), (4, .int v9)]) d_Mod_readMaps_74 (Nat.le_of_ble_eq_true rfl) rfl ?_
        refine zx_iconst d_Mod_readMaps_76 zc_0 ?_
        refine zx_istore (L2 := [(0, .ref o0), (1, .int (I o0 7)), (2, .int x2), (3, .int x3), (4, .int v9), (5, .int 0)]) d_Mod_readMaps_77 (Nat.le_of_ble_eq_true rfl) rfl ?_
        exact k
set_option maxRecDepth 20000 in
theorem r_Mod_readMaps_79 (l : Launch) (d : Nat) {K : zx_Kt} {RJ : zx_RJ} {Q : zi_Q} {I : zi_I} (o0 : Nat) (x1 : Int32) (x2 : Int32) (x3 : Int32) (x4 : Int32) (x5 : Int32) (q1 : (K.2 o0).1 = 6) {r2 : Nat} (e3 : RJ.1 o0 23 = r2) (z4 : r2 ≠ 0) {n6 : Nat} (a5 : K.2 r2 = (1, n6))
    (k : ((16 ≤ x5) → zi_X l (zx_rm (d + 1) 0 0) M_Mod_readMaps K RJ Q 37 [(0, .ref o0), (1, .int x1), (2, .int x2), (3, .int (x3 + 1))] [] I) ∧ ((¬ 16 ≤ x5) → ((¬ (((x4 : Int32) >>> (((15 - x5) : Int32) &&& 31)) &&& 1) = 1) → ∃ j7, (16 * x3) + x5 = nI j7 ∧ j7 < n6 ∧ zi_X l (zx_rm (d + 1) 0 0) M_Mod_readMaps K RJ Q 79 [(0, .ref o0), (1, .int x1), (2, .int x2), (3, .int x3), (4, .int x4), (5, .int (x5 + 1))] [] (zx_u2 I r2 j7 0)) ∧ (((((x4 : Int32) >>> (((15 - x5) : Int32) &&& 31)) &&& 1) = 1) → ∃ j10, (16 * x3) + x5 = nI j10 ∧ j10 < n6 ∧ zi_X l (zx_rm (d + 1) 0 0) M_Mod_readMaps K RJ Q 79 [(0, .ref o0), (1, .int x1), (2, .int x2), (3, .int x3), (4, .int x4), (5, .int (x5 + 1))] [] (zx_u2 I r2 j10 1)))) :
    zi_X l (zx_rm (d + 1) 0 0) M_Mod_readMaps K RJ Q 79 [(0, .ref o0), (1, .int x1), (2, .int x2), (3, .int x3), (4, .int x4), (5, .int x5)] [] I := by
  refine zx_iload d_Mod_readMaps_79 rfl ?_
  refine zx_bipush d_Mod_readMaps_81 zb_16 ?_
  refine zx_icmp_ge (tgt := 123) d_Mod_readMaps_83 rfl (fun c => ?_) (fun c => ?_)
  · have k := k.1 c
    refine zx_iinc (L2 := [(0, .ref o0), (1, .int x1), (2, .int x2), (3, .int (x3 + 1)), (4, .int x4), (5, .int x5)]) d_Mod_readMaps_123 rfl (Nat.le_of_ble_eq_true rfl) zc_1 rfl ?_
    refine zx_goto (tgt := 37) d_Mod_readMaps_126 rfl ?_
    refine zx_locs [0, 1, 2, 3] rfl ?_
    exact k
  · have k := k.2 c
    refine zx_aload_n d_Mod_readMaps_86 rfl ?_
    refine zi_getR f_Mod_35 q1 (by decide) e3 z4 d_Mod_readMaps_87 ?_
    refine zx_bipush d_Mod_readMaps_90 zb_16 ?_
    refine zx_iload_n d_Mod_readMaps_92 rfl ?_
    refine zx_imul d_Mod_readMaps_93 ?_
    refine zx_iload d_Mod_readMaps_94 rfl ?_
    refine zx_iadd d_Mod_readMaps_96 ?_
    refine zx_iload d_Mod_readMaps_97 rfl ?_
    refine zx_bipush d_Mod_readMaps_99 zb_15 ?_
    refine zx_iload d_Mod_readMaps_101 rfl ?_
    refine zx_isub d_Mod_readMaps_103 ?_
    refine zx_ishr d_Mod_readMaps_104 ?_
    refine zx_iconst d_Mod_readMaps_105 zc_1 ?_
    refine zx_iand d_Mod_readMaps_106 ?_
    refine zx_iconst d_Mod_readMaps_107 zc_1 ?_
    refine zx_icmp_ne (tgt := 115) d_Mod_readMaps_108 rfl (fun c => ?_) (fun c => ?_)
    · have k := k.1 c
      refine zx_iconst d_Mod_readMaps_115 zc_0 ?_
      obtain ⟨j7, e8, b9, k⟩ := k
      refine zi_zast j7 a5 e8 b9 rfl d_Mod_readMaps_116 ?_
      refine zx_iinc (L2 := [(0, .ref o0), (1, .int x1), (2, .int x2), (3, .int x3), (4, .int x4), (5, .int (x5 + 1))]) d_Mod_readMaps_117 rfl (Nat.le_of_ble_eq_true rfl) zc_1 rfl ?_
      refine zx_goto (tgt := 79) d_Mod_readMaps_120 rfl ?_
      exact k
    · have k := k.2 c
      refine zx_iconst d_Mod_readMaps_111 zc_1 ?_
      refine zx_goto (tgt := 116) d_Mod_readMaps_112 rfl ?_
      obtain ⟨j10, e11, b12, k⟩ := k
      refine zi_zast j10 a5 e11 b12 rfl d_Mod_readMaps_116 ?_
      refine zx_iinc (L2 := [(0, .ref o0), (1, .int x1), (2, .int x2), (3, .int x3), (4, .int x4), (5, .int (x5 + 1))]) d_Mod_readMaps_117 rfl (Nat.le_of_ble_eq_true rfl) zc_1 rfl ?_
      refine zx_goto (tgt := 79) d_Mod_readMaps_120 rfl ?_
      exact k
set_option maxRecDepth 20000 in
theorem r_Mod_readPicks_0 (l : Launch) (d : Nat) {K : zx_Kt} {RJ : zx_RJ} {Q : zi_Q} {I : zi_I} (o0 : Nat) (q1 : (K.2 o0).1 = 6)
    (k : zi_C l (zx_rm d 0 0) M_Mod_beginOrder [.ref o0] K RJ I (fun r I2 => r = none ∧ zi_X l (zx_rm (d + 1) 0 0) M_Mod_readPicks K RJ Q 6 [(0, .ref o0), (1, .int 0)] [] I2)) :
    zi_X l (zx_rm (d + 1) 0 0) M_Mod_readPicks K RJ Q 0 [(0, .ref o0)] [] I := by
  refine zx_aload_n d_Mod_readPicks_0 rfl ?_
  refine zi_callV (hC := k) k_Mod_156 q1 (by decide) rfl rfl (Nat.le_of_ble_eq_true rfl) (Nat.le_of_ble_eq_true rfl) d_Mod_readPicks_1 (fun r I2 k => ?_)
  obtain ⟨rfl, k⟩ := k
  refine zx_iconst d_Mod_readPicks_4 zc_0 ?_
  refine zx_istore_n (L2 := [(0, .ref o0), (1, .int 0)]) d_Mod_readPicks_5 (Nat.le_of_ble_eq_true rfl) rfl ?_
  exact k
set_option maxRecDepth 20000 in
theorem r_Mod_readPicks_6 (l : Launch) (d : Nat) {K : zx_Kt} {RJ : zx_RJ} {Q : zi_Q} {I : zi_I} (o0 : Nat) (x1 : Int32) (q1 : (K.2 o0).1 = 6)
    (k : (((I o0 28) ≤ x1) → Q none I) ∧ ((¬ (I o0 28) ≤ x1) → ((¬ (I o0 8) = 0) → Q none I) ∧ (((I o0 8) = 0) → zi_X l (zx_rm (d + 1) 0 0) M_Mod_readPicks K RJ Q 28 [(0, .ref o0), (1, .int x1), (2, .int (I o0 7)), (3, .int 0)] [] I))) :
    zi_X l (zx_rm (d + 1) 0 0) M_Mod_readPicks K RJ Q 6 [(0, .ref o0), (1, .int x1)] [] I := by
  refine zx_iload_n d_Mod_readPicks_6 rfl ?_
  refine zx_aload_n d_Mod_readPicks_7 rfl ?_
  refine zi_getI f_Mod_131 q1 (by decide) d_Mod_readPicks_8 ?_
  refine zx_icmp_ge (tgt := 99) d_Mod_readPicks_11 rfl (fun c => ?_) (fun c => ?_)
  · have k := k.1 c
    exact zi_vret d_Mod_readPicks_99 rfl k
  · have k := k.2 c
    refine zx_aload_n d_Mod_readPicks_14 rfl ?_
    refine zi_getI f_Mod_231 q1 (by decide) d_Mod_readPicks_15 ?_
    refine zx_if_ne (tgt := 99) d_Mod_readPicks_18 rfl (fun c => ?_) (fun c => ?_)
    · have k := k.1 c
      exact zi_vret d_Mod_readPicks_99 rfl k
    · have k := k.2 c
      refine zx_aload_n d_Mod_readPicks_21 rfl ?_
      refine zi_getI f_Mod_237 q1 (by decide) d_Mod_readPicks_22 ?_
      refine zx_istore_n (L2 := [(0, .ref o0), (1, .int x1), (2, .int (I o0 7))]) d_Mod_readPicks_25 (Nat.le_of_ble_eq_true rfl) rfl ?_
      refine zx_iconst d_Mod_readPicks_26 zc_0 ?_
      refine zx_istore_n (L2 := [(0, .ref o0), (1, .int x1), (2, .int (I o0 7)), (3, .int 0)]) d_Mod_readPicks_27 (Nat.le_of_ble_eq_true rfl) rfl ?_
      exact k
set_option maxRecDepth 20000 in
theorem r_Mod_readPicks_28 (l : Launch) (d : Nat) {K : zx_Kt} {RJ : zx_RJ} {Q : zi_Q} {I : zi_I} (o0 : Nat) (x1 : Int32) (x2 : Int32) (x3 : Int32) (q1 : (K.2 o0).1 = 6) {r2 : Nat} (e3 : RJ.1 o0 29 = r2) (z4 : r2 ≠ 0) {n6 : Nat} (a5 : K.2 r2 = (0, n6))
    (k : ((¬ (I o0 8) = 0) → ((¬ (I o0 8) = 0) → ∃ j7, x1 = nI j7 ∧ j7 < n6 ∧ zi_X l (zx_rm (d + 1) 0 0) M_Mod_readPicks K RJ Q 6 [(0, .ref o0), (1, .int (x1 + 1))] [] (zx_u2 I r2 j7 0)) ∧ (((I o0 8) = 0) → zi_C l (zx_rm d 0 0) M_Mod_orderFront [.ref o0, .int x3] K RJ I (fun r I10 => ∃ v11, r = some (.int v11) ∧ ∃ j12, x1 = nI j12 ∧ j12 < n6 ∧ zi_X l (zx_rm (d + 1) 0 0) M_Mod_readPicks K RJ Q 6 [(0, .ref o0), (1, .int (x1 + 1))] [] (zx_u2 I10 r2 j12 v11)))) ∧ (((I o0 8) = 0) → zi_C l (zx_rm d 0 0) M_Mod_take [.ref o0, .int 1, .int x2] K RJ I (fun r I15 => ∃ v16, r = some (.int v16) ∧ ((¬ v16 = 1) → ((¬ (I15 o0 8) = 0) → ∃ j17, x1 = nI j17 ∧ j17 < n6 ∧ zi_X l (zx_rm (d + 1) 0 0) M_Mod_readPicks K RJ Q 6 [(0, .ref o0), (1, .int (x1 + 1))] [] (zx_u2 I15 r2 j17 0)) ∧ (((I15 o0 8) = 0) → zi_C l (zx_rm d 0 0) M_Mod_orderFront [.ref o0, .int x3] K RJ I15 (fun r I20 => ∃ v21, r = some (.int v21) ∧ ∃ j22, x1 = nI j22 ∧ j22 < n6 ∧ zi_X l (zx_rm (d + 1) 0 0) M_Mod_readPicks K RJ Q 6 [(0, .ref o0), (1, .int (x1 + 1))] [] (zx_u2 I20 r2 j22 v21)))) ∧ ((v16 = 1) → ((¬ (x3 + 1) = (I15 o0 25)) → zi_C l (zx_rm d 0 0) M_Mod_failIf [.ref o0, .int 0, .int ((-8)), .int x2] K RJ I15 (fun r I25 => r = none ∧ zi_X l (zx_rm (d + 1) 0 0) M_Mod_readPicks K RJ Q 28 [(0, .ref o0), (1, .int x1), (2, .int x2), (3, .int (x3 + 1))] [] I25)) ∧ (((x3 + 1) = (I15 o0 25)) → zi_C l (zx_rm d 0 0) M_Mod_failIf [.ref o0, .int 1, .int ((-8)), .int x2] K RJ I15 (fun r I26 => r = none ∧ zi_X l (zx_rm (d + 1) 0 0) M_Mod_readPicks K RJ Q 28 [(0, .ref o0), (1, .int x1), (2, .int x2), (3, .int (x3 + 1))] [] I26)))))) :
    zi_X l (zx_rm (d + 1) 0 0) M_Mod_readPicks K RJ Q 28 [(0, .ref o0), (1, .int x1), (2, .int x2), (3, .int x3)] [] I := by
  refine zx_aload_n d_Mod_readPicks_28 rfl ?_
  refine zi_getI f_Mod_231 q1 (by decide) d_Mod_readPicks_29 ?_
  refine zx_if_ne (tgt := 71) d_Mod_readPicks_32 rfl (fun c => ?_) (fun c => ?_)
  · have k := k.1 c
    refine zx_aload_n d_Mod_readPicks_71 rfl ?_
    refine zi_getR f_Mod_48 q1 (by decide) e3 z4 d_Mod_readPicks_72 ?_
    refine zx_iload_n d_Mod_readPicks_75 rfl ?_
    refine zx_aload_n d_Mod_readPicks_76 rfl ?_
    refine zi_getI f_Mod_231 q1 (by decide) d_Mod_readPicks_77 ?_
    refine zx_if_ne (tgt := 91) d_Mod_readPicks_80 rfl (fun c => ?_) (fun c => ?_)
    · have k := k.1 c
      refine zx_iconst d_Mod_readPicks_91 zc_0 ?_
      obtain ⟨j7, e8, b9, k⟩ := k
      refine zi_iast j7 a5 e8 b9 d_Mod_readPicks_92 ?_
      refine zx_iinc (L2 := [(0, .ref o0), (1, .int (x1 + 1)), (2, .int x2), (3, .int x3)]) d_Mod_readPicks_93 rfl (Nat.le_of_ble_eq_true rfl) zc_1 rfl ?_
      refine zx_goto (tgt := 6) d_Mod_readPicks_96 rfl ?_
      refine zx_locs [0, 1] rfl ?_
      exact k
    · have k := k.2 c
      refine zx_aload_n d_Mod_readPicks_83 rfl ?_
      refine zx_iload_n d_Mod_readPicks_84 rfl ?_
      refine zi_callV (hC := k) k_Mod_159 q1 (by decide) rfl rfl (Nat.le_of_ble_eq_true rfl) (Nat.le_of_ble_eq_true rfl) d_Mod_readPicks_85 (fun r I10 k => ?_)
      obtain ⟨v11, rfl, k⟩ := k
      refine zx_goto (tgt := 92) d_Mod_readPicks_88 rfl ?_
      obtain ⟨j12, e13, b14, k⟩ := k
      refine zi_iast j12 a5 e13 b14 d_Mod_readPicks_92 ?_
      refine zx_iinc (L2 := [(0, .ref o0), (1, .int (x1 + 1)), (2, .int x2), (3, .int x3)]) d_Mod_readPicks_93 rfl (Nat.le_of_ble_eq_true rfl) zc_1 rfl ?_
      refine zx_goto (tgt := 6) d_Mod_readPicks_96 rfl ?_
      refine zx_locs [0, 1] rfl ?_
      exact k
  · have k := k.2 c
    refine zx_aload_n d_Mod_readPicks_35 rfl ?_
    refine zx_iconst d_Mod_readPicks_36 zc_1 ?_
    refine zx_iload_n d_Mod_readPicks_37 rfl ?_
    refine zi_callV (hC := k) k_Mod_243 q1 (by decide) rfl rfl (Nat.le_of_ble_eq_true rfl) (Nat.le_of_ble_eq_true rfl) d_Mod_readPicks_38 (fun r I15 k => ?_)
    obtain ⟨v16, rfl, k⟩ := k
    refine zx_iconst d_Mod_readPicks_41 zc_1 ?_
    refine zx_icmp_ne (tgt := 71) d_Mod_readPicks_42 rfl (fun c => ?_) (fun c => ?_)
    · have k := k.1 c
      refine zx_aload_n d_Mod_readPicks_71 rfl ?_
      refine zi_getR f_Mod_48 q1 (by decide) e3 z4 d_Mod_readPicks_72 ?_
      refine zx_iload_n d_Mod_readPicks_75 rfl ?_
      refine zx_aload_n d_Mod_readPicks_76 rfl ?_
      refine zi_getI f_Mod_231 q1 (by decide) d_Mod_readPicks_77 ?_
      refine zx_if_ne (tgt := 91) d_Mod_readPicks_80 rfl (fun c => ?_) (fun c => ?_)
      · have k := k.1 c
        refine zx_iconst d_Mod_readPicks_91 zc_0 ?_
        obtain ⟨j17, e18, b19, k⟩ := k
        refine zi_iast j17 a5 e18 b19 d_Mod_readPicks_92 ?_
        refine zx_iinc (L2 := [(0, .ref o0), (1, .int (x1 + 1)), (2, .int x2), (3, .int x3)]) d_Mod_readPicks_93 rfl (Nat.le_of_ble_eq_true rfl) zc_1 rfl ?_
        refine zx_goto (tgt := 6) d_Mod_readPicks_96 rfl ?_
        refine zx_locs [0, 1] rfl ?_
        exact k
      · have k := k.2 c
        refine zx_aload_n d_Mod_readPicks_83 rfl ?_
        refine zx_iload_n d_Mod_readPicks_84 rfl ?_
        refine zi_callV (hC := k) k_Mod_159 q1 (by decide) rfl rfl (Nat.le_of_ble_eq_true rfl) (Nat.le_of_ble_eq_true rfl) d_Mod_readPicks_85 (fun r I20 k => ?_)
        obtain ⟨v21, rfl, k⟩ := k
        refine zx_goto (tgt := 92) d_Mod_readPicks_88 rfl ?_
        obtain ⟨j22, e23, b24, k⟩ := k
        refine zi_iast j22 a5 e23 b24 d_Mod_readPicks_92 ?_
        refine zx_iinc (L2 := [(0, .ref o0), (1, .int (x1 + 1)), (2, .int x2), (3, .int x3)]) d_Mod_readPicks_93 rfl (Nat.le_of_ble_eq_true rfl) zc_1 rfl ?_
        refine zx_goto (tgt := 6) d_Mod_readPicks_96 rfl ?_
        refine zx_locs [0, 1] rfl ?_
        exact k
    · have k := k.2 c
      refine zx_iinc (L2 := [(0, .ref o0), (1, .int x1), (2, .int x2), (3, .int (x3 + 1))]) d_Mod_readPicks_45 rfl (Nat.le_of_ble_eq_true rfl) zc_1 rfl ?_
      refine zx_aload_n d_Mod_readPicks_48 rfl ?_
      refine zx_iload_n d_Mod_readPicks_49 rfl ?_
      refine zx_aload_n d_Mod_readPicks_50 rfl ?_
      refine zi_getI f_Mod_134 q1 (by decide) d_Mod_readPicks_51 ?_
      refine zx_icmp_ne (tgt := 61) d_Mod_readPicks_54 rfl (fun c => ?_) (fun c => ?_)
      · have k := k.1 c
        refine zx_iconst d_Mod_readPicks_61 zc_0 ?_
        refine zx_bipush d_Mod_readPicks_62 zb_m8 ?_
        refine zx_iload_n d_Mod_readPicks_64 rfl ?_
        refine zi_callV (hC := k) k_Mod_246 q1 (by decide) rfl rfl (Nat.le_of_ble_eq_true rfl) (Nat.le_of_ble_eq_true rfl) d_Mod_readPicks_65 (fun r I25 k => ?_)
        obtain ⟨rfl, k⟩ := k
        refine zx_goto (tgt := 28) d_Mod_readPicks_68 rfl ?_
        exact k
      · have k := k.2 c
        refine zx_iconst d_Mod_readPicks_57 zc_1 ?_
        refine zx_goto (tgt := 62) d_Mod_readPicks_58 rfl ?_
        refine zx_bipush d_Mod_readPicks_62 zb_m8 ?_
        refine zx_iload_n d_Mod_readPicks_64 rfl ?_
        refine zi_callV (hC := k) k_Mod_246 q1 (by decide) rfl rfl (Nat.le_of_ble_eq_true rfl) (Nat.le_of_ble_eq_true rfl) d_Mod_readPicks_65 (fun r I26 k => ?_)
        obtain ⟨rfl, k⟩ := k
        refine zx_goto (tgt := 28) d_Mod_readPicks_68 rfl ?_
        exact k
set_option maxRecDepth 20000 in
theorem r_Mod_readTable_0 (l : Launch) (d : Nat) {K : zx_Kt} {RJ : zx_RJ} {Q : zi_Q} {I : zi_I} (o0 : Nat) (x1 : Int32) (q1 : (K.2 o0).1 = 6)
    (k : zi_C l (zx_rm d 0 0) M_Mod_take [.ref o0, .int 5, .int (I o0 7)] K RJ I (fun r I2 => ∃ v3, r = some (.int v3) ∧ ((v3 < 1) → zi_X l (zx_rm (d + 1) 0 0) M_Mod_readTable K RJ Q 24 [(0, .ref o0), (1, .int x1), (2, .int (I o0 7)), (3, .int v3)] [.ref o0] I2) ∧ ((¬ v3 < 1) → ((v3 ≤ 12) → zi_X l (zx_rm (d + 1) 0 0) M_Mod_readTable K RJ Q 29 [(0, .ref o0), (1, .int x1), (2, .int (I o0 7)), (3, .int v3)] [.int 0, .ref o0] I2) ∧ ((¬ v3 ≤ 12) → zi_X l (zx_rm (d + 1) 0 0) M_Mod_readTable K RJ Q 24 [(0, .ref o0), (1, .int x1), (2, .int (I o0 7)), (3, .int v3)] [.ref o0] I2)))) :
    zi_X l (zx_rm (d + 1) 0 0) M_Mod_readTable K RJ Q 0 [(0, .ref o0), (1, .int x1)] [] I := by
  refine zx_aload_n d_Mod_readTable_0 rfl ?_
  refine zi_getI f_Mod_237 q1 (by decide) d_Mod_readTable_1 ?_
  refine zx_istore_n (L2 := [(0, .ref o0), (1, .int x1), (2, .int (I o0 7))]) d_Mod_readTable_4 (Nat.le_of_ble_eq_true rfl) rfl ?_
  refine zx_aload_n d_Mod_readTable_5 rfl ?_
  refine zx_iconst d_Mod_readTable_6 zc_5 ?_
  refine zx_iload_n d_Mod_readTable_7 rfl ?_
  refine zi_callV (hC := k) k_Mod_243 q1 (by decide) rfl rfl (Nat.le_of_ble_eq_true rfl) (Nat.le_of_ble_eq_true rfl) d_Mod_readTable_8 (fun r I2 k => ?_)
  obtain ⟨v3, rfl, k⟩ := k
  refine zx_istore_n (L2 := [(0, .ref o0), (1, .int x1), (2, .int (I o0 7)), (3, .int v3)]) d_Mod_readTable_11 (Nat.le_of_ble_eq_true rfl) rfl ?_
  refine zx_aload_n d_Mod_readTable_12 rfl ?_
  refine zx_iload_n d_Mod_readTable_13 rfl ?_
  refine zx_iconst d_Mod_readTable_14 zc_1 ?_
  refine zx_icmp_lt (tgt := 24) d_Mod_readTable_15 rfl (fun c => ?_) (fun c => ?_)
  · have k := k.1 c
    exact k
  · have k := k.2 c
    refine zx_iload_n d_Mod_readTable_18 rfl ?_
    refine zx_bipush d_Mod_readTable_19 zb_12 ?_
    refine zx_icmp_le (tgt := 28) d_Mod_readTable_21 rfl (fun c => ?_) (fun c => ?_)
    · have k := k.1 c
      refine zx_iconst d_Mod_readTable_28 zc_0 ?_
      exact k
    · have k := k.2 c
      exact k
set_option maxRecDepth 20000 in
theorem r_Mod_readTable_24 (l : Launch) (d : Nat) {K : zx_Kt} {RJ : zx_RJ} {Q : zi_Q} {I : zi_I} (o0 : Nat) (x1 : Int32) (x2 : Int32) (x3 : Int32) (p0 : Nat) 
    (k : zi_X l (zx_rm (d + 1) 0 0) M_Mod_readTable K RJ Q 29 [(0, .ref o0), (1, .int x1), (2, .int x2), (3, .int x3)] [.int 1, .ref p0] I) :
    zi_X l (zx_rm (d + 1) 0 0) M_Mod_readTable K RJ Q 24 [(0, .ref o0), (1, .int x1), (2, .int x2), (3, .int x3)] [.ref p0] I := by
  refine zx_iconst d_Mod_readTable_24 zc_1 ?_
  refine zx_goto (tgt := 29) d_Mod_readTable_25 rfl ?_
  exact k
set_option maxRecDepth 20000 in
theorem r_Mod_readTable_29 (l : Launch) (d : Nat) {K : zx_Kt} {RJ : zx_RJ} {Q : zi_Q} {I : zi_I} (o0 : Nat) (x1 : Int32) (x2 : Int32) (x3 : Int32) (y0 : Int32) (p1 : Nat) (q1 : (K.2 p1).1 = 6)
    (k : zi_C l (zx_rm d 0 0) M_Mod_failIf [.ref p1, .int y0, .int ((-9)), .int x2] K RJ I (fun r I2 => r = none ∧ zi_X l (zx_rm (d + 1) 0 0) M_Mod_readTable K RJ Q 38 [(0, .ref o0), (1, .int x1), (2, .int x2), (3, .int x3), (4, .int 0)] [] I2)) :
    zi_X l (zx_rm (d + 1) 0 0) M_Mod_readTable K RJ Q 29 [(0, .ref o0), (1, .int x1), (2, .int x2), (3, .int x3)] [.int y0, .ref p1] I := by
  refine zx_bipush d_Mod_readTable_29 zb_m9 ?_
  refine zx_iload_n d_Mod_readTable_31 rfl ?_
  refine zi_callV (hC := k) k_Mod_246 q1 (by decide) rfl rfl (Nat.le_of_ble_eq_true rfl) (Nat.le_of_ble_eq_true rfl) d_Mod_readTable_32 (fun r I2 k => ?_)
  obtain ⟨rfl, k⟩ := k
  refine zx_iconst d_Mod_readTable_35 zc_0 ?_
  refine zx_istore (L2 := [(0, .ref o0), (1, .int x1), (2, .int x2), (3, .int x3), (4, .int 0)]) d_Mod_readTable_36 (Nat.le_of_ble_eq_true rfl) rfl ?_
  exact k
set_option maxRecDepth 20000 in
theorem r_Mod_readTable_38 (l : Launch) (d : Nat) {K : zx_Kt} {RJ : zx_RJ} {Q : zi_Q} {I : zi_I} (o0 : Nat) (x1 : Int32) (x2 : Int32) (x3 : Int32) (x4 : Int32) (q1 : (K.2 o0).1 = 6)
    (k : ((((I o0 22) + 2) ≤ x4) → zi_X l (zx_rm (d + 1) 0 0) M_Mod_readTable K RJ Q 161 [(0, .ref o0), (1, .int x1), (2, .int x2), (3, .int x3), (4, .int x4)] [] I) ∧ ((¬ ((I o0 22) + 2) ≤ x4) → ((¬ (I o0 8) = 0) → zi_X l (zx_rm (d + 1) 0 0) M_Mod_readTable K RJ Q 161 [(0, .ref o0), (1, .int x1), (2, .int x2), (3, .int x3), (4, .int x4)] [] I) ∧ (((I o0 8) = 0) → zi_X l (zx_rm (d + 1) 0 0) M_Mod_readTable K RJ Q 59 [(0, .ref o0), (1, .int x1), (2, .int x2), (3, .int x3), (4, .int x4), (5, .int 1)] [] I))) :
    zi_X l (zx_rm (d + 1) 0 0) M_Mod_readTable K RJ Q 38 [(0, .ref o0), (1, .int x1), (2, .int x2), (3, .int x3), (4, .int x4)] [] I := by
  refine zx_iload d_Mod_readTable_38 rfl ?_
  refine zx_aload_n d_Mod_readTable_40 rfl ?_
  refine zi_getI f_Mod_108 q1 (by decide) d_Mod_readTable_41 ?_
  refine zx_iconst d_Mod_readTable_44 zc_2 ?_
  refine zx_iadd d_Mod_readTable_45 ?_
  refine zx_icmp_ge (tgt := 161) d_Mod_readTable_46 rfl (fun c => ?_) (fun c => ?_)
  · have k := k.1 c
    exact k
  · have k := k.2 c
    refine zx_aload_n d_Mod_readTable_49 rfl ?_
    refine zi_getI f_Mod_231 q1 (by decide) d_Mod_readTable_50 ?_
    refine zx_if_ne (tgt := 161) d_Mod_readTable_53 rfl (fun c => ?_) (fun c => ?_)
    · have k := k.1 c
      exact k
    · have k := k.2 c
      refine zx_iconst d_Mod_readTable_56 zc_1 ?_
      refine zx_istore (L2 := [(0, .ref o0), (1, .int x1), (2, .int x2), (3, .int x3), (4, .int x4), (5, .int 1)]) d_Mod_readTable_57 (Nat.le_of_ble_eq_true rfl) rfl ?_
      exact k
set_option maxRecDepth 20000 in
theorem r_Mod_readTable_59 (l : Launch) (d : Nat) {K : zx_Kt} {RJ : zx_RJ} {Q : zi_Q} {I : zi_I} (o0 : Nat) (x1 : Int32) (x2 : Int32) (x3 : Int32) (x4 : Int32) (x5 : Int32) (q1 : (K.2 o0).1 = 6)
    (k : ((x5 = 0) → zi_X l (zx_rm (d + 1) 0 0) M_Mod_readTable K RJ Q 141 [(0, .ref o0), (1, .int x1), (2, .int x2), (3, .int x3), (4, .int x4), (5, .int x5)] [] I) ∧ ((¬ x5 = 0) → ((¬ (I o0 8) = 0) → zi_X l (zx_rm (d + 1) 0 0) M_Mod_readTable K RJ Q 141 [(0, .ref o0), (1, .int x1), (2, .int x2), (3, .int x3), (4, .int x4), (5, .int x5)] [] I) ∧ (((I o0 8) = 0) → zi_C l (zx_rm d 0 0) M_Mod_take [.ref o0, .int 1, .int (I o0 7)] K RJ I (fun r I2 => ∃ v3, r = some (.int v3) ∧ ((¬ v3 = 1) → zi_X l (zx_rm (d + 1) 0 0) M_Mod_readTable K RJ Q 91 [(0, .ref o0), (1, .int x1), (2, .int (I o0 7)), (3, .int x3), (4, .int x4), (5, .int x5)] [.int 0] I2) ∧ ((v3 = 1) → zi_X l (zx_rm (d + 1) 0 0) M_Mod_readTable K RJ Q 91 [(0, .ref o0), (1, .int x1), (2, .int (I o0 7)), (3, .int x3), (4, .int x4), (5, .int x5)] [.int 1] I2))))) :
    zi_X l (zx_rm (d + 1) 0 0) M_Mod_readTable K RJ Q 59 [(0, .ref o0), (1, .int x1), (2, .int x2), (3, .int x3), (4, .int x4), (5, .int x5)] [] I := by
  refine zx_iload d_Mod_readTable_59 rfl ?_
  refine zx_if_eq (tgt := 141) d_Mod_readTable_61 rfl (fun c => ?_) (fun c => ?_)
  · have k := k.1 c
    exact k
  · have k := k.2 c
    refine zx_aload_n d_Mod_readTable_64 rfl ?_
    refine zi_getI f_Mod_231 q1 (by decide) d_Mod_readTable_65 ?_
    refine zx_if_ne (tgt := 141) d_Mod_readTable_68 rfl (fun c => ?_) (fun c => ?_)
    · have k := k.1 c
      exact k
    · have k := k.2 c
      refine zx_aload_n d_Mod_readTable_71 rfl ?_
      refine zi_getI f_Mod_237 q1 (by decide) d_Mod_readTable_72 ?_
      refine zx_istore_n (L2 := [(0, .ref o0), (1, .int x1), (2, .int (I o0 7)), (3, .int x3), (4, .int x4), (5, .int x5)]) d_Mod_readTable_75 (Nat.le_of_ble_eq_true rfl) rfl ?_
      refine zx_aload_n d_Mod_readTable_76 rfl ?_
      refine zx_iconst d_Mod_readTable_77 zc_1 ?_
      refine zx_iload_n d_Mod_readTable_78 rfl ?_
      refine zi_callV (hC := k) k_Mod_243 q1 (by decide) rfl rfl (Nat.le_of_ble_eq_true rfl) (Nat.le_of_ble_eq_true rfl) d_Mod_readTable_79 (fun r I2 k => ?_)
      obtain ⟨v3, rfl, k⟩ := k
      refine zx_iconst d_Mod_readTable_82 zc_1 ?_
      refine zx_icmp_ne (tgt := 90) d_Mod_readTable_83 rfl (fun c => ?_) (fun c => ?_)
      · have k := k.1 c
        refine zx_iconst d_Mod_readTable_90 zc_0 ?_
        exact k
      · have k := k.2 c
        refine zx_iconst d_Mod_readTable_86 zc_1 ?_
        refine zx_goto (tgt := 91) d_Mod_readTable_87 rfl ?_
        exact k
set_option maxRecDepth 20000 in
theorem r_Mod_readTable_91 (l : Launch) (d : Nat) {K : zx_Kt} {RJ : zx_RJ} {Q : zi_Q} {I : zi_I} (o0 : Nat) (x1 : Int32) (x2 : Int32) (x3 : Int32) (x4 : Int32) (x5 : Int32) (y0 : Int32) (q1 : (K.2 o0).1 = 6)
    (k : ((y0 = 0) → zi_X l (zx_rm (d + 1) 0 0) M_Mod_readTable K RJ Q 59 [(0, .ref o0), (1, .int x1), (2, .int x2), (3, .int x3), (4, .int x4), (5, .int y0)] [] I) ∧ ((¬ y0 = 0) → zi_C l (zx_rm d 0 0) M_Mod_take [.ref o0, .int 1, .int x2] K RJ I (fun r I2 => ∃ v3, r = some (.int v3) ∧ ((¬ v3 = 0) → zi_X l (zx_rm (d + 1) 0 0) M_Mod_readTable K RJ Q 113 [(0, .ref o0), (1, .int x1), (2, .int x2), (3, .int x3), (4, .int x4), (5, .int y0)] [.int ((-1)), .int x3] I2) ∧ ((v3 = 0) → zi_X l (zx_rm (d + 1) 0 0) M_Mod_readTable K RJ Q 113 [(0, .ref o0), (1, .int x1), (2, .int x2), (3, .int x3), (4, .int x4), (5, .int y0)] [.int 1, .int x3] I2)))) :
    zi_X l (zx_rm (d + 1) 0 0) M_Mod_readTable K RJ Q 91 [(0, .ref o0), (1, .int x1), (2, .int x2), (3, .int x3), (4, .int x4), (5, .int x5)] [.int y0] I := by
  refine zx_istore (L2 := [(0, .ref o0), (1, .int x1), (2, .int x2), (3, .int x3), (4, .int x4), (5, .int y0)]) d_Mod_readTable_91 (Nat.le_of_ble_eq_true rfl) rfl ?_
  refine zx_iload d_Mod_readTable_93 rfl ?_
  refine zx_if_eq (tgt := 59) d_Mod_readTable_95 rfl (fun c => ?_) (fun c => ?_)
  · have k := k.1 c
    exact k
  · have k := k.2 c
    refine zx_iload_n d_Mod_readTable_98 rfl ?_
    refine zx_aload_n d_Mod_readTable_99 rfl ?_
    refine zx_iconst d_Mod_readTable_100 zc_1 ?_
    refine zx_iload_n d_Mod_readTable_101 rfl ?_
    refine zi_callV (hC := k) k_Mod_243 q1 (by decide) rfl rfl (Nat.le_of_ble_eq_true rfl) (Nat.le_of_ble_eq_true rfl) d_Mod_readTable_102 (fun r I2 k => ?_)
    obtain ⟨v3, rfl, k⟩ := k
    refine zx_if_ne (tgt := 112) d_Mod_readTable_105 rfl (fun c => ?_) (fun c => ?_)
    · have k := k.1 c
      refine zx_iconst d_Mod_readTable_112 zc_m1 ?_
      exact k
    · have k := k.2 c
      refine zx_iconst d_Mod_readTable_108 zc_1 ?_
      refine zx_goto (tgt := 113) d_Mod_readTable_109 rfl ?_
      exact k
set_option maxRecDepth 20000 in
theorem r_Mod_readTable_113 (l : Launch) (d : Nat) {K : zx_Kt} {RJ : zx_RJ} {Q : zi_Q} {I : zi_I} (o0 : Nat) (x1 : Int32) (x2 : Int32) (x3 : Int32) (x4 : Int32) (x5 : Int32) (y0 : Int32) (y1 : Int32) 
    (k : (((y1 + y0) < 1) → zi_X l (zx_rm (d + 1) 0 0) M_Mod_readTable K RJ Q 127 [(0, .ref o0), (1, .int x1), (2, .int x2), (3, .int (y1 + y0)), (4, .int x4), (5, .int x5)] [.ref o0] I) ∧ ((¬ (y1 + y0) < 1) → (((y1 + y0) ≤ 12) → zi_X l (zx_rm (d + 1) 0 0) M_Mod_readTable K RJ Q 132 [(0, .ref o0), (1, .int x1), (2, .int x2), (3, .int (y1 + y0)), (4, .int x4), (5, .int x5)] [.int 0, .ref o0] I) ∧ ((¬ (y1 + y0) ≤ 12) → zi_X l (zx_rm (d + 1) 0 0) M_Mod_readTable K RJ Q 127 [(0, .ref o0), (1, .int x1), (2, .int x2), (3, .int (y1 + y0)), (4, .int x4), (5, .int x5)] [.ref o0] I))) :
    zi_X l (zx_rm (d + 1) 0 0) M_Mod_readTable K RJ Q 113 [(0, .ref o0), (1, .int x1), (2, .int x2), (3, .int x3), (4, .int x4), (5, .int x5)] [.int y0, .int y1] I := by
  refine zx_iadd d_Mod_readTable_113 ?_
  refine zx_istore_n (L2 := [(0, .ref o0), (1, .int x1), (2, .int x2), (3, .int (y1 + y0)), (4, .int x4), (5, .int x5)]) d_Mod_readTable_114 (Nat.le_of_ble_eq_true rfl) rfl ?_
  refine zx_aload_n d_Mod_readTable_115 rfl ?_
  refine zx_iload_n d_Mod_readTable_116 rfl ?_
  refine zx_iconst d_Mod_readTable_117 zc_1 ?_
  refine zx_icmp_lt (tgt := 127) d_Mod_readTable_118 rfl (fun c => ?_) (fun c => ?_)
  · have k := k.1 c
    exact k
  · have k := k.2 c
    refine zx_iload_n d_Mod_readTable_121 rfl ?_
    refine zx_bipush d_Mod_readTable_122 zb_12 ?_
    refine zx_icmp_le (tgt := 131) d_Mod_readTable_124 rfl (fun c => ?_) (fun c => ?_)
    · have k := k.1 c
      refine zx_iconst d_Mod_readTable_131 zc_0 ?_
      exact k
    · have k := k.2 c
      exact k
set_option maxRecDepth 20000 in
theorem r_Mod_readTable_127 (l : Launch) (d : Nat) {K : zx_Kt} {RJ : zx_RJ} {Q : zi_Q} {I : zi_I} (o0 : Nat) (x1 : Int32) (x2 : Int32) (x3 : Int32) (x4 : Int32) (x5 : Int32) (p0 : Nat) 
    (k : zi_X l (zx_rm (d + 1) 0 0) M_Mod_readTable K RJ Q 132 [(0, .ref o0), (1, .int x1), (2, .int x2), (3, .int x3), (4, .int x4), (5, .int x5)] [.int 1, .ref p0] I) :
    zi_X l (zx_rm (d + 1) 0 0) M_Mod_readTable K RJ Q 127 [(0, .ref o0), (1, .int x1), (2, .int x2), (3, .int x3), (4, .int x4), (5, .int x5)] [.ref p0] I := by
  refine zx_iconst d_Mod_readTable_127 zc_1 ?_
  refine zx_goto (tgt := 132) d_Mod_readTable_128 rfl ?_
  exact k
set_option maxRecDepth 20000 in
theorem r_Mod_readTable_132 (l : Launch) (d : Nat) {K : zx_Kt} {RJ : zx_RJ} {Q : zi_Q} {I : zi_I} (o0 : Nat) (x1 : Int32) (x2 : Int32) (x3 : Int32) (x4 : Int32) (x5 : Int32) (y0 : Int32) (p1 : Nat) (q1 : (K.2 p1).1 = 6)
    (k : zi_C l (zx_rm d 0 0) M_Mod_failIf [.ref p1, .int y0, .int ((-9)), .int x2] K RJ I (fun r I2 => r = none ∧ zi_X l (zx_rm (d + 1) 0 0) M_Mod_readTable K RJ Q 59 [(0, .ref o0), (1, .int x1), (2, .int x2), (3, .int x3), (4, .int x4), (5, .int x5)] [] I2)) :
    zi_X l (zx_rm (d + 1) 0 0) M_Mod_readTable K RJ Q 132 [(0, .ref o0), (1, .int x1), (2, .int x2), (3, .int x3), (4, .int x4), (5, .int x5)] [.int y0, .ref p1] I := by
  refine zx_bipush d_Mod_readTable_132 zb_m9 ?_
  refine zx_iload_n d_Mod_readTable_134 rfl ?_
  refine zi_callV (hC := k) k_Mod_246 q1 (by decide) rfl rfl (Nat.le_of_ble_eq_true rfl) (Nat.le_of_ble_eq_true rfl) d_Mod_readTable_135 (fun r I2 k => ?_)
  obtain ⟨rfl, k⟩ := k
  refine zx_goto (tgt := 59) d_Mod_readTable_138 rfl ?_
  exact k
set_option maxRecDepth 20000 in
theorem r_Mod_readTable_141 (l : Launch) (d : Nat) {K : zx_Kt} {RJ : zx_RJ} {Q : zi_Q} {I : zi_I} (o0 : Nat) (x1 : Int32) (x2 : Int32) (x3 : Int32) (x4 : Int32) (x5 : Int32) (q1 : (K.2 o0).1 = 6) {r2 : Nat} (e3 : RJ.1 o0 26 = r2) (z4 : r2 ≠ 0) {n6 : Nat} (a5 : K.2 r2 = (0, n6))
    (k : ∃ j7, (260 * x1) + x4 = nI j7 ∧ j7 < n6 ∧ zi_X l (zx_rm (d + 1) 0 0) M_Mod_readTable K RJ Q 38 [(0, .ref o0), (1, .int x1), (2, .int x2), (3, .int x3), (4, .int (x4 + 1))] [] (zx_u2 I r2 j7 x3)) :
    zi_X l (zx_rm (d + 1) 0 0) M_Mod_readTable K RJ Q 141 [(0, .ref o0), (1, .int x1), (2, .int x2), (3, .int x3), (4, .int x4), (5, .int x5)] [] I := by
  refine zx_aload_n d_Mod_readTable_141 rfl ?_
  refine zi_getR f_Mod_42 q1 (by decide) e3 z4 d_Mod_readTable_142 ?_
  refine zx_sipush d_Mod_readTable_145 zs_260 ?_
  refine zx_iload_n d_Mod_readTable_148 rfl ?_
  refine zx_imul d_Mod_readTable_149 ?_
  refine zx_iload d_Mod_readTable_150 rfl ?_
  refine zx_iadd d_Mod_readTable_152 ?_
  refine zx_iload_n d_Mod_readTable_153 rfl ?_
  obtain ⟨j7, e8, b9, k⟩ := k
  refine zi_iast j7 a5 e8 b9 d_Mod_readTable_154 ?_
  refine zx_iinc (L2 := [(0, .ref o0), (1, .int x1), (2, .int x2), (3, .int x3), (4, .int (x4 + 1)), (5, .int x5)]) d_Mod_readTable_155 rfl (Nat.le_of_ble_eq_true rfl) zc_1 rfl ?_
  refine zx_goto (tgt := 38) d_Mod_readTable_158 rfl ?_
  refine zx_locs [0, 1, 2, 3, 4] rfl ?_
  exact k
set_option maxRecDepth 20000 in
theorem r_Mod_readTable_161 (l : Launch) (d : Nat) {K : zx_Kt} {RJ : zx_RJ} {Q : zi_Q} {I : zi_I} (o0 : Nat) (x1 : Int32) (x2 : Int32) (x3 : Int32) (x4 : Int32) 
    (k : Q none I) :
    zi_X l (zx_rm (d + 1) 0 0) M_Mod_readTable K RJ Q 161 [(0, .ref o0), (1, .int x1), (2, .int x2), (3, .int x3), (4, .int x4)] [] I := by
  exact zi_vret d_Mod_readTable_161 rfl k
set_option maxRecDepth 20000 in
theorem r_Mod_decode_0 (l : Launch) (d : Nat) {K : zx_Kt} {RJ : zx_RJ} {Q : zi_Q} {I : zi_I} (o0 : Nat) (x1 : Int32) (x2 : Int32) (x3 : Int32) 
    (k : zi_X l (zx_rm d 0 0) M_Mod_decode K RJ Q 3 [(0, .ref o0), (1, .int x1), (2, .int x2), (3, .int x3), (4, .int 0)] [] I) :
    zi_X l (zx_rm d 0 0) M_Mod_decode K RJ Q 0 [(0, .ref o0), (1, .int x1), (2, .int x2), (3, .int x3)] [] I := by
  refine zx_iconst d_Mod_decode_0 zc_0 ?_
  refine zx_istore (L2 := [(0, .ref o0), (1, .int x1), (2, .int x2), (3, .int x3), (4, .int 0)]) d_Mod_decode_1 (Nat.le_of_ble_eq_true rfl) rfl ?_
  exact k
set_option maxRecDepth 20000 in
theorem r_Mod_decode_3 (l : Launch) (d : Nat) {K : zx_Kt} {RJ : zx_RJ} {Q : zi_Q} {I : zi_I} (o0 : Nat) (x1 : Int32) (x2 : Int32) (x3 : Int32) (x4 : Int32) (q1 : (K.2 o0).1 = 6) {r2 : Nat} (e3 : RJ.1 o0 26 = r2) (z4 : r2 ≠ 0) {n6 : Nat} (a5 : K.2 r2 = (0, n6)) {r10 : Nat} (e11 : RJ.1 o0 27 = r10) (z12 : r10 ≠ 0) {n14 : Nat} (a13 : K.2 r10 = (0, n14))
    (k : ((((I o0 22) + 2) ≤ x4) → Q (some (.int ((-1)))) I) ∧ ((¬ ((I o0 22) + 2) ≤ x4) → ∃ j7, (260 * x1) + x4 = nI j7 ∧ j7 < n6 ∧ ((¬ (I r2 j7) = x3) → zi_X l (zx_rm d 0 0) M_Mod_decode K RJ Q 3 [(0, .ref o0), (1, .int x1), (2, .int x2), (3, .int x3), (4, .int (x4 + 1))] [] I) ∧ (((I r2 j7) = x3) → ∃ j15, (260 * x1) + x4 = nI j15 ∧ j15 < n14 ∧ ((¬ (I r10 j15) = x2) → zi_X l (zx_rm d 0 0) M_Mod_decode K RJ Q 3 [(0, .ref o0), (1, .int x1), (2, .int x2), (3, .int x3), (4, .int (x4 + 1))] [] I) ∧ (((I r10 j15) = x2) → Q (some (.int x4)) I)))) :
    zi_X l (zx_rm d 0 0) M_Mod_decode K RJ Q 3 [(0, .ref o0), (1, .int x1), (2, .int x2), (3, .int x3), (4, .int x4)] [] I := by
  refine zx_iload d_Mod_decode_3 rfl ?_
  refine zx_aload_n d_Mod_decode_5 rfl ?_
  refine zi_getI f_Mod_108 q1 (by decide) d_Mod_decode_6 ?_
  refine zx_iconst d_Mod_decode_9 zc_2 ?_
  refine zx_iadd d_Mod_decode_10 ?_
  refine zx_icmp_ge (tgt := 57) d_Mod_decode_11 rfl (fun c => ?_) (fun c => ?_)
  · have k := k.1 c
    refine zx_iconst d_Mod_decode_57 zc_m1 ?_
    exact zi_iret d_Mod_decode_58 rfl k
  · have k := k.2 c
    refine zx_aload_n d_Mod_decode_14 rfl ?_
    refine zi_getR f_Mod_42 q1 (by decide) e3 z4 d_Mod_decode_15 ?_
    refine zx_sipush d_Mod_decode_18 zs_260 ?_
    refine zx_iload_n d_Mod_decode_21 rfl ?_
    refine zx_imul d_Mod_decode_22 ?_
    refine zx_iload d_Mod_decode_23 rfl ?_
    refine zx_iadd d_Mod_decode_25 ?_
    obtain ⟨j7, e8, b9, k⟩ := k
    refine zi_iald j7 a5 e8 b9 d_Mod_decode_26 ?_
    refine zx_iload_n d_Mod_decode_27 rfl ?_
    refine zx_icmp_ne (tgt := 51) d_Mod_decode_28 rfl (fun c => ?_) (fun c => ?_)
    · have k := k.1 c
      refine zx_iinc (L2 := [(0, .ref o0), (1, .int x1), (2, .int x2), (3, .int x3), (4, .int (x4 + 1))]) d_Mod_decode_51 rfl (Nat.le_of_ble_eq_true rfl) zc_1 rfl ?_
      refine zx_goto (tgt := 3) d_Mod_decode_54 rfl ?_
      exact k
    · have k := k.2 c
      refine zx_aload_n d_Mod_decode_31 rfl ?_
      refine zi_getR f_Mod_45 q1 (by decide) e11 z12 d_Mod_decode_32 ?_
      refine zx_sipush d_Mod_decode_35 zs_260 ?_
      refine zx_iload_n d_Mod_decode_38 rfl ?_
      refine zx_imul d_Mod_decode_39 ?_
      refine zx_iload d_Mod_decode_40 rfl ?_
      refine zx_iadd d_Mod_decode_42 ?_
      obtain ⟨j15, e16, b17, k⟩ := k
      refine zi_iald j15 a13 e16 b17 d_Mod_decode_43 ?_
      refine zx_iload_n d_Mod_decode_44 rfl ?_
      refine zx_icmp_ne (tgt := 51) d_Mod_decode_45 rfl (fun c => ?_) (fun c => ?_)
      · have k := k.1 c
        refine zx_iinc (L2 := [(0, .ref o0), (1, .int x1), (2, .int x2), (3, .int x3), (4, .int (x4 + 1))]) d_Mod_decode_51 rfl (Nat.le_of_ble_eq_true rfl) zc_1 rfl ?_
        refine zx_goto (tgt := 3) d_Mod_decode_54 rfl ?_
        exact k
      · have k := k.2 c
        refine zx_iload d_Mod_decode_48 rfl ?_
        exact zi_iret d_Mod_decode_50 rfl k
set_option maxRecDepth 20000 in
theorem r_Mod_readSymbol_0 (l : Launch) (d : Nat) {K : zx_Kt} {RJ : zx_RJ} {Q : zi_Q} {I : zi_I} (o0 : Nat) (x1 : Int32) (q1 : (K.2 o0).1 = 6)
    (k : zi_X l (zx_rm (d + 1) 0 0) M_Mod_readSymbol K RJ Q 13 [(0, .ref o0), (1, .int x1), (2, .int (I o0 7)), (3, .int 0), (4, .int 0), (5, .int ((-1)))] [] I) :
    zi_X l (zx_rm (d + 1) 0 0) M_Mod_readSymbol K RJ Q 0 [(0, .ref o0), (1, .int x1)] [] I := by
  refine zx_aload_n d_Mod_readSymbol_0 rfl ?_
  refine zi_getI f_Mod_237 q1 (by decide) d_Mod_readSymbol_1 ?_
  refine zx_istore_n (L2 := [(0, .ref o0), (1, .int x1), (2, .int (I o0 7))]) d_Mod_readSymbol_4 (Nat.le_of_ble_eq_true rfl) rfl ?_
  refine zx_iconst d_Mod_readSymbol_5 zc_0 ?_
  refine zx_istore_n (L2 := [(0, .ref o0), (1, .int x1), (2, .int (I o0 7)), (3, .int 0)]) d_Mod_readSymbol_6 (Nat.le_of_ble_eq_true rfl) rfl ?_
  refine zx_iconst d_Mod_readSymbol_7 zc_0 ?_
  refine zx_istore (L2 := [(0, .ref o0), (1, .int x1), (2, .int (I o0 7)), (3, .int 0), (4, .int 0)]) d_Mod_readSymbol_8 (Nat.le_of_ble_eq_true rfl) rfl ?_
  refine zx_iconst d_Mod_readSymbol_10 zc_m1 ?_
  refine zx_istore (L2 := [(0, .ref o0), (1, .int x1), (2, .int (I o0 7)), (3, .int 0), (4, .int 0), (5, .int ((-1)))]) d_Mod_readSymbol_11 (Nat.le_of_ble_eq_true rfl) rfl ?_
  exact k
set_option maxRecDepth 20000 in
theorem r_Mod_readSymbol_13 (l : Launch) (d : Nat) {K : zx_Kt} {RJ : zx_RJ} {Q : zi_Q} {I : zi_I} (o0 : Nat) (x1 : Int32) (x2 : Int32) (x3 : Int32) (x4 : Int32) (x5 : Int32) (q1 : (K.2 o0).1 = 6)
    (k : ((0 ≤ x5) → Q (some (.int x5)) I) ∧ ((¬ 0 ≤ x5) → ((¬ (I o0 8) = 0) → Q (some (.int x5)) I) ∧ (((I o0 8) = 0) → ((¬ x4 = 12) → zi_C l (zx_rm d 0 0) M_Mod_failIf [.ref o0, .int 0, .int ((-10)), .int x2] K RJ I (fun r I2 => r = none ∧ zi_C l (zx_rm d 0 0) M_Mod_take [.ref o0, .int 1, .int x2] K RJ I2 (fun r I3 => ∃ v4, r = some (.int v4) ∧ ((¬ (I3 o0 8) = 0) → zi_X l (zx_rm (d + 1) 0 0) M_Mod_readSymbol K RJ Q 13 [(0, .ref o0), (1, .int x1), (2, .int x2), (3, .int ((2 * x3) + v4)), (4, .int (x4 + 1)), (5, .int ((-1)))] [] I3) ∧ (((I3 o0 8) = 0) → zi_C l (zx_rm d 0 0) M_Mod_decode [.ref o0, .int x1, .int ((2 * x3) + v4), .int (x4 + 1)] K RJ I3 (fun r I5 => ∃ v6, r = some (.int v6) ∧ zi_X l (zx_rm (d + 1) 0 0) M_Mod_readSymbol K RJ Q 13 [(0, .ref o0), (1, .int x1), (2, .int x2), (3, .int ((2 * x3) + v4)), (4, .int (x4 + 1)), (5, .int v6)] [] I5))))) ∧ ((x4 = 12) → zi_C l (zx_rm d 0 0) M_Mod_failIf [.ref o0, .int 1, .int ((-10)), .int x2] K RJ I (fun r I7 => r = none ∧ zi_C l (zx_rm d 0 0) M_Mod_take [.ref o0, .int 1, .int x2] K RJ I7 (fun r I8 => ∃ v9, r = some (.int v9) ∧ ((¬ (I8 o0 8) = 0) → zi_X l (zx_rm (d + 1) 0 0) M_Mod_readSymbol K RJ Q 13 [(0, .ref o0), (1, .int x1), (2, .int x2), (3, .int ((2 * x3) + v9)), (4, .int (x4 + 1)), (5, .int ((-1)))] [] I8) ∧ (((I8 o0 8) = 0) → zi_C l (zx_rm d 0 0) M_Mod_decode [.ref o0, .int x1, .int ((2 * x3) + v9), .int (x4 + 1)] K RJ I8 (fun r I10 => ∃ v11, r = some (.int v11) ∧ zi_X l (zx_rm (d + 1) 0 0) M_Mod_readSymbol K RJ Q 13 [(0, .ref o0), (1, .int x1), (2, .int x2), (3, .int ((2 * x3) + v9)), (4, .int (x4 + 1)), (5, .int v11)] [] I10)))))))) :
    zi_X l (zx_rm (d + 1) 0 0) M_Mod_readSymbol K RJ Q 13 [(0, .ref o0), (1, .int x1), (2, .int x2), (3, .int x3), (4, .int x4), (5, .int x5)] [] I := by
  refine zx_iload d_Mod_readSymbol_13 rfl ?_
  refine zx_if_ge (tgt := 82) d_Mod_readSymbol_15 rfl (fun c => ?_) (fun c => ?_)
  · have k := k.1 c
    refine zx_iload d_Mod_readSymbol_82 rfl ?_
    exact zi_iret d_Mod_readSymbol_84 rfl k
  · have k := k.2 c
    refine zx_aload_n d_Mod_readSymbol_18 rfl ?_
    refine zi_getI f_Mod_231 q1 (by decide) d_Mod_readSymbol_19 ?_
    refine zx_if_ne (tgt := 82) d_Mod_readSymbol_22 rfl (fun c => ?_) (fun c => ?_)
    · have k := k.1 c
      refine zx_iload d_Mod_readSymbol_82 rfl ?_
      exact zi_iret d_Mod_readSymbol_84 rfl k
    · have k := k.2 c
      refine zx_aload_n d_Mod_readSymbol_25 rfl ?_
      refine zx_iload d_Mod_readSymbol_26 rfl ?_
      refine zx_bipush d_Mod_readSymbol_28 zb_12 ?_
      refine zx_icmp_ne (tgt := 37) d_Mod_readSymbol_30 rfl (fun c => ?_) (fun c => ?_)
      · have k := k.1 c
        refine zx_iconst d_Mod_readSymbol_37 zc_0 ?_
        refine zx_bipush d_Mod_readSymbol_38 zb_m10 ?_
        refine zx_iload_n d_Mod_readSymbol_40 rfl ?_
        refine zi_callV (hC := k) k_Mod_246 q1 (by decide) rfl rfl (Nat.le_of_ble_eq_true rfl) (Nat.le_of_ble_eq_true rfl) d_Mod_readSymbol_41 (fun r I2 k => ?_)
        obtain ⟨rfl, k⟩ := k
        refine zx_iconst d_Mod_readSymbol_44 zc_2 ?_
        refine zx_iload_n d_Mod_readSymbol_45 rfl ?_
        refine zx_imul d_Mod_readSymbol_46 ?_
        refine zx_aload_n d_Mod_readSymbol_47 rfl ?_
        refine zx_iconst d_Mod_readSymbol_48 zc_1 ?_
        refine zx_iload_n d_Mod_readSymbol_49 rfl ?_
        refine zi_callV (hC := k) k_Mod_243 q1 (by decide) rfl rfl (Nat.le_of_ble_eq_true rfl) (Nat.le_of_ble_eq_true rfl) d_Mod_readSymbol_50 (fun r I3 k => ?_)
        obtain ⟨v4, rfl, k⟩ := k
        refine zx_iadd d_Mod_readSymbol_53 ?_
        refine zx_istore_n (L2 := [(0, .ref o0), (1, .int x1), (2, .int x2), (3, .int ((2 * x3) + v4)), (4, .int x4), (5, .int x5)]) d_Mod_readSymbol_54 (Nat.le_of_ble_eq_true rfl) rfl ?_
        refine zx_iinc (L2 := [(0, .ref o0), (1, .int x1), (2, .int x2), (3, .int ((2 * x3) + v4)), (4, .int (x4 + 1)), (5, .int x5)]) d_Mod_readSymbol_55 rfl (Nat.le_of_ble_eq_true rfl) zc_1 rfl ?_
        refine zx_aload_n d_Mod_readSymbol_58 rfl ?_
        refine zi_getI f_Mod_231 q1 (by decide) d_Mod_readSymbol_59 ?_
        refine zx_if_ne (tgt := 76) d_Mod_readSymbol_62 rfl (fun c => ?_) (fun c => ?_)
        · have k := k.1 c
          refine zx_iconst d_Mod_readSymbol_76 zc_m1 ?_
          refine zx_istore (L2 := [(0, .ref o0), (1, .int x1), (2, .int x2), (3, .int ((2 * x3) + v4)), (4, .int (x4 + 1)), (5, .int ((-1)))]) d_Mod_readSymbol_77 (Nat.le_of_ble_eq_true rfl) rfl ?_
          refine zx_goto (tgt := 13) d_Mod_readSymbol_79 rfl ?_
          exact k
        · have k := k.2 c
          refine zx_aload_n d_Mod_readSymbol_65 rfl ?_
          refine zx_iload_n d_Mod_readSymbol_66 rfl ?_
          refine zx_iload_n d_Mod_readSymbol_67 rfl ?_
          refine zx_iload d_Mod_readSymbol_68 rfl ?_
          refine zi_callV (hC := k) k_Mod_250 q1 (by decide) rfl rfl (Nat.le_of_ble_eq_true rfl) (Nat.le_of_ble_eq_true rfl) d_Mod_readSymbol_70 (fun r I5 k => ?_)
          obtain ⟨v6, rfl, k⟩ := k
          refine zx_goto (tgt := 77) d_Mod_readSymbol_73 rfl ?_
          refine zx_istore (L2 := [(0, .ref o0), (1, .int x1), (2, .int x2), (3, .int ((2 * x3) + v4)), (4, .int (x4 + 1)), (5, .int v6)]) d_Mod_readSymbol_77 (Nat.le_of_ble_eq_true rfl) rfl ?_
          refine zx_goto (tgt := 13) d_Mod_readSymbol_79 rfl ?_
          exact k
      · have k := k.2 c
        refine zx_iconst d_Mod_readSymbol_33 zc_1 ?_
        refine zx_goto (tgt := 38) d_Mod_readSymbol_34 rfl ?_
        refine zx_bipush d_Mod_readSymbol_38 zb_m10 ?_
        refine zx_iload_n d_Mod_readSymbol_40 rfl ?_
        refine zi_callV (hC := k) k_Mod_246 q1 (by decide) rfl rfl (Nat.le_of_ble_eq_true rfl) (Nat.le_of_ble_eq_true rfl) d_Mod_readSymbol_41 (fun r I7 k => ?_)
        obtain ⟨rfl, k⟩ := k
        refine zx_iconst d_Mod_readSymbol_44 zc_2 ?_
        refine zx_iload_n d_Mod_readSymbol_45 rfl ?_
        refine zx_imul d_Mod_readSymbol_46 ?_
        refine zx_aload_n d_Mod_readSymbol_47 rfl ?_
        refine zx_iconst d_Mod_readSymbol_48 zc_1 ?_
        refine zx_iload_n d_Mod_readSymbol_49 rfl ?_
        refine zi_callV (hC := k) k_Mod_243 q1 (by decide) rfl rfl (Nat.le_of_ble_eq_true rfl) (Nat.le_of_ble_eq_true rfl) d_Mod_readSymbol_50 (fun r I8 k => ?_)
        obtain ⟨v9, rfl, k⟩ := k
        refine zx_iadd d_Mod_readSymbol_53 ?_
        refine zx_istore_n (L2 := [(0, .ref o0), (1, .int x1), (2, .int x2), (3, .int ((2 * x3) + v9)), (4, .int x4), (5, .int x5)]) d_Mod_readSymbol_54 (Nat.le_of_ble_eq_true rfl) rfl ?_
        refine zx_iinc (L2 := [(0, .ref o0), (1, .int x1), (2, .int x2), (3, .int ((2 * x3) + v9)), (4, .int (x4 + 1)), (5, .int x5)]) d_Mod_readSymbol_55 rfl (Nat.le_of_ble_eq_true rfl) zc_1 rfl ?_
        refine zx_aload_n d_Mod_readSymbol_58 rfl ?_
        refine zi_getI f_Mod_231 q1 (by decide) d_Mod_readSymbol_59 ?_
        refine zx_if_ne (tgt := 76) d_Mod_readSymbol_62 rfl (fun c => ?_) (fun c => ?_)
        · have k := k.1 c
          refine zx_iconst d_Mod_readSymbol_76 zc_m1 ?_
          refine zx_istore (L2 := [(0, .ref o0), (1, .int x1), (2, .int x2), (3, .int ((2 * x3) + v9)), (4, .int (x4 + 1)), (5, .int ((-1)))]) d_Mod_readSymbol_77 (Nat.le_of_ble_eq_true rfl) rfl ?_
          refine zx_goto (tgt := 13) d_Mod_readSymbol_79 rfl ?_
          exact k
        · have k := k.2 c
          refine zx_aload_n d_Mod_readSymbol_65 rfl ?_
          refine zx_iload_n d_Mod_readSymbol_66 rfl ?_
          refine zx_iload_n d_Mod_readSymbol_67 rfl ?_
          refine zx_iload d_Mod_readSymbol_68 rfl ?_
          refine zi_callV (hC := k) k_Mod_250 q1 (by decide) rfl rfl (Nat.le_of_ble_eq_true rfl) (Nat.le_of_ble_eq_true rfl) d_Mod_readSymbol_70 (fun r I10 k => ?_)
          obtain ⟨v11, rfl, k⟩ := k
          refine zx_goto (tgt := 77) d_Mod_readSymbol_73 rfl ?_
          refine zx_istore (L2 := [(0, .ref o0), (1, .int x1), (2, .int x2), (3, .int ((2 * x3) + v9)), (4, .int (x4 + 1)), (5, .int v11)]) d_Mod_readSymbol_77 (Nat.le_of_ble_eq_true rfl) rfl ?_
          refine zx_goto (tgt := 13) d_Mod_readSymbol_79 rfl ?_
          exact k
set_option maxRecDepth 20000 in
theorem r_Mod_addColumn_0 (l : Launch) (d : Nat) {K : zx_Kt} {RJ : zx_RJ} {Q : zi_Q} {I : zi_I} (o0 : Nat) (x1 : Int32) (x2 : Int32) 
    (k : zi_X l (zx_rm d 0 0) M_Mod_addColumn K RJ Q 2 [(0, .ref o0), (1, .int x1), (2, .int x2), (3, .int 0)] [] I) :
    zi_X l (zx_rm d 0 0) M_Mod_addColumn K RJ Q 0 [(0, .ref o0), (1, .int x1), (2, .int x2)] [] I := by
  refine zx_iconst d_Mod_addColumn_0 zc_0 ?_
  refine zx_istore_n (L2 := [(0, .ref o0), (1, .int x1), (2, .int x2), (3, .int 0)]) d_Mod_addColumn_1 (Nat.le_of_ble_eq_true rfl) rfl ?_
  exact k
set_option maxRecDepth 20000 in
theorem r_Mod_addColumn_2 (l : Launch) (d : Nat) {K : zx_Kt} {RJ : zx_RJ} {Q : zi_Q} {I : zi_I} (o0 : Nat) (x1 : Int32) (x2 : Int32) (x3 : Int32) (q1 : (K.2 o0).1 = 6) {r2 : Nat} (e3 : RJ.1 o0 16 = r2) (z4 : r2 ≠ 0) {n6 : Nat} (a5 : K.2 r2 = (0, n6))
    (k : ((x2 ≤ x3) → Q none I) ∧ ((¬ x2 ≤ x3) → ∃ j7, I o0 14 = nI j7 ∧ j7 < n6 ∧ zi_X l (zx_rm d 0 0) M_Mod_addColumn K RJ Q 2 [(0, .ref o0), (1, .int x1), (2, .int x2), (3, .int (x3 + 1))] [] (zx_u2 (zx_u2 I r2 j7 x1) o0 14 ((I o0 14) + 1)))) :
    zi_X l (zx_rm d 0 0) M_Mod_addColumn K RJ Q 2 [(0, .ref o0), (1, .int x1), (2, .int x2), (3, .int x3)] [] I := by
  refine zx_iload_n d_Mod_addColumn_2 rfl ?_
  refine zx_iload_n d_Mod_addColumn_3 rfl ?_
  refine zx_icmp_ge (tgt := 33) d_Mod_addColumn_4 rfl (fun c => ?_) (fun c => ?_)
  · have k := k.1 c
    exact zi_vret d_Mod_addColumn_33 rfl k
  · have k := k.2 c
    refine zx_aload_n d_Mod_addColumn_7 rfl ?_
    refine zi_getR f_Mod_29 q1 (by decide) e3 z4 d_Mod_addColumn_8 ?_
    refine zx_aload_n d_Mod_addColumn_11 rfl ?_
    refine zi_getI f_Mod_98 q1 (by decide) d_Mod_addColumn_12 ?_
    refine zx_iload_n d_Mod_addColumn_15 rfl ?_
    obtain ⟨j7, e8, b9, k⟩ := k
    refine zi_iast j7 a5 e8 b9 d_Mod_addColumn_16 ?_
    refine zx_aload_n d_Mod_addColumn_17 rfl ?_
    refine zx_dup_a d_Mod_addColumn_18 ?_
    refine zi_getIe f_Mod_98 q1 (by decide) (zx_u2_a a5 q1 (by decide)) d_Mod_addColumn_19 ?_
    refine zx_iconst d_Mod_addColumn_22 zc_1 ?_
    refine zx_iadd d_Mod_addColumn_23 ?_
    refine zi_putI f_Mod_98 q1 (by decide) d_Mod_addColumn_24 ?_
    refine zx_iinc (L2 := [(0, .ref o0), (1, .int x1), (2, .int x2), (3, .int (x3 + 1))]) d_Mod_addColumn_27 rfl (Nat.le_of_ble_eq_true rfl) zc_1 rfl ?_
    refine zx_goto (tgt := 2) d_Mod_addColumn_30 rfl ?_
    exact k
set_option maxRecDepth 20000 in
theorem r_Mod_readSymbols_0 (l : Launch) (d : Nat) {K : zx_Kt} {RJ : zx_RJ} {Q : zi_Q} {I : zi_I} (o0 : Nat) (x1 : Int32) (q1 : (K.2 o0).1 = 6)
    (k : zi_X l (zx_rm (d + 1) 0 0) M_Mod_readSymbols K RJ Q 23 [(0, .ref o0), (1, .int x1), (2, .int 0), (3, .int 1), (4, .int (I o0 7)), (5, .int 1)] [] (zx_u2 (zx_u2 I o0 17 0) o0 14 0)) :
    zi_X l (zx_rm (d + 1) 0 0) M_Mod_readSymbols K RJ Q 0 [(0, .ref o0), (1, .int x1)] [] I := by
  refine zx_aload_n d_Mod_readSymbols_0 rfl ?_
  refine zx_iconst d_Mod_readSymbols_1 zc_0 ?_
  refine zi_putI f_Mod_111 q1 (by decide) d_Mod_readSymbols_2 ?_
  refine zx_aload_n d_Mod_readSymbols_5 rfl ?_
  refine zx_iconst d_Mod_readSymbols_6 zc_0 ?_
  refine zi_putI f_Mod_98 q1 (by decide) d_Mod_readSymbols_7 ?_
  refine zx_iconst d_Mod_readSymbols_10 zc_0 ?_
  refine zx_istore_n (L2 := [(0, .ref o0), (1, .int x1), (2, .int 0)]) d_Mod_readSymbols_11 (Nat.le_of_ble_eq_true rfl) rfl ?_
  refine zx_iconst d_Mod_readSymbols_12 zc_1 ?_
  refine zx_istore_n (L2 := [(0, .ref o0), (1, .int x1), (2, .int 0), (3, .int 1)]) d_Mod_readSymbols_13 (Nat.le_of_ble_eq_true rfl) rfl ?_
  refine zx_aload_n d_Mod_readSymbols_14 rfl ?_
  refine zi_getIe f_Mod_237 q1 (by decide) ((zx_u2_k (by decide)).trans (zx_u2_k (by decide))) d_Mod_readSymbols_15 ?_
  refine zx_istore (L2 := [(0, .ref o0), (1, .int x1), (2, .int 0), (3, .int 1), (4, .int (I o0 7))]) d_Mod_readSymbols_18 (Nat.le_of_ble_eq_true rfl) rfl ?_
  refine zx_iconst d_Mod_readSymbols_20 zc_1 ?_
  refine zx_istore (L2 := [(0, .ref o0), (1, .int x1), (2, .int 0), (3, .int 1), (4, .int (I o0 7)), (5, .int 1)]) d_Mod_readSymbols_21 (Nat.le_of_ble_eq_true rfl) rfl ?_
  exact k
set_option maxRecDepth 20000 in
theorem r_Mod_readSymbols_23 (l : Launch) (d : Nat) {K : zx_Kt} {RJ : zx_RJ} {Q : zi_Q} {I : zi_I} (o0 : Nat) (x1 : Int32) (x2 : Int32) (x3 : Int32) (x4 : Int32) (x5 : Int32) (q1 : (K.2 o0).1 = 6)
    (k : ((x5 = 0) → zi_X l (zx_rm (d + 1) 0 0) M_Mod_readSymbols K RJ Q 242 [(0, .ref o0), (1, .int x1), (2, .int x2), (3, .int x3), (4, .int x4), (5, .int x5)] [] I) ∧ ((¬ x5 = 0) → ((¬ (I o0 8) = 0) → zi_X l (zx_rm (d + 1) 0 0) M_Mod_readSymbols K RJ Q 242 [(0, .ref o0), (1, .int x1), (2, .int x2), (3, .int x3), (4, .int x4), (5, .int x5)] [] I) ∧ (((I o0 8) = 0) → ((¬ (I o0 17) = (8 * (I o0 28))) → zi_X l (zx_rm (d + 1) 0 0) M_Mod_readSymbols K RJ Q 61 [(0, .ref o0), (1, .int x1), (2, .int x2), (3, .int x3), (4, .int (I o0 7)), (5, .int x5)] [.int 0, .ref o0] I) ∧ (((I o0 17) = (8 * (I o0 28))) → zi_X l (zx_rm (d + 1) 0 0) M_Mod_readSymbols K RJ Q 61 [(0, .ref o0), (1, .int x1), (2, .int x2), (3, .int x3), (4, .int (I o0 7)), (5, .int x5)] [.int 1, .ref o0] I)))) :
    zi_X l (zx_rm (d + 1) 0 0) M_Mod_readSymbols K RJ Q 23 [(0, .ref o0), (1, .int x1), (2, .int x2), (3, .int x3), (4, .int x4), (5, .int x5)] [] I := by
  refine zx_iload d_Mod_readSymbols_23 rfl ?_
  refine zx_if_eq (tgt := 242) d_Mod_readSymbols_25 rfl (fun c => ?_) (fun c => ?_)
  · have k := k.1 c
    exact k
  · have k := k.2 c
    refine zx_aload_n d_Mod_readSymbols_28 rfl ?_
    refine zi_getI f_Mod_231 q1 (by decide) d_Mod_readSymbols_29 ?_
    refine zx_if_ne (tgt := 242) d_Mod_readSymbols_32 rfl (fun c => ?_) (fun c => ?_)
    · have k := k.1 c
      exact k
    · have k := k.2 c
      refine zx_aload_n d_Mod_readSymbols_35 rfl ?_
      refine zi_getI f_Mod_237 q1 (by decide) d_Mod_readSymbols_36 ?_
      refine zx_istore (L2 := [(0, .ref o0), (1, .int x1), (2, .int x2), (3, .int x3), (4, .int (I o0 7)), (5, .int x5)]) d_Mod_readSymbols_39 (Nat.le_of_ble_eq_true rfl) rfl ?_
      refine zx_aload_n d_Mod_readSymbols_41 rfl ?_
      refine zx_aload_n d_Mod_readSymbols_42 rfl ?_
      refine zi_getI f_Mod_111 q1 (by decide) d_Mod_readSymbols_43 ?_
      refine zx_bipush d_Mod_readSymbols_46 zb_8 ?_
      refine zx_aload_n d_Mod_readSymbols_48 rfl ?_
      refine zi_getI f_Mod_131 q1 (by decide) d_Mod_readSymbols_49 ?_
      refine zx_imul d_Mod_readSymbols_52 ?_
      refine zx_icmp_ne (tgt := 60) d_Mod_readSymbols_53 rfl (fun c => ?_) (fun c => ?_)
      · have k := k.1 c
        refine zx_iconst d_Mod_readSymbols_60 zc_0 ?_
        exact k
      · have k := k.2 c
        refine zx_iconst d_Mod_readSymbols_56 zc_1 ?_
        refine zx_goto (tgt := 61) d_Mod_readSymbols_57 rfl ?_
        exact k
set_option maxRecDepth 20000 in
theorem r_Mod_readSymbols_61 (l : Launch) (d : Nat) {K : zx_Kt} {RJ : zx_RJ} {Q : zi_Q} {I : zi_I} (o0 : Nat) (x1 : Int32) (x2 : Int32) (x3 : Int32) (x4 : Int32) (x5 : Int32) (y0 : Int32) (p1 : Nat) (q1 : (K.2 p1).1 = 6) (q3 : (K.2 o0).1 = 6) {r4 : Nat} (e5 : RJ.1 o0 29 = r4) (z6 : r4 ≠ 0) {n8 : Nat} (a7 : K.2 r4 = (0, n8))
    (k : zi_C l (zx_rm d 0 0) M_Mod_failIf [.ref p1, .int y0, .int ((-11)), .int x4] K RJ I (fun r I2 => r = none ∧ ((¬ (I2 o0 8) = 0) → zi_X l (zx_rm (d + 1) 0 0) M_Mod_readSymbols K RJ Q 95 [(0, .ref o0), (1, .int x1), (2, .int x2), (3, .int x3), (4, .int x4), (5, .int x5)] [.int ((-1))] I2) ∧ (((I2 o0 8) = 0) → ∃ j9, (I2 o0 17) / 8 = nI j9 ∧ j9 < n8 ∧ zi_C l (zx_rm d 0 0) M_Mod_readSymbol [.ref o0, .int (I2 r4 j9)] K RJ I2 (fun r I12 => ∃ v13, r = some (.int v13) ∧ zi_X l (zx_rm (d + 1) 0 0) M_Mod_readSymbols K RJ Q 95 [(0, .ref o0), (1, .int x1), (2, .int x2), (3, .int x3), (4, .int x4), (5, .int x5)] [.int v13] I12)))) :
    zi_X l (zx_rm (d + 1) 0 0) M_Mod_readSymbols K RJ Q 61 [(0, .ref o0), (1, .int x1), (2, .int x2), (3, .int x3), (4, .int x4), (5, .int x5)] [.int y0, .ref p1] I := by
  refine zx_bipush d_Mod_readSymbols_61 zb_m11 ?_
  refine zx_iload d_Mod_readSymbols_63 rfl ?_
  refine zi_callV (hC := k) k_Mod_246 q1 (by decide) rfl rfl (Nat.le_of_ble_eq_true rfl) (Nat.le_of_ble_eq_true rfl) d_Mod_readSymbols_65 (fun r I2 k => ?_)
  obtain ⟨rfl, k⟩ := k
  refine zx_aload_n d_Mod_readSymbols_68 rfl ?_
  refine zi_getI f_Mod_231 q3 (by decide) d_Mod_readSymbols_69 ?_
  refine zx_if_ne (tgt := 94) d_Mod_readSymbols_72 rfl (fun c => ?_) (fun c => ?_)
  · have k := k.1 c
    refine zx_iconst d_Mod_readSymbols_94 zc_m1 ?_
    exact k
  · have k := k.2 c
    refine zx_aload_n d_Mod_readSymbols_75 rfl ?_
    refine zx_aload_n d_Mod_readSymbols_76 rfl ?_
    refine zi_getR f_Mod_48 q3 (by decide) e5 z6 d_Mod_readSymbols_77 ?_
    refine zx_aload_n d_Mod_readSymbols_80 rfl ?_
    refine zi_getI f_Mod_111 q3 (by decide) d_Mod_readSymbols_81 ?_
    refine zx_bipush d_Mod_readSymbols_84 zb_8 ?_
    refine zx_idiv d_Mod_readSymbols_86 (by decide) ?_
    obtain ⟨j9, e10, b11, k⟩ := k
    refine zi_iald j9 a7 e10 b11 d_Mod_readSymbols_87 ?_
    refine zi_callV (hC := k) k_Mod_254 q3 (by decide) rfl rfl (Nat.le_of_ble_eq_true rfl) (Nat.le_of_ble_eq_true rfl) d_Mod_readSymbols_88 (fun r I12 k => ?_)
    obtain ⟨v13, rfl, k⟩ := k
    refine zx_goto (tgt := 95) d_Mod_readSymbols_91 rfl ?_
    exact k
set_option maxRecDepth 20000 in
theorem r_Mod_readSymbols_95 (l : Launch) (d : Nat) {K : zx_Kt} {RJ : zx_RJ} {Q : zi_Q} {I : zi_I} (o0 : Nat) (x1 : Int32) (x2 : Int32) (x3 : Int32) (x4 : Int32) (x5 : Int32) (y0 : Int32) (q1 : (K.2 o0).1 = 6) {r3 : Nat} (e4 : RJ.1 o0 24 = r3) (z5 : r3 ≠ 0) {n7 : Nat} (a6 : K.2 r3 = (0, n7))
    (k : ((¬ (I o0 8) = 0) → zi_X l (zx_rm (d + 1) 0 0) M_Mod_readSymbols K RJ Q 239 [(0, .ref o0), (1, .int x1), (2, .int x2), (3, .int x3), (4, .int x4), (5, .int x5), (6, .int y0)] [] I) ∧ (((I o0 8) = 0) → zi_C l (zx_rm d 0 0) M_Mod_addSymbol [.ref o0, .int y0] K RJ I (fun r I2 => r = none ∧ ((2 ≤ y0) → 0 < n7 ∧ zi_C l (zx_rm d 0 0) M_Mod_addColumn [.ref o0, .int (I2 r3 0), .int x2] K RJ I2 (fun r I11 => r = none ∧ ((y0 = ((I11 o0 22) + 1)) → zi_X l (zx_rm (d + 1) 0 0) M_Mod_readSymbols K RJ Q 186 [(0, .ref o0), (1, .int x1), (2, .int 0), (3, .int 1), (4, .int x4), (5, .int x5), (6, .int y0)] [.int 0] I11) ∧ ((¬ y0 = ((I11 o0 22) + 1)) → zi_X l (zx_rm (d + 1) 0 0) M_Mod_readSymbols K RJ Q 186 [(0, .ref o0), (1, .int x1), (2, .int 0), (3, .int 1), (4, .int x4), (5, .int x5), (6, .int y0)] [.int 1] I11))) ∧ ((¬ 2 ≤ y0) → ((((I2 o0 14) + (x2 + (x3 * (y0 + 1)))) ≤ x1) → zi_X l (zx_rm (d + 1) 0 0) M_Mod_readSymbols K RJ Q 145 [(0, .ref o0), (1, .int x1), (2, .int (x2 + (x3 * (y0 + 1)))), (3, .int (2 * x3)), (4, .int x4), (5, .int x5), (6, .int y0)] [.int 0, .ref o0] I2) ∧ ((¬ ((I2 o0 14) + (x2 + (x3 * (y0 + 1)))) ≤ x1) → zi_X l (zx_rm (d + 1) 0 0) M_Mod_readSymbols K RJ Q 145 [(0, .ref o0), (1, .int x1), (2, .int (x2 + (x3 * (y0 + 1)))), (3, .int (2 * x3)), (4, .int x4), (5, .int x5), (6, .int y0)] [.int 1, .ref o0] I2))))) :
    zi_X l (zx_rm (d + 1) 0 0) M_Mod_readSymbols K RJ Q 95 [(0, .ref o0), (1, .int x1), (2, .int x2), (3, .int x3), (4, .int x4), (5, .int x5)] [.int y0] I := by
  refine zx_istore (L2 := [(0, .ref o0), (1, .int x1), (2, .int x2), (3, .int x3), (4, .int x4), (5, .int x5), (6, .int y0)]) d_Mod_readSymbols_95 (Nat.le_of_ble_eq_true rfl) rfl ?_
  refine zx_aload_n d_Mod_readSymbols_97 rfl ?_
  refine zi_getI f_Mod_231 q1 (by decide) d_Mod_readSymbols_98 ?_
  refine zx_if_ne (tgt := 239) d_Mod_readSymbols_101 rfl (fun c => ?_) (fun c => ?_)
  · have k := k.1 c
    exact k
  · have k := k.2 c
    refine zx_aload_n d_Mod_readSymbols_104 rfl ?_
    refine zx_iload d_Mod_readSymbols_105 rfl ?_
    refine zi_callV (hC := k) k_Mod_114 q1 (by decide) rfl rfl (Nat.le_of_ble_eq_true rfl) (Nat.le_of_ble_eq_true rfl) d_Mod_readSymbols_107 (fun r I2 k => ?_)
    obtain ⟨rfl, k⟩ := k
    refine zx_iload d_Mod_readSymbols_110 rfl ?_
    refine zx_iconst d_Mod_readSymbols_112 zc_2 ?_
    refine zx_icmp_ge (tgt := 155) d_Mod_readSymbols_113 rfl (fun c => ?_) (fun c => ?_)
    · have k := k.1 c
      refine zx_aload_n d_Mod_readSymbols_155 rfl ?_
      refine zx_aload_n d_Mod_readSymbols_156 rfl ?_
      refine zi_getR f_Mod_39 q1 (by decide) e4 z5 d_Mod_readSymbols_157 ?_
      refine zx_iconst d_Mod_readSymbols_160 zc_0 ?_
      obtain ⟨b10, k⟩ := k
      refine zi_iald 0 a6 rfl b10 d_Mod_readSymbols_161 ?_
      refine zx_iload_n d_Mod_readSymbols_162 rfl ?_
      refine zi_callV (hC := k) k_Mod_257 q1 (by decide) rfl rfl (Nat.le_of_ble_eq_true rfl) (Nat.le_of_ble_eq_true rfl) d_Mod_readSymbols_163 (fun r I11 k => ?_)
      obtain ⟨rfl, k⟩ := k
      refine zx_iconst d_Mod_readSymbols_166 zc_0 ?_
      refine zx_istore_n (L2 := [(0, .ref o0), (1, .int x1), (2, .int 0), (3, .int x3), (4, .int x4), (5, .int x5), (6, .int y0)]) d_Mod_readSymbols_167 (Nat.le_of_ble_eq_true rfl) rfl ?_
      refine zx_iconst d_Mod_readSymbols_168 zc_1 ?_
      refine zx_istore_n (L2 := [(0, .ref o0), (1, .int x1), (2, .int 0), (3, .int 1), (4, .int x4), (5, .int x5), (6, .int y0)]) d_Mod_readSymbols_169 (Nat.le_of_ble_eq_true rfl) rfl ?_
      refine zx_iload d_Mod_readSymbols_170 rfl ?_
      refine zx_aload_n d_Mod_readSymbols_172 rfl ?_
      refine zi_getI f_Mod_108 q1 (by decide) d_Mod_readSymbols_173 ?_
      refine zx_iconst d_Mod_readSymbols_176 zc_1 ?_
      refine zx_iadd d_Mod_readSymbols_177 ?_
      refine zx_icmp_eq (tgt := 185) d_Mod_readSymbols_178 rfl (fun c => ?_) (fun c => ?_)
      · have k := k.1 c
        refine zx_iconst d_Mod_readSymbols_185 zc_0 ?_
        exact k
      · have k := k.2 c
        refine zx_iconst d_Mod_readSymbols_181 zc_1 ?_
        refine zx_goto (tgt := 186) d_Mod_readSymbols_182 rfl ?_
        exact k
    · have k := k.2 c
      refine zx_iload_n d_Mod_readSymbols_116 rfl ?_
      refine zx_iload_n d_Mod_readSymbols_117 rfl ?_
      refine zx_iload d_Mod_readSymbols_118 rfl ?_
      refine zx_iconst d_Mod_readSymbols_120 zc_1 ?_
      refine zx_iadd d_Mod_readSymbols_121 ?_
      refine zx_imul d_Mod_readSymbols_122 ?_
      refine zx_iadd d_Mod_readSymbols_123 ?_
      refine zx_istore_n (L2 := [(0, .ref o0), (1, .int x1), (2, .int (x2 + (x3 * (y0 + 1)))), (3, .int x3), (4, .int x4), (5, .int x5), (6, .int y0)]) d_Mod_readSymbols_124 (Nat.le_of_ble_eq_true rfl) rfl ?_
      refine zx_iconst d_Mod_readSymbols_125 zc_2 ?_
      refine zx_iload_n d_Mod_readSymbols_126 rfl ?_
      refine zx_imul d_Mod_readSymbols_127 ?_
      refine zx_istore_n (L2 := [(0, .ref o0), (1, .int x1), (2, .int (x2 + (x3 * (y0 + 1)))), (3, .int (2 * x3)), (4, .int x4), (5, .int x5), (6, .int y0)]) d_Mod_readSymbols_128 (Nat.le_of_ble_eq_true rfl) rfl ?_
      refine zx_aload_n d_Mod_readSymbols_129 rfl ?_
      refine zx_aload_n d_Mod_readSymbols_130 rfl ?_
      refine zi_getI f_Mod_98 q1 (by decide) d_Mod_readSymbols_131 ?_
      refine zx_iload_n d_Mod_readSymbols_134 rfl ?_
      refine zx_iadd d_Mod_readSymbols_135 ?_
      refine zx_iload_n d_Mod_readSymbols_136 rfl ?_
      refine zx_icmp_le (tgt := 144) d_Mod_readSymbols_137 rfl (fun c => ?_) (fun c => ?_)
      · have k := k.1 c
        refine zx_iconst d_Mod_readSymbols_144 zc_0 ?_
        exact k
      · have k := k.2 c
        refine zx_iconst d_Mod_readSymbols_140 zc_1 ?_
        refine zx_goto (tgt := 145) d_Mod_readSymbols_141 rfl ?_
        exact k
set_option maxRecDepth 20000 in
theorem r_Mod_readSymbols_145 (l : Launch) (d : Nat) {K : zx_Kt} {RJ : zx_RJ} {Q : zi_Q} {I : zi_I} (o0 : Nat) (x1 : Int32) (x2 : Int32) (x3 : Int32) (x4 : Int32) (x5 : Int32) (x6 : Int32) (y0 : Int32) (p1 : Nat) (q1 : (K.2 p1).1 = 6)
    (k : zi_C l (zx_rm d 0 0) M_Mod_failIf [.ref p1, .int y0, .int ((-11)), .int x4] K RJ I (fun r I2 => r = none ∧ zi_X l (zx_rm (d + 1) 0 0) M_Mod_readSymbols K RJ Q 239 [(0, .ref o0), (1, .int x1), (2, .int x2), (3, .int x3), (4, .int x4), (5, .int x5), (6, .int x6)] [] I2)) :
    zi_X l (zx_rm (d + 1) 0 0) M_Mod_readSymbols K RJ Q 145 [(0, .ref o0), (1, .int x1), (2, .int x2), (3, .int x3), (4, .int x4), (5, .int x5), (6, .int x6)] [.int y0, .ref p1] I := by
  refine zx_bipush d_Mod_readSymbols_145 zb_m11 ?_
  refine zx_iload d_Mod_readSymbols_147 rfl ?_
  refine zi_callV (hC := k) k_Mod_246 q1 (by decide) rfl rfl (Nat.le_of_ble_eq_true rfl) (Nat.le_of_ble_eq_true rfl) d_Mod_readSymbols_149 (fun r I2 k => ?_)
  obtain ⟨rfl, k⟩ := k
  refine zx_goto (tgt := 239) d_Mod_readSymbols_152 rfl ?_
  exact k
set_option maxRecDepth 20000 in
theorem r_Mod_readSymbols_186 (l : Launch) (d : Nat) {K : zx_Kt} {RJ : zx_RJ} {Q : zi_Q} {I : zi_I} (o0 : Nat) (x1 : Int32) (x2 : Int32) (x3 : Int32) (x4 : Int32) (x5 : Int32) (x6 : Int32) (y0 : Int32) (q1 : (K.2 o0).1 = 6)
    (k : ((y0 = 0) → zi_X l (zx_rm (d + 1) 0 0) M_Mod_readSymbols K RJ Q 206 [(0, .ref o0), (1, .int x1), (2, .int x2), (3, .int x3), (4, .int x4), (5, .int y0), (6, .int x6)] [.ref o0] I) ∧ ((¬ y0 = 0) → ((¬ (I o0 14) = x1) → zi_X l (zx_rm (d + 1) 0 0) M_Mod_readSymbols K RJ Q 206 [(0, .ref o0), (1, .int x1), (2, .int x2), (3, .int x3), (4, .int x4), (5, .int y0), (6, .int x6)] [.ref o0] I) ∧ (((I o0 14) = x1) → zi_X l (zx_rm (d + 1) 0 0) M_Mod_readSymbols K RJ Q 207 [(0, .ref o0), (1, .int x1), (2, .int x2), (3, .int x3), (4, .int x4), (5, .int y0), (6, .int x6)] [.int 1, .ref o0] I))) :
    zi_X l (zx_rm (d + 1) 0 0) M_Mod_readSymbols K RJ Q 186 [(0, .ref o0), (1, .int x1), (2, .int x2), (3, .int x3), (4, .int x4), (5, .int x5), (6, .int x6)] [.int y0] I := by
  refine zx_istore (L2 := [(0, .ref o0), (1, .int x1), (2, .int x2), (3, .int x3), (4, .int x4), (5, .int y0), (6, .int x6)]) d_Mod_readSymbols_186 (Nat.le_of_ble_eq_true rfl) rfl ?_
  refine zx_aload_n d_Mod_readSymbols_188 rfl ?_
  refine zx_iload d_Mod_readSymbols_189 rfl ?_
  refine zx_if_eq (tgt := 206) d_Mod_readSymbols_191 rfl (fun c => ?_) (fun c => ?_)
  · have k := k.1 c
    exact k
  · have k := k.2 c
    refine zx_aload_n d_Mod_readSymbols_194 rfl ?_
    refine zi_getI f_Mod_98 q1 (by decide) d_Mod_readSymbols_195 ?_
    refine zx_iload_n d_Mod_readSymbols_198 rfl ?_
    refine zx_icmp_ne (tgt := 206) d_Mod_readSymbols_199 rfl (fun c => ?_) (fun c => ?_)
    · have k := k.1 c
      exact k
    · have k := k.2 c
      refine zx_iconst d_Mod_readSymbols_202 zc_1 ?_
      refine zx_goto (tgt := 207) d_Mod_readSymbols_203 rfl ?_
      exact k
set_option maxRecDepth 20000 in
theorem r_Mod_readSymbols_206 (l : Launch) (d : Nat) {K : zx_Kt} {RJ : zx_RJ} {Q : zi_Q} {I : zi_I} (o0 : Nat) (x1 : Int32) (x2 : Int32) (x3 : Int32) (x4 : Int32) (x5 : Int32) (x6 : Int32) (p0 : Nat) 
    (k : zi_X l (zx_rm (d + 1) 0 0) M_Mod_readSymbols K RJ Q 207 [(0, .ref o0), (1, .int x1), (2, .int x2), (3, .int x3), (4, .int x4), (5, .int x5), (6, .int x6)] [.int 0, .ref p0] I) :
    zi_X l (zx_rm (d + 1) 0 0) M_Mod_readSymbols K RJ Q 206 [(0, .ref o0), (1, .int x1), (2, .int x2), (3, .int x3), (4, .int x4), (5, .int x5), (6, .int x6)] [.ref p0] I := by
  refine zx_iconst d_Mod_readSymbols_206 zc_0 ?_
  exact k
set_option maxRecDepth 20000 in
theorem r_Mod_readSymbols_207 (l : Launch) (d : Nat) {K : zx_Kt} {RJ : zx_RJ} {Q : zi_Q} {I : zi_I} (o0 : Nat) (x1 : Int32) (x2 : Int32) (x3 : Int32) (x4 : Int32) (x5 : Int32) (x6 : Int32) (y0 : Int32) (p1 : Nat) (q1 : (K.2 p1).1 = 6) (q3 : (K.2 o0).1 = 6)
    (k : zi_C l (zx_rm d 0 0) M_Mod_failIf [.ref p1, .int y0, .int ((-11)), .int x4] K RJ I (fun r I2 => r = none ∧ ((x5 = 0) → zi_X l (zx_rm (d + 1) 0 0) M_Mod_readSymbols K RJ Q 239 [(0, .ref o0), (1, .int x1), (2, .int x2), (3, .int x3), (4, .int x4), (5, .int x5), (6, .int x6)] [] I2) ∧ ((¬ x5 = 0) → ((¬ (I2 o0 8) = 0) → zi_X l (zx_rm (d + 1) 0 0) M_Mod_readSymbols K RJ Q 239 [(0, .ref o0), (1, .int x1), (2, .int x2), (3, .int x3), (4, .int x4), (5, .int x5), (6, .int x6)] [] I2) ∧ (((I2 o0 8) = 0) → zi_C l (zx_rm d 0 0) M_Mod_toFront [.ref o0, .int (x6 - 1)] K RJ I2 (fun r I4 => ∃ v5, r = some (.int v5) ∧ zi_C l (zx_rm d 0 0) M_Mod_addColumn [.ref o0, .int v5, .int 1] K RJ I4 (fun r I6 => r = none ∧ zi_X l (zx_rm (d + 1) 0 0) M_Mod_readSymbols K RJ Q 239 [(0, .ref o0), (1, .int x1), (2, .int x2), (3, .int x3), (4, .int x4), (5, .int x5), (6, .int x6)] [] I6)))))) :
    zi_X l (zx_rm (d + 1) 0 0) M_Mod_readSymbols K RJ Q 207 [(0, .ref o0), (1, .int x1), (2, .int x2), (3, .int x3), (4, .int x4), (5, .int x5), (6, .int x6)] [.int y0, .ref p1] I := by
  refine zx_bipush d_Mod_readSymbols_207 zb_m11 ?_
  refine zx_iload d_Mod_readSymbols_209 rfl ?_
  refine zi_callV (hC := k) k_Mod_246 q1 (by decide) rfl rfl (Nat.le_of_ble_eq_true rfl) (Nat.le_of_ble_eq_true rfl) d_Mod_readSymbols_211 (fun r I2 k => ?_)
  obtain ⟨rfl, k⟩ := k
  refine zx_iload d_Mod_readSymbols_214 rfl ?_
  refine zx_if_eq (tgt := 239) d_Mod_readSymbols_216 rfl (fun c => ?_) (fun c => ?_)
  · have k := k.1 c
    exact k
  · have k := k.2 c
    refine zx_aload_n d_Mod_readSymbols_219 rfl ?_
    refine zi_getI f_Mod_231 q3 (by decide) d_Mod_readSymbols_220 ?_
    refine zx_if_ne (tgt := 239) d_Mod_readSymbols_223 rfl (fun c => ?_) (fun c => ?_)
    · have k := k.1 c
      exact k
    · have k := k.2 c
      refine zx_aload_n d_Mod_readSymbols_226 rfl ?_
      refine zx_aload_n d_Mod_readSymbols_227 rfl ?_
      refine zx_iload d_Mod_readSymbols_228 rfl ?_
      refine zx_iconst d_Mod_readSymbols_230 zc_1 ?_
      refine zx_isub d_Mod_readSymbols_231 ?_
      refine zi_callV (hC := k) k_Mod_121 q3 (by decide) rfl rfl (Nat.le_of_ble_eq_true rfl) (Nat.le_of_ble_eq_true rfl) d_Mod_readSymbols_232 (fun r I4 k => ?_)
      obtain ⟨v5, rfl, k⟩ := k
      refine zx_iconst d_Mod_readSymbols_235 zc_1 ?_
      refine zi_callV (hC := k) k_Mod_257 q3 (by decide) rfl rfl (Nat.le_of_ble_eq_true rfl) (Nat.le_of_ble_eq_true rfl) d_Mod_readSymbols_236 (fun r I6 k => ?_)
      obtain ⟨rfl, k⟩ := k
      exact k
set_option maxRecDepth 20000 in
theorem r_Mod_readSymbols_239 (l : Launch) (d : Nat) {K : zx_Kt} {RJ : zx_RJ} {Q : zi_Q} {I : zi_I} (o0 : Nat) (x1 : Int32) (x2 : Int32) (x3 : Int32) (x4 : Int32) (x5 : Int32) (x6 : Int32) 
    (k : zi_X l (zx_rm (d + 1) 0 0) M_Mod_readSymbols K RJ Q 23 [(0, .ref o0), (1, .int x1), (2, .int x2), (3, .int x3), (4, .int x4), (5, .int x5)] [] I) :
    zi_X l (zx_rm (d + 1) 0 0) M_Mod_readSymbols K RJ Q 239 [(0, .ref o0), (1, .int x1), (2, .int x2), (3, .int x3), (4, .int x4), (5, .int x5), (6, .int x6)] [] I := by
  refine zx_goto (tgt := 23) d_Mod_readSymbols_239 rfl ?_
  refine zx_locs [0, 1, 2, 3, 4, 5] rfl ?_
  exact k
set_option maxRecDepth 20000 in
theorem r_Mod_readSymbols_242 (l : Launch) (d : Nat) {K : zx_Kt} {RJ : zx_RJ} {Q : zi_Q} {I : zi_I} (o0 : Nat) (x1 : Int32) (x2 : Int32) (x3 : Int32) (x4 : Int32) (x5 : Int32) 
    (k : Q (some (.int x4)) I) :
    zi_X l (zx_rm (d + 1) 0 0) M_Mod_readSymbols K RJ Q 242 [(0, .ref o0), (1, .int x1), (2, .int x2), (3, .int x3), (4, .int x4), (5, .int x5)] [] I := by
  refine zx_iload d_Mod_readSymbols_242 rfl ?_
  exact zi_iret d_Mod_readSymbols_244 rfl k
set_option maxRecDepth 20000 in
theorem r_Mod_readBlock_0 (l : Launch) (d : Nat) {K : zx_Kt} {RJ : zx_RJ} {Q : zi_Q} {I : zi_I} (o0 : Nat) (x1 : Int32) (q1 : (K.2 o0).1 = 6)
    (k : zi_C l (zx_rm d 0 0) M_Mod_take [.ref o0, .int 16, .int (I o0 7)] K RJ (zx_u2 I o0 20 (I o0 7)) (fun r I2 => ∃ v3, r = some (.int v3) ∧ zi_C l (zx_rm d 0 0) M_Mod_take [.ref o0, .int 6, .int (I2 o0 7)] K RJ (zx_u2 I2 o0 19 v3) (fun r I4 => ∃ v5, r = some (.int v5) ∧ ((¬ (I4 o0 8) = 0) → zi_X l (zx_rm (d + 1) 0 0) M_Mod_readBlock K RJ Q 47 [(0, .ref o0), (1, .int x1)] [] (zx_u2 I4 o0 21 v5)) ∧ (((I4 o0 8) = 0) → zi_C l (zx_rm d 0 0) M_Mod_readMaps [.ref o0] K RJ (zx_u2 I4 o0 21 v5) (fun r I6 => r = none ∧ zi_X l (zx_rm (d + 1) 0 0) M_Mod_readBlock K RJ Q 47 [(0, .ref o0), (1, .int x1)] [] I6))))) :
    zi_X l (zx_rm (d + 1) 0 0) M_Mod_readBlock K RJ Q 0 [(0, .ref o0), (1, .int x1)] [] I := by
  refine zx_aload_n d_Mod_readBlock_0 rfl ?_
  refine zx_aload_n d_Mod_readBlock_1 rfl ?_
  refine zi_getI f_Mod_237 q1 (by decide) d_Mod_readBlock_2 ?_
  refine zi_putI f_Mod_260 q1 (by decide) d_Mod_readBlock_5 ?_
  refine zx_aload_n d_Mod_readBlock_8 rfl ?_
  refine zx_aload_n d_Mod_readBlock_9 rfl ?_
  refine zx_bipush d_Mod_readBlock_10 zb_16 ?_
  refine zx_aload_n d_Mod_readBlock_12 rfl ?_
  refine zi_getIe f_Mod_260 q1 (by decide) zx_u2_s d_Mod_readBlock_13 ?_
  refine zi_callV (hC := k) k_Mod_243 q1 (by decide) rfl rfl (Nat.le_of_ble_eq_true rfl) (Nat.le_of_ble_eq_true rfl) d_Mod_readBlock_16 (fun r I2 k => ?_)
  obtain ⟨v3, rfl, k⟩ := k
  refine zi_putI f_Mod_163 q1 (by decide) d_Mod_readBlock_19 ?_
  refine zx_aload_n d_Mod_readBlock_22 rfl ?_
  refine zx_aload_n d_Mod_readBlock_23 rfl ?_
  refine zx_bipush d_Mod_readBlock_24 zb_6 ?_
  refine zx_aload_n d_Mod_readBlock_26 rfl ?_
  refine zi_getIe f_Mod_237 q1 (by decide) (zx_u2_k (by decide)) d_Mod_readBlock_27 ?_
  refine zi_callV (hC := k) k_Mod_243 q1 (by decide) rfl rfl (Nat.le_of_ble_eq_true rfl) (Nat.le_of_ble_eq_true rfl) d_Mod_readBlock_30 (fun r I4 k => ?_)
  obtain ⟨v5, rfl, k⟩ := k
  refine zi_putI f_Mod_105 q1 (by decide) d_Mod_readBlock_33 ?_
  refine zx_aload_n d_Mod_readBlock_36 rfl ?_
  refine zi_getIe f_Mod_231 q1 (by decide) (zx_u2_k (by decide)) d_Mod_readBlock_37 ?_
  refine zx_if_ne (tgt := 47) d_Mod_readBlock_40 rfl (fun c => ?_) (fun c => ?_)
  · have k := k.1 c
    exact k
  · have k := k.2 c
    refine zx_aload_n d_Mod_readBlock_43 rfl ?_
    refine zi_callV (hC := k) k_Mod_263 q1 (by decide) rfl rfl (Nat.le_of_ble_eq_true rfl) (Nat.le_of_ble_eq_true rfl) d_Mod_readBlock_44 (fun r I6 k => ?_)
    obtain ⟨rfl, k⟩ := k
    exact k
set_option maxRecDepth 20000 in
theorem r_Mod_readBlock_47 (l : Launch) (d : Nat) {K : zx_Kt} {RJ : zx_RJ} {Q : zi_Q} {I : zi_I} (o0 : Nat) (x1 : Int32) (q1 : (K.2 o0).1 = 6)
    (k : ((¬ (I o0 8) = 0) → zi_X l (zx_rm (d + 1) 0 0) M_Mod_readBlock K RJ Q 70 [(0, .ref o0), (1, .int x1), (2, .int (I o0 7))] [.int 1, .ref o0] I) ∧ (((I o0 8) = 0) → zi_C l (zx_rm d 0 0) M_Mod_take [.ref o0, .int 3, .int (I o0 7)] K RJ I (fun r I2 => ∃ v3, r = some (.int v3) ∧ zi_X l (zx_rm (d + 1) 0 0) M_Mod_readBlock K RJ Q 70 [(0, .ref o0), (1, .int x1), (2, .int (I o0 7))] [.int v3, .ref o0] I2))) :
    zi_X l (zx_rm (d + 1) 0 0) M_Mod_readBlock K RJ Q 47 [(0, .ref o0), (1, .int x1)] [] I := by
  refine zx_aload_n d_Mod_readBlock_47 rfl ?_
  refine zi_getI f_Mod_237 q1 (by decide) d_Mod_readBlock_48 ?_
  refine zx_istore_n (L2 := [(0, .ref o0), (1, .int x1), (2, .int (I o0 7))]) d_Mod_readBlock_51 (Nat.le_of_ble_eq_true rfl) rfl ?_
  refine zx_aload_n d_Mod_readBlock_52 rfl ?_
  refine zx_aload_n d_Mod_readBlock_53 rfl ?_
  refine zi_getI f_Mod_231 q1 (by decide) d_Mod_readBlock_54 ?_
  refine zx_if_ne (tgt := 69) d_Mod_readBlock_57 rfl (fun c => ?_) (fun c => ?_)
  · have k := k.1 c
    refine zx_iconst d_Mod_readBlock_69 zc_1 ?_
    exact k
  · have k := k.2 c
    refine zx_aload_n d_Mod_readBlock_60 rfl ?_
    refine zx_iconst d_Mod_readBlock_61 zc_3 ?_
    refine zx_iload_n d_Mod_readBlock_62 rfl ?_
    refine zi_callV (hC := k) k_Mod_243 q1 (by decide) rfl rfl (Nat.le_of_ble_eq_true rfl) (Nat.le_of_ble_eq_true rfl) d_Mod_readBlock_63 (fun r I2 k => ?_)
    obtain ⟨v3, rfl, k⟩ := k
    refine zx_goto (tgt := 70) d_Mod_readBlock_66 rfl ?_
    exact k
set_option maxRecDepth 20000 in
theorem r_Mod_readBlock_70 (l : Launch) (d : Nat) {K : zx_Kt} {RJ : zx_RJ} {Q : zi_Q} {I : zi_I} (o0 : Nat) (x1 : Int32) (x2 : Int32) (y0 : Int32) (p1 : Nat) (q1 : (K.2 p1).1 = 6) (q2 : (K.2 o0).1 = 6)
    (k : ((((zx_u2 I p1 25 y0) o0 25) < 1) → zi_X l (zx_rm (d + 1) 0 0) M_Mod_readBlock K RJ Q 90 [(0, .ref o0), (1, .int x1), (2, .int x2)] [.ref o0] (zx_u2 I p1 25 y0)) ∧ ((¬ ((zx_u2 I p1 25 y0) o0 25) < 1) → ((((zx_u2 I p1 25 y0) o0 25) ≤ 4) → zi_X l (zx_rm (d + 1) 0 0) M_Mod_readBlock K RJ Q 95 [(0, .ref o0), (1, .int x1), (2, .int x2)] [.int 0, .ref o0] (zx_u2 I p1 25 y0)) ∧ ((¬ ((zx_u2 I p1 25 y0) o0 25) ≤ 4) → zi_X l (zx_rm (d + 1) 0 0) M_Mod_readBlock K RJ Q 90 [(0, .ref o0), (1, .int x1), (2, .int x2)] [.ref o0] (zx_u2 I p1 25 y0)))) :
    zi_X l (zx_rm (d + 1) 0 0) M_Mod_readBlock K RJ Q 70 [(0, .ref o0), (1, .int x1), (2, .int x2)] [.int y0, .ref p1] I := by
  refine zi_putI f_Mod_134 q1 (by decide) d_Mod_readBlock_70 ?_
  refine zx_aload_n d_Mod_readBlock_73 rfl ?_
  refine zx_aload_n d_Mod_readBlock_74 rfl ?_
  refine zi_getI f_Mod_134 q2 (by decide) d_Mod_readBlock_75 ?_
  refine zx_iconst d_Mod_readBlock_78 zc_1 ?_
  refine zx_icmp_lt (tgt := 90) d_Mod_readBlock_79 rfl (fun c => ?_) (fun c => ?_)
  · have k := k.1 c
    exact k
  · have k := k.2 c
    refine zx_aload_n d_Mod_readBlock_82 rfl ?_
    refine zi_getI f_Mod_134 q2 (by decide) d_Mod_readBlock_83 ?_
    refine zx_iconst d_Mod_readBlock_86 zc_4 ?_
    refine zx_icmp_le (tgt := 94) d_Mod_readBlock_87 rfl (fun c => ?_) (fun c => ?_)
    · have k := k.1 c
      refine zx_iconst d_Mod_readBlock_94 zc_0 ?_
      exact k
    · have k := k.2 c
      exact k
set_option maxRecDepth 20000 in
theorem r_Mod_readBlock_90 (l : Launch) (d : Nat) {K : zx_Kt} {RJ : zx_RJ} {Q : zi_Q} {I : zi_I} (o0 : Nat) (x1 : Int32) (x2 : Int32) (p0 : Nat) 
    (k : zi_X l (zx_rm (d + 1) 0 0) M_Mod_readBlock K RJ Q 95 [(0, .ref o0), (1, .int x1), (2, .int x2)] [.int 1, .ref p0] I) :
    zi_X l (zx_rm (d + 1) 0 0) M_Mod_readBlock K RJ Q 90 [(0, .ref o0), (1, .int x1), (2, .int x2)] [.ref p0] I := by
  refine zx_iconst d_Mod_readBlock_90 zc_1 ?_
  refine zx_goto (tgt := 95) d_Mod_readBlock_91 rfl ?_
  exact k
set_option maxRecDepth 20000 in
theorem r_Mod_readBlock_95 (l : Launch) (d : Nat) {K : zx_Kt} {RJ : zx_RJ} {Q : zi_Q} {I : zi_I} (o0 : Nat) (x1 : Int32) (x2 : Int32) (y0 : Int32) (p1 : Nat) (q1 : (K.2 p1).1 = 6) (q3 : (K.2 o0).1 = 6)
    (k : zi_C l (zx_rm d 0 0) M_Mod_failIf [.ref p1, .int y0, .int ((-6)), .int x2] K RJ I (fun r I2 => r = none ∧ ((¬ (I2 o0 8) = 0) → zi_X l (zx_rm (d + 1) 0 0) M_Mod_readBlock K RJ Q 125 [(0, .ref o0), (1, .int x1), (2, .int (I2 o0 7))] [.int 1, .ref o0] I2) ∧ (((I2 o0 8) = 0) → zi_C l (zx_rm d 0 0) M_Mod_take [.ref o0, .int 6, .int (I2 o0 7)] K RJ I2 (fun r I4 => ∃ v5, r = some (.int v5) ∧ zi_X l (zx_rm (d + 1) 0 0) M_Mod_readBlock K RJ Q 125 [(0, .ref o0), (1, .int x1), (2, .int (I2 o0 7))] [.int v5, .ref o0] I4)))) :
    zi_X l (zx_rm (d + 1) 0 0) M_Mod_readBlock K RJ Q 95 [(0, .ref o0), (1, .int x1), (2, .int x2)] [.int y0, .ref p1] I := by
  refine zx_bipush d_Mod_readBlock_95 zb_m6 ?_
  refine zx_iload_n d_Mod_readBlock_97 rfl ?_
  refine zi_callV (hC := k) k_Mod_246 q1 (by decide) rfl rfl (Nat.le_of_ble_eq_true rfl) (Nat.le_of_ble_eq_true rfl) d_Mod_readBlock_98 (fun r I2 k => ?_)
  obtain ⟨rfl, k⟩ := k
  refine zx_aload_n d_Mod_readBlock_101 rfl ?_
  refine zi_getI f_Mod_237 q3 (by decide) d_Mod_readBlock_102 ?_
  refine zx_istore_n (L2 := [(0, .ref o0), (1, .int x1), (2, .int (I2 o0 7))]) d_Mod_readBlock_105 (Nat.le_of_ble_eq_true rfl) rfl ?_
  refine zx_aload_n d_Mod_readBlock_106 rfl ?_
  refine zx_aload_n d_Mod_readBlock_107 rfl ?_
  refine zi_getI f_Mod_231 q3 (by decide) d_Mod_readBlock_108 ?_
  refine zx_if_ne (tgt := 124) d_Mod_readBlock_111 rfl (fun c => ?_) (fun c => ?_)
  · have k := k.1 c
    refine zx_iconst d_Mod_readBlock_124 zc_1 ?_
    exact k
  · have k := k.2 c
    refine zx_aload_n d_Mod_readBlock_114 rfl ?_
    refine zx_bipush d_Mod_readBlock_115 zb_6 ?_
    refine zx_iload_n d_Mod_readBlock_117 rfl ?_
    refine zi_callV (hC := k) k_Mod_243 q3 (by decide) rfl rfl (Nat.le_of_ble_eq_true rfl) (Nat.le_of_ble_eq_true rfl) d_Mod_readBlock_118 (fun r I4 k => ?_)
    obtain ⟨v5, rfl, k⟩ := k
    refine zx_goto (tgt := 125) d_Mod_readBlock_121 rfl ?_
    exact k
set_option maxRecDepth 20000 in
theorem r_Mod_readBlock_125 (l : Launch) (d : Nat) {K : zx_Kt} {RJ : zx_RJ} {Q : zi_Q} {I : zi_I} (o0 : Nat) (x1 : Int32) (x2 : Int32) (y0 : Int32) (p1 : Nat) (q1 : (K.2 p1).1 = 6) (q2 : (K.2 o0).1 = 6)
    (k : ((¬ ((zx_u2 I p1 28 y0) o0 28) = 0) → zi_X l (zx_rm (d + 1) 0 0) M_Mod_readBlock K RJ Q 141 [(0, .ref o0), (1, .int x1), (2, .int x2)] [.int 0, .ref o0] (zx_u2 I p1 28 y0)) ∧ ((((zx_u2 I p1 28 y0) o0 28) = 0) → zi_X l (zx_rm (d + 1) 0 0) M_Mod_readBlock K RJ Q 141 [(0, .ref o0), (1, .int x1), (2, .int x2)] [.int 1, .ref o0] (zx_u2 I p1 28 y0))) :
    zi_X l (zx_rm (d + 1) 0 0) M_Mod_readBlock K RJ Q 125 [(0, .ref o0), (1, .int x1), (2, .int x2)] [.int y0, .ref p1] I := by
  refine zi_putI f_Mod_131 q1 (by decide) d_Mod_readBlock_125 ?_
  refine zx_aload_n d_Mod_readBlock_128 rfl ?_
  refine zx_aload_n d_Mod_readBlock_129 rfl ?_
  refine zi_getI f_Mod_131 q2 (by decide) d_Mod_readBlock_130 ?_
  refine zx_if_ne (tgt := 140) d_Mod_readBlock_133 rfl (fun c => ?_) (fun c => ?_)
  · have k := k.1 c
    refine zx_iconst d_Mod_readBlock_140 zc_0 ?_
    exact k
  · have k := k.2 c
    refine zx_iconst d_Mod_readBlock_136 zc_1 ?_
    refine zx_goto (tgt := 141) d_Mod_readBlock_137 rfl ?_
    exact k
set_option maxRecDepth 20000 in
theorem r_Mod_readBlock_141 (l : Launch) (d : Nat) {K : zx_Kt} {RJ : zx_RJ} {Q : zi_Q} {I : zi_I} (o0 : Nat) (x1 : Int32) (x2 : Int32) (y0 : Int32) (p1 : Nat) (q1 : (K.2 p1).1 = 6) (q3 : (K.2 o0).1 = 6)
    (k : zi_C l (zx_rm d 0 0) M_Mod_failIf [.ref p1, .int y0, .int ((-7)), .int x2] K RJ I (fun r I2 => r = none ∧ ((¬ (I2 o0 8) = 0) → zi_X l (zx_rm (d + 1) 0 0) M_Mod_readBlock K RJ Q 158 [(0, .ref o0), (1, .int x1), (2, .int x2)] [] I2) ∧ (((I2 o0 8) = 0) → zi_C l (zx_rm d 0 0) M_Mod_readPicks [.ref o0] K RJ I2 (fun r I4 => r = none ∧ zi_X l (zx_rm (d + 1) 0 0) M_Mod_readBlock K RJ Q 158 [(0, .ref o0), (1, .int x1), (2, .int x2)] [] I4)))) :
    zi_X l (zx_rm (d + 1) 0 0) M_Mod_readBlock K RJ Q 141 [(0, .ref o0), (1, .int x1), (2, .int x2)] [.int y0, .ref p1] I := by
  refine zx_bipush d_Mod_readBlock_141 zb_m7 ?_
  refine zx_iload_n d_Mod_readBlock_143 rfl ?_
  refine zi_callV (hC := k) k_Mod_246 q1 (by decide) rfl rfl (Nat.le_of_ble_eq_true rfl) (Nat.le_of_ble_eq_true rfl) d_Mod_readBlock_144 (fun r I2 k => ?_)
  obtain ⟨rfl, k⟩ := k
  refine zx_aload_n d_Mod_readBlock_147 rfl ?_
  refine zi_getI f_Mod_231 q3 (by decide) d_Mod_readBlock_148 ?_
  refine zx_if_ne (tgt := 158) d_Mod_readBlock_151 rfl (fun c => ?_) (fun c => ?_)
  · have k := k.1 c
    exact k
  · have k := k.2 c
    refine zx_aload_n d_Mod_readBlock_154 rfl ?_
    refine zi_callV (hC := k) k_Mod_266 q3 (by decide) rfl rfl (Nat.le_of_ble_eq_true rfl) (Nat.le_of_ble_eq_true rfl) d_Mod_readBlock_155 (fun r I4 k => ?_)
    obtain ⟨rfl, k⟩ := k
    exact k
set_option maxRecDepth 20000 in
theorem r_Mod_readBlock_158 (l : Launch) (d : Nat) {K : zx_Kt} {RJ : zx_RJ} {Q : zi_Q} {I : zi_I} (o0 : Nat) (x1 : Int32) (x2 : Int32) 
    (k : zi_X l (zx_rm (d + 1) 0 0) M_Mod_readBlock K RJ Q 160 [(0, .ref o0), (1, .int x1), (2, .int x2), (3, .int 0)] [] I) :
    zi_X l (zx_rm (d + 1) 0 0) M_Mod_readBlock K RJ Q 158 [(0, .ref o0), (1, .int x1), (2, .int x2)] [] I := by
  refine zx_iconst d_Mod_readBlock_158 zc_0 ?_
  refine zx_istore_n (L2 := [(0, .ref o0), (1, .int x1), (2, .int x2), (3, .int 0)]) d_Mod_readBlock_159 (Nat.le_of_ble_eq_true rfl) rfl ?_
  exact k
set_option maxRecDepth 20000 in
theorem r_Mod_readBlock_160 (l : Launch) (d : Nat) {K : zx_Kt} {RJ : zx_RJ} {Q : zi_Q} {I : zi_I} (o0 : Nat) (x1 : Int32) (x2 : Int32) (x3 : Int32) (q1 : (K.2 o0).1 = 6)
    (k : (((I o0 25) ≤ x3) → zi_X l (zx_rm (d + 1) 0 0) M_Mod_readBlock K RJ Q 191 [(0, .ref o0), (1, .int x1), (2, .int x2), (3, .int x3)] [] I) ∧ ((¬ (I o0 25) ≤ x3) → ((¬ (I o0 8) = 0) → zi_X l (zx_rm (d + 1) 0 0) M_Mod_readBlock K RJ Q 191 [(0, .ref o0), (1, .int x1), (2, .int x2), (3, .int x3)] [] I) ∧ (((I o0 8) = 0) → zi_C l (zx_rm d 0 0) M_Mod_readTable [.ref o0, .int x3] K RJ I (fun r I2 => r = none ∧ zi_C l (zx_rm d 0 0) M_Mod_makeCodes [.ref o0, .int x3] K RJ I2 (fun r I3 => r = none ∧ zi_X l (zx_rm (d + 1) 0 0) M_Mod_readBlock K RJ Q 160 [(0, .ref o0), (1, .int x1), (2, .int x2), (3, .int (x3 + 1))] [] I3))))) :
    zi_X l (zx_rm (d + 1) 0 0) M_Mod_readBlock K RJ Q 160 [(0, .ref o0), (1, .int x1), (2, .int x2), (3, .int x3)] [] I := by
  refine zx_iload_n d_Mod_readBlock_160 rfl ?_
  refine zx_aload_n d_Mod_readBlock_161 rfl ?_
  refine zi_getI f_Mod_134 q1 (by decide) d_Mod_readBlock_162 ?_
  refine zx_icmp_ge (tgt := 191) d_Mod_readBlock_165 rfl (fun c => ?_) (fun c => ?_)
  · have k := k.1 c
    exact k
  · have k := k.2 c
    refine zx_aload_n d_Mod_readBlock_168 rfl ?_
    refine zi_getI f_Mod_231 q1 (by decide) d_Mod_readBlock_169 ?_
    refine zx_if_ne (tgt := 191) d_Mod_readBlock_172 rfl (fun c => ?_) (fun c => ?_)
    · have k := k.1 c
      exact k
    · have k := k.2 c
      refine zx_aload_n d_Mod_readBlock_175 rfl ?_
      refine zx_iload_n d_Mod_readBlock_176 rfl ?_
      refine zi_callV (hC := k) k_Mod_269 q1 (by decide) rfl rfl (Nat.le_of_ble_eq_true rfl) (Nat.le_of_ble_eq_true rfl) d_Mod_readBlock_177 (fun r I2 k => ?_)
      obtain ⟨rfl, k⟩ := k
      refine zx_aload_n d_Mod_readBlock_180 rfl ?_
      refine zx_iload_n d_Mod_readBlock_181 rfl ?_
      refine zi_callV (hC := k) k_Mod_143 q1 (by decide) rfl rfl (Nat.le_of_ble_eq_true rfl) (Nat.le_of_ble_eq_true rfl) d_Mod_readBlock_182 (fun r I3 k => ?_)
      obtain ⟨rfl, k⟩ := k
      refine zx_iinc (L2 := [(0, .ref o0), (1, .int x1), (2, .int x2), (3, .int (x3 + 1))]) d_Mod_readBlock_185 rfl (Nat.le_of_ble_eq_true rfl) zc_1 rfl ?_
      refine zx_goto (tgt := 160) d_Mod_readBlock_188 rfl ?_
      exact k
set_option maxRecDepth 20000 in
theorem r_Mod_readBlock_191 (l : Launch) (d : Nat) {K : zx_Kt} {RJ : zx_RJ} {Q : zi_Q} {I : zi_I} (o0 : Nat) (x1 : Int32) (x2 : Int32) (x3 : Int32) (q1 : (K.2 o0).1 = 6)
    (k : (((I o0 8) = 0) → zi_C l (zx_rm d 0 0) M_Mod_readSymbols [.ref o0, .int x1] K RJ I (fun r I2 => ∃ v3, r = some (.int v3) ∧ (((I2 o0 21) < (I2 o0 14)) → zi_X l (zx_rm (d + 1) 0 0) M_Mod_readBlock K RJ Q 222 [(0, .ref o0), (1, .int x1), (2, .int x2), (3, .int v3)] [.int 0, .ref o0] I2) ∧ ((¬ (I2 o0 21) < (I2 o0 14)) → zi_X l (zx_rm (d + 1) 0 0) M_Mod_readBlock K RJ Q 222 [(0, .ref o0), (1, .int x1), (2, .int x2), (3, .int v3)] [.int 1, .ref o0] I2))) ∧ ((¬ (I o0 8) = 0) → Q none I)) :
    zi_X l (zx_rm (d + 1) 0 0) M_Mod_readBlock K RJ Q 191 [(0, .ref o0), (1, .int x1), (2, .int x2), (3, .int x3)] [] I := by
  refine zx_aload_n d_Mod_readBlock_191 rfl ?_
  refine zi_getI f_Mod_231 q1 (by decide) d_Mod_readBlock_192 ?_
  refine zx_if_eq (tgt := 199) d_Mod_readBlock_195 rfl (fun c => ?_) (fun c => ?_)
  · have k := k.1 c
    refine zx_aload_n d_Mod_readBlock_199 rfl ?_
    refine zx_iload_n d_Mod_readBlock_200 rfl ?_
    refine zi_callV (hC := k) k_Mod_272 q1 (by decide) rfl rfl (Nat.le_of_ble_eq_true rfl) (Nat.le_of_ble_eq_true rfl) d_Mod_readBlock_201 (fun r I2 k => ?_)
    obtain ⟨v3, rfl, k⟩ := k
    refine zx_istore_n (L2 := [(0, .ref o0), (1, .int x1), (2, .int x2), (3, .int v3)]) d_Mod_readBlock_204 (Nat.le_of_ble_eq_true rfl) rfl ?_
    refine zx_aload_n d_Mod_readBlock_205 rfl ?_
    refine zx_aload_n d_Mod_readBlock_206 rfl ?_
    refine zi_getI f_Mod_105 q1 (by decide) d_Mod_readBlock_207 ?_
    refine zx_aload_n d_Mod_readBlock_210 rfl ?_
    refine zi_getI f_Mod_98 q1 (by decide) d_Mod_readBlock_211 ?_
    refine zx_icmp_lt (tgt := 221) d_Mod_readBlock_214 rfl (fun c => ?_) (fun c => ?_)
    · have k := k.1 c
      refine zx_iconst d_Mod_readBlock_221 zc_0 ?_
      exact k
    · have k := k.2 c
      refine zx_iconst d_Mod_readBlock_217 zc_1 ?_
      refine zx_goto (tgt := 222) d_Mod_readBlock_218 rfl ?_
      exact k
  · have k := k.2 c
    exact zi_vret d_Mod_readBlock_198 rfl k
set_option maxRecDepth 20000 in
theorem r_Mod_readBlock_222 (l : Launch) (d : Nat) {K : zx_Kt} {RJ : zx_RJ} {Q : zi_Q} {I : zi_I} (o0 : Nat) (x1 : Int32) (x2 : Int32) (x3 : Int32) (y0 : Int32) (p1 : Nat) (q1 : (K.2 p1).1 = 6) (q3 : (K.2 o0).1 = 6)
    (k : zi_C l (zx_rm d 0 0) M_Mod_failIf [.ref p1, .int y0, .int ((-12)), .int x3] K RJ I (fun r I2 => r = none ∧ ((¬ (I2 o0 8) = 0) → zi_X l (zx_rm (d + 1) 0 0) M_Mod_readBlock K RJ Q 262 [(0, .ref o0), (1, .int x1), (2, .int x2), (3, .int x3)] [] I2) ∧ (((I2 o0 8) = 0) → zi_C l (zx_rm d 0 0) M_Mod_unsort [.ref o0] K RJ I2 (fun r I4 => r = none ∧ zi_C l (zx_rm d 0 0) M_Mod_lengthen [.ref o0] K RJ I4 (fun r I5 => ∃ v6, r = some (.int v6) ∧ ((¬ v6 = 0) → zi_X l (zx_rm (d + 1) 0 0) M_Mod_readBlock K RJ Q 256 [(0, .ref o0), (1, .int x1), (2, .int x2), (3, .int x3), (4, .int v6)] [.int 0, .ref o0] I5) ∧ ((v6 = 0) → zi_X l (zx_rm (d + 1) 0 0) M_Mod_readBlock K RJ Q 256 [(0, .ref o0), (1, .int x1), (2, .int x2), (3, .int x3), (4, .int v6)] [.int 1, .ref o0] I5)))))) :
    zi_X l (zx_rm (d + 1) 0 0) M_Mod_readBlock K RJ Q 222 [(0, .ref o0), (1, .int x1), (2, .int x2), (3, .int x3)] [.int y0, .ref p1] I := by
  refine zx_bipush d_Mod_readBlock_222 zb_m12 ?_
  refine zx_iload_n d_Mod_readBlock_224 rfl ?_
  refine zi_callV (hC := k) k_Mod_246 q1 (by decide) rfl rfl (Nat.le_of_ble_eq_true rfl) (Nat.le_of_ble_eq_true rfl) d_Mod_readBlock_225 (fun r I2 k => ?_)
  obtain ⟨rfl, k⟩ := k
  refine zx_aload_n d_Mod_readBlock_228 rfl ?_
  refine zi_getI f_Mod_231 q3 (by decide) d_Mod_readBlock_229 ?_
  refine zx_if_ne (tgt := 262) d_Mod_readBlock_232 rfl (fun c => ?_) (fun c => ?_)
  · have k := k.1 c
    exact k
  · have k := k.2 c
    refine zx_aload_n d_Mod_readBlock_235 rfl ?_
    refine zi_callV (hC := k) k_Mod_275 q3 (by decide) rfl rfl (Nat.le_of_ble_eq_true rfl) (Nat.le_of_ble_eq_true rfl) d_Mod_readBlock_236 (fun r I4 k => ?_)
    obtain ⟨rfl, k⟩ := k
    refine zx_aload_n d_Mod_readBlock_239 rfl ?_
    refine zi_callV (hC := k) k_Mod_278 q3 (by decide) rfl rfl (Nat.le_of_ble_eq_true rfl) (Nat.le_of_ble_eq_true rfl) d_Mod_readBlock_240 (fun r I5 k => ?_)
    obtain ⟨v6, rfl, k⟩ := k
    refine zx_istore (L2 := [(0, .ref o0), (1, .int x1), (2, .int x2), (3, .int x3), (4, .int v6)]) d_Mod_readBlock_243 (Nat.le_of_ble_eq_true rfl) rfl ?_
    refine zx_aload_n d_Mod_readBlock_245 rfl ?_
    refine zx_iload d_Mod_readBlock_246 rfl ?_
    refine zx_if_ne (tgt := 255) d_Mod_readBlock_248 rfl (fun c => ?_) (fun c => ?_)
    · have k := k.1 c
      refine zx_iconst d_Mod_readBlock_255 zc_0 ?_
      exact k
    · have k := k.2 c
      refine zx_iconst d_Mod_readBlock_251 zc_1 ?_
      refine zx_goto (tgt := 256) d_Mod_readBlock_252 rfl ?_
      exact k
set_option maxRecDepth 20000 in
theorem r_Mod_readBlock_256 (l : Launch) (d : Nat) {K : zx_Kt} {RJ : zx_RJ} {Q : zi_Q} {I : zi_I} (o0 : Nat) (x1 : Int32) (x2 : Int32) (x3 : Int32) (x4 : Int32) (y0 : Int32) (p1 : Nat) (q1 : (K.2 p1).1 = 6)
    (k : zi_C l (zx_rm d 0 0) M_Mod_failIf [.ref p1, .int y0, .int ((-13)), .int x3] K RJ I (fun r I2 => r = none ∧ zi_X l (zx_rm (d + 1) 0 0) M_Mod_readBlock K RJ Q 262 [(0, .ref o0), (1, .int x1), (2, .int x2), (3, .int x3)] [] I2)) :
    zi_X l (zx_rm (d + 1) 0 0) M_Mod_readBlock K RJ Q 256 [(0, .ref o0), (1, .int x1), (2, .int x2), (3, .int x3), (4, .int x4)] [.int y0, .ref p1] I := by
  refine zx_bipush d_Mod_readBlock_256 zb_m13 ?_
  refine zx_iload_n d_Mod_readBlock_258 rfl ?_
  refine zi_callV (hC := k) k_Mod_246 q1 (by decide) rfl rfl (Nat.le_of_ble_eq_true rfl) (Nat.le_of_ble_eq_true rfl) d_Mod_readBlock_259 (fun r I2 k => ?_)
  obtain ⟨rfl, k⟩ := k
  refine zx_locs [0, 1, 2, 3] rfl ?_
  exact k
set_option maxRecDepth 20000 in
theorem r_Mod_readBlock_262 (l : Launch) (d : Nat) {K : zx_Kt} {RJ : zx_RJ} {Q : zi_Q} {I : zi_I} (o0 : Nat) (x1 : Int32) (x2 : Int32) (x3 : Int32) 
    (k : Q none I) :
    zi_X l (zx_rm (d + 1) 0 0) M_Mod_readBlock K RJ Q 262 [(0, .ref o0), (1, .int x1), (2, .int x2), (3, .int x3)] [] I := by
  exact zi_vret d_Mod_readBlock_262 rfl k
set_option maxRecDepth 20000 in
theorem r_Mod_tooMuch_0 (l : Launch) (d : Nat) {K : zx_Kt} {RJ : zx_RJ} {Q : zi_Q} {I : zi_I} (o0 : Nat) (q1 : (K.2 o0).1 = 6)
    (k : ((((I o0 5) + (I o0 12)) ≤ 2000) → Q (some (.int 0)) I) ∧ ((¬ ((I o0 5) + (I o0 12)) ≤ 2000) → Q (some (.int 1)) I)) :
    zi_X l (zx_rm d 0 0) M_Mod_tooMuch K RJ Q 0 [(0, .ref o0)] [] I := by
  refine zx_aload_n d_Mod_tooMuch_0 rfl ?_
  refine zi_getI f_Mod_86 q1 (by decide) d_Mod_tooMuch_1 ?_
  refine zx_aload_n d_Mod_tooMuch_4 rfl ?_
  refine zi_getI f_Mod_91 q1 (by decide) d_Mod_tooMuch_5 ?_
  refine zx_iadd d_Mod_tooMuch_8 ?_
  refine zx_sipush d_Mod_tooMuch_9 zs_2000 ?_
  refine zx_icmp_le (tgt := 19) d_Mod_tooMuch_12 rfl (fun c => ?_) (fun c => ?_)
  · have k := k.1 c
    refine zx_iconst d_Mod_tooMuch_19 zc_0 ?_
    exact zi_zret d_Mod_tooMuch_20 rfl rfl k
  · have k := k.2 c
    refine zx_iconst d_Mod_tooMuch_15 zc_1 ?_
    refine zx_goto (tgt := 20) d_Mod_tooMuch_16 rfl ?_
    exact zi_zret d_Mod_tooMuch_20 rfl rfl k
set_option maxRecDepth 20000 in
theorem r_Mod_addBytes_0 (l : Launch) (d : Nat) {K : zx_Kt} {RJ : zx_RJ} {Q : zi_Q} {I : zi_I} (o0 : Nat) 
    (k : zi_X l (zx_rm d 0 0) M_Mod_addBytes K RJ Q 2 [(0, .ref o0), (1, .int 0)] [] I) :
    zi_X l (zx_rm d 0 0) M_Mod_addBytes K RJ Q 0 [(0, .ref o0)] [] I := by
  refine zx_iconst d_Mod_addBytes_0 zc_0 ?_
  refine zx_istore_n (L2 := [(0, .ref o0), (1, .int 0)]) d_Mod_addBytes_1 (Nat.le_of_ble_eq_true rfl) rfl ?_
  exact k
set_option maxRecDepth 20000 in
theorem r_Mod_addBytes_2 (l : Launch) (d : Nat) {K : zx_Kt} {RJ : zx_RJ} {Q : zi_Q} {I : zi_I} (o0 : Nat) (x1 : Int32) (q1 : (K.2 o0).1 = 6) {r2 : Nat} (e3 : RJ.1 o0 6 = r2) (z4 : r2 ≠ 0) {r5 : Nat} (e6 : RJ.1 o0 13 = r5) (z7 : r5 ≠ 0) {n9 : Nat} (a8 : K.2 r5 = (0, n9)) {n14 : Nat} (a13 : K.2 r2 = (0, n14))
    (k : (((I o0 12) ≤ x1) → Q none I) ∧ ((¬ (I o0 12) ≤ x1) → ∃ j10, x1 = nI j10 ∧ j10 < n9 ∧ ∃ j15, I o0 5 = nI j15 ∧ j15 < n14 ∧ zi_X l (zx_rm d 0 0) M_Mod_addBytes K RJ Q 2 [(0, .ref o0), (1, .int (x1 + 1))] [] (zx_u2 (zx_u2 I r2 j15 (I r5 j10)) o0 5 ((I o0 5) + 1)))) :
    zi_X l (zx_rm d 0 0) M_Mod_addBytes K RJ Q 2 [(0, .ref o0), (1, .int x1)] [] I := by
  refine zx_iload_n d_Mod_addBytes_2 rfl ?_
  refine zx_aload_n d_Mod_addBytes_3 rfl ?_
  refine zi_getI f_Mod_91 q1 (by decide) d_Mod_addBytes_4 ?_
  refine zx_icmp_ge (tgt := 41) d_Mod_addBytes_7 rfl (fun c => ?_) (fun c => ?_)
  · have k := k.1 c
    exact zi_vret d_Mod_addBytes_41 rfl k
  · have k := k.2 c
    refine zx_aload_n d_Mod_addBytes_10 rfl ?_
    refine zi_getR f_Mod_16 q1 (by decide) e3 z4 d_Mod_addBytes_11 ?_
    refine zx_aload_n d_Mod_addBytes_14 rfl ?_
    refine zi_getI f_Mod_86 q1 (by decide) d_Mod_addBytes_15 ?_
    refine zx_aload_n d_Mod_addBytes_18 rfl ?_
    refine zi_getR f_Mod_23 q1 (by decide) e6 z7 d_Mod_addBytes_19 ?_
    refine zx_iload_n d_Mod_addBytes_22 rfl ?_
    obtain ⟨j10, e11, b12, k⟩ := k
    refine zi_iald j10 a8 e11 b12 d_Mod_addBytes_23 ?_
    obtain ⟨j15, e16, b17, k⟩ := k
    refine zi_iast j15 a13 e16 b17 d_Mod_addBytes_24 ?_
    refine zx_aload_n d_Mod_addBytes_25 rfl ?_
    refine zx_dup_a d_Mod_addBytes_26 ?_
    refine zi_getIe f_Mod_86 q1 (by decide) (zx_u2_a a13 q1 (by decide)) d_Mod_addBytes_27 ?_
    refine zx_iconst d_Mod_addBytes_30 zc_1 ?_
    refine zx_iadd d_Mod_addBytes_31 ?_
    refine zi_putI f_Mod_86 q1 (by decide) d_Mod_addBytes_32 ?_
    refine zx_iinc (L2 := [(0, .ref o0), (1, .int (x1 + 1))]) d_Mod_addBytes_35 rfl (Nat.le_of_ble_eq_true rfl) zc_1 rfl ?_
    refine zx_goto (tgt := 2) d_Mod_addBytes_38 rfl ?_
    exact k
set_option maxRecDepth 20000 in
theorem r_Mod_readStream_0 (l : Launch) (d : Nat) {K : zx_Kt} {RJ : zx_RJ} {Q : zi_Q} {I : zi_I} (o0 : Nat) (q1 : (K.2 o0).1 = 6)
    (k : zi_C l (zx_rm d 0 0) M_Mod_take [.ref o0, .int 16, .int (I o0 7)] K RJ I (fun r I2 => ∃ v3, r = some (.int v3) ∧ ((v3 = 21314) → zi_X l (zx_rm (d + 1) 0 0) M_Mod_readStream K RJ Q 24 [(0, .ref o0), (1, .int (I o0 7))] [.int 0, .ref o0] I2) ∧ ((¬ v3 = 21314) → zi_X l (zx_rm (d + 1) 0 0) M_Mod_readStream K RJ Q 24 [(0, .ref o0), (1, .int (I o0 7))] [.int 1, .ref o0] I2))) :
    zi_X l (zx_rm (d + 1) 0 0) M_Mod_readStream K RJ Q 0 [(0, .ref o0)] [] I := by
  refine zx_aload_n d_Mod_readStream_0 rfl ?_
  refine zi_getI f_Mod_237 q1 (by decide) d_Mod_readStream_1 ?_
  refine zx_istore_n (L2 := [(0, .ref o0), (1, .int (I o0 7))]) d_Mod_readStream_4 (Nat.le_of_ble_eq_true rfl) rfl ?_
  refine zx_aload_n d_Mod_readStream_5 rfl ?_
  refine zx_aload_n d_Mod_readStream_6 rfl ?_
  refine zx_bipush d_Mod_readStream_7 zb_16 ?_
  refine zx_iload_n d_Mod_readStream_9 rfl ?_
  refine zi_callV (hC := k) k_Mod_243 q1 (by decide) rfl rfl (Nat.le_of_ble_eq_true rfl) (Nat.le_of_ble_eq_true rfl) d_Mod_readStream_10 (fun r I2 k => ?_)
  obtain ⟨v3, rfl, k⟩ := k
  refine zx_sipush d_Mod_readStream_13 zs_21314 ?_
  refine zx_icmp_eq (tgt := 23) d_Mod_readStream_16 rfl (fun c => ?_) (fun c => ?_)
  · have k := k.1 c
    refine zx_iconst d_Mod_readStream_23 zc_0 ?_
    exact k
  · have k := k.2 c
    refine zx_iconst d_Mod_readStream_19 zc_1 ?_
    refine zx_goto (tgt := 24) d_Mod_readStream_20 rfl ?_
    exact k
set_option maxRecDepth 20000 in
theorem r_Mod_readStream_24 (l : Launch) (d : Nat) {K : zx_Kt} {RJ : zx_RJ} {Q : zi_Q} {I : zi_I} (o0 : Nat) (x1 : Int32) (y0 : Int32) (p1 : Nat) (q1 : (K.2 p1).1 = 6) (q3 : (K.2 o0).1 = 6)
    (k : zi_C l (zx_rm d 0 0) M_Mod_failIf [.ref p1, .int y0, .int ((-3)), .int x1] K RJ I (fun r I2 => r = none ∧ ((¬ (I2 o0 8) = 0) → zi_X l (zx_rm (d + 1) 0 0) M_Mod_readStream K RJ Q 53 [(0, .ref o0), (1, .int (I2 o0 7))] [.int 1] I2) ∧ (((I2 o0 8) = 0) → zi_C l (zx_rm d 0 0) M_Mod_take [.ref o0, .int 8, .int (I2 o0 7)] K RJ I2 (fun r I4 => ∃ v5, r = some (.int v5) ∧ zi_X l (zx_rm (d + 1) 0 0) M_Mod_readStream K RJ Q 53 [(0, .ref o0), (1, .int (I2 o0 7))] [.int v5] I4)))) :
    zi_X l (zx_rm (d + 1) 0 0) M_Mod_readStream K RJ Q 24 [(0, .ref o0), (1, .int x1)] [.int y0, .ref p1] I := by
  refine zx_bipush d_Mod_readStream_24 zb_m3 ?_
  refine zx_iload_n d_Mod_readStream_26 rfl ?_
  refine zi_callV (hC := k) k_Mod_246 q1 (by decide) rfl rfl (Nat.le_of_ble_eq_true rfl) (Nat.le_of_ble_eq_true rfl) d_Mod_readStream_27 (fun r I2 k => ?_)
  obtain ⟨rfl, k⟩ := k
  refine zx_aload_n d_Mod_readStream_30 rfl ?_
  refine zi_getI f_Mod_237 q3 (by decide) d_Mod_readStream_31 ?_
  refine zx_istore_n (L2 := [(0, .ref o0), (1, .int (I2 o0 7))]) d_Mod_readStream_34 (Nat.le_of_ble_eq_true rfl) rfl ?_
  refine zx_aload_n d_Mod_readStream_35 rfl ?_
  refine zi_getI f_Mod_231 q3 (by decide) d_Mod_readStream_36 ?_
  refine zx_if_ne (tgt := 52) d_Mod_readStream_39 rfl (fun c => ?_) (fun c => ?_)
  · have k := k.1 c
    refine zx_iconst d_Mod_readStream_52 zc_1 ?_
    exact k
  · have k := k.2 c
    refine zx_aload_n d_Mod_readStream_42 rfl ?_
    refine zx_bipush d_Mod_readStream_43 zb_8 ?_
    refine zx_iload_n d_Mod_readStream_45 rfl ?_
    refine zi_callV (hC := k) k_Mod_243 q3 (by decide) rfl rfl (Nat.le_of_ble_eq_true rfl) (Nat.le_of_ble_eq_true rfl) d_Mod_readStream_46 (fun r I4 k => ?_)
    obtain ⟨v5, rfl, k⟩ := k
    refine zx_goto (tgt := 53) d_Mod_readStream_49 rfl ?_
    exact k
set_option maxRecDepth 20000 in
theorem r_Mod_readStream_53 (l : Launch) (d : Nat) {K : zx_Kt} {RJ : zx_RJ} {Q : zi_Q} {I : zi_I} (o0 : Nat) (x1 : Int32) (y0 : Int32) 
    (k : ((y0 < 1) → zi_X l (zx_rm (d + 1) 0 0) M_Mod_readStream K RJ Q 66 [(0, .ref o0), (1, .int x1), (2, .int y0)] [.ref o0] I) ∧ ((¬ y0 < 1) → ((y0 ≤ 8) → zi_X l (zx_rm (d + 1) 0 0) M_Mod_readStream K RJ Q 71 [(0, .ref o0), (1, .int x1), (2, .int y0)] [.int 0, .ref o0] I) ∧ ((¬ y0 ≤ 8) → zi_X l (zx_rm (d + 1) 0 0) M_Mod_readStream K RJ Q 66 [(0, .ref o0), (1, .int x1), (2, .int y0)] [.ref o0] I))) :
    zi_X l (zx_rm (d + 1) 0 0) M_Mod_readStream K RJ Q 53 [(0, .ref o0), (1, .int x1)] [.int y0] I := by
  refine zx_istore_n (L2 := [(0, .ref o0), (1, .int x1), (2, .int y0)]) d_Mod_readStream_53 (Nat.le_of_ble_eq_true rfl) rfl ?_
  refine zx_aload_n d_Mod_readStream_54 rfl ?_
  refine zx_iload_n d_Mod_readStream_55 rfl ?_
  refine zx_iconst d_Mod_readStream_56 zc_1 ?_
  refine zx_icmp_lt (tgt := 66) d_Mod_readStream_57 rfl (fun c => ?_) (fun c => ?_)
  · have k := k.1 c
    exact k
  · have k := k.2 c
    refine zx_iload_n d_Mod_readStream_60 rfl ?_
    refine zx_bipush d_Mod_readStream_61 zb_8 ?_
    refine zx_icmp_le (tgt := 70) d_Mod_readStream_63 rfl (fun c => ?_) (fun c => ?_)
    · have k := k.1 c
      refine zx_iconst d_Mod_readStream_70 zc_0 ?_
      exact k
    · have k := k.2 c
      exact k
set_option maxRecDepth 20000 in
theorem r_Mod_readStream_66 (l : Launch) (d : Nat) {K : zx_Kt} {RJ : zx_RJ} {Q : zi_Q} {I : zi_I} (o0 : Nat) (x1 : Int32) (x2 : Int32) (p0 : Nat) 
    (k : zi_X l (zx_rm (d + 1) 0 0) M_Mod_readStream K RJ Q 71 [(0, .ref o0), (1, .int x1), (2, .int x2)] [.int 1, .ref p0] I) :
    zi_X l (zx_rm (d + 1) 0 0) M_Mod_readStream K RJ Q 66 [(0, .ref o0), (1, .int x1), (2, .int x2)] [.ref p0] I := by
  refine zx_iconst d_Mod_readStream_66 zc_1 ?_
  refine zx_goto (tgt := 71) d_Mod_readStream_67 rfl ?_
  exact k
set_option maxRecDepth 20000 in
theorem r_Mod_readStream_71 (l : Launch) (d : Nat) {K : zx_Kt} {RJ : zx_RJ} {Q : zi_Q} {I : zi_I} (o0 : Nat) (x1 : Int32) (x2 : Int32) (y0 : Int32) (p1 : Nat) (q1 : (K.2 p1).1 = 6)
    (k : zi_C l (zx_rm d 0 0) M_Mod_failIf [.ref p1, .int y0, .int ((-3)), .int x1] K RJ I (fun r I2 => r = none ∧ zi_X l (zx_rm (d + 1) 0 0) M_Mod_readStream K RJ Q 82 [(0, .ref o0), (1, .int x1), (2, .int x2), (3, .int 0), (4, .int 0)] [] I2)) :
    zi_X l (zx_rm (d + 1) 0 0) M_Mod_readStream K RJ Q 71 [(0, .ref o0), (1, .int x1), (2, .int x2)] [.int y0, .ref p1] I := by
  refine zx_bipush d_Mod_readStream_71 zb_m3 ?_
  refine zx_iload_n d_Mod_readStream_73 rfl ?_
  refine zi_callV (hC := k) k_Mod_246 q1 (by decide) rfl rfl (Nat.le_of_ble_eq_true rfl) (Nat.le_of_ble_eq_true rfl) d_Mod_readStream_74 (fun r I2 k => ?_)
  obtain ⟨rfl, k⟩ := k
  refine zx_iconst d_Mod_readStream_77 zc_0 ?_
  refine zx_istore_n (L2 := [(0, .ref o0), (1, .int x1), (2, .int x2), (3, .int 0)]) d_Mod_readStream_78 (Nat.le_of_ble_eq_true rfl) rfl ?_
  refine zx_iconst d_Mod_readStream_79 zc_0 ?_
  refine zx_istore (L2 := [(0, .ref o0), (1, .int x1), (2, .int x2), (3, .int 0), (4, .int 0)]) d_Mod_readStream_80 (Nat.le_of_ble_eq_true rfl) rfl ?_
  exact k
set_option maxRecDepth 20000 in
theorem r_Mod_readStream_82 (l : Launch) (d : Nat) {K : zx_Kt} {RJ : zx_RJ} {Q : zi_Q} {I : zi_I} (o0 : Nat) (x1 : Int32) (x2 : Int32) (x3 : Int32) (x4 : Int32) (q1 : (K.2 o0).1 = 6)
    (k : ((¬ (I o0 8) = 0) → zi_X l (zx_rm (d + 1) 0 0) M_Mod_readStream K RJ Q 295 [(0, .ref o0), (1, .int x1), (2, .int x2), (3, .int x3), (4, .int x4)] [] I) ∧ (((I o0 8) = 0) → ((¬ (I o0 0) = 0) → zi_X l (zx_rm (d + 1) 0 0) M_Mod_readStream K RJ Q 295 [(0, .ref o0), (1, .int x1), (2, .int x2), (3, .int x3), (4, .int x4)] [] I) ∧ (((I o0 0) = 0) → zi_C l (zx_rm d 0 0) M_Mod_take [.ref o0, .int 24, .int (I o0 7)] K RJ I (fun r I2 => ∃ v3, r = some (.int v3) ∧ ((¬ (I2 o0 8) = 0) → zi_X l (zx_rm (d + 1) 0 0) M_Mod_readStream K RJ Q 172 [(0, .ref o0), (1, .int (I o0 7)), (2, .int x2), (3, .int x3), (4, .int x4), (5, .int v3)] [] I2) ∧ (((I2 o0 8) = 0) → ((¬ v3 = 1536581) → zi_X l (zx_rm (d + 1) 0 0) M_Mod_readStream K RJ Q 172 [(0, .ref o0), (1, .int (I o0 7)), (2, .int x2), (3, .int x3), (4, .int x4), (5, .int v3)] [] I2) ∧ ((v3 = 1536581) → zi_C l (zx_rm d 0 0) M_Mod_take [.ref o0, .int 16, .int (I2 o0 7)] K RJ I2 (fun r I4 => ∃ v5, r = some (.int v5) ∧ ((v5 = x3) → zi_X l (zx_rm (d + 1) 0 0) M_Mod_readStream K RJ Q 146 [(0, .ref o0), (1, .int (I2 o0 7)), (2, .int x2), (3, .int x3), (4, .int x4), (5, .int v3)] [.int 0, .ref o0] I4) ∧ ((¬ v5 = x3) → zi_X l (zx_rm (d + 1) 0 0) M_Mod_readStream K RJ Q 146 [(0, .ref o0), (1, .int (I2 o0 7)), (2, .int x2), (3, .int x3), (4, .int x4), (5, .int v3)] [.int 1, .ref o0] I4)))))))) :
    zi_X l (zx_rm (d + 1) 0 0) M_Mod_readStream K RJ Q 82 [(0, .ref o0), (1, .int x1), (2, .int x2), (3, .int x3), (4, .int x4)] [] I := by
  refine zx_aload_n d_Mod_readStream_82 rfl ?_
  refine zi_getI f_Mod_231 q1 (by decide) d_Mod_readStream_83 ?_
  refine zx_if_ne (tgt := 295) d_Mod_readStream_86 rfl (fun c => ?_) (fun c => ?_)
  · have k := k.1 c
    exact k
  · have k := k.2 c
    refine zx_aload_n d_Mod_readStream_89 rfl ?_
    refine zi_getI f_Mod_75 q1 (by decide) d_Mod_readStream_90 ?_
    refine zx_if_ne (tgt := 295) d_Mod_readStream_93 rfl (fun c => ?_) (fun c => ?_)
    · have k := k.1 c
      exact k
    · have k := k.2 c
      refine zx_aload_n d_Mod_readStream_96 rfl ?_
      refine zi_getI f_Mod_237 q1 (by decide) d_Mod_readStream_97 ?_
      refine zx_istore_n (L2 := [(0, .ref o0), (1, .int (I o0 7)), (2, .int x2), (3, .int x3), (4, .int x4)]) d_Mod_readStream_100 (Nat.le_of_ble_eq_true rfl) rfl ?_
      refine zx_aload_n d_Mod_readStream_101 rfl ?_
      refine zx_bipush d_Mod_readStream_102 zb_24 ?_
      refine zx_iload_n d_Mod_readStream_104 rfl ?_
      refine zi_callV (hC := k) k_Mod_243 q1 (by decide) rfl rfl (Nat.le_of_ble_eq_true rfl) (Nat.le_of_ble_eq_true rfl) d_Mod_readStream_105 (fun r I2 k => ?_)
      obtain ⟨v3, rfl, k⟩ := k
      refine zx_istore (L2 := [(0, .ref o0), (1, .int (I o0 7)), (2, .int x2), (3, .int x3), (4, .int x4), (5, .int v3)]) d_Mod_readStream_108 (Nat.le_of_ble_eq_true rfl) rfl ?_
      refine zx_aload_n d_Mod_readStream_110 rfl ?_
      refine zi_getI f_Mod_231 q1 (by decide) d_Mod_readStream_111 ?_
      refine zx_if_ne (tgt := 172) d_Mod_readStream_114 rfl (fun c => ?_) (fun c => ?_)
      · have k := k.1 c
        exact k
      · have k := k.2 c
        refine zx_iload d_Mod_readStream_117 rfl ?_
        refine zx_ldc w_Mod_227 d_Mod_readStream_119 ?_
        refine zx_icmp_ne (tgt := 172) d_Mod_readStream_121 rfl (fun c => ?_) (fun c => ?_)
        · have k := k.1 c
          exact k
        · have k := k.2 c
          refine zx_aload_n d_Mod_readStream_124 rfl ?_
          refine zi_getI f_Mod_237 q1 (by decide) d_Mod_readStream_125 ?_
          refine zx_istore_n (L2 := [(0, .ref o0), (1, .int (I2 o0 7)), (2, .int x2), (3, .int x3), (4, .int x4), (5, .int v3)]) d_Mod_readStream_128 (Nat.le_of_ble_eq_true rfl) rfl ?_
          refine zx_aload_n d_Mod_readStream_129 rfl ?_
          refine zx_aload_n d_Mod_readStream_130 rfl ?_
          refine zx_bipush d_Mod_readStream_131 zb_16 ?_
          refine zx_iload_n d_Mod_readStream_133 rfl ?_
          refine zi_callV (hC := k) k_Mod_243 q1 (by decide) rfl rfl (Nat.le_of_ble_eq_true rfl) (Nat.le_of_ble_eq_true rfl) d_Mod_readStream_134 (fun r I4 k => ?_)
          obtain ⟨v5, rfl, k⟩ := k
          refine zx_iload_n d_Mod_readStream_137 rfl ?_
          refine zx_icmp_eq (tgt := 145) d_Mod_readStream_138 rfl (fun c => ?_) (fun c => ?_)
          · have k := k.1 c
            refine zx_iconst d_Mod_readStream_145 zc_0 ?_
            exact k
          · have k := k.2 c
            refine zx_iconst d_Mod_readStream_141 zc_1 ?_
            refine zx_goto (tgt := 146) d_Mod_readStream_142 rfl ?_
            exact k
set_option maxRecDepth 20000 in
theorem r_Mod_readStream_146 (l : Launch) (d : Nat) {K : zx_Kt} {RJ : zx_RJ} {Q : zi_Q} {I : zi_I} (o0 : Nat) (x1 : Int32) (x2 : Int32) (x3 : Int32) (x4 : Int32) (x5 : Int32) (y0 : Int32) (p1 : Nat) (q1 : (K.2 p1).1 = 6) (q3 : (K.2 o0).1 = 6)
    (k : zi_C l (zx_rm d 0 0) M_Mod_failIf [.ref p1, .int y0, .int ((-15)), .int x1] K RJ I (fun r I2 => r = none ∧ Q (some (.int x4)) (zx_u2 I2 o0 7 ((((I2 o0 7) + 7) / 8) * 8)))) :
    zi_X l (zx_rm (d + 1) 0 0) M_Mod_readStream K RJ Q 146 [(0, .ref o0), (1, .int x1), (2, .int x2), (3, .int x3), (4, .int x4), (5, .int x5)] [.int y0, .ref p1] I := by
  refine zx_bipush d_Mod_readStream_146 zb_m15 ?_
  refine zx_iload_n d_Mod_readStream_148 rfl ?_
  refine zi_callV (hC := k) k_Mod_246 q1 (by decide) rfl rfl (Nat.le_of_ble_eq_true rfl) (Nat.le_of_ble_eq_true rfl) d_Mod_readStream_149 (fun r I2 k => ?_)
  obtain ⟨rfl, k⟩ := k
  refine zx_aload_n d_Mod_readStream_152 rfl ?_
  refine zx_aload_n d_Mod_readStream_153 rfl ?_
  refine zi_getI f_Mod_237 q3 (by decide) d_Mod_readStream_154 ?_
  refine zx_bipush d_Mod_readStream_157 zb_7 ?_
  refine zx_iadd d_Mod_readStream_159 ?_
  refine zx_bipush d_Mod_readStream_160 zb_8 ?_
  refine zx_idiv d_Mod_readStream_162 (by decide) ?_
  refine zx_bipush d_Mod_readStream_163 zb_8 ?_
  refine zx_imul d_Mod_readStream_165 ?_
  refine zi_putI f_Mod_237 q3 (by decide) d_Mod_readStream_166 ?_
  refine zx_iload d_Mod_readStream_169 rfl ?_
  exact zi_iret d_Mod_readStream_171 rfl k
set_option maxRecDepth 20000 in
theorem r_Mod_readStream_172 (l : Launch) (d : Nat) {K : zx_Kt} {RJ : zx_RJ} {Q : zi_Q} {I : zi_I} (o0 : Nat) (x1 : Int32) (x2 : Int32) (x3 : Int32) (x4 : Int32) (x5 : Int32) 
    (k : ((x5 = 3227993) → zi_X l (zx_rm (d + 1) 0 0) M_Mod_readStream K RJ Q 185 [(0, .ref o0), (1, .int x1), (2, .int x2), (3, .int x3), (4, .int x4), (5, .int x5)] [.int 0, .ref o0] I) ∧ ((¬ x5 = 3227993) → zi_X l (zx_rm (d + 1) 0 0) M_Mod_readStream K RJ Q 185 [(0, .ref o0), (1, .int x1), (2, .int x2), (3, .int x3), (4, .int x4), (5, .int x5)] [.int 1, .ref o0] I)) :
    zi_X l (zx_rm (d + 1) 0 0) M_Mod_readStream K RJ Q 172 [(0, .ref o0), (1, .int x1), (2, .int x2), (3, .int x3), (4, .int x4), (5, .int x5)] [] I := by
  refine zx_aload_n d_Mod_readStream_172 rfl ?_
  refine zx_iload d_Mod_readStream_173 rfl ?_
  refine zx_ldc w_Mod_162 d_Mod_readStream_175 ?_
  refine zx_icmp_eq (tgt := 184) d_Mod_readStream_177 rfl (fun c => ?_) (fun c => ?_)
  · have k := k.1 c
    refine zx_iconst d_Mod_readStream_184 zc_0 ?_
    exact k
  · have k := k.2 c
    refine zx_iconst d_Mod_readStream_180 zc_1 ?_
    refine zx_goto (tgt := 185) d_Mod_readStream_181 rfl ?_
    exact k
set_option maxRecDepth 20000 in
theorem r_Mod_readStream_185 (l : Launch) (d : Nat) {K : zx_Kt} {RJ : zx_RJ} {Q : zi_Q} {I : zi_I} (o0 : Nat) (x1 : Int32) (x2 : Int32) (x3 : Int32) (x4 : Int32) (x5 : Int32) (y0 : Int32) (p1 : Nat) (q1 : (K.2 p1).1 = 6) (q3 : (K.2 o0).1 = 6)
    (k : zi_C l (zx_rm d 0 0) M_Mod_failIf [.ref p1, .int y0, .int ((-4)), .int x1] K RJ I (fun r I2 => r = none ∧ ((¬ (I2 o0 8) = 0) → zi_X l (zx_rm (d + 1) 0 0) M_Mod_readStream K RJ Q 206 [(0, .ref o0), (1, .int x1), (2, .int x2), (3, .int x3), (4, .int x4), (5, .int x5)] [] I2) ∧ (((I2 o0 8) = 0) → zi_C l (zx_rm d 0 0) M_Mod_readBlock [.ref o0, .int (8 * x2)] K RJ I2 (fun r I4 => r = none ∧ zi_X l (zx_rm (d + 1) 0 0) M_Mod_readStream K RJ Q 206 [(0, .ref o0), (1, .int x1), (2, .int x2), (3, .int x3), (4, .int x4), (5, .int x5)] [] I4)))) :
    zi_X l (zx_rm (d + 1) 0 0) M_Mod_readStream K RJ Q 185 [(0, .ref o0), (1, .int x1), (2, .int x2), (3, .int x3), (4, .int x4), (5, .int x5)] [.int y0, .ref p1] I := by
  refine zx_bipush d_Mod_readStream_185 zb_m4 ?_
  refine zx_iload_n d_Mod_readStream_187 rfl ?_
  refine zi_callV (hC := k) k_Mod_246 q1 (by decide) rfl rfl (Nat.le_of_ble_eq_true rfl) (Nat.le_of_ble_eq_true rfl) d_Mod_readStream_188 (fun r I2 k => ?_)
  obtain ⟨rfl, k⟩ := k
  refine zx_aload_n d_Mod_readStream_191 rfl ?_
  refine zi_getI f_Mod_231 q3 (by decide) d_Mod_readStream_192 ?_
  refine zx_if_ne (tgt := 206) d_Mod_readStream_195 rfl (fun c => ?_) (fun c => ?_)
  · have k := k.1 c
    exact k
  · have k := k.2 c
    refine zx_aload_n d_Mod_readStream_198 rfl ?_
    refine zx_bipush d_Mod_readStream_199 zb_8 ?_
    refine zx_iload_n d_Mod_readStream_201 rfl ?_
    refine zx_imul d_Mod_readStream_202 ?_
    refine zi_callV (hC := k) k_Mod_282 q3 (by decide) rfl rfl (Nat.le_of_ble_eq_true rfl) (Nat.le_of_ble_eq_true rfl) d_Mod_readStream_203 (fun r I4 k => ?_)
    obtain ⟨rfl, k⟩ := k
    exact k
set_option maxRecDepth 20000 in
theorem r_Mod_readStream_206 (l : Launch) (d : Nat) {K : zx_Kt} {RJ : zx_RJ} {Q : zi_Q} {I : zi_I} (o0 : Nat) (x1 : Int32) (x2 : Int32) (x3 : Int32) (x4 : Int32) (x5 : Int32) (q1 : (K.2 o0).1 = 6)
    (k : ((¬ (I o0 8) = 0) → zi_X l (zx_rm (d + 1) 0 0) M_Mod_readStream K RJ Q 262 [(0, .ref o0), (1, .int x1), (2, .int x2), (3, .int x3), (4, .int x4), (5, .int x5)] [] I) ∧ (((I o0 8) = 0) → zi_C l (zx_rm d 0 0) M_Mod_tooMuch [.ref o0] K RJ I (fun r I2 => ∃ v3, r = some (.int v3) ∧ ((v3 = 0) → zi_X l (zx_rm (d + 1) 0 0) M_Mod_readStream K RJ Q 226 [(0, .ref o0), (1, .int x1), (2, .int x2), (3, .int x3), (4, .int x4), (5, .int x5)] [.int 0, .ref o0] I2) ∧ ((¬ v3 = 0) → zi_X l (zx_rm (d + 1) 0 0) M_Mod_readStream K RJ Q 226 [(0, .ref o0), (1, .int x1), (2, .int x2), (3, .int x3), (4, .int x4), (5, .int x5)] [.int 1, .ref o0] I2)))) :
    zi_X l (zx_rm (d + 1) 0 0) M_Mod_readStream K RJ Q 206 [(0, .ref o0), (1, .int x1), (2, .int x2), (3, .int x3), (4, .int x4), (5, .int x5)] [] I := by
  refine zx_aload_n d_Mod_readStream_206 rfl ?_
  refine zi_getI f_Mod_231 q1 (by decide) d_Mod_readStream_207 ?_
  refine zx_if_ne (tgt := 262) d_Mod_readStream_210 rfl (fun c => ?_) (fun c => ?_)
  · have k := k.1 c
    exact k
  · have k := k.2 c
    refine zx_aload_n d_Mod_readStream_213 rfl ?_
    refine zx_aload_n d_Mod_readStream_214 rfl ?_
    refine zi_callV (hC := k) k_Mod_285 q1 (by decide) rfl rfl (Nat.le_of_ble_eq_true rfl) (Nat.le_of_ble_eq_true rfl) d_Mod_readStream_215 (fun r I2 k => ?_)
    obtain ⟨v3, rfl, k⟩ := k
    refine zx_if_eq (tgt := 225) d_Mod_readStream_218 rfl (fun c => ?_) (fun c => ?_)
    · have k := k.1 c
      refine zx_iconst d_Mod_readStream_225 zc_0 ?_
      exact k
    · have k := k.2 c
      refine zx_iconst d_Mod_readStream_221 zc_1 ?_
      refine zx_goto (tgt := 226) d_Mod_readStream_222 rfl ?_
      exact k
set_option maxRecDepth 20000 in
theorem r_Mod_readStream_226 (l : Launch) (d : Nat) {K : zx_Kt} {RJ : zx_RJ} {Q : zi_Q} {I : zi_I} (o0 : Nat) (x1 : Int32) (x2 : Int32) (x3 : Int32) (x4 : Int32) (x5 : Int32) (y0 : Int32) (p1 : Nat) (q1 : (K.2 p1).1 = 6) (q2 : (K.2 o0).1 = 6)
    (k : ((¬ ((zx_u2 I p1 0 y0) o0 0) = 0) → zi_X l (zx_rm (d + 1) 0 0) M_Mod_readStream K RJ Q 252 [(0, .ref o0), (1, .int x1), (2, .int x2), (3, .int x3), (4, .int x4), (5, .int x5)] [.ref o0] (zx_u2 I p1 0 y0)) ∧ ((((zx_u2 I p1 0 y0) o0 0) = 0) → zi_C l (zx_rm d 0 0) M_Mod_checkOf [.ref o0] K RJ (zx_u2 I p1 0 y0) (fun r I3 => ∃ v4, r = some (.int v4) ∧ ((v4 = (I3 o0 19)) → zi_X l (zx_rm (d + 1) 0 0) M_Mod_readStream K RJ Q 252 [(0, .ref o0), (1, .int x1), (2, .int x2), (3, .int x3), (4, .int x4), (5, .int x5)] [.ref o0] I3) ∧ ((¬ v4 = (I3 o0 19)) → zi_X l (zx_rm (d + 1) 0 0) M_Mod_readStream K RJ Q 253 [(0, .ref o0), (1, .int x1), (2, .int x2), (3, .int x3), (4, .int x4), (5, .int x5)] [.int 1, .ref o0] I3)))) :
    zi_X l (zx_rm (d + 1) 0 0) M_Mod_readStream K RJ Q 226 [(0, .ref o0), (1, .int x1), (2, .int x2), (3, .int x3), (4, .int x4), (5, .int x5)] [.int y0, .ref p1] I := by
  refine zi_putI f_Mod_75 q1 (by decide) d_Mod_readStream_226 ?_
  refine zx_aload_n d_Mod_readStream_229 rfl ?_
  refine zx_aload_n d_Mod_readStream_230 rfl ?_
  refine zi_getI f_Mod_75 q2 (by decide) d_Mod_readStream_231 ?_
  refine zx_if_ne (tgt := 252) d_Mod_readStream_234 rfl (fun c => ?_) (fun c => ?_)
  · have k := k.1 c
    exact k
  · have k := k.2 c
    refine zx_aload_n d_Mod_readStream_237 rfl ?_
    refine zi_callV (hC := k) k_Mod_178 q2 (by decide) rfl rfl (Nat.le_of_ble_eq_true rfl) (Nat.le_of_ble_eq_true rfl) d_Mod_readStream_238 (fun r I3 k => ?_)
    obtain ⟨v4, rfl, k⟩ := k
    refine zx_aload_n d_Mod_readStream_241 rfl ?_
    refine zi_getI f_Mod_163 q2 (by decide) d_Mod_readStream_242 ?_
    refine zx_icmp_eq (tgt := 252) d_Mod_readStream_245 rfl (fun c => ?_) (fun c => ?_)
    · have k := k.1 c
      exact k
    · have k := k.2 c
      refine zx_iconst d_Mod_readStream_248 zc_1 ?_
      refine zx_goto (tgt := 253) d_Mod_readStream_249 rfl ?_
      exact k
set_option maxRecDepth 20000 in
theorem r_Mod_readStream_252 (l : Launch) (d : Nat) {K : zx_Kt} {RJ : zx_RJ} {Q : zi_Q} {I : zi_I} (o0 : Nat) (x1 : Int32) (x2 : Int32) (x3 : Int32) (x4 : Int32) (x5 : Int32) (p0 : Nat) 
    (k : zi_X l (zx_rm (d + 1) 0 0) M_Mod_readStream K RJ Q 253 [(0, .ref o0), (1, .int x1), (2, .int x2), (3, .int x3), (4, .int x4), (5, .int x5)] [.int 0, .ref p0] I) :
    zi_X l (zx_rm (d + 1) 0 0) M_Mod_readStream K RJ Q 252 [(0, .ref o0), (1, .int x1), (2, .int x2), (3, .int x3), (4, .int x4), (5, .int x5)] [.ref p0] I := by
  refine zx_iconst d_Mod_readStream_252 zc_0 ?_
  exact k
set_option maxRecDepth 20000 in
theorem r_Mod_readStream_253 (l : Launch) (d : Nat) {K : zx_Kt} {RJ : zx_RJ} {Q : zi_Q} {I : zi_I} (o0 : Nat) (x1 : Int32) (x2 : Int32) (x3 : Int32) (x4 : Int32) (x5 : Int32) (y0 : Int32) (p1 : Nat) (q1 : (K.2 o0).1 = 6) (q2 : (K.2 p1).1 = 6)
    (k : zi_C l (zx_rm d 0 0) M_Mod_failIf [.ref p1, .int y0, .int ((-14)), .int (I o0 20)] K RJ I (fun r I3 => r = none ∧ zi_X l (zx_rm (d + 1) 0 0) M_Mod_readStream K RJ Q 262 [(0, .ref o0), (1, .int x1), (2, .int x2), (3, .int x3), (4, .int x4), (5, .int x5)] [] I3)) :
    zi_X l (zx_rm (d + 1) 0 0) M_Mod_readStream K RJ Q 253 [(0, .ref o0), (1, .int x1), (2, .int x2), (3, .int x3), (4, .int x4), (5, .int x5)] [.int y0, .ref p1] I := by
  refine zx_bipush d_Mod_readStream_253 zb_m14 ?_
  refine zx_aload_n d_Mod_readStream_255 rfl ?_
  refine zi_getI f_Mod_260 q1 (by decide) d_Mod_readStream_256 ?_
  refine zi_callV (hC := k) k_Mod_246 q2 (by decide) rfl rfl (Nat.le_of_ble_eq_true rfl) (Nat.le_of_ble_eq_true rfl) d_Mod_readStream_259 (fun r I3 k => ?_)
  obtain ⟨rfl, k⟩ := k
  exact k
set_option maxRecDepth 20000 in
theorem r_Mod_readStream_262 (l : Launch) (d : Nat) {K : zx_Kt} {RJ : zx_RJ} {Q : zi_Q} {I : zi_I} (o0 : Nat) (x1 : Int32) (x2 : Int32) (x3 : Int32) (x4 : Int32) (x5 : Int32) (q1 : (K.2 o0).1 = 6)
    (k : ((¬ (I o0 8) = 0) → zi_X l (zx_rm (d + 1) 0 0) M_Mod_readStream K RJ Q 292 [(0, .ref o0), (1, .int x1), (2, .int x2), (3, .int x3), (4, .int x4), (5, .int x5)] [] I) ∧ (((I o0 8) = 0) → ((¬ (I o0 0) = 0) → zi_X l (zx_rm (d + 1) 0 0) M_Mod_readStream K RJ Q 292 [(0, .ref o0), (1, .int x1), (2, .int x2), (3, .int x3), (4, .int x4), (5, .int x5)] [] I) ∧ (((I o0 0) = 0) → zi_C l (zx_rm d 0 0) M_Mod_addBytes [.ref o0] K RJ I (fun r I2 => r = none ∧ zi_C l (zx_rm d 0 0) M_Mod_addTotal [.int x3, .int (I2 o0 19)] K RJ I2 (fun r I3 => ∃ v4, r = some (.int v4) ∧ zi_X l (zx_rm (d + 1) 0 0) M_Mod_readStream K RJ Q 292 [(0, .ref o0), (1, .int x1), (2, .int x2), (3, .int v4), (4, .int (x4 + 1)), (5, .int x5)] [] I3))))) :
    zi_X l (zx_rm (d + 1) 0 0) M_Mod_readStream K RJ Q 262 [(0, .ref o0), (1, .int x1), (2, .int x2), (3, .int x3), (4, .int x4), (5, .int x5)] [] I := by
  refine zx_aload_n d_Mod_readStream_262 rfl ?_
  refine zi_getI f_Mod_231 q1 (by decide) d_Mod_readStream_263 ?_
  refine zx_if_ne (tgt := 292) d_Mod_readStream_266 rfl (fun c => ?_) (fun c => ?_)
  · have k := k.1 c
    exact k
  · have k := k.2 c
    refine zx_aload_n d_Mod_readStream_269 rfl ?_
    refine zi_getI f_Mod_75 q1 (by decide) d_Mod_readStream_270 ?_
    refine zx_if_ne (tgt := 292) d_Mod_readStream_273 rfl (fun c => ?_) (fun c => ?_)
    · have k := k.1 c
      exact k
    · have k := k.2 c
      refine zx_aload_n d_Mod_readStream_276 rfl ?_
      refine zi_callV (hC := k) k_Mod_288 q1 (by decide) rfl rfl (Nat.le_of_ble_eq_true rfl) (Nat.le_of_ble_eq_true rfl) d_Mod_readStream_277 (fun r I2 k => ?_)
      obtain ⟨rfl, k⟩ := k
      refine zx_iload_n d_Mod_readStream_280 rfl ?_
      refine zx_aload_n d_Mod_readStream_281 rfl ?_
      refine zi_getI f_Mod_163 q1 (by decide) d_Mod_readStream_282 ?_
      refine zi_callS (hC := k) k_Mod_221 rfl rfl (Nat.le_of_ble_eq_true rfl) (Nat.le_of_ble_eq_true rfl) d_Mod_readStream_285 (fun r I3 k => ?_)
      obtain ⟨v4, rfl, k⟩ := k
      refine zx_istore_n (L2 := [(0, .ref o0), (1, .int x1), (2, .int x2), (3, .int v4), (4, .int x4), (5, .int x5)]) d_Mod_readStream_288 (Nat.le_of_ble_eq_true rfl) rfl ?_
      refine zx_iinc (L2 := [(0, .ref o0), (1, .int x1), (2, .int x2), (3, .int v4), (4, .int (x4 + 1)), (5, .int x5)]) d_Mod_readStream_289 rfl (Nat.le_of_ble_eq_true rfl) zc_1 rfl ?_
      exact k
set_option maxRecDepth 20000 in
theorem r_Mod_readStream_292 (l : Launch) (d : Nat) {K : zx_Kt} {RJ : zx_RJ} {Q : zi_Q} {I : zi_I} (o0 : Nat) (x1 : Int32) (x2 : Int32) (x3 : Int32) (x4 : Int32) (x5 : Int32) 
    (k : zi_X l (zx_rm (d + 1) 0 0) M_Mod_readStream K RJ Q 82 [(0, .ref o0), (1, .int x1), (2, .int x2), (3, .int x3), (4, .int x4)] [] I) :
    zi_X l (zx_rm (d + 1) 0 0) M_Mod_readStream K RJ Q 292 [(0, .ref o0), (1, .int x1), (2, .int x2), (3, .int x3), (4, .int x4), (5, .int x5)] [] I := by
  refine zx_goto (tgt := 82) d_Mod_readStream_292 rfl ?_
  refine zx_locs [0, 1, 2, 3, 4] rfl ?_
  exact k
set_option maxRecDepth 20000 in
theorem r_Mod_readStream_295 (l : Launch) (d : Nat) {K : zx_Kt} {RJ : zx_RJ} {Q : zi_Q} {I : zi_I} (o0 : Nat) (x1 : Int32) (x2 : Int32) (x3 : Int32) (x4 : Int32) 
    (k : Q (some (.int x4)) I) :
    zi_X l (zx_rm (d + 1) 0 0) M_Mod_readStream K RJ Q 295 [(0, .ref o0), (1, .int x1), (2, .int x2), (3, .int x3), (4, .int x4)] [] I := by
  refine zx_iload d_Mod_readStream_295 rfl ?_
  exact zi_iret d_Mod_readStream_297 rfl k
set_option maxRecDepth 20000 in
theorem r_Mod_unpack_0 (l : Launch) (d : Nat) {K : zx_Kt} {RJ : zx_RJ} {Q : zi_Q} {I : zi_I} (o0 : Nat) (q1 : (K.2 o0).1 = 6)
    (k : zi_X l (zx_rm (d + 1) 0 0) M_Mod_unpack K RJ Q 29 [(0, .ref o0), (1, .int 0), (2, .int 1)] [] (zx_u2 (zx_u2 (zx_u2 (zx_u2 (zx_u2 I o0 0 0) o0 10 ((-1))) o0 7 0) o0 8 0) o0 5 0)) :
    zi_X l (zx_rm (d + 1) 0 0) M_Mod_unpack K RJ Q 0 [(0, .ref o0)] [] I := by
  refine zx_aload_n d_Mod_unpack_0 rfl ?_
  refine zx_iconst d_Mod_unpack_1 zc_0 ?_
  refine zi_putI f_Mod_75 q1 (by decide) d_Mod_unpack_2 ?_
  refine zx_aload_n d_Mod_unpack_5 rfl ?_
  refine zx_iconst d_Mod_unpack_6 zc_m1 ?_
  refine zi_putI f_Mod_19 q1 (by decide) d_Mod_unpack_7 ?_
  refine zx_aload_n d_Mod_unpack_10 rfl ?_
  refine zx_iconst d_Mod_unpack_11 zc_0 ?_
  refine zi_putI f_Mod_237 q1 (by decide) d_Mod_unpack_12 ?_
  refine zx_aload_n d_Mod_unpack_15 rfl ?_
  refine zx_iconst d_Mod_unpack_16 zc_0 ?_
  refine zi_putI f_Mod_231 q1 (by decide) d_Mod_unpack_17 ?_
  refine zx_aload_n d_Mod_unpack_20 rfl ?_
  refine zx_iconst d_Mod_unpack_21 zc_0 ?_
  refine zi_putI f_Mod_86 q1 (by decide) d_Mod_unpack_22 ?_
  refine zx_iconst d_Mod_unpack_25 zc_0 ?_
  refine zx_istore_n (L2 := [(0, .ref o0), (1, .int 0)]) d_Mod_unpack_26 (Nat.le_of_ble_eq_true rfl) rfl ?_
  refine zx_iconst d_Mod_unpack_27 zc_1 ?_
  refine zx_istore_n (L2 := [(0, .ref o0), (1, .int 0), (2, .int 1)]) d_Mod_unpack_28 (Nat.le_of_ble_eq_true rfl) rfl ?_
  exact k
set_option maxRecDepth 20000 in
theorem r_Mod_unpack_29 (l : Launch) (d : Nat) {K : zx_Kt} {RJ : zx_RJ} {Q : zi_Q} {I : zi_I} (o0 : Nat) (x1 : Int32) (x2 : Int32) (q1 : (K.2 o0).1 = 6)
    (k : ((x2 = 0) → (((I o0 0) = 0) → (((I o0 8) = 0) → zi_C l (zx_rm d 0 0) M_Mod_takeOver [.ref o0] K RJ I (fun r I2 => r = none ∧ ((x1 ≤ 0) → Q (some (.int (I2 o0 3))) (zx_u2 I2 o0 34 x1)) ∧ ((¬ x1 ≤ 0) → zi_C l (zx_rm d 0 0) M_Mod_remember [.ref o0] K RJ (zx_u2 I2 o0 34 x1) (fun r I3 => r = none ∧ Q (some (.int (I3 o0 3))) I3)))) ∧ ((¬ (I o0 8) = 0) → Q (some (.int (I o0 8))) (zx_u2 I o0 10 (I o0 9)))) ∧ ((¬ (I o0 0) = 0) → Q (some (.int 0)) I)) ∧ ((¬ x2 = 0) → zi_C l (zx_rm d 0 0) M_Mod_readStream [.ref o0] K RJ I (fun r I4 => ∃ v5, r = some (.int v5) ∧ ((¬ (I4 o0 8) = 0) → zi_X l (zx_rm (d + 1) 0 0) M_Mod_unpack K RJ Q 29 [(0, .ref o0), (1, .int (x1 + v5)), (2, .int 0)] [] I4) ∧ (((I4 o0 8) = 0) → ((¬ (I4 o0 0) = 0) → zi_X l (zx_rm (d + 1) 0 0) M_Mod_unpack K RJ Q 29 [(0, .ref o0), (1, .int (x1 + v5)), (2, .int 0)] [] I4) ∧ (((I4 o0 0) = 0) → (((8 * (I4 o0 1)) ≤ (I4 o0 7)) → zi_X l (zx_rm (d + 1) 0 0) M_Mod_unpack K RJ Q 29 [(0, .ref o0), (1, .int (x1 + v5)), (2, .int 0)] [] I4) ∧ ((¬ (8 * (I4 o0 1)) ≤ (I4 o0 7)) → zi_X l (zx_rm (d + 1) 0 0) M_Mod_unpack K RJ Q 29 [(0, .ref o0), (1, .int (x1 + v5)), (2, .int 1)] [] I4)))))) :
    zi_X l (zx_rm (d + 1) 0 0) M_Mod_unpack K RJ Q 29 [(0, .ref o0), (1, .int x1), (2, .int x2)] [] I := by
  refine zx_iload_n d_Mod_unpack_29 rfl ?_
  refine zx_if_eq (tgt := 77) d_Mod_unpack_30 rfl (fun c => ?_) (fun c => ?_)
  · have k := k.1 c
    refine zx_aload_n d_Mod_unpack_77 rfl ?_
    refine zi_getI f_Mod_75 q1 (by decide) d_Mod_unpack_78 ?_
    refine zx_if_eq (tgt := 86) d_Mod_unpack_81 rfl (fun c => ?_) (fun c => ?_)
    · have k := k.1 c
      refine zx_aload_n d_Mod_unpack_86 rfl ?_
      refine zi_getI f_Mod_231 q1 (by decide) d_Mod_unpack_87 ?_
      refine zx_if_eq (tgt := 106) d_Mod_unpack_90 rfl (fun c => ?_) (fun c => ?_)
      · have k := k.1 c
        refine zx_aload_n d_Mod_unpack_106 rfl ?_
        refine zi_callV (hC := k) k_Mod_228 q1 (by decide) rfl rfl (Nat.le_of_ble_eq_true rfl) (Nat.le_of_ble_eq_true rfl) d_Mod_unpack_107 (fun r I2 k => ?_)
        obtain ⟨rfl, k⟩ := k
        refine zx_aload_n d_Mod_unpack_110 rfl ?_
        refine zx_iload_n d_Mod_unpack_111 rfl ?_
        refine zi_putI f_Mod_215 q1 (by decide) d_Mod_unpack_112 ?_
        refine zx_iload_n d_Mod_unpack_115 rfl ?_
        refine zx_if_le (tgt := 123) d_Mod_unpack_116 rfl (fun c => ?_) (fun c => ?_)
        · have k := k.1 c
          refine zx_aload_n d_Mod_unpack_123 rfl ?_
          refine zi_getIe f_Mod_83 q1 (by decide) (zx_u2_k (by decide)) d_Mod_unpack_124 ?_
          exact zi_iret d_Mod_unpack_127 rfl k
        · have k := k.2 c
          refine zx_aload_n d_Mod_unpack_119 rfl ?_
          refine zi_callV (hC := k) k_Mod_224 q1 (by decide) rfl rfl (Nat.le_of_ble_eq_true rfl) (Nat.le_of_ble_eq_true rfl) d_Mod_unpack_120 (fun r I3 k => ?_)
          obtain ⟨rfl, k⟩ := k
          refine zx_aload_n d_Mod_unpack_123 rfl ?_
          refine zi_getI f_Mod_83 q1 (by decide) d_Mod_unpack_124 ?_
          exact zi_iret d_Mod_unpack_127 rfl k
      · have k := k.2 c
        refine zx_aload_n d_Mod_unpack_93 rfl ?_
        refine zx_aload_n d_Mod_unpack_94 rfl ?_
        refine zi_getI f_Mod_234 q1 (by decide) d_Mod_unpack_95 ?_
        refine zi_putI f_Mod_19 q1 (by decide) d_Mod_unpack_98 ?_
        refine zx_aload_n d_Mod_unpack_101 rfl ?_
        refine zi_getIe f_Mod_231 q1 (by decide) (zx_u2_k (by decide)) d_Mod_unpack_102 ?_
        exact zi_iret d_Mod_unpack_105 rfl k
    · have k := k.2 c
      refine zx_iconst d_Mod_unpack_84 zc_0 ?_
      exact zi_iret d_Mod_unpack_85 rfl k
  · have k := k.2 c
    refine zx_iload_n d_Mod_unpack_33 rfl ?_
    refine zx_aload_n d_Mod_unpack_34 rfl ?_
    refine zi_callV (hC := k) k_Mod_291 q1 (by decide) rfl rfl (Nat.le_of_ble_eq_true rfl) (Nat.le_of_ble_eq_true rfl) d_Mod_unpack_35 (fun r I4 k => ?_)
    obtain ⟨v5, rfl, k⟩ := k
    refine zx_iadd d_Mod_unpack_38 ?_
    refine zx_istore_n (L2 := [(0, .ref o0), (1, .int (x1 + v5)), (2, .int x2)]) d_Mod_unpack_39 (Nat.le_of_ble_eq_true rfl) rfl ?_
    refine zx_aload_n d_Mod_unpack_40 rfl ?_
    refine zi_getI f_Mod_231 q1 (by decide) d_Mod_unpack_41 ?_
    refine zx_if_ne (tgt := 72) d_Mod_unpack_44 rfl (fun c => ?_) (fun c => ?_)
    · have k := k.1 c
      refine zx_iconst d_Mod_unpack_72 zc_0 ?_
      refine zx_istore_n (L2 := [(0, .ref o0), (1, .int (x1 + v5)), (2, .int 0)]) d_Mod_unpack_73 (Nat.le_of_ble_eq_true rfl) rfl ?_
      refine zx_goto (tgt := 29) d_Mod_unpack_74 rfl ?_
      exact k
    · have k := k.2 c
      refine zx_aload_n d_Mod_unpack_47 rfl ?_
      refine zi_getI f_Mod_75 q1 (by decide) d_Mod_unpack_48 ?_
      refine zx_if_ne (tgt := 72) d_Mod_unpack_51 rfl (fun c => ?_) (fun c => ?_)
      · have k := k.1 c
        refine zx_iconst d_Mod_unpack_72 zc_0 ?_
        refine zx_istore_n (L2 := [(0, .ref o0), (1, .int (x1 + v5)), (2, .int 0)]) d_Mod_unpack_73 (Nat.le_of_ble_eq_true rfl) rfl ?_
        refine zx_goto (tgt := 29) d_Mod_unpack_74 rfl ?_
        exact k
      · have k := k.2 c
        refine zx_aload_n d_Mod_unpack_54 rfl ?_
        refine zi_getI f_Mod_237 q1 (by decide) d_Mod_unpack_55 ?_
        refine zx_bipush d_Mod_unpack_58 zb_8 ?_
        refine zx_aload_n d_Mod_unpack_60 rfl ?_
        refine zi_getI f_Mod_78 q1 (by decide) d_Mod_unpack_61 ?_
        refine zx_imul d_Mod_unpack_64 ?_
        refine zx_icmp_ge (tgt := 72) d_Mod_unpack_65 rfl (fun c => ?_) (fun c => ?_)
        · have k := k.1 c
          refine zx_iconst d_Mod_unpack_72 zc_0 ?_
          refine zx_istore_n (L2 := [(0, .ref o0), (1, .int (x1 + v5)), (2, .int 0)]) d_Mod_unpack_73 (Nat.le_of_ble_eq_true rfl) rfl ?_
          refine zx_goto (tgt := 29) d_Mod_unpack_74 rfl ?_
          exact k
        · have k := k.2 c
          refine zx_iconst d_Mod_unpack_68 zc_1 ?_
          refine zx_goto (tgt := 73) d_Mod_unpack_69 rfl ?_
          refine zx_istore_n (L2 := [(0, .ref o0), (1, .int (x1 + v5)), (2, .int 1)]) d_Mod_unpack_73 (Nat.le_of_ble_eq_true rfl) rfl ?_
          refine zx_goto (tgt := 29) d_Mod_unpack_74 rfl ?_
          exact k
set_option maxRecDepth 20000 in
theorem r_Mod_at_0 (l : Launch) (d : Nat) {K : zx_Kt} {RJ : zx_RJ} {Q : zi_Q} {I : zi_I} (o0 : Nat) (q1 : (K.2 o0).1 = 6)
    (k : Q (some (.int (I o0 10))) (zx_u2 I o0 0 0)) :
    zi_X l (zx_rm d 0 0) M_Mod_at K RJ Q 0 [(0, .ref o0)] [] I := by
  refine zx_aload_n d_Mod_at_0 rfl ?_
  refine zx_iconst d_Mod_at_1 zc_0 ?_
  refine zi_putI f_Mod_75 q1 (by decide) d_Mod_at_2 ?_
  refine zx_aload_n d_Mod_at_5 rfl ?_
  refine zi_getIe f_Mod_19 q1 (by decide) (zx_u2_k (by decide)) d_Mod_at_6 ?_
  exact zi_iret d_Mod_at_9 rfl k
set_option maxRecDepth 20000 in
theorem r_Mod_rescue_0 (l : Launch) (d : Nat) {K : zx_Kt} {RJ : zx_RJ} {Q : zi_Q} {I : zi_I} (o0 : Nat) (q1 : (K.2 o0).1 = 6)
    (k : zi_X l (zx_rm (d + 1) 0 0) M_Mod_rescue K RJ Q 17 [(0, .ref o0), (1, .int 0)] [] (zx_u2 (zx_u2 (zx_u2 I o0 0 0) o0 5 0) o0 34 0)) :
    zi_X l (zx_rm (d + 1) 0 0) M_Mod_rescue K RJ Q 0 [(0, .ref o0)] [] I := by
  refine zx_aload_n d_Mod_rescue_0 rfl ?_
  refine zx_iconst d_Mod_rescue_1 zc_0 ?_
  refine zi_putI f_Mod_75 q1 (by decide) d_Mod_rescue_2 ?_
  refine zx_aload_n d_Mod_rescue_5 rfl ?_
  refine zx_iconst d_Mod_rescue_6 zc_0 ?_
  refine zi_putI f_Mod_86 q1 (by decide) d_Mod_rescue_7 ?_
  refine zx_aload_n d_Mod_rescue_10 rfl ?_
  refine zx_iconst d_Mod_rescue_11 zc_0 ?_
  refine zi_putI f_Mod_215 q1 (by decide) d_Mod_rescue_12 ?_
  refine zx_iconst d_Mod_rescue_15 zc_0 ?_
  refine zx_istore_n (L2 := [(0, .ref o0), (1, .int 0)]) d_Mod_rescue_16 (Nat.le_of_ble_eq_true rfl) rfl ?_
  exact k
set_option maxRecDepth 20000 in
theorem r_Mod_rescue_17 (l : Launch) (d : Nat) {K : zx_Kt} {RJ : zx_RJ} {Q : zi_Q} {I : zi_I} (o0 : Nat) (x1 : Int32) (q1 : (K.2 o0).1 = 6)
    (k : (((8 * (I o0 1)) < (x1 + 24)) → zi_C l (zx_rm d 0 0) M_Mod_takeOver [.ref o0] K RJ I (fun r I2 => r = none ∧ Q (some (.int (I2 o0 34))) I2)) ∧ ((¬ (8 * (I o0 1)) < (x1 + 24)) → zi_C l (zx_rm d 0 0) M_Mod_take [.ref o0, .int 24, .int x1] K RJ (zx_u2 (zx_u2 I o0 7 x1) o0 8 0) (fun r I3 => ∃ v4, r = some (.int v4) ∧ ((¬ v4 = 3227993) → zi_X l (zx_rm (d + 1) 0 0) M_Mod_rescue K RJ Q 58 [(0, .ref o0), (1, .int x1)] [.int 0] I3) ∧ ((v4 = 3227993) → zi_X l (zx_rm (d + 1) 0 0) M_Mod_rescue K RJ Q 58 [(0, .ref o0), (1, .int x1)] [.int 1] I3)))) :
    zi_X l (zx_rm (d + 1) 0 0) M_Mod_rescue K RJ Q 17 [(0, .ref o0), (1, .int x1)] [] I := by
  refine zx_iload_n d_Mod_rescue_17 rfl ?_
  refine zx_bipush d_Mod_rescue_18 zb_24 ?_
  refine zx_iadd d_Mod_rescue_20 ?_
  refine zx_bipush d_Mod_rescue_21 zb_8 ?_
  refine zx_aload_n d_Mod_rescue_23 rfl ?_
  refine zi_getI f_Mod_78 q1 (by decide) d_Mod_rescue_24 ?_
  refine zx_imul d_Mod_rescue_27 ?_
  refine zx_icmp_gt (tgt := 140) d_Mod_rescue_28 rfl (fun c => ?_) (fun c => ?_)
  · have k := k.1 c
    refine zx_aload_n d_Mod_rescue_140 rfl ?_
    refine zi_callV (hC := k) k_Mod_228 q1 (by decide) rfl rfl (Nat.le_of_ble_eq_true rfl) (Nat.le_of_ble_eq_true rfl) d_Mod_rescue_141 (fun r I2 k => ?_)
    obtain ⟨rfl, k⟩ := k
    refine zx_aload_n d_Mod_rescue_144 rfl ?_
    refine zi_getI f_Mod_215 q1 (by decide) d_Mod_rescue_145 ?_
    exact zi_iret d_Mod_rescue_148 rfl k
  · have k := k.2 c
    refine zx_aload_n d_Mod_rescue_31 rfl ?_
    refine zx_iload_n d_Mod_rescue_32 rfl ?_
    refine zi_putI f_Mod_237 q1 (by decide) d_Mod_rescue_33 ?_
    refine zx_aload_n d_Mod_rescue_36 rfl ?_
    refine zx_iconst d_Mod_rescue_37 zc_0 ?_
    refine zi_putI f_Mod_231 q1 (by decide) d_Mod_rescue_38 ?_
    refine zx_aload_n d_Mod_rescue_41 rfl ?_
    refine zx_bipush d_Mod_rescue_42 zb_24 ?_
    refine zx_iload_n d_Mod_rescue_44 rfl ?_
    refine zi_callV (hC := k) k_Mod_243 q1 (by decide) rfl rfl (Nat.le_of_ble_eq_true rfl) (Nat.le_of_ble_eq_true rfl) d_Mod_rescue_45 (fun r I3 k => ?_)
    obtain ⟨v4, rfl, k⟩ := k
    refine zx_ldc w_Mod_162 d_Mod_rescue_48 ?_
    refine zx_icmp_ne (tgt := 57) d_Mod_rescue_50 rfl (fun c => ?_) (fun c => ?_)
    · have k := k.1 c
      refine zx_iconst d_Mod_rescue_57 zc_0 ?_
      exact k
    · have k := k.2 c
      refine zx_iconst d_Mod_rescue_53 zc_1 ?_
      refine zx_goto (tgt := 58) d_Mod_rescue_54 rfl ?_
      exact k
set_option maxRecDepth 20000 in
theorem r_Mod_rescue_58 (l : Launch) (d : Nat) {K : zx_Kt} {RJ : zx_RJ} {Q : zi_Q} {I : zi_I} (o0 : Nat) (x1 : Int32) (y0 : Int32) (q1 : (K.2 o0).1 = 6)
    (k : ((y0 = 0) → zi_X l (zx_rm (d + 1) 0 0) M_Mod_rescue K RJ Q 100 [(0, .ref o0), (1, .int x1), (2, .int y0)] [] I) ∧ ((¬ y0 = 0) → zi_C l (zx_rm d 0 0) M_Mod_readBlock [.ref o0, .int 64] K RJ I (fun r I2 => r = none ∧ ((¬ (I2 o0 8) = 0) → zi_X l (zx_rm (d + 1) 0 0) M_Mod_rescue K RJ Q 98 [(0, .ref o0), (1, .int x1), (2, .int y0)] [] I2) ∧ (((I2 o0 8) = 0) → zi_C l (zx_rm d 0 0) M_Mod_tooMuch [.ref o0] K RJ I2 (fun r I3 => ∃ v4, r = some (.int v4) ∧ ((¬ v4 = 0) → zi_X l (zx_rm (d + 1) 0 0) M_Mod_rescue K RJ Q 98 [(0, .ref o0), (1, .int x1), (2, .int y0)] [] I3) ∧ ((v4 = 0) → zi_C l (zx_rm d 0 0) M_Mod_checkOf [.ref o0] K RJ I3 (fun r I5 => ∃ v6, r = some (.int v6) ∧ ((¬ v6 = (I5 o0 19)) → zi_X l (zx_rm (d + 1) 0 0) M_Mod_rescue K RJ Q 98 [(0, .ref o0), (1, .int x1), (2, .int y0)] [] I5) ∧ ((v6 = (I5 o0 19)) → zi_X l (zx_rm (d + 1) 0 0) M_Mod_rescue K RJ Q 99 [(0, .ref o0), (1, .int x1), (2, .int y0)] [.int 1] I5)))))))) :
    zi_X l (zx_rm (d + 1) 0 0) M_Mod_rescue K RJ Q 58 [(0, .ref o0), (1, .int x1)] [.int y0] I := by
  refine zx_istore_n (L2 := [(0, .ref o0), (1, .int x1), (2, .int y0)]) d_Mod_rescue_58 (Nat.le_of_ble_eq_true rfl) rfl ?_
  refine zx_iload_n d_Mod_rescue_59 rfl ?_
  refine zx_if_eq (tgt := 100) d_Mod_rescue_60 rfl (fun c => ?_) (fun c => ?_)
  · have k := k.1 c
    exact k
  · have k := k.2 c
    refine zx_aload_n d_Mod_rescue_63 rfl ?_
    refine zx_bipush d_Mod_rescue_64 zb_64 ?_
    refine zi_callV (hC := k) k_Mod_282 q1 (by decide) rfl rfl (Nat.le_of_ble_eq_true rfl) (Nat.le_of_ble_eq_true rfl) d_Mod_rescue_66 (fun r I2 k => ?_)
    obtain ⟨rfl, k⟩ := k
    refine zx_aload_n d_Mod_rescue_69 rfl ?_
    refine zi_getI f_Mod_231 q1 (by decide) d_Mod_rescue_70 ?_
    refine zx_if_ne (tgt := 98) d_Mod_rescue_73 rfl (fun c => ?_) (fun c => ?_)
    · have k := k.1 c
      exact k
    · have k := k.2 c
      refine zx_aload_n d_Mod_rescue_76 rfl ?_
      refine zi_callV (hC := k) k_Mod_285 q1 (by decide) rfl rfl (Nat.le_of_ble_eq_true rfl) (Nat.le_of_ble_eq_true rfl) d_Mod_rescue_77 (fun r I3 k => ?_)
      obtain ⟨v4, rfl, k⟩ := k
      refine zx_if_ne (tgt := 98) d_Mod_rescue_80 rfl (fun c => ?_) (fun c => ?_)
      · have k := k.1 c
        exact k
      · have k := k.2 c
        refine zx_aload_n d_Mod_rescue_83 rfl ?_
        refine zi_callV (hC := k) k_Mod_178 q1 (by decide) rfl rfl (Nat.le_of_ble_eq_true rfl) (Nat.le_of_ble_eq_true rfl) d_Mod_rescue_84 (fun r I5 k => ?_)
        obtain ⟨v6, rfl, k⟩ := k
        refine zx_aload_n d_Mod_rescue_87 rfl ?_
        refine zi_getI f_Mod_163 q1 (by decide) d_Mod_rescue_88 ?_
        refine zx_icmp_ne (tgt := 98) d_Mod_rescue_91 rfl (fun c => ?_) (fun c => ?_)
        · have k := k.1 c
          exact k
        · have k := k.2 c
          refine zx_iconst d_Mod_rescue_94 zc_1 ?_
          refine zx_goto (tgt := 99) d_Mod_rescue_95 rfl ?_
          exact k
set_option maxRecDepth 20000 in
theorem r_Mod_rescue_98 (l : Launch) (d : Nat) {K : zx_Kt} {RJ : zx_RJ} {Q : zi_Q} {I : zi_I} (o0 : Nat) (x1 : Int32) (x2 : Int32) 
    (k : zi_X l (zx_rm (d + 1) 0 0) M_Mod_rescue K RJ Q 99 [(0, .ref o0), (1, .int x1), (2, .int x2)] [.int 0] I) :
    zi_X l (zx_rm (d + 1) 0 0) M_Mod_rescue K RJ Q 98 [(0, .ref o0), (1, .int x1), (2, .int x2)] [] I := by
  refine zx_iconst d_Mod_rescue_98 zc_0 ?_
  exact k
set_option maxRecDepth 20000 in
theorem r_Mod_rescue_99 (l : Launch) (d : Nat) {K : zx_Kt} {RJ : zx_RJ} {Q : zi_Q} {I : zi_I} (o0 : Nat) (x1 : Int32) (x2 : Int32) (y0 : Int32) 
    (k : zi_X l (zx_rm (d + 1) 0 0) M_Mod_rescue K RJ Q 100 [(0, .ref o0), (1, .int x1), (2, .int y0)] [] I) :
    zi_X l (zx_rm (d + 1) 0 0) M_Mod_rescue K RJ Q 99 [(0, .ref o0), (1, .int x1), (2, .int x2)] [.int y0] I := by
  refine zx_istore_n (L2 := [(0, .ref o0), (1, .int x1), (2, .int y0)]) d_Mod_rescue_99 (Nat.le_of_ble_eq_true rfl) rfl ?_
  exact k
set_option maxRecDepth 20000 in
theorem r_Mod_rescue_100 (l : Launch) (d : Nat) {K : zx_Kt} {RJ : zx_RJ} {Q : zi_Q} {I : zi_I} (o0 : Nat) (x1 : Int32) (x2 : Int32) (q1 : (K.2 o0).1 = 6)
    (k : ((x2 = 0) → zi_X l (zx_rm (d + 1) 0 0) M_Mod_rescue K RJ Q 122 [(0, .ref o0), (1, .int x1), (2, .int x2)] [] I) ∧ ((¬ x2 = 0) → zi_C l (zx_rm d 0 0) M_Mod_addBytes [.ref o0] K RJ I (fun r I2 => r = none ∧ zi_C l (zx_rm d 0 0) M_Mod_remember [.ref o0] K RJ I2 (fun r I3 => r = none ∧ zi_X l (zx_rm (d + 1) 0 0) M_Mod_rescue K RJ Q 122 [(0, .ref o0), (1, .int x1), (2, .int x2)] [] (zx_u2 I3 o0 34 ((I3 o0 34) + 1)))))) :
    zi_X l (zx_rm (d + 1) 0 0) M_Mod_rescue K RJ Q 100 [(0, .ref o0), (1, .int x1), (2, .int x2)] [] I := by
  refine zx_iload_n d_Mod_rescue_100 rfl ?_
  refine zx_if_eq (tgt := 122) d_Mod_rescue_101 rfl (fun c => ?_) (fun c => ?_)
  · have k := k.1 c
    exact k
  · have k := k.2 c
    refine zx_aload_n d_Mod_rescue_104 rfl ?_
    refine zi_callV (hC := k) k_Mod_288 q1 (by decide) rfl rfl (Nat.le_of_ble_eq_true rfl) (Nat.le_of_ble_eq_true rfl) d_Mod_rescue_105 (fun r I2 k => ?_)
    obtain ⟨rfl, k⟩ := k
    refine zx_aload_n d_Mod_rescue_108 rfl ?_
    refine zi_callV (hC := k) k_Mod_224 q1 (by decide) rfl rfl (Nat.le_of_ble_eq_true rfl) (Nat.le_of_ble_eq_true rfl) d_Mod_rescue_109 (fun r I3 k => ?_)
    obtain ⟨rfl, k⟩ := k
    refine zx_aload_n d_Mod_rescue_112 rfl ?_
    refine zx_dup_a d_Mod_rescue_113 ?_
    refine zi_getI f_Mod_215 q1 (by decide) d_Mod_rescue_114 ?_
    refine zx_iconst d_Mod_rescue_117 zc_1 ?_
    refine zx_iadd d_Mod_rescue_118 ?_
    refine zi_putI f_Mod_215 q1 (by decide) d_Mod_rescue_119 ?_
    exact k
set_option maxRecDepth 20000 in
theorem r_Mod_rescue_122 (l : Launch) (d : Nat) {K : zx_Kt} {RJ : zx_RJ} {Q : zi_Q} {I : zi_I} (o0 : Nat) (x1 : Int32) (x2 : Int32) (q1 : (K.2 o0).1 = 6)
    (k : ((x2 = 0) → zi_X l (zx_rm (d + 1) 0 0) M_Mod_rescue K RJ Q 136 [(0, .ref o0), (1, .int x1), (2, .int x2)] [.int (x1 + 1)] I) ∧ ((¬ x2 = 0) → zi_X l (zx_rm (d + 1) 0 0) M_Mod_rescue K RJ Q 136 [(0, .ref o0), (1, .int x1), (2, .int x2)] [.int (I o0 7)] I)) :
    zi_X l (zx_rm (d + 1) 0 0) M_Mod_rescue K RJ Q 122 [(0, .ref o0), (1, .int x1), (2, .int x2)] [] I := by
  refine zx_iload_n d_Mod_rescue_122 rfl ?_
  refine zx_if_eq (tgt := 133) d_Mod_rescue_123 rfl (fun c => ?_) (fun c => ?_)
  · have k := k.1 c
    refine zx_iload_n d_Mod_rescue_133 rfl ?_
    refine zx_iconst d_Mod_rescue_134 zc_1 ?_
    refine zx_iadd d_Mod_rescue_135 ?_
    exact k
  · have k := k.2 c
    refine zx_aload_n d_Mod_rescue_126 rfl ?_
    refine zi_getI f_Mod_237 q1 (by decide) d_Mod_rescue_127 ?_
    refine zx_goto (tgt := 136) d_Mod_rescue_130 rfl ?_
    exact k
set_option maxRecDepth 20000 in
theorem r_Mod_rescue_136 (l : Launch) (d : Nat) {K : zx_Kt} {RJ : zx_RJ} {Q : zi_Q} {I : zi_I} (o0 : Nat) (x1 : Int32) (x2 : Int32) (y0 : Int32) 
    (k : zi_X l (zx_rm (d + 1) 0 0) M_Mod_rescue K RJ Q 17 [(0, .ref o0), (1, .int y0)] [] I) :
    zi_X l (zx_rm (d + 1) 0 0) M_Mod_rescue K RJ Q 136 [(0, .ref o0), (1, .int x1), (2, .int x2)] [.int y0] I := by
  refine zx_istore_n (L2 := [(0, .ref o0), (1, .int y0), (2, .int x2)]) d_Mod_rescue_136 (Nat.le_of_ble_eq_true rfl) rfl ?_
  refine zx_goto (tgt := 17) d_Mod_rescue_137 rfl ?_
  refine zx_locs [0, 1] rfl ?_
  exact k
set_option maxRecDepth 20000 in
theorem r_Mod_given_0 (l : Launch) (d : Nat) {K : zx_Kt} {RJ : zx_RJ} {Q : zi_Q} {I : zi_I} (o0 : Nat) (q1 : (K.2 o0).1 = 6)
    (k : Q (some (.int (I o0 1))) (zx_u2 I o0 0 0)) :
    zi_X l (zx_rm d 0 0) M_Mod_given K RJ Q 0 [(0, .ref o0)] [] I := by
  refine zx_aload_n d_Mod_given_0 rfl ?_
  refine zx_iconst d_Mod_given_1 zc_0 ?_
  refine zi_putI f_Mod_75 q1 (by decide) d_Mod_given_2 ?_
  refine zx_aload_n d_Mod_given_5 rfl ?_
  refine zi_getIe f_Mod_78 q1 (by decide) (zx_u2_k (by decide)) d_Mod_given_6 ?_
  exact zi_iret d_Mod_given_9 rfl k
set_option maxRecDepth 20000 in
theorem r_Mod_size_0 (l : Launch) (d : Nat) {K : zx_Kt} {RJ : zx_RJ} {Q : zi_Q} {I : zi_I} (o0 : Nat) (q1 : (K.2 o0).1 = 6)
    (k : Q (some (.int (I o0 3))) (zx_u2 I o0 0 0)) :
    zi_X l (zx_rm d 0 0) M_Mod_size K RJ Q 0 [(0, .ref o0)] [] I := by
  refine zx_aload_n d_Mod_size_0 rfl ?_
  refine zx_iconst d_Mod_size_1 zc_0 ?_
  refine zi_putI f_Mod_75 q1 (by decide) d_Mod_size_2 ?_
  refine zx_aload_n d_Mod_size_5 rfl ?_
  refine zi_getIe f_Mod_83 q1 (by decide) (zx_u2_k (by decide)) d_Mod_size_6 ?_
  exact zi_iret d_Mod_size_9 rfl k
set_option maxRecDepth 20000 in
theorem r_Mod_out_0 (l : Launch) (d : Nat) {K : zx_Kt} {RJ : zx_RJ} {Q : zi_Q} {I : zi_I} (o0 : Nat) (x1 : Int32) (q1 : (K.2 o0).1 = 6) {r2 : Nat} (e3 : RJ.1 o0 4 = r2) (z4 : r2 ≠ 0) {n6 : Nat} (a5 : K.2 r2 = (0, n6))
    (k : ((x1 < 0) → ((¬ (1 : Int32) = 0) → Q (some (.int 0)) (zx_u2 I o0 0 1)) ∧ (((1 : Int32) = 0) → ∃ j7, x1 = nI j7 ∧ j7 < n6 ∧ Q (some (.int ((zx_u2 I o0 0 1) r2 j7))) (zx_u2 I o0 0 1))) ∧ ((¬ x1 < 0) → ((x1 < (I o0 3)) → ((¬ (0 : Int32) = 0) → Q (some (.int 0)) (zx_u2 I o0 0 0)) ∧ (((0 : Int32) = 0) → ∃ j10, x1 = nI j10 ∧ j10 < n6 ∧ Q (some (.int ((zx_u2 I o0 0 0) r2 j10))) (zx_u2 I o0 0 0))) ∧ ((¬ x1 < (I o0 3)) → ((¬ (1 : Int32) = 0) → Q (some (.int 0)) (zx_u2 I o0 0 1)) ∧ (((1 : Int32) = 0) → ∃ j13, x1 = nI j13 ∧ j13 < n6 ∧ Q (some (.int ((zx_u2 I o0 0 1) r2 j13))) (zx_u2 I o0 0 1))))) :
    zi_X l (zx_rm d 0 0) M_Mod_out K RJ Q 0 [(0, .ref o0), (1, .int x1)] [] I := by
  refine zx_aload_n d_Mod_out_0 rfl ?_
  refine zx_iload_n d_Mod_out_1 rfl ?_
  refine zx_if_lt (tgt := 13) d_Mod_out_2 rfl (fun c => ?_) (fun c => ?_)
  · have k := k.1 c
    refine zx_iconst d_Mod_out_13 zc_1 ?_
    refine zx_goto (tgt := 18) d_Mod_out_14 rfl ?_
    refine zi_putI f_Mod_75 q1 (by decide) d_Mod_out_18 ?_
    refine zx_aload_n d_Mod_out_21 rfl ?_
    refine zi_getIe f_Mod_75 q1 (by decide) zx_u2_s d_Mod_out_22 ?_
    refine zx_if_ne (tgt := 37) d_Mod_out_25 rfl (fun c => ?_) (fun c => ?_)
    · have k := k.1 c
      refine zx_iconst d_Mod_out_37 zc_0 ?_
      exact zi_iret d_Mod_out_38 rfl k
    · have k := k.2 c
      refine zx_aload_n d_Mod_out_28 rfl ?_
      refine zi_getR f_Mod_13 q1 (by decide) e3 z4 d_Mod_out_29 ?_
      refine zx_iload_n d_Mod_out_32 rfl ?_
      obtain ⟨j7, e8, b9, k⟩ := k
      refine zi_iald j7 a5 e8 b9 d_Mod_out_33 ?_
      refine zx_goto (tgt := 38) d_Mod_out_34 rfl ?_
      exact zi_iret d_Mod_out_38 rfl k
  · have k := k.2 c
    refine zx_iload_n d_Mod_out_5 rfl ?_
    refine zx_aload_n d_Mod_out_6 rfl ?_
    refine zi_getI f_Mod_83 q1 (by decide) d_Mod_out_7 ?_
    refine zx_icmp_lt (tgt := 17) d_Mod_out_10 rfl (fun c => ?_) (fun c => ?_)
    · have k := k.1 c
      refine zx_iconst d_Mod_out_17 zc_0 ?_
      refine zi_putI f_Mod_75 q1 (by decide) d_Mod_out_18 ?_
      refine zx_aload_n d_Mod_out_21 rfl ?_
      refine zi_getIe f_Mod_75 q1 (by decide) zx_u2_s d_Mod_out_22 ?_
      refine zx_if_ne (tgt := 37) d_Mod_out_25 rfl (fun c => ?_) (fun c => ?_)
      · have k := k.1 c
        refine zx_iconst d_Mod_out_37 zc_0 ?_
        exact zi_iret d_Mod_out_38 rfl k
      · have k := k.2 c
        refine zx_aload_n d_Mod_out_28 rfl ?_
        refine zi_getR f_Mod_13 q1 (by decide) e3 z4 d_Mod_out_29 ?_
        refine zx_iload_n d_Mod_out_32 rfl ?_
        obtain ⟨j10, e11, b12, k⟩ := k
        refine zi_iald j10 a5 e11 b12 d_Mod_out_33 ?_
        refine zx_goto (tgt := 38) d_Mod_out_34 rfl ?_
        exact zi_iret d_Mod_out_38 rfl k
    · have k := k.2 c
      refine zx_iconst d_Mod_out_13 zc_1 ?_
      refine zx_goto (tgt := 18) d_Mod_out_14 rfl ?_
      refine zi_putI f_Mod_75 q1 (by decide) d_Mod_out_18 ?_
      refine zx_aload_n d_Mod_out_21 rfl ?_
      refine zi_getIe f_Mod_75 q1 (by decide) zx_u2_s d_Mod_out_22 ?_
      refine zx_if_ne (tgt := 37) d_Mod_out_25 rfl (fun c => ?_) (fun c => ?_)
      · have k := k.1 c
        refine zx_iconst d_Mod_out_37 zc_0 ?_
        exact zi_iret d_Mod_out_38 rfl k
      · have k := k.2 c
        refine zx_aload_n d_Mod_out_28 rfl ?_
        refine zi_getR f_Mod_13 q1 (by decide) e3 z4 d_Mod_out_29 ?_
        refine zx_iload_n d_Mod_out_32 rfl ?_
        obtain ⟨j13, e14, b15, k⟩ := k
        refine zi_iald j13 a5 e14 b15 d_Mod_out_33 ?_
        refine zx_goto (tgt := 38) d_Mod_out_34 rfl ?_
        exact zi_iret d_Mod_out_38 rfl k
set_option maxRecDepth 20000 in
theorem r_Mod_blocks_0 (l : Launch) (d : Nat) {K : zx_Kt} {RJ : zx_RJ} {Q : zi_Q} {I : zi_I} (o0 : Nat) (q1 : (K.2 o0).1 = 6)
    (k : Q (some (.int (I o0 34))) (zx_u2 I o0 0 0)) :
    zi_X l (zx_rm d 0 0) M_Mod_blocks K RJ Q 0 [(0, .ref o0)] [] I := by
  refine zx_aload_n d_Mod_blocks_0 rfl ?_
  refine zx_iconst d_Mod_blocks_1 zc_0 ?_
  refine zi_putI f_Mod_75 q1 (by decide) d_Mod_blocks_2 ?_
  refine zx_aload_n d_Mod_blocks_5 rfl ?_
  refine zi_getIe f_Mod_215 q1 (by decide) (zx_u2_k (by decide)) d_Mod_blocks_6 ?_
  exact zi_iret d_Mod_blocks_9 rfl k
set_option maxRecDepth 20000 in
theorem r_Mod_block_0 (l : Launch) (d : Nat) {K : zx_Kt} {RJ : zx_RJ} {Q : zi_Q} {I : zi_I} (o0 : Nat) (x1 : Int32) (q1 : (K.2 o0).1 = 6)
    (k : ((¬ (I o0 34) = 0) → ((¬ x1 = 0) → ((¬ x1 = 1) → ((¬ x1 = 2) → ((¬ x1 = 3) → ((¬ x1 = 4) → Q (some (.int ((-1)))) (zx_u2 I o0 0 0)) ∧ ((x1 = 4) → Q (some (.int (I o0 41))) (zx_u2 I o0 0 0))) ∧ ((x1 = 3) → Q (some (.int (I o0 38))) (zx_u2 I o0 0 0))) ∧ ((x1 = 2) → Q (some (.int (I o0 37))) (zx_u2 I o0 0 0))) ∧ ((x1 = 1) → Q (some (.int (I o0 36))) (zx_u2 I o0 0 0))) ∧ ((x1 = 0) → Q (some (.int (I o0 35))) (zx_u2 I o0 0 0))) ∧ (((I o0 34) = 0) → Q (some (.int ((-1)))) (zx_u2 I o0 0 0))) :
    zi_X l (zx_rm d 0 0) M_Mod_block K RJ Q 0 [(0, .ref o0), (1, .int x1)] [] I := by
  refine zx_aload_n d_Mod_block_0 rfl ?_
  refine zx_iconst d_Mod_block_1 zc_0 ?_
  refine zi_putI f_Mod_75 q1 (by decide) d_Mod_block_2 ?_
  refine zx_aload_n d_Mod_block_5 rfl ?_
  refine zi_getIe f_Mod_215 q1 (by decide) (zx_u2_k (by decide)) d_Mod_block_6 ?_
  refine zx_if_ne (tgt := 14) d_Mod_block_9 rfl (fun c => ?_) (fun c => ?_)
  · have k := k.1 c
    refine zx_iload_n d_Mod_block_14 rfl ?_
    refine zx_if_ne (tgt := 25) d_Mod_block_15 rfl (fun c => ?_) (fun c => ?_)
    · have k := k.1 c
      refine zx_iload_n d_Mod_block_25 rfl ?_
      refine zx_iconst d_Mod_block_26 zc_1 ?_
      refine zx_icmp_ne (tgt := 37) d_Mod_block_27 rfl (fun c => ?_) (fun c => ?_)
      · have k := k.1 c
        refine zx_iload_n d_Mod_block_37 rfl ?_
        refine zx_iconst d_Mod_block_38 zc_2 ?_
        refine zx_icmp_ne (tgt := 49) d_Mod_block_39 rfl (fun c => ?_) (fun c => ?_)
        · have k := k.1 c
          refine zx_iload_n d_Mod_block_49 rfl ?_
          refine zx_iconst d_Mod_block_50 zc_3 ?_
          refine zx_icmp_ne (tgt := 61) d_Mod_block_51 rfl (fun c => ?_) (fun c => ?_)
          · have k := k.1 c
            refine zx_iload_n d_Mod_block_61 rfl ?_
            refine zx_iconst d_Mod_block_62 zc_4 ?_
            refine zx_icmp_ne (tgt := 73) d_Mod_block_63 rfl (fun c => ?_) (fun c => ?_)
            · have k := k.1 c
              refine zx_iconst d_Mod_block_73 zc_m1 ?_
              exact zi_iret d_Mod_block_74 rfl k
            · have k := k.2 c
              refine zx_aload_n d_Mod_block_66 rfl ?_
              refine zi_getIe f_Mod_212 q1 (by decide) (zx_u2_k (by decide)) d_Mod_block_67 ?_
              refine zx_goto (tgt := 74) d_Mod_block_70 rfl ?_
              exact zi_iret d_Mod_block_74 rfl k
          · have k := k.2 c
            refine zx_aload_n d_Mod_block_54 rfl ?_
            refine zi_getIe f_Mod_203 q1 (by decide) (zx_u2_k (by decide)) d_Mod_block_55 ?_
            refine zx_goto (tgt := 74) d_Mod_block_58 rfl ?_
            exact zi_iret d_Mod_block_74 rfl k
        · have k := k.2 c
          refine zx_aload_n d_Mod_block_42 rfl ?_
          refine zi_getIe f_Mod_200 q1 (by decide) (zx_u2_k (by decide)) d_Mod_block_43 ?_
          refine zx_goto (tgt := 74) d_Mod_block_46 rfl ?_
          exact zi_iret d_Mod_block_74 rfl k
      · have k := k.2 c
        refine zx_aload_n d_Mod_block_30 rfl ?_
        refine zi_getIe f_Mod_197 q1 (by decide) (zx_u2_k (by decide)) d_Mod_block_31 ?_
        refine zx_goto (tgt := 74) d_Mod_block_34 rfl ?_
        exact zi_iret d_Mod_block_74 rfl k
    · have k := k.2 c
      refine zx_aload_n d_Mod_block_18 rfl ?_
      refine zi_getIe f_Mod_194 q1 (by decide) (zx_u2_k (by decide)) d_Mod_block_19 ?_
      refine zx_goto (tgt := 74) d_Mod_block_22 rfl ?_
      exact zi_iret d_Mod_block_74 rfl k
  · have k := k.2 c
    refine zx_iconst d_Mod_block_12 zc_m1 ?_
    exact zi_iret d_Mod_block_13 rfl k
set_option maxRecDepth 20000 in
theorem r_Mod_last_0 (l : Launch) (d : Nat) {K : zx_Kt} {RJ : zx_RJ} {Q : zi_Q} {I : zi_I} (o0 : Nat) (x1 : Int32) (q1 : (K.2 o0).1 = 6) {r2 : Nat} (e3 : RJ.1 o0 42 = r2) (z4 : r2 ≠ 0) {n6 : Nat} (a5 : K.2 r2 = (0, n6))
    (k : (((I o0 34) = 0) → Q (some (.int ((-1)))) (zx_u2 I o0 0 0)) ∧ ((¬ (I o0 34) = 0) → ((x1 < 0) → Q (some (.int ((-1)))) (zx_u2 I o0 0 0)) ∧ ((¬ x1 < 0) → ((x1 < (I o0 36)) → ∃ j7, x1 = nI j7 ∧ j7 < n6 ∧ Q (some (.int ((zx_u2 I o0 0 0) r2 j7))) (zx_u2 I o0 0 0)) ∧ ((¬ x1 < (I o0 36)) → Q (some (.int ((-1)))) (zx_u2 I o0 0 0))))) :
    zi_X l (zx_rm d 0 0) M_Mod_last K RJ Q 0 [(0, .ref o0), (1, .int x1)] [] I := by
  refine zx_aload_n d_Mod_last_0 rfl ?_
  refine zx_iconst d_Mod_last_1 zc_0 ?_
  refine zi_putI f_Mod_75 q1 (by decide) d_Mod_last_2 ?_
  refine zx_aload_n d_Mod_last_5 rfl ?_
  refine zi_getIe f_Mod_215 q1 (by decide) (zx_u2_k (by decide)) d_Mod_last_6 ?_
  refine zx_if_eq (tgt := 24) d_Mod_last_9 rfl (fun c => ?_) (fun c => ?_)
  · have k := k.1 c
    refine zx_iconst d_Mod_last_24 zc_m1 ?_
    refine zx_goto (tgt := 34) d_Mod_last_25 rfl ?_
    exact zi_iret d_Mod_last_34 rfl k
  · have k := k.2 c
    refine zx_iload_n d_Mod_last_12 rfl ?_
    refine zx_if_lt (tgt := 24) d_Mod_last_13 rfl (fun c => ?_) (fun c => ?_)
    · have k := k.1 c
      refine zx_iconst d_Mod_last_24 zc_m1 ?_
      refine zx_goto (tgt := 34) d_Mod_last_25 rfl ?_
      exact zi_iret d_Mod_last_34 rfl k
    · have k := k.2 c
      refine zx_iload_n d_Mod_last_16 rfl ?_
      refine zx_aload_n d_Mod_last_17 rfl ?_
      refine zi_getIe f_Mod_197 q1 (by decide) (zx_u2_k (by decide)) d_Mod_last_18 ?_
      refine zx_icmp_lt (tgt := 28) d_Mod_last_21 rfl (fun c => ?_) (fun c => ?_)
      · have k := k.1 c
        refine zx_aload_n d_Mod_last_28 rfl ?_
        refine zi_getR f_Mod_63 q1 (by decide) e3 z4 d_Mod_last_29 ?_
        refine zx_iload_n d_Mod_last_32 rfl ?_
        obtain ⟨j7, e8, b9, k⟩ := k
        refine zi_iald j7 a5 e8 b9 d_Mod_last_33 ?_
        exact zi_iret d_Mod_last_34 rfl k
      · have k := k.2 c
        refine zx_iconst d_Mod_last_24 zc_m1 ?_
        refine zx_goto (tgt := 34) d_Mod_last_25 rfl ?_
        exact zi_iret d_Mod_last_34 rfl k
set_option maxRecDepth 20000 in
theorem r_Mod_symbol_0 (l : Launch) (d : Nat) {K : zx_Kt} {RJ : zx_RJ} {Q : zi_Q} {I : zi_I} (o0 : Nat) (x1 : Int32) (q1 : (K.2 o0).1 = 6) {r2 : Nat} (e3 : RJ.1 o0 43 = r2) (z4 : r2 ≠ 0) {n6 : Nat} (a5 : K.2 r2 = (0, n6))
    (k : (((I o0 34) = 0) → Q (some (.int ((-1)))) (zx_u2 I o0 0 0)) ∧ ((¬ (I o0 34) = 0) → ((x1 < 0) → Q (some (.int ((-1)))) (zx_u2 I o0 0 0)) ∧ ((¬ x1 < 0) → ((x1 < (I o0 37)) → ∃ j7, x1 = nI j7 ∧ j7 < n6 ∧ Q (some (.int ((zx_u2 I o0 0 0) r2 j7))) (zx_u2 I o0 0 0)) ∧ ((¬ x1 < (I o0 37)) → Q (some (.int ((-1)))) (zx_u2 I o0 0 0))))) :
    zi_X l (zx_rm d 0 0) M_Mod_symbol K RJ Q 0 [(0, .ref o0), (1, .int x1)] [] I := by
  refine zx_aload_n d_Mod_symbol_0 rfl ?_
  refine zx_iconst d_Mod_symbol_1 zc_0 ?_
  refine zi_putI f_Mod_75 q1 (by decide) d_Mod_symbol_2 ?_
  refine zx_aload_n d_Mod_symbol_5 rfl ?_
  refine zi_getIe f_Mod_215 q1 (by decide) (zx_u2_k (by decide)) d_Mod_symbol_6 ?_
  refine zx_if_eq (tgt := 24) d_Mod_symbol_9 rfl (fun c => ?_) (fun c => ?_)
  · have k := k.1 c
    refine zx_iconst d_Mod_symbol_24 zc_m1 ?_
    refine zx_goto (tgt := 34) d_Mod_symbol_25 rfl ?_
    exact zi_iret d_Mod_symbol_34 rfl k
  · have k := k.2 c
    refine zx_iload_n d_Mod_symbol_12 rfl ?_
    refine zx_if_lt (tgt := 24) d_Mod_symbol_13 rfl (fun c => ?_) (fun c => ?_)
    · have k := k.1 c
      refine zx_iconst d_Mod_symbol_24 zc_m1 ?_
      refine zx_goto (tgt := 34) d_Mod_symbol_25 rfl ?_
      exact zi_iret d_Mod_symbol_34 rfl k
    · have k := k.2 c
      refine zx_iload_n d_Mod_symbol_16 rfl ?_
      refine zx_aload_n d_Mod_symbol_17 rfl ?_
      refine zi_getIe f_Mod_200 q1 (by decide) (zx_u2_k (by decide)) d_Mod_symbol_18 ?_
      refine zx_icmp_lt (tgt := 28) d_Mod_symbol_21 rfl (fun c => ?_) (fun c => ?_)
      · have k := k.1 c
        refine zx_aload_n d_Mod_symbol_28 rfl ?_
        refine zi_getR f_Mod_66 q1 (by decide) e3 z4 d_Mod_symbol_29 ?_
        refine zx_iload_n d_Mod_symbol_32 rfl ?_
        obtain ⟨j7, e8, b9, k⟩ := k
        refine zi_iald j7 a5 e8 b9 d_Mod_symbol_33 ?_
        exact zi_iret d_Mod_symbol_34 rfl k
      · have k := k.2 c
        refine zx_iconst d_Mod_symbol_24 zc_m1 ?_
        refine zx_goto (tgt := 34) d_Mod_symbol_25 rfl ?_
        exact zi_iret d_Mod_symbol_34 rfl k
set_option maxRecDepth 20000 in
theorem r_Mod_length_0 (l : Launch) (d : Nat) {K : zx_Kt} {RJ : zx_RJ} {Q : zi_Q} {I : zi_I} (o0 : Nat) (x1 : Int32) (x2 : Int32) (q1 : (K.2 o0).1 = 6) {r2 : Nat} (e3 : RJ.1 o0 44 = r2) (z4 : r2 ≠ 0) {n6 : Nat} (a5 : K.2 r2 = (0, n6))
    (k : (((I o0 34) = 0) → Q (some (.int ((-1)))) (zx_u2 I o0 0 0)) ∧ ((¬ (I o0 34) = 0) → ((x1 < 0) → Q (some (.int ((-1)))) (zx_u2 I o0 0 0)) ∧ ((¬ x1 < 0) → (((I o0 38) ≤ x1) → Q (some (.int ((-1)))) (zx_u2 I o0 0 0)) ∧ ((¬ (I o0 38) ≤ x1) → ((x2 < 0) → Q (some (.int ((-1)))) (zx_u2 I o0 0 0)) ∧ ((¬ x2 < 0) → ((x2 < ((I o0 40) + 2)) → ∃ j7, (260 * x1) + x2 = nI j7 ∧ j7 < n6 ∧ Q (some (.int ((zx_u2 I o0 0 0) r2 j7))) (zx_u2 I o0 0 0)) ∧ ((¬ x2 < ((I o0 40) + 2)) → Q (some (.int ((-1)))) (zx_u2 I o0 0 0))))))) :
    zi_X l (zx_rm d 0 0) M_Mod_length K RJ Q 0 [(0, .ref o0), (1, .int x1), (2, .int x2)] [] I := by
  refine zx_aload_n d_Mod_length_0 rfl ?_
  refine zx_iconst d_Mod_length_1 zc_0 ?_
  refine zi_putI f_Mod_75 q1 (by decide) d_Mod_length_2 ?_
  refine zx_aload_n d_Mod_length_5 rfl ?_
  refine zi_getIe f_Mod_215 q1 (by decide) (zx_u2_k (by decide)) d_Mod_length_6 ?_
  refine zx_if_eq (tgt := 38) d_Mod_length_9 rfl (fun c => ?_) (fun c => ?_)
  · have k := k.1 c
    refine zx_iconst d_Mod_length_38 zc_m1 ?_
    refine zx_goto (tgt := 54) d_Mod_length_39 rfl ?_
    exact zi_iret d_Mod_length_54 rfl k
  · have k := k.2 c
    refine zx_iload_n d_Mod_length_12 rfl ?_
    refine zx_if_lt (tgt := 38) d_Mod_length_13 rfl (fun c => ?_) (fun c => ?_)
    · have k := k.1 c
      refine zx_iconst d_Mod_length_38 zc_m1 ?_
      refine zx_goto (tgt := 54) d_Mod_length_39 rfl ?_
      exact zi_iret d_Mod_length_54 rfl k
    · have k := k.2 c
      refine zx_iload_n d_Mod_length_16 rfl ?_
      refine zx_aload_n d_Mod_length_17 rfl ?_
      refine zi_getIe f_Mod_203 q1 (by decide) (zx_u2_k (by decide)) d_Mod_length_18 ?_
      refine zx_icmp_ge (tgt := 38) d_Mod_length_21 rfl (fun c => ?_) (fun c => ?_)
      · have k := k.1 c
        refine zx_iconst d_Mod_length_38 zc_m1 ?_
        refine zx_goto (tgt := 54) d_Mod_length_39 rfl ?_
        exact zi_iret d_Mod_length_54 rfl k
      · have k := k.2 c
        refine zx_iload_n d_Mod_length_24 rfl ?_
        refine zx_if_lt (tgt := 38) d_Mod_length_25 rfl (fun c => ?_) (fun c => ?_)
        · have k := k.1 c
          refine zx_iconst d_Mod_length_38 zc_m1 ?_
          refine zx_goto (tgt := 54) d_Mod_length_39 rfl ?_
          exact zi_iret d_Mod_length_54 rfl k
        · have k := k.2 c
          refine zx_iload_n d_Mod_length_28 rfl ?_
          refine zx_aload_n d_Mod_length_29 rfl ?_
          refine zi_getIe f_Mod_209 q1 (by decide) (zx_u2_k (by decide)) d_Mod_length_30 ?_
          refine zx_iconst d_Mod_length_33 zc_2 ?_
          refine zx_iadd d_Mod_length_34 ?_
          refine zx_icmp_lt (tgt := 42) d_Mod_length_35 rfl (fun c => ?_) (fun c => ?_)
          · have k := k.1 c
            refine zx_aload_n d_Mod_length_42 rfl ?_
            refine zi_getR f_Mod_69 q1 (by decide) e3 z4 d_Mod_length_43 ?_
            refine zx_sipush d_Mod_length_46 zs_260 ?_
            refine zx_iload_n d_Mod_length_49 rfl ?_
            refine zx_imul d_Mod_length_50 ?_
            refine zx_iload_n d_Mod_length_51 rfl ?_
            refine zx_iadd d_Mod_length_52 ?_
            obtain ⟨j7, e8, b9, k⟩ := k
            refine zi_iald j7 a5 e8 b9 d_Mod_length_53 ?_
            exact zi_iret d_Mod_length_54 rfl k
          · have k := k.2 c
            refine zx_iconst d_Mod_length_38 zc_m1 ?_
            refine zx_goto (tgt := 54) d_Mod_length_39 rfl ?_
            exact zi_iret d_Mod_length_54 rfl k
set_option maxRecDepth 20000 in
theorem r_Mod_table_0 (l : Launch) (d : Nat) {K : zx_Kt} {RJ : zx_RJ} {Q : zi_Q} {I : zi_I} (o0 : Nat) (x1 : Int32) (q1 : (K.2 o0).1 = 6) {r2 : Nat} (e3 : RJ.1 o0 45 = r2) (z4 : r2 ≠ 0) {n6 : Nat} (a5 : K.2 r2 = (0, n6))
    (k : (((I o0 34) = 0) → Q (some (.int ((-1)))) (zx_u2 I o0 0 0)) ∧ ((¬ (I o0 34) = 0) → ((x1 < 0) → Q (some (.int ((-1)))) (zx_u2 I o0 0 0)) ∧ ((¬ x1 < 0) → ((x1 < (I o0 39)) → ∃ j7, x1 = nI j7 ∧ j7 < n6 ∧ Q (some (.int ((zx_u2 I o0 0 0) r2 j7))) (zx_u2 I o0 0 0)) ∧ ((¬ x1 < (I o0 39)) → Q (some (.int ((-1)))) (zx_u2 I o0 0 0))))) :
    zi_X l (zx_rm d 0 0) M_Mod_table K RJ Q 0 [(0, .ref o0), (1, .int x1)] [] I := by
  refine zx_aload_n d_Mod_table_0 rfl ?_
  refine zx_iconst d_Mod_table_1 zc_0 ?_
  refine zi_putI f_Mod_75 q1 (by decide) d_Mod_table_2 ?_
  refine zx_aload_n d_Mod_table_5 rfl ?_
  refine zi_getIe f_Mod_215 q1 (by decide) (zx_u2_k (by decide)) d_Mod_table_6 ?_
  refine zx_if_eq (tgt := 24) d_Mod_table_9 rfl (fun c => ?_) (fun c => ?_)
  · have k := k.1 c
    refine zx_iconst d_Mod_table_24 zc_m1 ?_
    refine zx_goto (tgt := 34) d_Mod_table_25 rfl ?_
    exact zi_iret d_Mod_table_34 rfl k
  · have k := k.2 c
    refine zx_iload_n d_Mod_table_12 rfl ?_
    refine zx_if_lt (tgt := 24) d_Mod_table_13 rfl (fun c => ?_) (fun c => ?_)
    · have k := k.1 c
      refine zx_iconst d_Mod_table_24 zc_m1 ?_
      refine zx_goto (tgt := 34) d_Mod_table_25 rfl ?_
      exact zi_iret d_Mod_table_34 rfl k
    · have k := k.2 c
      refine zx_iload_n d_Mod_table_16 rfl ?_
      refine zx_aload_n d_Mod_table_17 rfl ?_
      refine zi_getIe f_Mod_206 q1 (by decide) (zx_u2_k (by decide)) d_Mod_table_18 ?_
      refine zx_icmp_lt (tgt := 28) d_Mod_table_21 rfl (fun c => ?_) (fun c => ?_)
      · have k := k.1 c
        refine zx_aload_n d_Mod_table_28 rfl ?_
        refine zi_getR f_Mod_72 q1 (by decide) e3 z4 d_Mod_table_29 ?_
        refine zx_iload_n d_Mod_table_32 rfl ?_
        obtain ⟨j7, e8, b9, k⟩ := k
        refine zi_iald j7 a5 e8 b9 d_Mod_table_33 ?_
        exact zi_iret d_Mod_table_34 rfl k
      · have k := k.2 c
        refine zx_iconst d_Mod_table_24 zc_m1 ?_
        refine zx_goto (tgt := 34) d_Mod_table_25 rfl ?_
        exact zi_iret d_Mod_table_34 rfl k
