/-! Regions of methods between loop heads: written by wip/whole/gen. -/
set_option maxRecDepth 20000 in
theorem r_BlockMaker_makeBlock_0 (l : Launch) (d : Nat) {K : zx_Kt} {RJ : zx_RJ} {Q : zi_Q} {I : zi_I} (o0 : Nat) (o1 : Nat) (o2 : Nat) (x3 : Int32) (x4 : Int32) (q5 : (K.2 o1).1 = 9) (q6 : (K.2 o0).1 = 10) {r11 : Nat} (e12 : RJ.1 o0 3 = r11) (z13 : r11 ≠ 0) (q14 : (K.2 r11).1 = 15)
    (k : zi_C l (zx_rm d 0 0) M_BlockMaker_shorten [.ref o1, .ref o2, .int x3, .int x4] K RJ I (fun r I1 => ∃ v2, r = some (.int v2) ∧ zi_C l (zx_rm d 0 0) M_Main_checkOf [.ref o2, .int x3, .int v2] K RJ I1 (fun r I3 => ∃ v4, r = some (.int v4) ∧ zi_C l (zx_rm d 0 0) M_BlockMaker_sortRotations [.ref o0, .ref o1] K RJ (zx_u2 I3 o1 0 v4) (fun r I7 => r = none ∧ zi_C l (zx_rm d 0 0) M_BlockMaker_readOrder [.ref o0, .ref o1] K RJ I7 (fun r I8 => r = none ∧ zi_C l (zx_rm d 0 0) M_BlockMaker_listKinds [.ref o0, .ref o1] K RJ I8 (fun r I9 => r = none ∧ zi_C l (zx_rm d 0 0) M_BlockMaker_findSymbols [.ref o0, .ref o1] K RJ I9 (fun r I10 => r = none ∧ zi_C l (zx_rm d 0 0) M_Picker_pickTables [.ref r11, .ref o1] K RJ I10 (fun r I15 => r = none ∧ Q (some (.int v2)) I15)))))))) :
    zi_X l (zx_rm (d + 1) 0 0) M_BlockMaker_makeBlock K RJ Q 0 [(0, .ref o0), (1, .ref o1), (2, .ref o2), (3, .int x3), (4, .int x4)] [] I := by
  refine zx_aload_n d_BlockMaker_makeBlock_0 rfl ?_
  refine zx_aload_n d_BlockMaker_makeBlock_1 rfl ?_
  refine zx_iload_n d_BlockMaker_makeBlock_2 rfl ?_
  refine zx_iload d_BlockMaker_makeBlock_3 rfl ?_
  refine zi_callS (hC := k) k_BlockMaker_32 rfl rfl (Nat.le_of_ble_eq_true rfl) (Nat.le_of_ble_eq_true rfl) d_BlockMaker_makeBlock_5 (fun r I1 k => ?_)
  obtain ⟨v2, rfl, k⟩ := k
  refine zx_istore (L2 := [(0, .ref o0), (1, .ref o1), (2, .ref o2), (3, .int x3), (4, .int x4), (5, .int v2)]) d_BlockMaker_makeBlock_8 (Nat.le_of_ble_eq_true rfl) rfl ?_
  refine zx_aload_n d_BlockMaker_makeBlock_10 rfl ?_
  refine zx_aload_n d_BlockMaker_makeBlock_11 rfl ?_
  refine zx_iload_n d_BlockMaker_makeBlock_12 rfl ?_
  refine zx_iload d_BlockMaker_makeBlock_13 rfl ?_
  refine zi_callS (hC := k) k_BlockMaker_36 rfl rfl (Nat.le_of_ble_eq_true rfl) (Nat.le_of_ble_eq_true rfl) d_BlockMaker_makeBlock_15 (fun r I3 k => ?_)
  obtain ⟨v4, rfl, k⟩ := k
  refine zi_putI f_BlockMaker_40 q5 (by decide) d_BlockMaker_makeBlock_18 ?_
  refine zx_aload_n d_BlockMaker_makeBlock_21 rfl ?_
  refine zx_aload_n d_BlockMaker_makeBlock_22 rfl ?_
  refine zi_callV (hC := k) k_BlockMaker_46 q6 (by decide) rfl rfl (Nat.le_of_ble_eq_true rfl) (Nat.le_of_ble_eq_true rfl) d_BlockMaker_makeBlock_23 (fun r I7 k => ?_)
  obtain ⟨rfl, k⟩ := k
  refine zx_aload_n d_BlockMaker_makeBlock_26 rfl ?_
  refine zx_aload_n d_BlockMaker_makeBlock_27 rfl ?_
  refine zi_callV (hC := k) k_BlockMaker_50 q6 (by decide) rfl rfl (Nat.le_of_ble_eq_true rfl) (Nat.le_of_ble_eq_true rfl) d_BlockMaker_makeBlock_28 (fun r I8 k => ?_)
  obtain ⟨rfl, k⟩ := k
  refine zx_aload_n d_BlockMaker_makeBlock_31 rfl ?_
  refine zx_aload_n d_BlockMaker_makeBlock_32 rfl ?_
  refine zi_callV (hC := k) k_BlockMaker_53 q6 (by decide) rfl rfl (Nat.le_of_ble_eq_true rfl) (Nat.le_of_ble_eq_true rfl) d_BlockMaker_makeBlock_33 (fun r I9 k => ?_)
  obtain ⟨rfl, k⟩ := k
  refine zx_aload_n d_BlockMaker_makeBlock_36 rfl ?_
  refine zx_aload_n d_BlockMaker_makeBlock_37 rfl ?_
  refine zi_callV (hC := k) k_BlockMaker_56 q6 (by decide) rfl rfl (Nat.le_of_ble_eq_true rfl) (Nat.le_of_ble_eq_true rfl) d_BlockMaker_makeBlock_38 (fun r I10 k => ?_)
  obtain ⟨rfl, k⟩ := k
  refine zx_aload_n d_BlockMaker_makeBlock_41 rfl ?_
  refine zi_getR f_BlockMaker_28 q6 (by decide) e12 z13 d_BlockMaker_makeBlock_42 ?_
  refine zx_aload_n d_BlockMaker_makeBlock_45 rfl ?_
  refine zi_callV (hC := k) k_BlockMaker_59 q14 (by decide) rfl rfl (Nat.le_of_ble_eq_true rfl) (Nat.le_of_ble_eq_true rfl) d_BlockMaker_makeBlock_46 (fun r I15 k => ?_)
  obtain ⟨rfl, k⟩ := k
  refine zx_iload d_BlockMaker_makeBlock_49 rfl ?_
  exact zi_iret d_BlockMaker_makeBlock_51 rfl k
set_option maxRecDepth 20000 in
theorem r_BlockMaker_shorten_0 (l : Launch) (d : Nat) {K : zx_Kt} {RJ : zx_RJ} {Q : zi_Q} {I : zi_I} (o0 : Nat) (o1 : Nat) (x2 : Int32) (x3 : Int32) (q1 : (K.2 o0).1 = 9)
    (k : zi_X l (zx_rm (d + 1) 0 0) M_BlockMaker_shorten K RJ Q 11 [(0, .ref o0), (1, .ref o1), (2, .int x2), (3, .int x3), (4, .int 0), (5, .int x2)] [] (zx_u2 I o0 2 0)) :
    zi_X l (zx_rm (d + 1) 0 0) M_BlockMaker_shorten K RJ Q 0 [(0, .ref o0), (1, .ref o1), (2, .int x2), (3, .int x3)] [] I := by
  refine zx_aload_n d_BlockMaker_shorten_0 rfl ?_
  refine zx_iconst d_BlockMaker_shorten_1 zc_0 ?_
  refine zi_putI f_BlockMaker_62 q1 (by decide) d_BlockMaker_shorten_2 ?_
  refine zx_iconst d_BlockMaker_shorten_5 zc_0 ?_
  refine zx_istore (L2 := [(0, .ref o0), (1, .ref o1), (2, .int x2), (3, .int x3), (4, .int 0)]) d_BlockMaker_shorten_6 (Nat.le_of_ble_eq_true rfl) rfl ?_
  refine zx_iload_n d_BlockMaker_shorten_8 rfl ?_
  refine zx_istore (L2 := [(0, .ref o0), (1, .ref o1), (2, .int x2), (3, .int x3), (4, .int 0), (5, .int x2)]) d_BlockMaker_shorten_9 (Nat.le_of_ble_eq_true rfl) rfl ?_
  exact k
set_option maxRecDepth 20000 in
theorem r_BlockMaker_shorten_11 (l : Launch) (d : Nat) {K : zx_Kt} {RJ : zx_RJ} {Q : zi_Q} {I : zi_I} (o0 : Nat) (o1 : Nat) (x2 : Int32) (x3 : Int32) (x4 : Int32) (x5 : Int32) (q1 : (K.2 o1).1 = 16)
    (k : (((I o1 1) ≤ x5) → Q (some (.int (I o1 1))) I) ∧ ((¬ (I o1 1) ≤ x5) → ((x5 ≤ x2) → zi_X l (zx_rm (d + 1) 0 0) M_BlockMaker_shorten K RJ Q 55 [(0, .ref o0), (1, .ref o1), (2, .int x2), (3, .int x3), (4, .int x4), (5, .int x5)] [] I) ∧ ((¬ x5 ≤ x2) → zi_C l (zx_rm d 0 0) M_Row_get [.ref o1, .int x5] K RJ I (fun r I2 => ∃ v3, r = some (.int v3) ∧ zi_C l (zx_rm d 0 0) M_Row_get [.ref o1, .int (x5 - 1)] K RJ I2 (fun r I4 => ∃ v5, r = some (.int v5) ∧ ((¬ v3 = v5) → zi_X l (zx_rm (d + 1) 0 0) M_BlockMaker_shorten K RJ Q 55 [(0, .ref o0), (1, .ref o1), (2, .int x2), (3, .int x3), (4, .int x4), (5, .int x5)] [] I4) ∧ ((v3 = v5) → ((255 ≤ x4) → zi_X l (zx_rm (d + 1) 0 0) M_BlockMaker_shorten K RJ Q 55 [(0, .ref o0), (1, .ref o1), (2, .int x2), (3, .int x3), (4, .int x4), (5, .int x5)] [] I4) ∧ ((¬ 255 ≤ x4) → zi_X l (zx_rm (d + 1) 0 0) M_BlockMaker_shorten K RJ Q 56 [(0, .ref o0), (1, .ref o1), (2, .int x2), (3, .int x3), (4, .int x4), (5, .int x5)] [.int 1] I4))))))) :
    zi_X l (zx_rm (d + 1) 0 0) M_BlockMaker_shorten K RJ Q 11 [(0, .ref o0), (1, .ref o1), (2, .int x2), (3, .int x3), (4, .int x4), (5, .int x5)] [] I := by
  refine zx_iload d_BlockMaker_shorten_11 rfl ?_
  refine zx_aload_n d_BlockMaker_shorten_13 rfl ?_
  refine zi_getI f_BlockMaker_65 q1 (by decide) d_BlockMaker_shorten_14 ?_
  refine zx_icmp_ge (tgt := 171) d_BlockMaker_shorten_17 rfl (fun c => ?_) (fun c => ?_)
  · have k := k.1 c
    refine zx_aload_n d_BlockMaker_shorten_171 rfl ?_
    refine zi_getI f_BlockMaker_65 q1 (by decide) d_BlockMaker_shorten_172 ?_
    exact zi_iret d_BlockMaker_shorten_175 rfl k
  · have k := k.2 c
    refine zx_iload d_BlockMaker_shorten_20 rfl ?_
    refine zx_iload_n d_BlockMaker_shorten_22 rfl ?_
    refine zx_icmp_le (tgt := 55) d_BlockMaker_shorten_23 rfl (fun c => ?_) (fun c => ?_)
    · have k := k.1 c
      exact k
    · have k := k.2 c
      refine zx_aload_n d_BlockMaker_shorten_26 rfl ?_
      refine zx_iload d_BlockMaker_shorten_27 rfl ?_
      refine zi_callV (hC := k) k_BlockMaker_68 q1 (by decide) rfl rfl (Nat.le_of_ble_eq_true rfl) (Nat.le_of_ble_eq_true rfl) d_BlockMaker_shorten_29 (fun r I2 k => ?_)
      obtain ⟨v3, rfl, k⟩ := k
      refine zx_aload_n d_BlockMaker_shorten_32 rfl ?_
      refine zx_iload d_BlockMaker_shorten_33 rfl ?_
      refine zx_iconst d_BlockMaker_shorten_35 zc_1 ?_
      refine zx_isub d_BlockMaker_shorten_36 ?_
      refine zi_callV (hC := k) k_BlockMaker_68 q1 (by decide) rfl rfl (Nat.le_of_ble_eq_true rfl) (Nat.le_of_ble_eq_true rfl) d_BlockMaker_shorten_37 (fun r I4 k => ?_)
      obtain ⟨v5, rfl, k⟩ := k
      refine zx_icmp_ne (tgt := 55) d_BlockMaker_shorten_40 rfl (fun c => ?_) (fun c => ?_)
      · have k := k.1 c
        exact k
      · have k := k.2 c
        refine zx_iload d_BlockMaker_shorten_43 rfl ?_
        refine zx_sipush d_BlockMaker_shorten_45 zs_255 ?_
        refine zx_icmp_ge (tgt := 55) d_BlockMaker_shorten_48 rfl (fun c => ?_) (fun c => ?_)
        · have k := k.1 c
          exact k
        · have k := k.2 c
          refine zx_iconst d_BlockMaker_shorten_51 zc_1 ?_
          refine zx_goto (tgt := 56) d_BlockMaker_shorten_52 rfl ?_
          exact k
set_option maxRecDepth 20000 in
theorem r_BlockMaker_shorten_55 (l : Launch) (d : Nat) {K : zx_Kt} {RJ : zx_RJ} {Q : zi_Q} {I : zi_I} (o0 : Nat) (o1 : Nat) (x2 : Int32) (x3 : Int32) (x4 : Int32) (x5 : Int32) 
    (k : zi_X l (zx_rm (d + 1) 0 0) M_BlockMaker_shorten K RJ Q 56 [(0, .ref o0), (1, .ref o1), (2, .int x2), (3, .int x3), (4, .int x4), (5, .int x5)] [.int 0] I) :
    zi_X l (zx_rm (d + 1) 0 0) M_BlockMaker_shorten K RJ Q 55 [(0, .ref o0), (1, .ref o1), (2, .int x2), (3, .int x3), (4, .int x4), (5, .int x5)] [] I := by
  refine zx_iconst d_BlockMaker_shorten_55 zc_0 ?_
  exact k
set_option maxRecDepth 20000 in
theorem r_BlockMaker_shorten_56 (l : Launch) (d : Nat) {K : zx_Kt} {RJ : zx_RJ} {Q : zi_Q} {I : zi_I} (o0 : Nat) (o1 : Nat) (x2 : Int32) (x3 : Int32) (x4 : Int32) (x5 : Int32) (y0 : Int32) 
    (k : ((y0 = 0) → zi_X l (zx_rm (d + 1) 0 0) M_BlockMaker_shorten K RJ Q 71 [(0, .ref o0), (1, .ref o1), (2, .int x2), (3, .int x3), (4, .int x4), (5, .int x5), (6, .int y0)] [.int 1] I) ∧ ((¬ y0 = 0) → zi_X l (zx_rm (d + 1) 0 0) M_BlockMaker_shorten K RJ Q 71 [(0, .ref o0), (1, .ref o1), (2, .int x2), (3, .int x3), (4, .int x4), (5, .int x5), (6, .int y0)] [.int (x4 + 1)] I)) :
    zi_X l (zx_rm (d + 1) 0 0) M_BlockMaker_shorten K RJ Q 56 [(0, .ref o0), (1, .ref o1), (2, .int x2), (3, .int x3), (4, .int x4), (5, .int x5)] [.int y0] I := by
  refine zx_istore (L2 := [(0, .ref o0), (1, .ref o1), (2, .int x2), (3, .int x3), (4, .int x4), (5, .int x5), (6, .int y0)]) d_BlockMaker_shorten_56 (Nat.le_of_ble_eq_true rfl) rfl ?_
  refine zx_iload d_BlockMaker_shorten_58 rfl ?_
  refine zx_if_eq (tgt := 70) d_BlockMaker_shorten_60 rfl (fun c => ?_) (fun c => ?_)
  · have k := k.1 c
    refine zx_iconst d_BlockMaker_shorten_70 zc_1 ?_
    exact k
  · have k := k.2 c
    refine zx_iload d_BlockMaker_shorten_63 rfl ?_
    refine zx_iconst d_BlockMaker_shorten_65 zc_1 ?_
    refine zx_iadd d_BlockMaker_shorten_66 ?_
    refine zx_goto (tgt := 71) d_BlockMaker_shorten_67 rfl ?_
    exact k
set_option maxRecDepth 20000 in
theorem r_BlockMaker_shorten_71 (l : Launch) (d : Nat) {K : zx_Kt} {RJ : zx_RJ} {Q : zi_Q} {I : zi_I} (o0 : Nat) (o1 : Nat) (x2 : Int32) (x3 : Int32) (x4 : Int32) (x5 : Int32) (x6 : Int32) (y0 : Int32) 
    (k : ((4 ≤ y0) → ((¬ y0 = 4) → zi_X l (zx_rm (d + 1) 0 0) M_BlockMaker_shorten K RJ Q 94 [(0, .ref o0), (1, .ref o1), (2, .int x2), (3, .int x3), (4, .int y0), (5, .int x5), (6, .int x6)] [.int 0] I) ∧ ((y0 = 4) → zi_X l (zx_rm (d + 1) 0 0) M_BlockMaker_shorten K RJ Q 94 [(0, .ref o0), (1, .ref o1), (2, .int x2), (3, .int x3), (4, .int y0), (5, .int x5), (6, .int x6)] [.int 2] I)) ∧ ((¬ 4 ≤ y0) → zi_X l (zx_rm (d + 1) 0 0) M_BlockMaker_shorten K RJ Q 94 [(0, .ref o0), (1, .ref o1), (2, .int x2), (3, .int x3), (4, .int y0), (5, .int x5), (6, .int x6)] [.int 1] I)) :
    zi_X l (zx_rm (d + 1) 0 0) M_BlockMaker_shorten K RJ Q 71 [(0, .ref o0), (1, .ref o1), (2, .int x2), (3, .int x3), (4, .int x4), (5, .int x5), (6, .int x6)] [.int y0] I := by
  refine zx_istore (L2 := [(0, .ref o0), (1, .ref o1), (2, .int x2), (3, .int x3), (4, .int y0), (5, .int x5), (6, .int x6)]) d_BlockMaker_shorten_71 (Nat.le_of_ble_eq_true rfl) rfl ?_
  refine zx_iload d_BlockMaker_shorten_73 rfl ?_
  refine zx_iconst d_BlockMaker_shorten_75 zc_4 ?_
  refine zx_icmp_ge (tgt := 83) d_BlockMaker_shorten_76 rfl (fun c => ?_) (fun c => ?_)
  · have k := k.1 c
    refine zx_iload d_BlockMaker_shorten_83 rfl ?_
    refine zx_iconst d_BlockMaker_shorten_85 zc_4 ?_
    refine zx_icmp_ne (tgt := 93) d_BlockMaker_shorten_86 rfl (fun c => ?_) (fun c => ?_)
    · have k := k.1 c
      refine zx_iconst d_BlockMaker_shorten_93 zc_0 ?_
      exact k
    · have k := k.2 c
      refine zx_iconst d_BlockMaker_shorten_89 zc_2 ?_
      refine zx_goto (tgt := 94) d_BlockMaker_shorten_90 rfl ?_
      exact k
  · have k := k.2 c
    refine zx_iconst d_BlockMaker_shorten_79 zc_1 ?_
    refine zx_goto (tgt := 94) d_BlockMaker_shorten_80 rfl ?_
    exact k
set_option maxRecDepth 20000 in
theorem r_BlockMaker_shorten_94 (l : Launch) (d : Nat) {K : zx_Kt} {RJ : zx_RJ} {Q : zi_Q} {I : zi_I} (o0 : Nat) (o1 : Nat) (x2 : Int32) (x3 : Int32) (x4 : Int32) (x5 : Int32) (x6 : Int32) (y0 : Int32) (q1 : (K.2 o0).1 = 9) (q2 : (K.2 o1).1 = 16)
    (k : ((((I o0 2) + y0) ≤ x3) → ((4 < x4) → zi_X l (zx_rm (d + 1) 0 0) M_BlockMaker_shorten K RJ Q 126 [(0, .ref o0), (1, .ref o1), (2, .int x2), (3, .int x3), (4, .int x4), (5, .int x5), (6, .int x6), (7, .int y0)] [] I) ∧ ((¬ 4 < x4) → zi_C l (zx_rm d 0 0) M_Row_get [.ref o1, .int x5] K RJ I (fun r I3 => ∃ v4, r = some (.int v4) ∧ zi_C l (zx_rm d 0 0) M_Block_addShortened [.ref o0, .int v4] K RJ I3 (fun r I5 => r = none ∧ zi_X l (zx_rm (d + 1) 0 0) M_BlockMaker_shorten K RJ Q 126 [(0, .ref o0), (1, .ref o1), (2, .int x2), (3, .int x3), (4, .int x4), (5, .int x5), (6, .int x6), (7, .int y0)] [] I5)))) ∧ ((¬ ((I o0 2) + y0) ≤ x3) → Q (some (.int x5)) I)) :
    zi_X l (zx_rm (d + 1) 0 0) M_BlockMaker_shorten K RJ Q 94 [(0, .ref o0), (1, .ref o1), (2, .int x2), (3, .int x3), (4, .int x4), (5, .int x5), (6, .int x6)] [.int y0] I := by
  refine zx_istore (L2 := [(0, .ref o0), (1, .ref o1), (2, .int x2), (3, .int x3), (4, .int x4), (5, .int x5), (6, .int x6), (7, .int y0)]) d_BlockMaker_shorten_94 (Nat.le_of_ble_eq_true rfl) rfl ?_
  refine zx_aload_n d_BlockMaker_shorten_96 rfl ?_
  refine zi_getI f_BlockMaker_62 q1 (by decide) d_BlockMaker_shorten_97 ?_
  refine zx_iload d_BlockMaker_shorten_100 rfl ?_
  refine zx_iadd d_BlockMaker_shorten_102 ?_
  refine zx_iload_n d_BlockMaker_shorten_103 rfl ?_
  refine zx_icmp_le (tgt := 110) d_BlockMaker_shorten_104 rfl (fun c => ?_) (fun c => ?_)
  · have k := k.1 c
    refine zx_iload d_BlockMaker_shorten_110 rfl ?_
    refine zx_iconst d_BlockMaker_shorten_112 zc_4 ?_
    refine zx_icmp_gt (tgt := 126) d_BlockMaker_shorten_113 rfl (fun c => ?_) (fun c => ?_)
    · have k := k.1 c
      exact k
    · have k := k.2 c
      refine zx_aload_n d_BlockMaker_shorten_116 rfl ?_
      refine zx_aload_n d_BlockMaker_shorten_117 rfl ?_
      refine zx_iload d_BlockMaker_shorten_118 rfl ?_
      refine zi_callV (hC := k) k_BlockMaker_68 q2 (by decide) rfl rfl (Nat.le_of_ble_eq_true rfl) (Nat.le_of_ble_eq_true rfl) d_BlockMaker_shorten_120 (fun r I3 k => ?_)
      obtain ⟨v4, rfl, k⟩ := k
      refine zi_callV (hC := k) k_BlockMaker_72 q1 (by decide) rfl rfl (Nat.le_of_ble_eq_true rfl) (Nat.le_of_ble_eq_true rfl) d_BlockMaker_shorten_123 (fun r I5 k => ?_)
      obtain ⟨rfl, k⟩ := k
      exact k
  · have k := k.2 c
    refine zx_iload d_BlockMaker_shorten_107 rfl ?_
    exact zi_iret d_BlockMaker_shorten_109 rfl k
set_option maxRecDepth 20000 in
theorem r_BlockMaker_shorten_126 (l : Launch) (d : Nat) {K : zx_Kt} {RJ : zx_RJ} {Q : zi_Q} {I : zi_I} (o0 : Nat) (o1 : Nat) (x2 : Int32) (x3 : Int32) (x4 : Int32) (x5 : Int32) (x6 : Int32) (x7 : Int32) (q1 : (K.2 o0).1 = 9)
    (k : ((¬ x4 = 4) → zi_X l (zx_rm (d + 1) 0 0) M_BlockMaker_shorten K RJ Q 137 [(0, .ref o0), (1, .ref o1), (2, .int x2), (3, .int x3), (4, .int x4), (5, .int x5), (6, .int x6), (7, .int x7)] [] I) ∧ ((x4 = 4) → zi_C l (zx_rm d 0 0) M_Block_addShortened [.ref o0, .int 0] K RJ I (fun r I2 => r = none ∧ zi_X l (zx_rm (d + 1) 0 0) M_BlockMaker_shorten K RJ Q 137 [(0, .ref o0), (1, .ref o1), (2, .int x2), (3, .int x3), (4, .int x4), (5, .int x5), (6, .int x6), (7, .int x7)] [] I2))) :
    zi_X l (zx_rm (d + 1) 0 0) M_BlockMaker_shorten K RJ Q 126 [(0, .ref o0), (1, .ref o1), (2, .int x2), (3, .int x3), (4, .int x4), (5, .int x5), (6, .int x6), (7, .int x7)] [] I := by
  refine zx_iload d_BlockMaker_shorten_126 rfl ?_
  refine zx_iconst d_BlockMaker_shorten_128 zc_4 ?_
  refine zx_icmp_ne (tgt := 137) d_BlockMaker_shorten_129 rfl (fun c => ?_) (fun c => ?_)
  · have k := k.1 c
    exact k
  · have k := k.2 c
    refine zx_aload_n d_BlockMaker_shorten_132 rfl ?_
    refine zx_iconst d_BlockMaker_shorten_133 zc_0 ?_
    refine zi_callV (hC := k) k_BlockMaker_72 q1 (by decide) rfl rfl (Nat.le_of_ble_eq_true rfl) (Nat.le_of_ble_eq_true rfl) d_BlockMaker_shorten_134 (fun r I2 k => ?_)
    obtain ⟨rfl, k⟩ := k
    exact k
set_option maxRecDepth 20000 in
theorem r_BlockMaker_shorten_137 (l : Launch) (d : Nat) {K : zx_Kt} {RJ : zx_RJ} {Q : zi_Q} {I : zi_I} (o0 : Nat) (o1 : Nat) (x2 : Int32) (x3 : Int32) (x4 : Int32) (x5 : Int32) (x6 : Int32) (x7 : Int32) (q1 : (K.2 o0).1 = 9) {r2 : Nat} (e3 : RJ.1 o0 3 = r2) (z4 : r2 ≠ 0) {n6 : Nat} (a5 : K.2 r2 = (0, n6))
    (k : ((x4 ≤ 4) → zi_X l (zx_rm (d + 1) 0 0) M_BlockMaker_shorten K RJ Q 165 [(0, .ref o0), (1, .ref o1), (2, .int x2), (3, .int x3), (4, .int x4), (5, .int x5), (6, .int x6), (7, .int x7)] [] I) ∧ ((¬ x4 ≤ 4) → (((I o0 2) ≤ 0) → zi_X l (zx_rm (d + 1) 0 0) M_BlockMaker_shorten K RJ Q 165 [(0, .ref o0), (1, .ref o1), (2, .int x2), (3, .int x3), (4, .int x4), (5, .int x5), (6, .int x6), (7, .int x7)] [] I) ∧ ((¬ (I o0 2) ≤ 0) → ∃ j7, (I o0 2) - 1 = nI j7 ∧ j7 < n6 ∧ ∃ j10, (I o0 2) - 1 = nI j10 ∧ j10 < n6 ∧ zi_X l (zx_rm (d + 1) 0 0) M_BlockMaker_shorten K RJ Q 165 [(0, .ref o0), (1, .ref o1), (2, .int x2), (3, .int x3), (4, .int x4), (5, .int x5), (6, .int x6), (7, .int x7)] [] (zx_u2 I r2 j10 ((I r2 j7) + 1))))) :
    zi_X l (zx_rm (d + 1) 0 0) M_BlockMaker_shorten K RJ Q 137 [(0, .ref o0), (1, .ref o1), (2, .int x2), (3, .int x3), (4, .int x4), (5, .int x5), (6, .int x6), (7, .int x7)] [] I := by
  refine zx_iload d_BlockMaker_shorten_137 rfl ?_
  refine zx_iconst d_BlockMaker_shorten_139 zc_4 ?_
  refine zx_icmp_le (tgt := 165) d_BlockMaker_shorten_140 rfl (fun c => ?_) (fun c => ?_)
  · have k := k.1 c
    exact k
  · have k := k.2 c
    refine zx_aload_n d_BlockMaker_shorten_143 rfl ?_
    refine zi_getI f_BlockMaker_62 q1 (by decide) d_BlockMaker_shorten_144 ?_
    refine zx_if_le (tgt := 165) d_BlockMaker_shorten_147 rfl (fun c => ?_) (fun c => ?_)
    · have k := k.1 c
      exact k
    · have k := k.2 c
      refine zx_aload_n d_BlockMaker_shorten_150 rfl ?_
      refine zi_getR f_BlockMaker_76 q1 (by decide) e3 z4 d_BlockMaker_shorten_151 ?_
      refine zx_aload_n d_BlockMaker_shorten_154 rfl ?_
      refine zi_getI f_BlockMaker_62 q1 (by decide) d_BlockMaker_shorten_155 ?_
      refine zx_iconst d_BlockMaker_shorten_158 zc_1 ?_
      refine zx_isub d_BlockMaker_shorten_159 ?_
      refine zx_dup2_ai d_BlockMaker_shorten_160 ?_
      obtain ⟨j7, e8, b9, k⟩ := k
      refine zi_iald j7 a5 e8 b9 d_BlockMaker_shorten_161 ?_
      refine zx_iconst d_BlockMaker_shorten_162 zc_1 ?_
      refine zx_iadd d_BlockMaker_shorten_163 ?_
      obtain ⟨j10, e11, b12, k⟩ := k
      refine zi_iast j10 a5 e11 b12 d_BlockMaker_shorten_164 ?_
      exact k
set_option maxRecDepth 20000 in
theorem r_BlockMaker_shorten_165 (l : Launch) (d : Nat) {K : zx_Kt} {RJ : zx_RJ} {Q : zi_Q} {I : zi_I} (o0 : Nat) (o1 : Nat) (x2 : Int32) (x3 : Int32) (x4 : Int32) (x5 : Int32) (x6 : Int32) (x7 : Int32) 
    (k : zi_X l (zx_rm (d + 1) 0 0) M_BlockMaker_shorten K RJ Q 11 [(0, .ref o0), (1, .ref o1), (2, .int x2), (3, .int x3), (4, .int x4), (5, .int (x5 + 1))] [] I) :
    zi_X l (zx_rm (d + 1) 0 0) M_BlockMaker_shorten K RJ Q 165 [(0, .ref o0), (1, .ref o1), (2, .int x2), (3, .int x3), (4, .int x4), (5, .int x5), (6, .int x6), (7, .int x7)] [] I := by
  refine zx_iinc (L2 := [(0, .ref o0), (1, .ref o1), (2, .int x2), (3, .int x3), (4, .int x4), (5, .int (x5 + 1)), (6, .int x6), (7, .int x7)]) d_BlockMaker_shorten_165 rfl (Nat.le_of_ble_eq_true rfl) zc_1 rfl ?_
  refine zx_goto (tgt := 11) d_BlockMaker_shorten_168 rfl ?_
  refine zx_locs [0, 1, 2, 3, 4, 5] rfl ?_
  exact k
set_option maxRecDepth 20000 in
theorem r_BlockMaker_sortRotations_0 (l : Launch) (d : Nat) {K : zx_Kt} {RJ : zx_RJ} {Q : zi_Q} {I : zi_I} (o0 : Nat) (o1 : Nat) 
    (k : zi_X l (zx_rm (d + 1) 0 0) M_BlockMaker_sortRotations K RJ Q 2 [(0, .ref o0), (1, .ref o1), (2, .int 0)] [] I) :
    zi_X l (zx_rm (d + 1) 0 0) M_BlockMaker_sortRotations K RJ Q 0 [(0, .ref o0), (1, .ref o1)] [] I := by
  refine zx_iconst d_BlockMaker_sortRotations_0 zc_0 ?_
  refine zx_istore_n (L2 := [(0, .ref o0), (1, .ref o1), (2, .int 0)]) d_BlockMaker_sortRotations_1 (Nat.le_of_ble_eq_true rfl) rfl ?_
  exact k
set_option maxRecDepth 20000 in
theorem r_BlockMaker_sortRotations_2 (l : Launch) (d : Nat) {K : zx_Kt} {RJ : zx_RJ} {Q : zi_Q} {I : zi_I} (o0 : Nat) (o1 : Nat) (x2 : Int32) (q1 : (K.2 o1).1 = 9)
    (k : (((I o1 2) ≤ x2) → Q none I) ∧ ((¬ (I o1 2) ≤ x2) → zi_X l (zx_rm (d + 1) 0 0) M_BlockMaker_sortRotations K RJ Q 15 [(0, .ref o0), (1, .ref o1), (2, .int x2), (3, .int 0), (4, .int x2)] [] I)) :
    zi_X l (zx_rm (d + 1) 0 0) M_BlockMaker_sortRotations K RJ Q 2 [(0, .ref o0), (1, .ref o1), (2, .int x2)] [] I := by
  refine zx_iload_n d_BlockMaker_sortRotations_2 rfl ?_
  refine zx_aload_n d_BlockMaker_sortRotations_3 rfl ?_
  refine zi_getI f_BlockMaker_62 q1 (by decide) d_BlockMaker_sortRotations_4 ?_
  refine zx_icmp_ge (tgt := 90) d_BlockMaker_sortRotations_7 rfl (fun c => ?_) (fun c => ?_)
  · have k := k.1 c
    exact zi_vret d_BlockMaker_sortRotations_90 rfl k
  · have k := k.2 c
    refine zx_iconst d_BlockMaker_sortRotations_10 zc_0 ?_
    refine zx_istore_n (L2 := [(0, .ref o0), (1, .ref o1), (2, .int x2), (3, .int 0)]) d_BlockMaker_sortRotations_11 (Nat.le_of_ble_eq_true rfl) rfl ?_
    refine zx_iload_n d_BlockMaker_sortRotations_12 rfl ?_
    refine zx_istore (L2 := [(0, .ref o0), (1, .ref o1), (2, .int x2), (3, .int 0), (4, .int x2)]) d_BlockMaker_sortRotations_13 (Nat.le_of_ble_eq_true rfl) rfl ?_
    exact k
set_option maxRecDepth 20000 in
theorem r_BlockMaker_sortRotations_15 (l : Launch) (d : Nat) {K : zx_Kt} {RJ : zx_RJ} {Q : zi_Q} {I : zi_I} (o0 : Nat) (o1 : Nat) (x2 : Int32) (x3 : Int32) (x4 : Int32) (q1 : (K.2 o0).1 = 10) {r2 : Nat} (e3 : RJ.1 o0 0 = r2) (z4 : r2 ≠ 0) {n6 : Nat} (a5 : K.2 r2 = (0, n6))
    (k : ((x4 ≤ x3) → ∃ j7 j8 j9, x3 = nI j7 ∧ x3 + 1 = nI j8 ∧ x2 - x3 = nI j9 ∧ j7 + j9 ≤ n6 ∧ j8 + j9 ≤ n6 ∧ ∃ j15, x3 = nI j15 ∧ j15 < n6 ∧ zi_X l (zx_rm (d + 1) 0 0) M_BlockMaker_sortRotations K RJ Q 2 [(0, .ref o0), (1, .ref o1), (2, .int (x2 + 1))] [] (zx_u2 (zi_cpy I r2 r2 j7 j8 j9) r2 j15 x2)) ∧ ((¬ x4 ≤ x3) → ∃ j18, (x3 + x4) / 2 = nI j18 ∧ j18 < n6 ∧ zi_C l (zx_rm d 0 0) M_BlockMaker_isBefore [.ref o1, .int x2, .int (I r2 j18)] K RJ I (fun r I21 => ∃ v22, r = some (.int v22) ∧ ((v22 = 0) → zi_X l (zx_rm (d + 1) 0 0) M_BlockMaker_sortRotations K RJ Q 15 [(0, .ref o0), (1, .ref o1), (2, .int x2), (3, .int (((x3 + x4) / 2) + 1)), (4, .int x4)] [] I21) ∧ ((¬ v22 = 0) → zi_X l (zx_rm (d + 1) 0 0) M_BlockMaker_sortRotations K RJ Q 15 [(0, .ref o0), (1, .ref o1), (2, .int x2), (3, .int x3), (4, .int ((x3 + x4) / 2))] [] I21)))) :
    zi_X l (zx_rm (d + 1) 0 0) M_BlockMaker_sortRotations K RJ Q 15 [(0, .ref o0), (1, .ref o1), (2, .int x2), (3, .int x3), (4, .int x4)] [] I := by
  refine zx_iload_n d_BlockMaker_sortRotations_15 rfl ?_
  refine zx_iload d_BlockMaker_sortRotations_16 rfl ?_
  refine zx_icmp_ge (tgt := 59) d_BlockMaker_sortRotations_18 rfl (fun c => ?_) (fun c => ?_)
  · have k := k.1 c
    refine zx_aload_n d_BlockMaker_sortRotations_59 rfl ?_
    refine zi_getR f_BlockMaker_9 q1 (by decide) e3 z4 d_BlockMaker_sortRotations_60 ?_
    refine zx_iload_n d_BlockMaker_sortRotations_63 rfl ?_
    refine zx_aload_n d_BlockMaker_sortRotations_64 rfl ?_
    refine zi_getR f_BlockMaker_9 q1 (by decide) e3 z4 d_BlockMaker_sortRotations_65 ?_
    refine zx_iload_n d_BlockMaker_sortRotations_68 rfl ?_
    refine zx_iconst d_BlockMaker_sortRotations_69 zc_1 ?_
    refine zx_iadd d_BlockMaker_sortRotations_70 ?_
    refine zx_iload_n d_BlockMaker_sortRotations_71 rfl ?_
    refine zx_iload_n d_BlockMaker_sortRotations_72 rfl ?_
    refine zx_isub d_BlockMaker_sortRotations_73 ?_
    obtain ⟨j7, j8, j9, e10, e11, e12, b13, b14, k⟩ := k
    refine zi_copy j7 j8 j9 w_copy_BlockMaker_83 a5 a5 e10 e11 e12 b13 b14 (Nat.le_of_ble_eq_true rfl) d_BlockMaker_sortRotations_74 ?_
    refine zx_aload_n d_BlockMaker_sortRotations_77 rfl ?_
    refine zi_getR f_BlockMaker_9 q1 (by decide) e3 z4 d_BlockMaker_sortRotations_78 ?_
    refine zx_iload_n d_BlockMaker_sortRotations_81 rfl ?_
    refine zx_iload_n d_BlockMaker_sortRotations_82 rfl ?_
    obtain ⟨j15, e16, b17, k⟩ := k
    refine zi_iast j15 a5 e16 b17 d_BlockMaker_sortRotations_83 ?_
    refine zx_iinc (L2 := [(0, .ref o0), (1, .ref o1), (2, .int (x2 + 1)), (3, .int x3), (4, .int x4)]) d_BlockMaker_sortRotations_84 rfl (Nat.le_of_ble_eq_true rfl) zc_1 rfl ?_
    refine zx_goto (tgt := 2) d_BlockMaker_sortRotations_87 rfl ?_
    refine zx_locs [0, 1, 2] rfl ?_
    exact k
  · have k := k.2 c
    refine zx_iload_n d_BlockMaker_sortRotations_21 rfl ?_
    refine zx_iload d_BlockMaker_sortRotations_22 rfl ?_
    refine zx_iadd d_BlockMaker_sortRotations_24 ?_
    refine zx_iconst d_BlockMaker_sortRotations_25 zc_2 ?_
    refine zx_idiv d_BlockMaker_sortRotations_26 (by decide) ?_
    refine zx_istore (L2 := [(0, .ref o0), (1, .ref o1), (2, .int x2), (3, .int x3), (4, .int x4), (5, .int ((x3 + x4) / 2))]) d_BlockMaker_sortRotations_27 (Nat.le_of_ble_eq_true rfl) rfl ?_
    refine zx_aload_n d_BlockMaker_sortRotations_29 rfl ?_
    refine zx_iload_n d_BlockMaker_sortRotations_30 rfl ?_
    refine zx_aload_n d_BlockMaker_sortRotations_31 rfl ?_
    refine zi_getR f_BlockMaker_9 q1 (by decide) e3 z4 d_BlockMaker_sortRotations_32 ?_
    refine zx_iload d_BlockMaker_sortRotations_35 rfl ?_
    obtain ⟨j18, e19, b20, k⟩ := k
    refine zi_iald j18 a5 e19 b20 d_BlockMaker_sortRotations_37 ?_
    refine zi_callS (hC := k) k_BlockMaker_79 rfl rfl (Nat.le_of_ble_eq_true rfl) (Nat.le_of_ble_eq_true rfl) d_BlockMaker_sortRotations_38 (fun r I21 k => ?_)
    obtain ⟨v22, rfl, k⟩ := k
    refine zx_if_eq (tgt := 51) d_BlockMaker_sortRotations_41 rfl (fun c => ?_) (fun c => ?_)
    · have k := k.1 c
      refine zx_iload d_BlockMaker_sortRotations_51 rfl ?_
      refine zx_iconst d_BlockMaker_sortRotations_53 zc_1 ?_
      refine zx_iadd d_BlockMaker_sortRotations_54 ?_
      refine zx_istore_n (L2 := [(0, .ref o0), (1, .ref o1), (2, .int x2), (3, .int (((x3 + x4) / 2) + 1)), (4, .int x4), (5, .int ((x3 + x4) / 2))]) d_BlockMaker_sortRotations_55 (Nat.le_of_ble_eq_true rfl) rfl ?_
      refine zx_goto (tgt := 15) d_BlockMaker_sortRotations_56 rfl ?_
      refine zx_locs [0, 1, 2, 3, 4] rfl ?_
      exact k
    · have k := k.2 c
      refine zx_iload d_BlockMaker_sortRotations_44 rfl ?_
      refine zx_istore (L2 := [(0, .ref o0), (1, .ref o1), (2, .int x2), (3, .int x3), (4, .int ((x3 + x4) / 2)), (5, .int ((x3 + x4) / 2))]) d_BlockMaker_sortRotations_46 (Nat.le_of_ble_eq_true rfl) rfl ?_
      refine zx_goto (tgt := 56) d_BlockMaker_sortRotations_48 rfl ?_
      refine zx_goto (tgt := 15) d_BlockMaker_sortRotations_56 rfl ?_
      refine zx_locs [0, 1, 2, 3, 4] rfl ?_
      exact k
set_option maxRecDepth 20000 in
theorem r_BlockMaker_isBefore_0 (l : Launch) (d : Nat) {K : zx_Kt} {RJ : zx_RJ} {Q : zi_Q} {I : zi_I} (o0 : Nat) (x1 : Int32) (x2 : Int32) 
    (k : zi_X l (zx_rm d 0 0) M_BlockMaker_isBefore K RJ Q 2 [(0, .ref o0), (1, .int x1), (2, .int x2), (3, .int 0)] [] I) :
    zi_X l (zx_rm d 0 0) M_BlockMaker_isBefore K RJ Q 0 [(0, .ref o0), (1, .int x1), (2, .int x2)] [] I := by
  refine zx_iconst d_BlockMaker_isBefore_0 zc_0 ?_
  refine zx_istore_n (L2 := [(0, .ref o0), (1, .int x1), (2, .int x2), (3, .int 0)]) d_BlockMaker_isBefore_1 (Nat.le_of_ble_eq_true rfl) rfl ?_
  exact k
set_option maxRecDepth 20000 in
theorem r_BlockMaker_isBefore_2 (l : Launch) (d : Nat) {K : zx_Kt} {RJ : zx_RJ} {Q : zi_Q} {I : zi_I} (o0 : Nat) (x1 : Int32) (x2 : Int32) (x3 : Int32) (q1 : (K.2 o0).1 = 9) {r2 : Nat} (e3 : RJ.1 o0 3 = r2) (z4 : r2 ≠ 0) {n7 : Nat} (a6 : K.2 r2 = (0, n7))
    (k : (((I o0 2) ≤ x3) → Q (some (.int 0)) I) ∧ ((¬ (I o0 2) ≤ x3) → ¬ (I o0 2) = 0 ∧ ∃ j8, (x1 + x3) - (x1 + x3) / (I o0 2) * (I o0 2) = nI j8 ∧ j8 < n7 ∧ ¬ (I o0 2) = 0 ∧ ∃ j12, (x2 + x3) - (x2 + x3) / (I o0 2) * (I o0 2) = nI j12 ∧ j12 < n7 ∧ (((I r2 j8) = (I r2 j12)) → zi_X l (zx_rm d 0 0) M_BlockMaker_isBefore K RJ Q 2 [(0, .ref o0), (1, .int x1), (2, .int x2), (3, .int (x3 + 1))] [] I) ∧ ((¬ (I r2 j8) = (I r2 j12)) → (((I r2 j12) ≤ (I r2 j8)) → Q (some (.int 0)) I) ∧ ((¬ (I r2 j12) ≤ (I r2 j8)) → Q (some (.int 1)) I)))) :
    zi_X l (zx_rm d 0 0) M_BlockMaker_isBefore K RJ Q 2 [(0, .ref o0), (1, .int x1), (2, .int x2), (3, .int x3)] [] I := by
  refine zx_iload_n d_BlockMaker_isBefore_2 rfl ?_
  refine zx_aload_n d_BlockMaker_isBefore_3 rfl ?_
  refine zi_getI f_BlockMaker_62 q1 (by decide) d_BlockMaker_isBefore_4 ?_
  refine zx_icmp_ge (tgt := 66) d_BlockMaker_isBefore_7 rfl (fun c => ?_) (fun c => ?_)
  · have k := k.1 c
    refine zx_iconst d_BlockMaker_isBefore_66 zc_0 ?_
    exact zi_zret d_BlockMaker_isBefore_67 rfl rfl k
  · have k := k.2 c
    refine zx_aload_n d_BlockMaker_isBefore_10 rfl ?_
    refine zi_getR f_BlockMaker_76 q1 (by decide) e3 z4 d_BlockMaker_isBefore_11 ?_
    refine zx_iload_n d_BlockMaker_isBefore_14 rfl ?_
    refine zx_iload_n d_BlockMaker_isBefore_15 rfl ?_
    refine zx_iadd d_BlockMaker_isBefore_16 ?_
    refine zx_aload_n d_BlockMaker_isBefore_17 rfl ?_
    refine zi_getI f_BlockMaker_62 q1 (by decide) d_BlockMaker_isBefore_18 ?_
    obtain ⟨z5, k⟩ := k
    refine zx_irem d_BlockMaker_isBefore_21 z5 ?_
    obtain ⟨j8, e9, b10, k⟩ := k
    refine zi_iald j8 a6 e9 b10 d_BlockMaker_isBefore_22 ?_
    refine zx_istore (L2 := [(0, .ref o0), (1, .int x1), (2, .int x2), (3, .int x3), (4, .int (I r2 j8))]) d_BlockMaker_isBefore_23 (Nat.le_of_ble_eq_true rfl) rfl ?_
    refine zx_aload_n d_BlockMaker_isBefore_25 rfl ?_
    refine zi_getR f_BlockMaker_76 q1 (by decide) e3 z4 d_BlockMaker_isBefore_26 ?_
    refine zx_iload_n d_BlockMaker_isBefore_29 rfl ?_
    refine zx_iload_n d_BlockMaker_isBefore_30 rfl ?_
    refine zx_iadd d_BlockMaker_isBefore_31 ?_
    refine zx_aload_n d_BlockMaker_isBefore_32 rfl ?_
    refine zi_getI f_BlockMaker_62 q1 (by decide) d_BlockMaker_isBefore_33 ?_
    obtain ⟨z11, k⟩ := k
    refine zx_irem d_BlockMaker_isBefore_36 z11 ?_
    obtain ⟨j12, e13, b14, k⟩ := k
    refine zi_iald j12 a6 e13 b14 d_BlockMaker_isBefore_37 ?_
    refine zx_istore (L2 := [(0, .ref o0), (1, .int x1), (2, .int x2), (3, .int x3), (4, .int (I r2 j8)), (5, .int (I r2 j12))]) d_BlockMaker_isBefore_38 (Nat.le_of_ble_eq_true rfl) rfl ?_
    refine zx_iload d_BlockMaker_isBefore_40 rfl ?_
    refine zx_iload d_BlockMaker_isBefore_42 rfl ?_
    refine zx_icmp_eq (tgt := 60) d_BlockMaker_isBefore_44 rfl (fun c => ?_) (fun c => ?_)
    · have k := k.1 c
      refine zx_iinc (L2 := [(0, .ref o0), (1, .int x1), (2, .int x2), (3, .int (x3 + 1)), (4, .int (I r2 j8)), (5, .int (I r2 j12))]) d_BlockMaker_isBefore_60 rfl (Nat.le_of_ble_eq_true rfl) zc_1 rfl ?_
      refine zx_goto (tgt := 2) d_BlockMaker_isBefore_63 rfl ?_
      refine zx_locs [0, 1, 2, 3] rfl ?_
      exact k
    · have k := k.2 c
      refine zx_iload d_BlockMaker_isBefore_47 rfl ?_
      refine zx_iload d_BlockMaker_isBefore_49 rfl ?_
      refine zx_icmp_ge (tgt := 58) d_BlockMaker_isBefore_51 rfl (fun c => ?_) (fun c => ?_)
      · have k := k.1 c
        refine zx_iconst d_BlockMaker_isBefore_58 zc_0 ?_
        exact zi_zret d_BlockMaker_isBefore_59 rfl rfl k
      · have k := k.2 c
        refine zx_iconst d_BlockMaker_isBefore_54 zc_1 ?_
        refine zx_goto (tgt := 59) d_BlockMaker_isBefore_55 rfl ?_
        exact zi_zret d_BlockMaker_isBefore_59 rfl rfl k
set_option maxRecDepth 20000 in
theorem r_BlockMaker_readOrder_0 (l : Launch) (d : Nat) {K : zx_Kt} {RJ : zx_RJ} {Q : zi_Q} {I : zi_I} (o0 : Nat) (o1 : Nat) 
    (k : zi_X l (zx_rm d 0 0) M_BlockMaker_readOrder K RJ Q 2 [(0, .ref o0), (1, .ref o1), (2, .int 0)] [] I) :
    zi_X l (zx_rm d 0 0) M_BlockMaker_readOrder K RJ Q 0 [(0, .ref o0), (1, .ref o1)] [] I := by
  refine zx_iconst d_BlockMaker_readOrder_0 zc_0 ?_
  refine zx_istore_n (L2 := [(0, .ref o0), (1, .ref o1), (2, .int 0)]) d_BlockMaker_readOrder_1 (Nat.le_of_ble_eq_true rfl) rfl ?_
  exact k
set_option maxRecDepth 20000 in
theorem r_BlockMaker_readOrder_2 (l : Launch) (d : Nat) {K : zx_Kt} {RJ : zx_RJ} {Q : zi_Q} {I : zi_I} (o0 : Nat) (o1 : Nat) (x2 : Int32) (q1 : (K.2 o1).1 = 9) (q2 : (K.2 o0).1 = 10) {r3 : Nat} (e4 : RJ.1 o0 0 = r3) (z5 : r3 ≠ 0) {n7 : Nat} (a6 : K.2 r3 = (0, n7)) {r11 : Nat} (e12 : RJ.1 o1 4 = r11) (z13 : r11 ≠ 0) {r14 : Nat} (e15 : RJ.1 o1 3 = r14) (z16 : r14 ≠ 0) {n18 : Nat} (a17 : K.2 r14 = (0, n18)) {n23 : Nat} (a22 : K.2 r11 = (0, n23))
    (k : (((I o1 2) ≤ x2) → Q none I) ∧ ((¬ (I o1 2) ≤ x2) → ∃ j8, x2 = nI j8 ∧ j8 < n7 ∧ ((¬ (I r3 j8) = 0) → ((¬ (I r3 j8) = 0) → ∃ j19, (I r3 j8) - 1 = nI j19 ∧ j19 < n18 ∧ ∃ j24, x2 = nI j24 ∧ j24 < n23 ∧ zi_X l (zx_rm d 0 0) M_BlockMaker_readOrder K RJ Q 2 [(0, .ref o0), (1, .ref o1), (2, .int (x2 + 1))] [] (zx_u2 I r11 j24 (I r14 j19))) ∧ (((I r3 j8) = 0) → ∃ j27, (I o1 2) - 1 = nI j27 ∧ j27 < n18 ∧ ∃ j30, x2 = nI j30 ∧ j30 < n23 ∧ zi_X l (zx_rm d 0 0) M_BlockMaker_readOrder K RJ Q 2 [(0, .ref o0), (1, .ref o1), (2, .int (x2 + 1))] [] (zx_u2 I r11 j30 (I r14 j27)))) ∧ (((I r3 j8) = 0) → ((¬ (I r3 j8) = 0) → ∃ j33, (I r3 j8) - 1 = nI j33 ∧ j33 < n18 ∧ ∃ j36, x2 = nI j36 ∧ j36 < n23 ∧ zi_X l (zx_rm d 0 0) M_BlockMaker_readOrder K RJ Q 2 [(0, .ref o0), (1, .ref o1), (2, .int (x2 + 1))] [] (zx_u2 (zx_u2 I o1 1 x2) r11 j36 ((zx_u2 I o1 1 x2) r14 j33))) ∧ (((I r3 j8) = 0) → ∃ j39, (I o1 2) - 1 = nI j39 ∧ j39 < n18 ∧ ∃ j42, x2 = nI j42 ∧ j42 < n23 ∧ zi_X l (zx_rm d 0 0) M_BlockMaker_readOrder K RJ Q 2 [(0, .ref o0), (1, .ref o1), (2, .int (x2 + 1))] [] (zx_u2 (zx_u2 I o1 1 x2) r11 j42 ((zx_u2 I o1 1 x2) r14 j39)))))) :
    zi_X l (zx_rm d 0 0) M_BlockMaker_readOrder K RJ Q 2 [(0, .ref o0), (1, .ref o1), (2, .int x2)] [] I := by
  refine zx_iload_n d_BlockMaker_readOrder_2 rfl ?_
  refine zx_aload_n d_BlockMaker_readOrder_3 rfl ?_
  refine zi_getI f_BlockMaker_62 q1 (by decide) d_BlockMaker_readOrder_4 ?_
  refine zx_icmp_ge (tgt := 59) d_BlockMaker_readOrder_7 rfl (fun c => ?_) (fun c => ?_)
  · have k := k.1 c
    exact zi_vret d_BlockMaker_readOrder_59 rfl k
  · have k := k.2 c
    refine zx_aload_n d_BlockMaker_readOrder_10 rfl ?_
    refine zi_getR f_BlockMaker_9 q2 (by decide) e4 z5 d_BlockMaker_readOrder_11 ?_
    refine zx_iload_n d_BlockMaker_readOrder_14 rfl ?_
    obtain ⟨j8, e9, b10, k⟩ := k
    refine zi_iald j8 a6 e9 b10 d_BlockMaker_readOrder_15 ?_
    refine zx_istore_n (L2 := [(0, .ref o0), (1, .ref o1), (2, .int x2), (3, .int (I r3 j8))]) d_BlockMaker_readOrder_16 (Nat.le_of_ble_eq_true rfl) rfl ?_
    refine zx_iload_n d_BlockMaker_readOrder_17 rfl ?_
    refine zx_if_ne (tgt := 26) d_BlockMaker_readOrder_18 rfl (fun c => ?_) (fun c => ?_)
    · have k := k.1 c
      refine zx_aload_n d_BlockMaker_readOrder_26 rfl ?_
      refine zi_getR f_BlockMaker_92 q1 (by decide) e12 z13 d_BlockMaker_readOrder_27 ?_
      refine zx_iload_n d_BlockMaker_readOrder_30 rfl ?_
      refine zx_aload_n d_BlockMaker_readOrder_31 rfl ?_
      refine zi_getR f_BlockMaker_76 q1 (by decide) e15 z16 d_BlockMaker_readOrder_32 ?_
      refine zx_iload_n d_BlockMaker_readOrder_35 rfl ?_
      refine zx_if_ne (tgt := 48) d_BlockMaker_readOrder_36 rfl (fun c => ?_) (fun c => ?_)
      · have k := k.1 c
        refine zx_iload_n d_BlockMaker_readOrder_48 rfl ?_
        refine zx_iconst d_BlockMaker_readOrder_49 zc_1 ?_
        refine zx_isub d_BlockMaker_readOrder_50 ?_
        obtain ⟨j19, e20, b21, k⟩ := k
        refine zi_iald j19 a17 e20 b21 d_BlockMaker_readOrder_51 ?_
        obtain ⟨j24, e25, b26, k⟩ := k
        refine zi_iast j24 a22 e25 b26 d_BlockMaker_readOrder_52 ?_
        refine zx_iinc (L2 := [(0, .ref o0), (1, .ref o1), (2, .int (x2 + 1)), (3, .int (I r3 j8))]) d_BlockMaker_readOrder_53 rfl (Nat.le_of_ble_eq_true rfl) zc_1 rfl ?_
        refine zx_goto (tgt := 2) d_BlockMaker_readOrder_56 rfl ?_
        refine zx_locs [0, 1, 2] rfl ?_
        exact k
      · have k := k.2 c
        refine zx_aload_n d_BlockMaker_readOrder_39 rfl ?_
        refine zi_getI f_BlockMaker_62 q1 (by decide) d_BlockMaker_readOrder_40 ?_
        refine zx_iconst d_BlockMaker_readOrder_43 zc_1 ?_
        refine zx_isub d_BlockMaker_readOrder_44 ?_
        refine zx_goto (tgt := 51) d_BlockMaker_readOrder_45 rfl ?_
        obtain ⟨j27, e28, b29, k⟩ := k
        refine zi_iald j27 a17 e28 b29 d_BlockMaker_readOrder_51 ?_
        obtain ⟨j30, e31, b32, k⟩ := k
        refine zi_iast j30 a22 e31 b32 d_BlockMaker_readOrder_52 ?_
        refine zx_iinc (L2 := [(0, .ref o0), (1, .ref o1), (2, .int (x2 + 1)), (3, .int (I r3 j8))]) d_BlockMaker_readOrder_53 rfl (Nat.le_of_ble_eq_true rfl) zc_1 rfl ?_
        refine zx_goto (tgt := 2) d_BlockMaker_readOrder_56 rfl ?_
        refine zx_locs [0, 1, 2] rfl ?_
        exact k
    · have k := k.2 c
      refine zx_aload_n d_BlockMaker_readOrder_21 rfl ?_
      refine zx_iload_n d_BlockMaker_readOrder_22 rfl ?_
      refine zi_putI f_BlockMaker_89 q1 (by decide) d_BlockMaker_readOrder_23 ?_
      refine zx_aload_n d_BlockMaker_readOrder_26 rfl ?_
      refine zi_getR f_BlockMaker_92 q1 (by decide) e12 z13 d_BlockMaker_readOrder_27 ?_
      refine zx_iload_n d_BlockMaker_readOrder_30 rfl ?_
      refine zx_aload_n d_BlockMaker_readOrder_31 rfl ?_
      refine zi_getR f_BlockMaker_76 q1 (by decide) e15 z16 d_BlockMaker_readOrder_32 ?_
      refine zx_iload_n d_BlockMaker_readOrder_35 rfl ?_
      refine zx_if_ne (tgt := 48) d_BlockMaker_readOrder_36 rfl (fun c => ?_) (fun c => ?_)
      · have k := k.1 c
        refine zx_iload_n d_BlockMaker_readOrder_48 rfl ?_
        refine zx_iconst d_BlockMaker_readOrder_49 zc_1 ?_
        refine zx_isub d_BlockMaker_readOrder_50 ?_
        obtain ⟨j33, e34, b35, k⟩ := k
        refine zi_iald j33 a17 e34 b35 d_BlockMaker_readOrder_51 ?_
        obtain ⟨j36, e37, b38, k⟩ := k
        refine zi_iast j36 a22 e37 b38 d_BlockMaker_readOrder_52 ?_
        refine zx_iinc (L2 := [(0, .ref o0), (1, .ref o1), (2, .int (x2 + 1)), (3, .int (I r3 j8))]) d_BlockMaker_readOrder_53 rfl (Nat.le_of_ble_eq_true rfl) zc_1 rfl ?_
        refine zx_goto (tgt := 2) d_BlockMaker_readOrder_56 rfl ?_
        refine zx_locs [0, 1, 2] rfl ?_
        exact k
      · have k := k.2 c
        refine zx_aload_n d_BlockMaker_readOrder_39 rfl ?_
        refine zi_getIe f_BlockMaker_62 q1 (by decide) (zx_u2_k (by decide)) d_BlockMaker_readOrder_40 ?_
        refine zx_iconst d_BlockMaker_readOrder_43 zc_1 ?_
        refine zx_isub d_BlockMaker_readOrder_44 ?_
        refine zx_goto (tgt := 51) d_BlockMaker_readOrder_45 rfl ?_
        obtain ⟨j39, e40, b41, k⟩ := k
        refine zi_iald j39 a17 e40 b41 d_BlockMaker_readOrder_51 ?_
        obtain ⟨j42, e43, b44, k⟩ := k
        refine zi_iast j42 a22 e43 b44 d_BlockMaker_readOrder_52 ?_
        refine zx_iinc (L2 := [(0, .ref o0), (1, .ref o1), (2, .int (x2 + 1)), (3, .int (I r3 j8))]) d_BlockMaker_readOrder_53 rfl (Nat.le_of_ble_eq_true rfl) zc_1 rfl ?_
        refine zx_goto (tgt := 2) d_BlockMaker_readOrder_56 rfl ?_
        refine zx_locs [0, 1, 2] rfl ?_
        exact k
set_option maxRecDepth 20000 in
theorem r_BlockMaker_listKinds_0 (l : Launch) (d : Nat) {K : zx_Kt} {RJ : zx_RJ} {Q : zi_Q} {I : zi_I} (o0 : Nat) (o1 : Nat) (q1 : (K.2 o0).1 = 10) {r2 : Nat} (e3 : RJ.1 o0 1 = r2) (z4 : r2 ≠ 0)
    (k : zi_C l (zx_rm d 0 0) M_Arrays_fill [.ref r2, .int 0] K RJ I (fun r I5 => r = none ∧ zi_X l (zx_rm (d + 1) 0 0) M_BlockMaker_listKinds K RJ Q 10 [(0, .ref o0), (1, .ref o1), (2, .int 0)] [] I5)) :
    zi_X l (zx_rm (d + 1) 0 0) M_BlockMaker_listKinds K RJ Q 0 [(0, .ref o0), (1, .ref o1)] [] I := by
  refine zx_aload_n d_BlockMaker_listKinds_0 rfl ?_
  refine zi_getR f_BlockMaker_15 q1 (by decide) e3 z4 d_BlockMaker_listKinds_1 ?_
  refine zx_iconst d_BlockMaker_listKinds_4 zc_0 ?_
  refine zi_callS (hC := k) k_BlockMaker_95 rfl rfl (Nat.le_of_ble_eq_true rfl) (Nat.le_of_ble_eq_true rfl) d_BlockMaker_listKinds_5 (fun r I5 k => ?_)
  obtain ⟨rfl, k⟩ := k
  refine zx_iconst d_BlockMaker_listKinds_8 zc_0 ?_
  refine zx_istore_n (L2 := [(0, .ref o0), (1, .ref o1), (2, .int 0)]) d_BlockMaker_listKinds_9 (Nat.le_of_ble_eq_true rfl) rfl ?_
  exact k
set_option maxRecDepth 20000 in
theorem r_BlockMaker_listKinds_10 (l : Launch) (d : Nat) {K : zx_Kt} {RJ : zx_RJ} {Q : zi_Q} {I : zi_I} (o0 : Nat) (o1 : Nat) (x2 : Int32) (q1 : (K.2 o1).1 = 9) (q2 : (K.2 o0).1 = 10) {r3 : Nat} (e4 : RJ.1 o0 1 = r3) (z5 : r3 ≠ 0) {r6 : Nat} (e7 : RJ.1 o1 4 = r6) (z8 : r6 ≠ 0) {n10 : Nat} (a9 : K.2 r6 = (0, n10)) {n15 : Nat} (a14 : K.2 r3 = (0, n15))
    (k : (((I o1 2) ≤ x2) → zi_X l (zx_rm (d + 1) 0 0) M_BlockMaker_listKinds K RJ Q 43 [(0, .ref o0), (1, .ref o1), (2, .int 0)] [] (zx_u2 I o1 5 0)) ∧ ((¬ (I o1 2) ≤ x2) → ∃ j11, x2 = nI j11 ∧ j11 < n10 ∧ ∃ j16, I r6 j11 = nI j16 ∧ j16 < n15 ∧ zi_X l (zx_rm (d + 1) 0 0) M_BlockMaker_listKinds K RJ Q 10 [(0, .ref o0), (1, .ref o1), (2, .int (x2 + 1))] [] (zx_u2 I r3 j16 1))) :
    zi_X l (zx_rm (d + 1) 0 0) M_BlockMaker_listKinds K RJ Q 10 [(0, .ref o0), (1, .ref o1), (2, .int x2)] [] I := by
  refine zx_iload_n d_BlockMaker_listKinds_10 rfl ?_
  refine zx_aload_n d_BlockMaker_listKinds_11 rfl ?_
  refine zi_getI f_BlockMaker_62 q1 (by decide) d_BlockMaker_listKinds_12 ?_
  refine zx_icmp_ge (tgt := 36) d_BlockMaker_listKinds_15 rfl (fun c => ?_) (fun c => ?_)
  · have k := k.1 c
    refine zx_aload_n d_BlockMaker_listKinds_36 rfl ?_
    refine zx_iconst d_BlockMaker_listKinds_37 zc_0 ?_
    refine zi_putI f_BlockMaker_101 q1 (by decide) d_BlockMaker_listKinds_38 ?_
    refine zx_iconst d_BlockMaker_listKinds_41 zc_0 ?_
    refine zx_istore_n (L2 := [(0, .ref o0), (1, .ref o1), (2, .int 0)]) d_BlockMaker_listKinds_42 (Nat.le_of_ble_eq_true rfl) rfl ?_
    exact k
  · have k := k.2 c
    refine zx_aload_n d_BlockMaker_listKinds_18 rfl ?_
    refine zi_getR f_BlockMaker_15 q2 (by decide) e4 z5 d_BlockMaker_listKinds_19 ?_
    refine zx_aload_n d_BlockMaker_listKinds_22 rfl ?_
    refine zi_getR f_BlockMaker_92 q1 (by decide) e7 z8 d_BlockMaker_listKinds_23 ?_
    refine zx_iload_n d_BlockMaker_listKinds_26 rfl ?_
    obtain ⟨j11, e12, b13, k⟩ := k
    refine zi_iald j11 a9 e12 b13 d_BlockMaker_listKinds_27 ?_
    refine zx_iconst d_BlockMaker_listKinds_28 zc_1 ?_
    obtain ⟨j16, e17, b18, k⟩ := k
    refine zi_iast j16 a14 e17 b18 d_BlockMaker_listKinds_29 ?_
    refine zx_iinc (L2 := [(0, .ref o0), (1, .ref o1), (2, .int (x2 + 1))]) d_BlockMaker_listKinds_30 rfl (Nat.le_of_ble_eq_true rfl) zc_1 rfl ?_
    refine zx_goto (tgt := 10) d_BlockMaker_listKinds_33 rfl ?_
    exact k
set_option maxRecDepth 20000 in
theorem r_BlockMaker_listKinds_43 (l : Launch) (d : Nat) {K : zx_Kt} {RJ : zx_RJ} {Q : zi_Q} {I : zi_I} (o0 : Nat) (o1 : Nat) (x2 : Int32) (q1 : (K.2 o0).1 = 10) {r2 : Nat} (e3 : RJ.1 o0 1 = r2) (z4 : r2 ≠ 0) {n6 : Nat} (a5 : K.2 r2 = (0, n6)) (q10 : (K.2 o1).1 = 9)
    (k : ((256 ≤ x2) → Q none I) ∧ ((¬ 256 ≤ x2) → ∃ j7, x2 = nI j7 ∧ j7 < n6 ∧ ((¬ (I r2 j7) = 1) → zi_X l (zx_rm (d + 1) 0 0) M_BlockMaker_listKinds K RJ Q 43 [(0, .ref o0), (1, .ref o1), (2, .int (x2 + 1))] [] I) ∧ (((I r2 j7) = 1) → zi_C l (zx_rm d 0 0) M_Block_addKind [.ref o1, .int x2] K RJ I (fun r I11 => r = none ∧ zi_X l (zx_rm (d + 1) 0 0) M_BlockMaker_listKinds K RJ Q 43 [(0, .ref o0), (1, .ref o1), (2, .int (x2 + 1))] [] I11)))) :
    zi_X l (zx_rm (d + 1) 0 0) M_BlockMaker_listKinds K RJ Q 43 [(0, .ref o0), (1, .ref o1), (2, .int x2)] [] I := by
  refine zx_iload_n d_BlockMaker_listKinds_43 rfl ?_
  refine zx_sipush d_BlockMaker_listKinds_44 zs_256 ?_
  refine zx_icmp_ge (tgt := 71) d_BlockMaker_listKinds_47 rfl (fun c => ?_) (fun c => ?_)
  · have k := k.1 c
    exact zi_vret d_BlockMaker_listKinds_71 rfl k
  · have k := k.2 c
    refine zx_aload_n d_BlockMaker_listKinds_50 rfl ?_
    refine zi_getR f_BlockMaker_15 q1 (by decide) e3 z4 d_BlockMaker_listKinds_51 ?_
    refine zx_iload_n d_BlockMaker_listKinds_54 rfl ?_
    obtain ⟨j7, e8, b9, k⟩ := k
    refine zi_iald j7 a5 e8 b9 d_BlockMaker_listKinds_55 ?_
    refine zx_iconst d_BlockMaker_listKinds_56 zc_1 ?_
    refine zx_icmp_ne (tgt := 65) d_BlockMaker_listKinds_57 rfl (fun c => ?_) (fun c => ?_)
    · have k := k.1 c
      refine zx_iinc (L2 := [(0, .ref o0), (1, .ref o1), (2, .int (x2 + 1))]) d_BlockMaker_listKinds_65 rfl (Nat.le_of_ble_eq_true rfl) zc_1 rfl ?_
      refine zx_goto (tgt := 43) d_BlockMaker_listKinds_68 rfl ?_
      exact k
    · have k := k.2 c
      refine zx_aload_n d_BlockMaker_listKinds_60 rfl ?_
      refine zx_iload_n d_BlockMaker_listKinds_61 rfl ?_
      refine zi_callV (hC := k) k_BlockMaker_104 q10 (by decide) rfl rfl (Nat.le_of_ble_eq_true rfl) (Nat.le_of_ble_eq_true rfl) d_BlockMaker_listKinds_62 (fun r I11 k => ?_)
      obtain ⟨rfl, k⟩ := k
      refine zx_iinc (L2 := [(0, .ref o0), (1, .ref o1), (2, .int (x2 + 1))]) d_BlockMaker_listKinds_65 rfl (Nat.le_of_ble_eq_true rfl) zc_1 rfl ?_
      refine zx_goto (tgt := 43) d_BlockMaker_listKinds_68 rfl ?_
      exact k
set_option maxRecDepth 20000 in
theorem r_BlockMaker_findSymbols_0 (l : Launch) (d : Nat) {K : zx_Kt} {RJ : zx_RJ} {Q : zi_Q} {I : zi_I} (o0 : Nat) (o1 : Nat) (q1 : (K.2 o0).1 = 10) {r2 : Nat} (e3 : RJ.1 o0 2 = r2) (z4 : r2 ≠ 0) (q5 : (K.2 o1).1 = 9) {r6 : Nat} (e7 : RJ.1 o1 6 = r6) (z8 : r6 ≠ 0) (q9 : (K.2 r2).1 = 14)
    (k : zi_C l (zx_rm d 0 0) M_MoveList_setTo [.ref r2, .ref r6, .int (I o1 5)] K RJ I (fun r I10 => r = none ∧ zi_X l (zx_rm (d + 1) 0 0) M_BlockMaker_findSymbols K RJ Q 24 [(0, .ref o0), (1, .ref o1), (2, .int 0), (3, .int 0)] [] (zx_u2 I10 o1 7 0))) :
    zi_X l (zx_rm (d + 1) 0 0) M_BlockMaker_findSymbols K RJ Q 0 [(0, .ref o0), (1, .ref o1)] [] I := by
  refine zx_aload_n d_BlockMaker_findSymbols_0 rfl ?_
  refine zi_getR f_BlockMaker_21 q1 (by decide) e3 z4 d_BlockMaker_findSymbols_1 ?_
  refine zx_aload_n d_BlockMaker_findSymbols_4 rfl ?_
  refine zi_getR f_BlockMaker_107 q5 (by decide) e7 z8 d_BlockMaker_findSymbols_5 ?_
  refine zx_aload_n d_BlockMaker_findSymbols_8 rfl ?_
  refine zi_getI f_BlockMaker_101 q5 (by decide) d_BlockMaker_findSymbols_9 ?_
  refine zi_callV (hC := k) k_BlockMaker_110 q9 (by decide) rfl rfl (Nat.le_of_ble_eq_true rfl) (Nat.le_of_ble_eq_true rfl) d_BlockMaker_findSymbols_12 (fun r I10 k => ?_)
  obtain ⟨rfl, k⟩ := k
  refine zx_aload_n d_BlockMaker_findSymbols_15 rfl ?_
  refine zx_iconst d_BlockMaker_findSymbols_16 zc_0 ?_
  refine zi_putI f_BlockMaker_113 q5 (by decide) d_BlockMaker_findSymbols_17 ?_
  refine zx_iconst d_BlockMaker_findSymbols_20 zc_0 ?_
  refine zx_istore_n (L2 := [(0, .ref o0), (1, .ref o1), (2, .int 0)]) d_BlockMaker_findSymbols_21 (Nat.le_of_ble_eq_true rfl) rfl ?_
  refine zx_iconst d_BlockMaker_findSymbols_22 zc_0 ?_
  refine zx_istore_n (L2 := [(0, .ref o0), (1, .ref o1), (2, .int 0), (3, .int 0)]) d_BlockMaker_findSymbols_23 (Nat.le_of_ble_eq_true rfl) rfl ?_
  exact k
set_option maxRecDepth 20000 in
theorem r_BlockMaker_findSymbols_24 (l : Launch) (d : Nat) {K : zx_Kt} {RJ : zx_RJ} {Q : zi_Q} {I : zi_I} (o0 : Nat) (o1 : Nat) (x2 : Int32) (x3 : Int32) (q1 : (K.2 o1).1 = 9) (q6 : (K.2 o0).1 = 10) {r7 : Nat} (e8 : RJ.1 o0 2 = r7) (z9 : r7 ≠ 0) {r10 : Nat} (e11 : RJ.1 o1 4 = r10) (z12 : r10 ≠ 0) {n14 : Nat} (a13 : K.2 r10 = (0, n14)) (q18 : (K.2 r7).1 = 14)
    (k : (((I o1 2) ≤ x3) → zi_C l (zx_rm d 0 0) M_BlockMaker_addRun [.ref o1, .int x2] K RJ I (fun r I2 => r = none ∧ zi_C l (zx_rm d 0 0) M_Block_endSymbol [.ref o1] K RJ I2 (fun r I3 => ∃ v4, r = some (.int v4) ∧ zi_C l (zx_rm d 0 0) M_Block_addSymbol [.ref o1, .int v4] K RJ I3 (fun r I5 => r = none ∧ Q none I5)))) ∧ ((¬ (I o1 2) ≤ x3) → ∃ j15, x3 = nI j15 ∧ j15 < n14 ∧ zi_C l (zx_rm d 0 0) M_MoveList_moveValue [.ref r7, .int (I r10 j15)] K RJ I (fun r I19 => ∃ v20, r = some (.int v20) ∧ ((¬ v20 = 0) → zi_C l (zx_rm d 0 0) M_BlockMaker_addRun [.ref o1, .int x2] K RJ I19 (fun r I21 => r = none ∧ zi_C l (zx_rm d 0 0) M_Block_addSymbol [.ref o1, .int (v20 + 1)] K RJ I21 (fun r I22 => r = none ∧ zi_X l (zx_rm (d + 1) 0 0) M_BlockMaker_findSymbols K RJ Q 24 [(0, .ref o0), (1, .ref o1), (2, .int 0), (3, .int (x3 + 1))] [] I22))) ∧ ((v20 = 0) → zi_X l (zx_rm (d + 1) 0 0) M_BlockMaker_findSymbols K RJ Q 24 [(0, .ref o0), (1, .ref o1), (2, .int (x2 + 1)), (3, .int (x3 + 1))] [] I19)))) :
    zi_X l (zx_rm (d + 1) 0 0) M_BlockMaker_findSymbols K RJ Q 24 [(0, .ref o0), (1, .ref o1), (2, .int x2), (3, .int x3)] [] I := by
  refine zx_iload_n d_BlockMaker_findSymbols_24 rfl ?_
  refine zx_aload_n d_BlockMaker_findSymbols_25 rfl ?_
  refine zi_getI f_BlockMaker_62 q1 (by decide) d_BlockMaker_findSymbols_26 ?_
  refine zx_icmp_ge (tgt := 79) d_BlockMaker_findSymbols_29 rfl (fun c => ?_) (fun c => ?_)
  · have k := k.1 c
    refine zx_aload_n d_BlockMaker_findSymbols_79 rfl ?_
    refine zx_iload_n d_BlockMaker_findSymbols_80 rfl ?_
    refine zi_callS (hC := k) k_BlockMaker_119 rfl rfl (Nat.le_of_ble_eq_true rfl) (Nat.le_of_ble_eq_true rfl) d_BlockMaker_findSymbols_81 (fun r I2 k => ?_)
    obtain ⟨rfl, k⟩ := k
    refine zx_aload_n d_BlockMaker_findSymbols_84 rfl ?_
    refine zx_aload_n d_BlockMaker_findSymbols_85 rfl ?_
    refine zi_callV (hC := k) k_BlockMaker_126 q1 (by decide) rfl rfl (Nat.le_of_ble_eq_true rfl) (Nat.le_of_ble_eq_true rfl) d_BlockMaker_findSymbols_86 (fun r I3 k => ?_)
    obtain ⟨v4, rfl, k⟩ := k
    refine zi_callV (hC := k) k_BlockMaker_123 q1 (by decide) rfl rfl (Nat.le_of_ble_eq_true rfl) (Nat.le_of_ble_eq_true rfl) d_BlockMaker_findSymbols_89 (fun r I5 k => ?_)
    obtain ⟨rfl, k⟩ := k
    exact zi_vret d_BlockMaker_findSymbols_92 rfl k
  · have k := k.2 c
    refine zx_aload_n d_BlockMaker_findSymbols_32 rfl ?_
    refine zi_getR f_BlockMaker_21 q6 (by decide) e8 z9 d_BlockMaker_findSymbols_33 ?_
    refine zx_aload_n d_BlockMaker_findSymbols_36 rfl ?_
    refine zi_getR f_BlockMaker_92 q1 (by decide) e11 z12 d_BlockMaker_findSymbols_37 ?_
    refine zx_iload_n d_BlockMaker_findSymbols_40 rfl ?_
    obtain ⟨j15, e16, b17, k⟩ := k
    refine zi_iald j15 a13 e16 b17 d_BlockMaker_findSymbols_41 ?_
    refine zi_callV (hC := k) k_BlockMaker_116 q18 (by decide) rfl rfl (Nat.le_of_ble_eq_true rfl) (Nat.le_of_ble_eq_true rfl) d_BlockMaker_findSymbols_42 (fun r I19 k => ?_)
    obtain ⟨v20, rfl, k⟩ := k
    refine zx_istore (L2 := [(0, .ref o0), (1, .ref o1), (2, .int x2), (3, .int x3), (4, .int v20)]) d_BlockMaker_findSymbols_45 (Nat.le_of_ble_eq_true rfl) rfl ?_
    refine zx_iload d_BlockMaker_findSymbols_47 rfl ?_
    refine zx_if_ne (tgt := 58) d_BlockMaker_findSymbols_49 rfl (fun c => ?_) (fun c => ?_)
    · have k := k.1 c
      refine zx_aload_n d_BlockMaker_findSymbols_58 rfl ?_
      refine zx_iload_n d_BlockMaker_findSymbols_59 rfl ?_
      refine zi_callS (hC := k) k_BlockMaker_119 rfl rfl (Nat.le_of_ble_eq_true rfl) (Nat.le_of_ble_eq_true rfl) d_BlockMaker_findSymbols_60 (fun r I21 k => ?_)
      obtain ⟨rfl, k⟩ := k
      refine zx_iconst d_BlockMaker_findSymbols_63 zc_0 ?_
      refine zx_istore_n (L2 := [(0, .ref o0), (1, .ref o1), (2, .int 0), (3, .int x3), (4, .int v20)]) d_BlockMaker_findSymbols_64 (Nat.le_of_ble_eq_true rfl) rfl ?_
      refine zx_aload_n d_BlockMaker_findSymbols_65 rfl ?_
      refine zx_iload d_BlockMaker_findSymbols_66 rfl ?_
      refine zx_iconst d_BlockMaker_findSymbols_68 zc_1 ?_
      refine zx_iadd d_BlockMaker_findSymbols_69 ?_
      refine zi_callV (hC := k) k_BlockMaker_123 q1 (by decide) rfl rfl (Nat.le_of_ble_eq_true rfl) (Nat.le_of_ble_eq_true rfl) d_BlockMaker_findSymbols_70 (fun r I22 k => ?_)
      obtain ⟨rfl, k⟩ := k
      refine zx_iinc (L2 := [(0, .ref o0), (1, .ref o1), (2, .int 0), (3, .int (x3 + 1)), (4, .int v20)]) d_BlockMaker_findSymbols_73 rfl (Nat.le_of_ble_eq_true rfl) zc_1 rfl ?_
      refine zx_goto (tgt := 24) d_BlockMaker_findSymbols_76 rfl ?_
      refine zx_locs [0, 1, 2, 3] rfl ?_
      exact k
    · have k := k.2 c
      refine zx_iinc (L2 := [(0, .ref o0), (1, .ref o1), (2, .int (x2 + 1)), (3, .int x3), (4, .int v20)]) d_BlockMaker_findSymbols_52 rfl (Nat.le_of_ble_eq_true rfl) zc_1 rfl ?_
      refine zx_goto (tgt := 73) d_BlockMaker_findSymbols_55 rfl ?_
      refine zx_iinc (L2 := [(0, .ref o0), (1, .ref o1), (2, .int (x2 + 1)), (3, .int (x3 + 1)), (4, .int v20)]) d_BlockMaker_findSymbols_73 rfl (Nat.le_of_ble_eq_true rfl) zc_1 rfl ?_
      refine zx_goto (tgt := 24) d_BlockMaker_findSymbols_76 rfl ?_
      refine zx_locs [0, 1, 2, 3] rfl ?_
      exact k
set_option maxRecDepth 20000 in
theorem r_BlockMaker_addRun_0 (l : Launch) (d : Nat) {K : zx_Kt} {RJ : zx_RJ} {Q : zi_Q} {I : zi_I} (o0 : Nat) (x1 : Int32) 
    (k : zi_X l (zx_rm (d + 1) 0 0) M_BlockMaker_addRun K RJ Q 2 [(0, .ref o0), (1, .int x1), (2, .int x1)] [] I) :
    zi_X l (zx_rm (d + 1) 0 0) M_BlockMaker_addRun K RJ Q 0 [(0, .ref o0), (1, .int x1)] [] I := by
  refine zx_iload_n d_BlockMaker_addRun_0 rfl ?_
  refine zx_istore_n (L2 := [(0, .ref o0), (1, .int x1), (2, .int x1)]) d_BlockMaker_addRun_1 (Nat.le_of_ble_eq_true rfl) rfl ?_
  exact k
set_option maxRecDepth 20000 in
theorem r_BlockMaker_addRun_2 (l : Launch) (d : Nat) {K : zx_Kt} {RJ : zx_RJ} {Q : zi_Q} {I : zi_I} (o0 : Nat) (x1 : Int32) (x2 : Int32) (q1 : (K.2 o0).1 = 9)
    (k : ((x2 ≤ 0) → Q none I) ∧ ((¬ x2 ≤ 0) → ((¬ (x2 - x2 / 2 * 2) = 1) → zi_C l (zx_rm d 0 0) M_Block_addSymbol [.ref o0, .int 1] K RJ I (fun r I2 => r = none ∧ zi_X l (zx_rm (d + 1) 0 0) M_BlockMaker_addRun K RJ Q 2 [(0, .ref o0), (1, .int x1), (2, .int ((x2 - 1) / 2))] [] I2)) ∧ (((x2 - x2 / 2 * 2) = 1) → zi_C l (zx_rm d 0 0) M_Block_addSymbol [.ref o0, .int 0] K RJ I (fun r I3 => r = none ∧ zi_X l (zx_rm (d + 1) 0 0) M_BlockMaker_addRun K RJ Q 2 [(0, .ref o0), (1, .int x1), (2, .int ((x2 - 1) / 2))] [] I3)))) :
    zi_X l (zx_rm (d + 1) 0 0) M_BlockMaker_addRun K RJ Q 2 [(0, .ref o0), (1, .int x1), (2, .int x2)] [] I := by
  refine zx_iload_n d_BlockMaker_addRun_2 rfl ?_
  refine zx_if_le (tgt := 31) d_BlockMaker_addRun_3 rfl (fun c => ?_) (fun c => ?_)
  · have k := k.1 c
    exact zi_vret d_BlockMaker_addRun_31 rfl k
  · have k := k.2 c
    refine zx_aload_n d_BlockMaker_addRun_6 rfl ?_
    refine zx_iload_n d_BlockMaker_addRun_7 rfl ?_
    refine zx_iconst d_BlockMaker_addRun_8 zc_2 ?_
    refine zx_irem d_BlockMaker_addRun_9 (by decide) ?_
    refine zx_iconst d_BlockMaker_addRun_10 zc_1 ?_
    refine zx_icmp_ne (tgt := 18) d_BlockMaker_addRun_11 rfl (fun c => ?_) (fun c => ?_)
    · have k := k.1 c
      refine zx_iconst d_BlockMaker_addRun_18 zc_1 ?_
      refine zi_callV (hC := k) k_BlockMaker_123 q1 (by decide) rfl rfl (Nat.le_of_ble_eq_true rfl) (Nat.le_of_ble_eq_true rfl) d_BlockMaker_addRun_19 (fun r I2 k => ?_)
      obtain ⟨rfl, k⟩ := k
      refine zx_iload_n d_BlockMaker_addRun_22 rfl ?_
      refine zx_iconst d_BlockMaker_addRun_23 zc_1 ?_
      refine zx_isub d_BlockMaker_addRun_24 ?_
      refine zx_iconst d_BlockMaker_addRun_25 zc_2 ?_
      refine zx_idiv d_BlockMaker_addRun_26 (by decide) ?_
      refine zx_istore_n (L2 := [(0, .ref o0), (1, .int x1), (2, .int ((x2 - 1) / 2))]) d_BlockMaker_addRun_27 (Nat.le_of_ble_eq_true rfl) rfl ?_
      refine zx_goto (tgt := 2) d_BlockMaker_addRun_28 rfl ?_
      exact k
    · have k := k.2 c
      refine zx_iconst d_BlockMaker_addRun_14 zc_0 ?_
      refine zx_goto (tgt := 19) d_BlockMaker_addRun_15 rfl ?_
      refine zi_callV (hC := k) k_BlockMaker_123 q1 (by decide) rfl rfl (Nat.le_of_ble_eq_true rfl) (Nat.le_of_ble_eq_true rfl) d_BlockMaker_addRun_19 (fun r I3 k => ?_)
      obtain ⟨rfl, k⟩ := k
      refine zx_iload_n d_BlockMaker_addRun_22 rfl ?_
      refine zx_iconst d_BlockMaker_addRun_23 zc_1 ?_
      refine zx_isub d_BlockMaker_addRun_24 ?_
      refine zx_iconst d_BlockMaker_addRun_25 zc_2 ?_
      refine zx_idiv d_BlockMaker_addRun_26 (by decide) ?_
      refine zx_istore_n (L2 := [(0, .ref o0), (1, .int x1), (2, .int ((x2 - 1) / 2))]) d_BlockMaker_addRun_27 (Nat.le_of_ble_eq_true rfl) rfl ?_
      refine zx_goto (tgt := 2) d_BlockMaker_addRun_28 rfl ?_
      exact k
set_option maxRecDepth 20000 in
theorem r_BlockWriter_writeHead_0 (l : Launch) (d : Nat) {K : zx_Kt} {RJ : zx_RJ} {Q : zi_Q} {I : zi_I} (o0 : Nat) (x1 : Int32) (q1 : (K.2 o0).1 = 12) {r2 : Nat} (e3 : RJ.1 o0 0 = r2) (z4 : r2 ≠ 0) (q5 : (K.2 r2).1 = 8)
    (k : zi_C l (zx_rm d 0 0) M_BitWriter_put [.ref r2, .int 21314, .int 16] K RJ I (fun r I6 => r = none ∧ zi_C l (zx_rm d 0 0) M_BitWriter_put [.ref r2, .int x1, .int 8] K RJ I6 (fun r I7 => r = none ∧ Q none I7))) :
    zi_X l (zx_rm (d + 1) 0 0) M_BlockWriter_writeHead K RJ Q 0 [(0, .ref o0), (1, .int x1)] [] I := by
  refine zx_aload_n d_BlockWriter_writeHead_0 rfl ?_
  refine zi_getR f_BlockWriter_33 q1 (by decide) e3 z4 d_BlockWriter_writeHead_1 ?_
  refine zx_sipush d_BlockWriter_writeHead_4 zs_21314 ?_
  refine zx_bipush d_BlockWriter_writeHead_7 zb_16 ?_
  refine zi_callV (hC := k) k_BlockWriter_40 q5 (by decide) rfl rfl (Nat.le_of_ble_eq_true rfl) (Nat.le_of_ble_eq_true rfl) d_BlockWriter_writeHead_9 (fun r I6 k => ?_)
  obtain ⟨rfl, k⟩ := k
  refine zx_aload_n d_BlockWriter_writeHead_12 rfl ?_
  refine zi_getR f_BlockWriter_33 q1 (by decide) e3 z4 d_BlockWriter_writeHead_13 ?_
  refine zx_iload_n d_BlockWriter_writeHead_16 rfl ?_
  refine zx_bipush d_BlockWriter_writeHead_17 zb_8 ?_
  refine zi_callV (hC := k) k_BlockWriter_40 q5 (by decide) rfl rfl (Nat.le_of_ble_eq_true rfl) (Nat.le_of_ble_eq_true rfl) d_BlockWriter_writeHead_19 (fun r I7 k => ?_)
  obtain ⟨rfl, k⟩ := k
  exact zi_vret d_BlockWriter_writeHead_22 rfl k
set_option maxRecDepth 20000 in
theorem r_BlockWriter_writeEnd_0 (l : Launch) (d : Nat) {K : zx_Kt} {RJ : zx_RJ} {Q : zi_Q} {I : zi_I} (o0 : Nat) (x1 : Int32) (q1 : (K.2 o0).1 = 12) {r2 : Nat} (e3 : RJ.1 o0 0 = r2) (z4 : r2 ≠ 0) (q5 : (K.2 r2).1 = 8)
    (k : zi_C l (zx_rm d 0 0) M_BitWriter_put [.ref r2, .int 1536581, .int 24] K RJ I (fun r I6 => r = none ∧ zi_C l (zx_rm d 0 0) M_BitWriter_put [.ref r2, .int x1, .int 16] K RJ I6 (fun r I7 => r = none ∧ zi_C l (zx_rm d 0 0) M_BitWriter_fillByte [.ref r2] K RJ I7 (fun r I8 => r = none ∧ Q none I8)))) :
    zi_X l (zx_rm (d + 1) 0 0) M_BlockWriter_writeEnd K RJ Q 0 [(0, .ref o0), (1, .int x1)] [] I := by
  refine zx_aload_n d_BlockWriter_writeEnd_0 rfl ?_
  refine zi_getR f_BlockWriter_33 q1 (by decide) e3 z4 d_BlockWriter_writeEnd_1 ?_
  refine zx_ldc w_BlockWriter_44 d_BlockWriter_writeEnd_4 ?_
  refine zx_bipush d_BlockWriter_writeEnd_6 zb_24 ?_
  refine zi_callV (hC := k) k_BlockWriter_40 q5 (by decide) rfl rfl (Nat.le_of_ble_eq_true rfl) (Nat.le_of_ble_eq_true rfl) d_BlockWriter_writeEnd_8 (fun r I6 k => ?_)
  obtain ⟨rfl, k⟩ := k
  refine zx_aload_n d_BlockWriter_writeEnd_11 rfl ?_
  refine zi_getR f_BlockWriter_33 q1 (by decide) e3 z4 d_BlockWriter_writeEnd_12 ?_
  refine zx_iload_n d_BlockWriter_writeEnd_15 rfl ?_
  refine zx_bipush d_BlockWriter_writeEnd_16 zb_16 ?_
  refine zi_callV (hC := k) k_BlockWriter_40 q5 (by decide) rfl rfl (Nat.le_of_ble_eq_true rfl) (Nat.le_of_ble_eq_true rfl) d_BlockWriter_writeEnd_18 (fun r I7 k => ?_)
  obtain ⟨rfl, k⟩ := k
  refine zx_aload_n d_BlockWriter_writeEnd_21 rfl ?_
  refine zi_getR f_BlockWriter_33 q1 (by decide) e3 z4 d_BlockWriter_writeEnd_22 ?_
  refine zi_callV (hC := k) k_BlockWriter_45 q5 (by decide) rfl rfl (Nat.le_of_ble_eq_true rfl) (Nat.le_of_ble_eq_true rfl) d_BlockWriter_writeEnd_25 (fun r I8 k => ?_)
  obtain ⟨rfl, k⟩ := k
  exact zi_vret d_BlockWriter_writeEnd_28 rfl k
set_option maxRecDepth 20000 in
theorem r_BlockWriter_writeBlock_0 (l : Launch) (d : Nat) {K : zx_Kt} {RJ : zx_RJ} {Q : zi_Q} {I : zi_I} (o0 : Nat) (o1 : Nat) (q1 : (K.2 o0).1 = 12) {r2 : Nat} (e3 : RJ.1 o0 0 = r2) (z4 : r2 ≠ 0) (q5 : (K.2 r2).1 = 8) (q7 : (K.2 o1).1 = 9)
    (k : zi_C l (zx_rm d 0 0) M_BitWriter_put [.ref r2, .int 3227993, .int 24] K RJ I (fun r I6 => r = none ∧ zi_C l (zx_rm d 0 0) M_BitWriter_put [.ref r2, .int (I6 o1 0), .int 16] K RJ I6 (fun r I8 => r = none ∧ zi_C l (zx_rm d 0 0) M_BitWriter_put [.ref r2, .int (I8 o1 1), .int 6] K RJ I8 (fun r I9 => r = none ∧ zi_C l (zx_rm d 0 0) M_BlockWriter_writeMap [.ref o0, .ref o1] K RJ I9 (fun r I10 => r = none ∧ zi_C l (zx_rm d 0 0) M_BitWriter_put [.ref r2, .int (I10 o1 9), .int 3] K RJ I10 (fun r I11 => r = none ∧ zi_C l (zx_rm d 0 0) M_BitWriter_put [.ref r2, .int (I11 o1 11), .int 6] K RJ I11 (fun r I12 => r = none ∧ zi_C l (zx_rm d 0 0) M_BlockWriter_writePicks [.ref o0, .ref o1] K RJ I12 (fun r I13 => r = none ∧ zi_X l (zx_rm (d + 1) 0 0) M_BlockWriter_writeBlock K RJ Q 74 [(0, .ref o0), (1, .ref o1), (2, .int 0)] [] I13)))))))) :
    zi_X l (zx_rm (d + 1) 0 0) M_BlockWriter_writeBlock K RJ Q 0 [(0, .ref o0), (1, .ref o1)] [] I := by
  refine zx_aload_n d_BlockWriter_writeBlock_0 rfl ?_
  refine zi_getR f_BlockWriter_33 q1 (by decide) e3 z4 d_BlockWriter_writeBlock_1 ?_
  refine zx_ldc w_BlockWriter_48 d_BlockWriter_writeBlock_4 ?_
  refine zx_bipush d_BlockWriter_writeBlock_6 zb_24 ?_
  refine zi_callV (hC := k) k_BlockWriter_40 q5 (by decide) rfl rfl (Nat.le_of_ble_eq_true rfl) (Nat.le_of_ble_eq_true rfl) d_BlockWriter_writeBlock_8 (fun r I6 k => ?_)
  obtain ⟨rfl, k⟩ := k
  refine zx_aload_n d_BlockWriter_writeBlock_11 rfl ?_
  refine zi_getR f_BlockWriter_33 q1 (by decide) e3 z4 d_BlockWriter_writeBlock_12 ?_
  refine zx_aload_n d_BlockWriter_writeBlock_15 rfl ?_
  refine zi_getI f_BlockWriter_49 q7 (by decide) d_BlockWriter_writeBlock_16 ?_
  refine zx_bipush d_BlockWriter_writeBlock_19 zb_16 ?_
  refine zi_callV (hC := k) k_BlockWriter_40 q5 (by decide) rfl rfl (Nat.le_of_ble_eq_true rfl) (Nat.le_of_ble_eq_true rfl) d_BlockWriter_writeBlock_21 (fun r I8 k => ?_)
  obtain ⟨rfl, k⟩ := k
  refine zx_aload_n d_BlockWriter_writeBlock_24 rfl ?_
  refine zi_getR f_BlockWriter_33 q1 (by decide) e3 z4 d_BlockWriter_writeBlock_25 ?_
  refine zx_aload_n d_BlockWriter_writeBlock_28 rfl ?_
  refine zi_getI f_BlockWriter_55 q7 (by decide) d_BlockWriter_writeBlock_29 ?_
  refine zx_bipush d_BlockWriter_writeBlock_32 zb_6 ?_
  refine zi_callV (hC := k) k_BlockWriter_40 q5 (by decide) rfl rfl (Nat.le_of_ble_eq_true rfl) (Nat.le_of_ble_eq_true rfl) d_BlockWriter_writeBlock_34 (fun r I9 k => ?_)
  obtain ⟨rfl, k⟩ := k
  refine zx_aload_n d_BlockWriter_writeBlock_37 rfl ?_
  refine zx_aload_n d_BlockWriter_writeBlock_38 rfl ?_
  refine zi_callV (hC := k) k_BlockWriter_58 q1 (by decide) rfl rfl (Nat.le_of_ble_eq_true rfl) (Nat.le_of_ble_eq_true rfl) d_BlockWriter_writeBlock_39 (fun r I10 k => ?_)
  obtain ⟨rfl, k⟩ := k
  refine zx_aload_n d_BlockWriter_writeBlock_42 rfl ?_
  refine zi_getR f_BlockWriter_33 q1 (by decide) e3 z4 d_BlockWriter_writeBlock_43 ?_
  refine zx_aload_n d_BlockWriter_writeBlock_46 rfl ?_
  refine zi_getI f_BlockWriter_62 q7 (by decide) d_BlockWriter_writeBlock_47 ?_
  refine zx_iconst d_BlockWriter_writeBlock_50 zc_3 ?_
  refine zi_callV (hC := k) k_BlockWriter_40 q5 (by decide) rfl rfl (Nat.le_of_ble_eq_true rfl) (Nat.le_of_ble_eq_true rfl) d_BlockWriter_writeBlock_51 (fun r I11 k => ?_)
  obtain ⟨rfl, k⟩ := k
  refine zx_aload_n d_BlockWriter_writeBlock_54 rfl ?_
  refine zi_getR f_BlockWriter_33 q1 (by decide) e3 z4 d_BlockWriter_writeBlock_55 ?_
  refine zx_aload_n d_BlockWriter_writeBlock_58 rfl ?_
  refine zi_getI f_BlockWriter_65 q7 (by decide) d_BlockWriter_writeBlock_59 ?_
  refine zx_bipush d_BlockWriter_writeBlock_62 zb_6 ?_
  refine zi_callV (hC := k) k_BlockWriter_40 q5 (by decide) rfl rfl (Nat.le_of_ble_eq_true rfl) (Nat.le_of_ble_eq_true rfl) d_BlockWriter_writeBlock_64 (fun r I12 k => ?_)
  obtain ⟨rfl, k⟩ := k
  refine zx_aload_n d_BlockWriter_writeBlock_67 rfl ?_
  refine zx_aload_n d_BlockWriter_writeBlock_68 rfl ?_
  refine zi_callV (hC := k) k_BlockWriter_68 q1 (by decide) rfl rfl (Nat.le_of_ble_eq_true rfl) (Nat.le_of_ble_eq_true rfl) d_BlockWriter_writeBlock_69 (fun r I13 k => ?_)
  obtain ⟨rfl, k⟩ := k
  refine zx_iconst d_BlockWriter_writeBlock_72 zc_0 ?_
  refine zx_istore_n (L2 := [(0, .ref o0), (1, .ref o1), (2, .int 0)]) d_BlockWriter_writeBlock_73 (Nat.le_of_ble_eq_true rfl) rfl ?_
  exact k
set_option maxRecDepth 20000 in
theorem r_BlockWriter_writeBlock_74 (l : Launch) (d : Nat) {K : zx_Kt} {RJ : zx_RJ} {Q : zi_Q} {I : zi_I} (o0 : Nat) (o1 : Nat) (x2 : Int32) (q1 : (K.2 o1).1 = 9) (q2 : (K.2 o0).1 = 12) {r4 : Nat} (e5 : RJ.1 o1 10 = r4) (z6 : r4 ≠ 0) {n8 : Nat} (a7 : K.2 r4 = (4, n8)) {r18 : Nat} (e19 : RJ.1 o0 3 = r18) (z20 : r18 ≠ 0) {n22 : Nat} (a21 : K.2 r18 = (3, n22))
    (k : (((I o1 9) ≤ x2) → zi_C l (zx_rm d 0 0) M_BlockWriter_writeSymbols [.ref o0, .ref o1] K RJ I (fun r I3 => r = none ∧ Q none I3)) ∧ ((¬ (I o1 9) ≤ x2) → ∃ j9, x2 = nI j9 ∧ j9 < n8 ∧ ∃ r13, RJ.1 r4 j9 = r13 ∧ r13 ≠ 0 ∧ zi_C l (zx_rm d 0 0) M_Block_symbolKinds [.ref o1] K RJ I (fun r I15 => ∃ v16, r = some (.int v16) ∧ zi_C l (zx_rm d 0 0) M_BlockWriter_writeLengths [.ref o0, .ref r13, .int v16] K RJ I15 (fun r I17 => r = none ∧ ∃ j23, x2 = nI j23 ∧ j23 < n22 ∧ ∃ r27, RJ.1 r18 j23 = r27 ∧ r27 ≠ 0 ∧ ∃ j29, x2 = nI j29 ∧ j29 < n8 ∧ ∃ r33, RJ.1 r4 j29 = r33 ∧ r33 ≠ 0 ∧ zi_C l (zx_rm d 0 0) M_Block_symbolKinds [.ref o1] K RJ I17 (fun r I35 => ∃ v36, r = some (.int v36) ∧ (K.2 r27).1 = 13 ∧ zi_C l (zx_rm d 0 0) M_Codes_setTo [.ref r27, .ref r33, .int v36] K RJ I35 (fun r I38 => r = none ∧ zi_X l (zx_rm (d + 1) 0 0) M_BlockWriter_writeBlock K RJ Q 74 [(0, .ref o0), (1, .ref o1), (2, .int (x2 + 1))] [] I38)))))) :
    zi_X l (zx_rm (d + 1) 0 0) M_BlockWriter_writeBlock K RJ Q 74 [(0, .ref o0), (1, .ref o1), (2, .int x2)] [] I := by
  refine zx_iload_n d_BlockWriter_writeBlock_74 rfl ?_
  refine zx_aload_n d_BlockWriter_writeBlock_75 rfl ?_
  refine zi_getI f_BlockWriter_62 q1 (by decide) d_BlockWriter_writeBlock_76 ?_
  refine zx_icmp_ge (tgt := 121) d_BlockWriter_writeBlock_79 rfl (fun c => ?_) (fun c => ?_)
  · have k := k.1 c
    refine zx_aload_n d_BlockWriter_writeBlock_121 rfl ?_
    refine zx_aload_n d_BlockWriter_writeBlock_122 rfl ?_
    refine zi_callV (hC := k) k_BlockWriter_86 q2 (by decide) rfl rfl (Nat.le_of_ble_eq_true rfl) (Nat.le_of_ble_eq_true rfl) d_BlockWriter_writeBlock_123 (fun r I3 k => ?_)
    obtain ⟨rfl, k⟩ := k
    exact zi_vret d_BlockWriter_writeBlock_126 rfl k
  · have k := k.2 c
    refine zx_aload_n d_BlockWriter_writeBlock_82 rfl ?_
    refine zx_aload_n d_BlockWriter_writeBlock_83 rfl ?_
    refine zi_getR f_BlockWriter_71 q1 (by decide) e5 z6 d_BlockWriter_writeBlock_84 ?_
    refine zx_iload_n d_BlockWriter_writeBlock_87 rfl ?_
    obtain ⟨j9, e10, b11, k⟩ := k
    obtain ⟨r13, e14, z12, k⟩ := k
    refine zi_aald4 j9 a7 e10 b11 e14 z12 d_BlockWriter_writeBlock_88 ?_
    refine zx_aload_n d_BlockWriter_writeBlock_89 rfl ?_
    refine zi_callV (hC := k) k_BlockWriter_75 q1 (by decide) rfl rfl (Nat.le_of_ble_eq_true rfl) (Nat.le_of_ble_eq_true rfl) d_BlockWriter_writeBlock_90 (fun r I15 k => ?_)
    obtain ⟨v16, rfl, k⟩ := k
    refine zi_callV (hC := k) k_BlockWriter_79 q2 (by decide) rfl rfl (Nat.le_of_ble_eq_true rfl) (Nat.le_of_ble_eq_true rfl) d_BlockWriter_writeBlock_93 (fun r I17 k => ?_)
    obtain ⟨rfl, k⟩ := k
    refine zx_aload_n d_BlockWriter_writeBlock_96 rfl ?_
    refine zi_getR f_BlockWriter_24 q2 (by decide) e19 z20 d_BlockWriter_writeBlock_97 ?_
    refine zx_iload_n d_BlockWriter_writeBlock_100 rfl ?_
    obtain ⟨j23, e24, b25, k⟩ := k
    obtain ⟨r27, e28, z26, k⟩ := k
    refine zi_aald3 j23 a21 e24 b25 e28 z26 d_BlockWriter_writeBlock_101 ?_
    refine zx_aload_n d_BlockWriter_writeBlock_102 rfl ?_
    refine zi_getR f_BlockWriter_71 q1 (by decide) e5 z6 d_BlockWriter_writeBlock_103 ?_
    refine zx_iload_n d_BlockWriter_writeBlock_106 rfl ?_
    obtain ⟨j29, e30, b31, k⟩ := k
    obtain ⟨r33, e34, z32, k⟩ := k
    refine zi_aald4 j29 a7 e30 b31 e34 z32 d_BlockWriter_writeBlock_107 ?_
    refine zx_aload_n d_BlockWriter_writeBlock_108 rfl ?_
    refine zi_callV (hC := k) k_BlockWriter_75 q1 (by decide) rfl rfl (Nat.le_of_ble_eq_true rfl) (Nat.le_of_ble_eq_true rfl) d_BlockWriter_writeBlock_109 (fun r I35 k => ?_)
    obtain ⟨v36, rfl, k⟩ := k
    obtain ⟨q37, k⟩ := k
    refine zi_callV (hC := k) k_BlockWriter_83 q37 (by decide) rfl rfl (Nat.le_of_ble_eq_true rfl) (Nat.le_of_ble_eq_true rfl) d_BlockWriter_writeBlock_112 (fun r I38 k => ?_)
    obtain ⟨rfl, k⟩ := k
    refine zx_iinc (L2 := [(0, .ref o0), (1, .ref o1), (2, .int (x2 + 1))]) d_BlockWriter_writeBlock_115 rfl (Nat.le_of_ble_eq_true rfl) zc_1 rfl ?_
    refine zx_goto (tgt := 74) d_BlockWriter_writeBlock_118 rfl ?_
    exact k
set_option maxRecDepth 20000 in
theorem r_BlockWriter_writeMap_0 (l : Launch) (d : Nat) {K : zx_Kt} {RJ : zx_RJ} {Q : zi_Q} {I : zi_I} (o0 : Nat) (o1 : Nat) (q1 : (K.2 o0).1 = 12) {r2 : Nat} (e3 : RJ.1 o0 1 = r2) (z4 : r2 ≠ 0)
    (k : zi_C l (zx_rm d 0 0) M_Arrays_fill [.ref r2, .int 0] K RJ I (fun r I5 => r = none ∧ zi_X l (zx_rm (d + 1) 0 0) M_BlockWriter_writeMap K RJ Q 12 [(0, .ref o0), (1, .ref o1), (2, .int 0), (3, .int 0)] [] I5)) :
    zi_X l (zx_rm (d + 1) 0 0) M_BlockWriter_writeMap K RJ Q 0 [(0, .ref o0), (1, .ref o1)] [] I := by
  refine zx_aload_n d_BlockWriter_writeMap_0 rfl ?_
  refine zi_getR f_BlockWriter_9 q1 (by decide) e3 z4 d_BlockWriter_writeMap_1 ?_
  refine zx_iconst d_BlockWriter_writeMap_4 zc_0 ?_
  refine zi_callS (hC := k) k_BlockWriter_89 rfl rfl (Nat.le_of_ble_eq_true rfl) (Nat.le_of_ble_eq_true rfl) d_BlockWriter_writeMap_5 (fun r I5 k => ?_)
  obtain ⟨rfl, k⟩ := k
  refine zx_iconst d_BlockWriter_writeMap_8 zc_0 ?_
  refine zx_istore_n (L2 := [(0, .ref o0), (1, .ref o1), (2, .int 0)]) d_BlockWriter_writeMap_9 (Nat.le_of_ble_eq_true rfl) rfl ?_
  refine zx_iconst d_BlockWriter_writeMap_10 zc_0 ?_
  refine zx_istore_n (L2 := [(0, .ref o0), (1, .ref o1), (2, .int 0), (3, .int 0)]) d_BlockWriter_writeMap_11 (Nat.le_of_ble_eq_true rfl) rfl ?_
  exact k
set_option maxRecDepth 20000 in
theorem r_BlockWriter_writeMap_12 (l : Launch) (d : Nat) {K : zx_Kt} {RJ : zx_RJ} {Q : zi_Q} {I : zi_I} (o0 : Nat) (o1 : Nat) (x2 : Int32) (x3 : Int32) (q1 : (K.2 o1).1 = 9) (q2 : (K.2 o0).1 = 12) {r3 : Nat} (e4 : RJ.1 o0 0 = r3) (z5 : r3 ≠ 0) (q6 : (K.2 r3).1 = 8) {r8 : Nat} (e9 : RJ.1 o1 6 = r8) (z10 : r8 ≠ 0) {n12 : Nat} (a11 : K.2 r8 = (0, n12)) {r18 : Nat} (e19 : RJ.1 o0 1 = r18) (z20 : r18 ≠ 0) {n22 : Nat} (a21 : K.2 r18 = (0, n22))
    (k : (((I o1 5) ≤ x3) → zi_C l (zx_rm d 0 0) M_BitWriter_put [.ref r3, .int x2, .int 16] K RJ I (fun r I7 => r = none ∧ zi_X l (zx_rm (d + 1) 0 0) M_BlockWriter_writeMap K RJ Q 78 [(0, .ref o0), (1, .ref o1), (2, .int x2), (3, .int 0)] [] I7)) ∧ ((¬ (I o1 5) ≤ x3) → ∃ j13, x3 = nI j13 ∧ j13 < n12 ∧ zi_C l (zx_rm d 0 0) M_Main_mapBit [.int ((I r8 j13) / 16)] K RJ I (fun r I16 => ∃ v17, r = some (.int v17) ∧ ∃ j23, (I r8 j13) / 16 = nI j23 ∧ j23 < n22 ∧ zi_C l (zx_rm d 0 0) M_Main_mapBit [.int ((I r8 j13) - (I r8 j13) / 16 * 16)] K RJ I16 (fun r I26 => ∃ v27, r = some (.int v27) ∧ ∃ j28, (I r8 j13) / 16 = nI j28 ∧ j28 < n22 ∧ zi_X l (zx_rm (d + 1) 0 0) M_BlockWriter_writeMap K RJ Q 12 [(0, .ref o0), (1, .ref o1), (2, .int (x2 ||| v17)), (3, .int (x3 + 1))] [] (zx_u2 I26 r18 j28 ((I16 r18 j23) ||| v27)))))) :
    zi_X l (zx_rm (d + 1) 0 0) M_BlockWriter_writeMap K RJ Q 12 [(0, .ref o0), (1, .ref o1), (2, .int x2), (3, .int x3)] [] I := by
  refine zx_iload_n d_BlockWriter_writeMap_12 rfl ?_
  refine zx_aload_n d_BlockWriter_writeMap_13 rfl ?_
  refine zi_getI f_BlockWriter_94 q1 (by decide) d_BlockWriter_writeMap_14 ?_
  refine zx_icmp_ge (tgt := 66) d_BlockWriter_writeMap_17 rfl (fun c => ?_) (fun c => ?_)
  · have k := k.1 c
    refine zx_aload_n d_BlockWriter_writeMap_66 rfl ?_
    refine zi_getR f_BlockWriter_33 q2 (by decide) e4 z5 d_BlockWriter_writeMap_67 ?_
    refine zx_iload_n d_BlockWriter_writeMap_70 rfl ?_
    refine zx_bipush d_BlockWriter_writeMap_71 zb_16 ?_
    refine zi_callV (hC := k) k_BlockWriter_40 q6 (by decide) rfl rfl (Nat.le_of_ble_eq_true rfl) (Nat.le_of_ble_eq_true rfl) d_BlockWriter_writeMap_73 (fun r I7 k => ?_)
    obtain ⟨rfl, k⟩ := k
    refine zx_iconst d_BlockWriter_writeMap_76 zc_0 ?_
    refine zx_istore_n (L2 := [(0, .ref o0), (1, .ref o1), (2, .int x2), (3, .int 0)]) d_BlockWriter_writeMap_77 (Nat.le_of_ble_eq_true rfl) rfl ?_
    exact k
  · have k := k.2 c
    refine zx_aload_n d_BlockWriter_writeMap_20 rfl ?_
    refine zi_getR f_BlockWriter_97 q1 (by decide) e9 z10 d_BlockWriter_writeMap_21 ?_
    refine zx_iload_n d_BlockWriter_writeMap_24 rfl ?_
    obtain ⟨j13, e14, b15, k⟩ := k
    refine zi_iald j13 a11 e14 b15 d_BlockWriter_writeMap_25 ?_
    refine zx_istore (L2 := [(0, .ref o0), (1, .ref o1), (2, .int x2), (3, .int x3), (4, .int (I r8 j13))]) d_BlockWriter_writeMap_26 (Nat.le_of_ble_eq_true rfl) rfl ?_
    refine zx_iload_n d_BlockWriter_writeMap_28 rfl ?_
    refine zx_iload d_BlockWriter_writeMap_29 rfl ?_
    refine zx_bipush d_BlockWriter_writeMap_31 zb_16 ?_
    refine zx_idiv d_BlockWriter_writeMap_33 (by decide) ?_
    refine zi_callS (hC := k) k_BlockWriter_100 rfl rfl (Nat.le_of_ble_eq_true rfl) (Nat.le_of_ble_eq_true rfl) d_BlockWriter_writeMap_34 (fun r I16 k => ?_)
    obtain ⟨v17, rfl, k⟩ := k
    refine zx_ior d_BlockWriter_writeMap_37 ?_
    refine zx_istore_n (L2 := [(0, .ref o0), (1, .ref o1), (2, .int (x2 ||| v17)), (3, .int x3), (4, .int (I r8 j13))]) d_BlockWriter_writeMap_38 (Nat.le_of_ble_eq_true rfl) rfl ?_
    refine zx_aload_n d_BlockWriter_writeMap_39 rfl ?_
    refine zi_getR f_BlockWriter_9 q2 (by decide) e19 z20 d_BlockWriter_writeMap_40 ?_
    refine zx_iload d_BlockWriter_writeMap_43 rfl ?_
    refine zx_bipush d_BlockWriter_writeMap_45 zb_16 ?_
    refine zx_idiv d_BlockWriter_writeMap_47 (by decide) ?_
    refine zx_dup2_ai d_BlockWriter_writeMap_48 ?_
    obtain ⟨j23, e24, b25, k⟩ := k
    refine zi_iald j23 a21 e24 b25 d_BlockWriter_writeMap_49 ?_
    refine zx_iload d_BlockWriter_writeMap_50 rfl ?_
    refine zx_bipush d_BlockWriter_writeMap_52 zb_16 ?_
    refine zx_irem d_BlockWriter_writeMap_54 (by decide) ?_
    refine zi_callS (hC := k) k_BlockWriter_100 rfl rfl (Nat.le_of_ble_eq_true rfl) (Nat.le_of_ble_eq_true rfl) d_BlockWriter_writeMap_55 (fun r I26 k => ?_)
    obtain ⟨v27, rfl, k⟩ := k
    refine zx_ior d_BlockWriter_writeMap_58 ?_
    obtain ⟨j28, e29, b30, k⟩ := k
    refine zi_iast j28 a21 e29 b30 d_BlockWriter_writeMap_59 ?_
    refine zx_iinc (L2 := [(0, .ref o0), (1, .ref o1), (2, .int (x2 ||| v17)), (3, .int (x3 + 1)), (4, .int (I r8 j13))]) d_BlockWriter_writeMap_60 rfl (Nat.le_of_ble_eq_true rfl) zc_1 rfl ?_
    refine zx_goto (tgt := 12) d_BlockWriter_writeMap_63 rfl ?_
    refine zx_locs [0, 1, 2, 3] rfl ?_
    exact k
set_option maxRecDepth 20000 in
theorem r_BlockWriter_writeMap_78 (l : Launch) (d : Nat) {K : zx_Kt} {RJ : zx_RJ} {Q : zi_Q} {I : zi_I} (o0 : Nat) (o1 : Nat) (x2 : Int32) (x3 : Int32) (q1 : (K.2 o0).1 = 12) {r2 : Nat} (e3 : RJ.1 o0 1 = r2) (z4 : r2 ≠ 0) {n6 : Nat} (a5 : K.2 r2 = (0, n6)) {r10 : Nat} (e11 : RJ.1 o0 0 = r10) (z12 : r10 ≠ 0) (q16 : (K.2 r10).1 = 8)
    (k : (((nI n6) ≤ x3) → Q none I) ∧ ((¬ (nI n6) ≤ x3) → ∃ j7, x3 = nI j7 ∧ j7 < n6 ∧ (((I r2 j7) = 0) → zi_X l (zx_rm (d + 1) 0 0) M_BlockWriter_writeMap K RJ Q 78 [(0, .ref o0), (1, .ref o1), (2, .int x2), (3, .int (x3 + 1))] [] I) ∧ ((¬ (I r2 j7) = 0) → ∃ j13, x3 = nI j13 ∧ j13 < n6 ∧ zi_C l (zx_rm d 0 0) M_BitWriter_put [.ref r10, .int (I r2 j13), .int 16] K RJ I (fun r I17 => r = none ∧ zi_X l (zx_rm (d + 1) 0 0) M_BlockWriter_writeMap K RJ Q 78 [(0, .ref o0), (1, .ref o1), (2, .int x2), (3, .int (x3 + 1))] [] I17)))) :
    zi_X l (zx_rm (d + 1) 0 0) M_BlockWriter_writeMap K RJ Q 78 [(0, .ref o0), (1, .ref o1), (2, .int x2), (3, .int x3)] [] I := by
  refine zx_iload_n d_BlockWriter_writeMap_78 rfl ?_
  refine zx_aload_n d_BlockWriter_writeMap_79 rfl ?_
  refine zi_getR f_BlockWriter_9 q1 (by decide) e3 z4 d_BlockWriter_writeMap_80 ?_
  refine zi_alen a5 d_BlockWriter_writeMap_83 ?_
  refine zx_icmp_ge (tgt := 117) d_BlockWriter_writeMap_84 rfl (fun c => ?_) (fun c => ?_)
  · have k := k.1 c
    exact zi_vret d_BlockWriter_writeMap_117 rfl k
  · have k := k.2 c
    refine zx_aload_n d_BlockWriter_writeMap_87 rfl ?_
    refine zi_getR f_BlockWriter_9 q1 (by decide) e3 z4 d_BlockWriter_writeMap_88 ?_
    refine zx_iload_n d_BlockWriter_writeMap_91 rfl ?_
    obtain ⟨j7, e8, b9, k⟩ := k
    refine zi_iald j7 a5 e8 b9 d_BlockWriter_writeMap_92 ?_
    refine zx_if_eq (tgt := 111) d_BlockWriter_writeMap_93 rfl (fun c => ?_) (fun c => ?_)
    · have k := k.1 c
      refine zx_iinc (L2 := [(0, .ref o0), (1, .ref o1), (2, .int x2), (3, .int (x3 + 1))]) d_BlockWriter_writeMap_111 rfl (Nat.le_of_ble_eq_true rfl) zc_1 rfl ?_
      refine zx_goto (tgt := 78) d_BlockWriter_writeMap_114 rfl ?_
      exact k
    · have k := k.2 c
      refine zx_aload_n d_BlockWriter_writeMap_96 rfl ?_
      refine zi_getR f_BlockWriter_33 q1 (by decide) e11 z12 d_BlockWriter_writeMap_97 ?_
      refine zx_aload_n d_BlockWriter_writeMap_100 rfl ?_
      refine zi_getR f_BlockWriter_9 q1 (by decide) e3 z4 d_BlockWriter_writeMap_101 ?_
      refine zx_iload_n d_BlockWriter_writeMap_104 rfl ?_
      obtain ⟨j13, e14, b15, k⟩ := k
      refine zi_iald j13 a5 e14 b15 d_BlockWriter_writeMap_105 ?_
      refine zx_bipush d_BlockWriter_writeMap_106 zb_16 ?_
      refine zi_callV (hC := k) k_BlockWriter_40 q16 (by decide) rfl rfl (Nat.le_of_ble_eq_true rfl) (Nat.le_of_ble_eq_true rfl) d_BlockWriter_writeMap_108 (fun r I17 k => ?_)
      obtain ⟨rfl, k⟩ := k
      refine zx_iinc (L2 := [(0, .ref o0), (1, .ref o1), (2, .int x2), (3, .int (x3 + 1))]) d_BlockWriter_writeMap_111 rfl (Nat.le_of_ble_eq_true rfl) zc_1 rfl ?_
      refine zx_goto (tgt := 78) d_BlockWriter_writeMap_114 rfl ?_
      exact k
set_option maxRecDepth 20000 in
theorem r_BlockWriter_writePicks_0 (l : Launch) (d : Nat) {K : zx_Kt} {RJ : zx_RJ} {Q : zi_Q} {I : zi_I} (o0 : Nat) (o1 : Nat) (q1 : (K.2 o0).1 = 12) {r2 : Nat} (e3 : RJ.1 o0 2 = r2) (z4 : r2 ≠ 0) (q5 : (K.2 o1).1 = 9) (q6 : (K.2 r2).1 = 14)
    (k : zi_C l (zx_rm d 0 0) M_MoveList_setToNumbers [.ref r2, .int (I o1 9)] K RJ I (fun r I7 => r = none ∧ zi_X l (zx_rm (d + 1) 0 0) M_BlockWriter_writePicks K RJ Q 13 [(0, .ref o0), (1, .ref o1), (2, .int 0)] [] I7)) :
    zi_X l (zx_rm (d + 1) 0 0) M_BlockWriter_writePicks K RJ Q 0 [(0, .ref o0), (1, .ref o1)] [] I := by
  refine zx_aload_n d_BlockWriter_writePicks_0 rfl ?_
  refine zi_getR f_BlockWriter_18 q1 (by decide) e3 z4 d_BlockWriter_writePicks_1 ?_
  refine zx_aload_n d_BlockWriter_writePicks_4 rfl ?_
  refine zi_getI f_BlockWriter_62 q5 (by decide) d_BlockWriter_writePicks_5 ?_
  refine zi_callV (hC := k) k_BlockWriter_104 q6 (by decide) rfl rfl (Nat.le_of_ble_eq_true rfl) (Nat.le_of_ble_eq_true rfl) d_BlockWriter_writePicks_8 (fun r I7 k => ?_)
  obtain ⟨rfl, k⟩ := k
  refine zx_iconst d_BlockWriter_writePicks_11 zc_0 ?_
  refine zx_istore_n (L2 := [(0, .ref o0), (1, .ref o1), (2, .int 0)]) d_BlockWriter_writePicks_12 (Nat.le_of_ble_eq_true rfl) rfl ?_
  exact k
set_option maxRecDepth 20000 in
theorem r_BlockWriter_writePicks_13 (l : Launch) (d : Nat) {K : zx_Kt} {RJ : zx_RJ} {Q : zi_Q} {I : zi_I} (o0 : Nat) (o1 : Nat) (x2 : Int32) (q1 : (K.2 o1).1 = 9) (q2 : (K.2 o0).1 = 12) {r3 : Nat} (e4 : RJ.1 o0 2 = r3) (z5 : r3 ≠ 0) {r6 : Nat} (e7 : RJ.1 o1 12 = r6) (z8 : r6 ≠ 0) {n10 : Nat} (a9 : K.2 r6 = (0, n10)) (q14 : (K.2 r3).1 = 14)
    (k : (((I o1 11) ≤ x2) → Q none I) ∧ ((¬ (I o1 11) ≤ x2) → ∃ j11, x2 = nI j11 ∧ j11 < n10 ∧ zi_C l (zx_rm d 0 0) M_MoveList_moveValue [.ref r3, .int (I r6 j11)] K RJ I (fun r I15 => ∃ v16, r = some (.int v16) ∧ zi_X l (zx_rm (d + 1) 0 0) M_BlockWriter_writePicks K RJ Q 38 [(0, .ref o0), (1, .ref o1), (2, .int x2), (3, .int v16), (4, .int 0)] [] I15))) :
    zi_X l (zx_rm (d + 1) 0 0) M_BlockWriter_writePicks K RJ Q 13 [(0, .ref o0), (1, .ref o1), (2, .int x2)] [] I := by
  refine zx_iload_n d_BlockWriter_writePicks_13 rfl ?_
  refine zx_aload_n d_BlockWriter_writePicks_14 rfl ?_
  refine zi_getI f_BlockWriter_65 q1 (by decide) d_BlockWriter_writePicks_15 ?_
  refine zx_icmp_ge (tgt := 74) d_BlockWriter_writePicks_18 rfl (fun c => ?_) (fun c => ?_)
  · have k := k.1 c
    exact zi_vret d_BlockWriter_writePicks_74 rfl k
  · have k := k.2 c
    refine zx_aload_n d_BlockWriter_writePicks_21 rfl ?_
    refine zi_getR f_BlockWriter_18 q2 (by decide) e4 z5 d_BlockWriter_writePicks_22 ?_
    refine zx_aload_n d_BlockWriter_writePicks_25 rfl ?_
    refine zi_getR f_BlockWriter_107 q1 (by decide) e7 z8 d_BlockWriter_writePicks_26 ?_
    refine zx_iload_n d_BlockWriter_writePicks_29 rfl ?_
    obtain ⟨j11, e12, b13, k⟩ := k
    refine zi_iald j11 a9 e12 b13 d_BlockWriter_writePicks_30 ?_
    refine zi_callV (hC := k) k_BlockWriter_110 q14 (by decide) rfl rfl (Nat.le_of_ble_eq_true rfl) (Nat.le_of_ble_eq_true rfl) d_BlockWriter_writePicks_31 (fun r I15 k => ?_)
    obtain ⟨v16, rfl, k⟩ := k
    refine zx_istore_n (L2 := [(0, .ref o0), (1, .ref o1), (2, .int x2), (3, .int v16)]) d_BlockWriter_writePicks_34 (Nat.le_of_ble_eq_true rfl) rfl ?_
    refine zx_iconst d_BlockWriter_writePicks_35 zc_0 ?_
    refine zx_istore (L2 := [(0, .ref o0), (1, .ref o1), (2, .int x2), (3, .int v16), (4, .int 0)]) d_BlockWriter_writePicks_36 (Nat.le_of_ble_eq_true rfl) rfl ?_
    exact k
set_option maxRecDepth 20000 in
theorem r_BlockWriter_writePicks_38 (l : Launch) (d : Nat) {K : zx_Kt} {RJ : zx_RJ} {Q : zi_Q} {I : zi_I} (o0 : Nat) (o1 : Nat) (x2 : Int32) (x3 : Int32) (x4 : Int32) (q1 : (K.2 o0).1 = 12) {r2 : Nat} (e3 : RJ.1 o0 0 = r2) (z4 : r2 ≠ 0) (q5 : (K.2 r2).1 = 8)
    (k : ((x3 ≤ x4) → zi_C l (zx_rm d 0 0) M_BitWriter_put [.ref r2, .int 0, .int 1] K RJ I (fun r I6 => r = none ∧ zi_X l (zx_rm (d + 1) 0 0) M_BlockWriter_writePicks K RJ Q 13 [(0, .ref o0), (1, .ref o1), (2, .int (x2 + 1))] [] I6)) ∧ ((¬ x3 ≤ x4) → zi_C l (zx_rm d 0 0) M_BitWriter_put [.ref r2, .int 1, .int 1] K RJ I (fun r I7 => r = none ∧ zi_X l (zx_rm (d + 1) 0 0) M_BlockWriter_writePicks K RJ Q 38 [(0, .ref o0), (1, .ref o1), (2, .int x2), (3, .int x3), (4, .int (x4 + 1))] [] I7))) :
    zi_X l (zx_rm (d + 1) 0 0) M_BlockWriter_writePicks K RJ Q 38 [(0, .ref o0), (1, .ref o1), (2, .int x2), (3, .int x3), (4, .int x4)] [] I := by
  refine zx_iload d_BlockWriter_writePicks_38 rfl ?_
  refine zx_iload_n d_BlockWriter_writePicks_40 rfl ?_
  refine zx_icmp_ge (tgt := 59) d_BlockWriter_writePicks_41 rfl (fun c => ?_) (fun c => ?_)
  · have k := k.1 c
    refine zx_aload_n d_BlockWriter_writePicks_59 rfl ?_
    refine zi_getR f_BlockWriter_33 q1 (by decide) e3 z4 d_BlockWriter_writePicks_60 ?_
    refine zx_iconst d_BlockWriter_writePicks_63 zc_0 ?_
    refine zx_iconst d_BlockWriter_writePicks_64 zc_1 ?_
    refine zi_callV (hC := k) k_BlockWriter_40 q5 (by decide) rfl rfl (Nat.le_of_ble_eq_true rfl) (Nat.le_of_ble_eq_true rfl) d_BlockWriter_writePicks_65 (fun r I6 k => ?_)
    obtain ⟨rfl, k⟩ := k
    refine zx_iinc (L2 := [(0, .ref o0), (1, .ref o1), (2, .int (x2 + 1)), (3, .int x3), (4, .int x4)]) d_BlockWriter_writePicks_68 rfl (Nat.le_of_ble_eq_true rfl) zc_1 rfl ?_
    refine zx_goto (tgt := 13) d_BlockWriter_writePicks_71 rfl ?_
    refine zx_locs [0, 1, 2] rfl ?_
    exact k
  · have k := k.2 c
    refine zx_aload_n d_BlockWriter_writePicks_44 rfl ?_
    refine zi_getR f_BlockWriter_33 q1 (by decide) e3 z4 d_BlockWriter_writePicks_45 ?_
    refine zx_iconst d_BlockWriter_writePicks_48 zc_1 ?_
    refine zx_iconst d_BlockWriter_writePicks_49 zc_1 ?_
    refine zi_callV (hC := k) k_BlockWriter_40 q5 (by decide) rfl rfl (Nat.le_of_ble_eq_true rfl) (Nat.le_of_ble_eq_true rfl) d_BlockWriter_writePicks_50 (fun r I7 k => ?_)
    obtain ⟨rfl, k⟩ := k
    refine zx_iinc (L2 := [(0, .ref o0), (1, .ref o1), (2, .int x2), (3, .int x3), (4, .int (x4 + 1))]) d_BlockWriter_writePicks_53 rfl (Nat.le_of_ble_eq_true rfl) zc_1 rfl ?_
    refine zx_goto (tgt := 38) d_BlockWriter_writePicks_56 rfl ?_
    exact k
set_option maxRecDepth 20000 in
theorem r_BlockWriter_writeLengths_0 (l : Launch) (d : Nat) {K : zx_Kt} {RJ : zx_RJ} {Q : zi_Q} {I : zi_I} (o0 : Nat) (o1 : Nat) (x2 : Int32) {n2 : Nat} (a1 : K.2 o1 = (0, n2)) (q6 : (K.2 o0).1 = 12) {r7 : Nat} (e8 : RJ.1 o0 0 = r7) (z9 : r7 ≠ 0) (q10 : (K.2 r7).1 = 8)
    (k : 0 < n2 ∧ zi_C l (zx_rm d 0 0) M_BitWriter_put [.ref r7, .int (I o1 0), .int 5] K RJ I (fun r I11 => r = none ∧ zi_X l (zx_rm (d + 1) 0 0) M_BlockWriter_writeLengths K RJ Q 16 [(0, .ref o0), (1, .ref o1), (2, .int x2), (3, .int (I o1 0)), (4, .int 0)] [] I11)) :
    zi_X l (zx_rm (d + 1) 0 0) M_BlockWriter_writeLengths K RJ Q 0 [(0, .ref o0), (1, .ref o1), (2, .int x2)] [] I := by
  refine zx_aload_n d_BlockWriter_writeLengths_0 rfl ?_
  refine zx_iconst d_BlockWriter_writeLengths_1 zc_0 ?_
  obtain ⟨b5, k⟩ := k
  refine zi_iald 0 a1 rfl b5 d_BlockWriter_writeLengths_2 ?_
  refine zx_istore_n (L2 := [(0, .ref o0), (1, .ref o1), (2, .int x2), (3, .int (I o1 0))]) d_BlockWriter_writeLengths_3 (Nat.le_of_ble_eq_true rfl) rfl ?_
  refine zx_aload_n d_BlockWriter_writeLengths_4 rfl ?_
  refine zi_getR f_BlockWriter_33 q6 (by decide) e8 z9 d_BlockWriter_writeLengths_5 ?_
  refine zx_iload_n d_BlockWriter_writeLengths_8 rfl ?_
  refine zx_iconst d_BlockWriter_writeLengths_9 zc_5 ?_
  refine zi_callV (hC := k) k_BlockWriter_40 q10 (by decide) rfl rfl (Nat.le_of_ble_eq_true rfl) (Nat.le_of_ble_eq_true rfl) d_BlockWriter_writeLengths_10 (fun r I11 k => ?_)
  obtain ⟨rfl, k⟩ := k
  refine zx_iconst d_BlockWriter_writeLengths_13 zc_0 ?_
  refine zx_istore (L2 := [(0, .ref o0), (1, .ref o1), (2, .int x2), (3, .int (I o1 0)), (4, .int 0)]) d_BlockWriter_writeLengths_14 (Nat.le_of_ble_eq_true rfl) rfl ?_
  exact k
set_option maxRecDepth 20000 in
theorem r_BlockWriter_writeLengths_16 (l : Launch) (d : Nat) {K : zx_Kt} {RJ : zx_RJ} {Q : zi_Q} {I : zi_I} (o0 : Nat) (o1 : Nat) (x2 : Int32) (x3 : Int32) (x4 : Int32) {n2 : Nat} (a1 : K.2 o1 = (0, n2))
    (k : ((x2 ≤ x4) → Q none I) ∧ ((¬ x2 ≤ x4) → ∃ j3, x4 = nI j3 ∧ j3 < n2 ∧ (((I o1 j3) ≤ x3) → ∃ j6, x4 = nI j6 ∧ j6 < n2 ∧ zi_X l (zx_rm (d + 1) 0 0) M_BlockWriter_writeLengths K RJ Q 48 [(0, .ref o0), (1, .ref o1), (2, .int x2), (3, .int x3), (4, .int x4), (5, .int 3), (6, .int (zi_absv ((I o1 j6) - x3)))] [] I) ∧ ((¬ (I o1 j3) ≤ x3) → ∃ j11, x4 = nI j11 ∧ j11 < n2 ∧ zi_X l (zx_rm (d + 1) 0 0) M_BlockWriter_writeLengths K RJ Q 48 [(0, .ref o0), (1, .ref o1), (2, .int x2), (3, .int x3), (4, .int x4), (5, .int 2), (6, .int (zi_absv ((I o1 j11) - x3)))] [] I))) :
    zi_X l (zx_rm (d + 1) 0 0) M_BlockWriter_writeLengths K RJ Q 16 [(0, .ref o0), (1, .ref o1), (2, .int x2), (3, .int x3), (4, .int x4)] [] I := by
  refine zx_iload d_BlockWriter_writeLengths_16 rfl ?_
  refine zx_iload_n d_BlockWriter_writeLengths_18 rfl ?_
  refine zx_icmp_ge (tgt := 89) d_BlockWriter_writeLengths_19 rfl (fun c => ?_) (fun c => ?_)
  · have k := k.1 c
    exact zi_vret d_BlockWriter_writeLengths_89 rfl k
  · have k := k.2 c
    refine zx_aload_n d_BlockWriter_writeLengths_22 rfl ?_
    refine zx_iload d_BlockWriter_writeLengths_23 rfl ?_
    obtain ⟨j3, e4, b5, k⟩ := k
    refine zi_iald j3 a1 e4 b5 d_BlockWriter_writeLengths_25 ?_
    refine zx_iload_n d_BlockWriter_writeLengths_26 rfl ?_
    refine zx_icmp_le (tgt := 34) d_BlockWriter_writeLengths_27 rfl (fun c => ?_) (fun c => ?_)
    · have k := k.1 c
      refine zx_iconst d_BlockWriter_writeLengths_34 zc_3 ?_
      refine zx_istore (L2 := [(0, .ref o0), (1, .ref o1), (2, .int x2), (3, .int x3), (4, .int x4), (5, .int 3)]) d_BlockWriter_writeLengths_35 (Nat.le_of_ble_eq_true rfl) rfl ?_
      refine zx_aload_n d_BlockWriter_writeLengths_37 rfl ?_
      refine zx_iload d_BlockWriter_writeLengths_38 rfl ?_
      obtain ⟨j6, e7, b8, k⟩ := k
      refine zi_iald j6 a1 e7 b8 d_BlockWriter_writeLengths_40 ?_
      refine zx_iload_n d_BlockWriter_writeLengths_41 rfl ?_
      refine zx_isub d_BlockWriter_writeLengths_42 ?_
      refine zi_abs w_abs_BlockWriter_113 (Nat.le_of_ble_eq_true rfl) d_BlockWriter_writeLengths_43 ?_
      refine zx_istore (L2 := [(0, .ref o0), (1, .ref o1), (2, .int x2), (3, .int x3), (4, .int x4), (5, .int 3), (6, .int (zi_absv ((I o1 j6) - x3)))]) d_BlockWriter_writeLengths_46 (Nat.le_of_ble_eq_true rfl) rfl ?_
      exact k
    · have k := k.2 c
      refine zx_iconst d_BlockWriter_writeLengths_30 zc_2 ?_
      refine zx_goto (tgt := 35) d_BlockWriter_writeLengths_31 rfl ?_
      refine zx_istore (L2 := [(0, .ref o0), (1, .ref o1), (2, .int x2), (3, .int x3), (4, .int x4), (5, .int 2)]) d_BlockWriter_writeLengths_35 (Nat.le_of_ble_eq_true rfl) rfl ?_
      refine zx_aload_n d_BlockWriter_writeLengths_37 rfl ?_
      refine zx_iload d_BlockWriter_writeLengths_38 rfl ?_
      obtain ⟨j11, e12, b13, k⟩ := k
      refine zi_iald j11 a1 e12 b13 d_BlockWriter_writeLengths_40 ?_
      refine zx_iload_n d_BlockWriter_writeLengths_41 rfl ?_
      refine zx_isub d_BlockWriter_writeLengths_42 ?_
      refine zi_abs w_abs_BlockWriter_113 (Nat.le_of_ble_eq_true rfl) d_BlockWriter_writeLengths_43 ?_
      refine zx_istore (L2 := [(0, .ref o0), (1, .ref o1), (2, .int x2), (3, .int x3), (4, .int x4), (5, .int 2), (6, .int (zi_absv ((I o1 j11) - x3)))]) d_BlockWriter_writeLengths_46 (Nat.le_of_ble_eq_true rfl) rfl ?_
      exact k
set_option maxRecDepth 20000 in
theorem r_BlockWriter_writeLengths_48 (l : Launch) (d : Nat) {K : zx_Kt} {RJ : zx_RJ} {Q : zi_Q} {I : zi_I} (o0 : Nat) (o1 : Nat) (x2 : Int32) (x3 : Int32) (x4 : Int32) (x5 : Int32) (x6 : Int32) (q1 : (K.2 o0).1 = 12) {r2 : Nat} (e3 : RJ.1 o0 0 = r2) (z4 : r2 ≠ 0) (q5 : (K.2 r2).1 = 8) {n8 : Nat} (a7 : K.2 o1 = (0, n8))
    (k : ((x6 ≤ 0) → zi_C l (zx_rm d 0 0) M_BitWriter_put [.ref r2, .int 0, .int 1] K RJ I (fun r I6 => r = none ∧ ∃ j9, x4 = nI j9 ∧ j9 < n8 ∧ zi_X l (zx_rm (d + 1) 0 0) M_BlockWriter_writeLengths K RJ Q 16 [(0, .ref o0), (1, .ref o1), (2, .int x2), (3, .int (I6 o1 j9)), (4, .int (x4 + 1))] [] I6)) ∧ ((¬ x6 ≤ 0) → zi_C l (zx_rm d 0 0) M_BitWriter_put [.ref r2, .int x5, .int 2] K RJ I (fun r I12 => r = none ∧ zi_X l (zx_rm (d + 1) 0 0) M_BlockWriter_writeLengths K RJ Q 48 [(0, .ref o0), (1, .ref o1), (2, .int x2), (3, .int x3), (4, .int x4), (5, .int x5), (6, .int (x6 + (-1)))] [] I12))) :
    zi_X l (zx_rm (d + 1) 0 0) M_BlockWriter_writeLengths K RJ Q 48 [(0, .ref o0), (1, .ref o1), (2, .int x2), (3, .int x3), (4, .int x4), (5, .int x5), (6, .int x6)] [] I := by
  refine zx_iload d_BlockWriter_writeLengths_48 rfl ?_
  refine zx_if_le (tgt := 69) d_BlockWriter_writeLengths_50 rfl (fun c => ?_) (fun c => ?_)
  · have k := k.1 c
    refine zx_aload_n d_BlockWriter_writeLengths_69 rfl ?_
    refine zi_getR f_BlockWriter_33 q1 (by decide) e3 z4 d_BlockWriter_writeLengths_70 ?_
    refine zx_iconst d_BlockWriter_writeLengths_73 zc_0 ?_
    refine zx_iconst d_BlockWriter_writeLengths_74 zc_1 ?_
    refine zi_callV (hC := k) k_BlockWriter_40 q5 (by decide) rfl rfl (Nat.le_of_ble_eq_true rfl) (Nat.le_of_ble_eq_true rfl) d_BlockWriter_writeLengths_75 (fun r I6 k => ?_)
    obtain ⟨rfl, k⟩ := k
    refine zx_aload_n d_BlockWriter_writeLengths_78 rfl ?_
    refine zx_iload d_BlockWriter_writeLengths_79 rfl ?_
    obtain ⟨j9, e10, b11, k⟩ := k
    refine zi_iald j9 a7 e10 b11 d_BlockWriter_writeLengths_81 ?_
    refine zx_istore_n (L2 := [(0, .ref o0), (1, .ref o1), (2, .int x2), (3, .int (I6 o1 j9)), (4, .int x4), (5, .int x5), (6, .int x6)]) d_BlockWriter_writeLengths_82 (Nat.le_of_ble_eq_true rfl) rfl ?_
    refine zx_iinc (L2 := [(0, .ref o0), (1, .ref o1), (2, .int x2), (3, .int (I6 o1 j9)), (4, .int (x4 + 1)), (5, .int x5), (6, .int x6)]) d_BlockWriter_writeLengths_83 rfl (Nat.le_of_ble_eq_true rfl) zc_1 rfl ?_
    refine zx_goto (tgt := 16) d_BlockWriter_writeLengths_86 rfl ?_
    refine zx_locs [0, 1, 2, 3, 4] rfl ?_
    exact k
  · have k := k.2 c
    refine zx_aload_n d_BlockWriter_writeLengths_53 rfl ?_
    refine zi_getR f_BlockWriter_33 q1 (by decide) e3 z4 d_BlockWriter_writeLengths_54 ?_
    refine zx_iload d_BlockWriter_writeLengths_57 rfl ?_
    refine zx_iconst d_BlockWriter_writeLengths_59 zc_2 ?_
    refine zi_callV (hC := k) k_BlockWriter_40 q5 (by decide) rfl rfl (Nat.le_of_ble_eq_true rfl) (Nat.le_of_ble_eq_true rfl) d_BlockWriter_writeLengths_60 (fun r I12 k => ?_)
    obtain ⟨rfl, k⟩ := k
    refine zx_iinc (L2 := [(0, .ref o0), (1, .ref o1), (2, .int x2), (3, .int x3), (4, .int x4), (5, .int x5), (6, .int (x6 + (-1)))]) d_BlockWriter_writeLengths_63 rfl (Nat.le_of_ble_eq_true rfl) zc_m1 rfl ?_
    refine zx_goto (tgt := 48) d_BlockWriter_writeLengths_66 rfl ?_
    exact k
set_option maxRecDepth 20000 in
theorem r_BlockWriter_writeSymbols_0 (l : Launch) (d : Nat) {K : zx_Kt} {RJ : zx_RJ} {Q : zi_Q} {I : zi_I} (o0 : Nat) (o1 : Nat) 
    (k : zi_X l (zx_rm (d + 1) 0 0) M_BlockWriter_writeSymbols K RJ Q 2 [(0, .ref o0), (1, .ref o1), (2, .int 0)] [] I) :
    zi_X l (zx_rm (d + 1) 0 0) M_BlockWriter_writeSymbols K RJ Q 0 [(0, .ref o0), (1, .ref o1)] [] I := by
  refine zx_iconst d_BlockWriter_writeSymbols_0 zc_0 ?_
  refine zx_istore_n (L2 := [(0, .ref o0), (1, .ref o1), (2, .int 0)]) d_BlockWriter_writeSymbols_1 (Nat.le_of_ble_eq_true rfl) rfl ?_
  exact k
set_option maxRecDepth 20000 in
theorem r_BlockWriter_writeSymbols_2 (l : Launch) (d : Nat) {K : zx_Kt} {RJ : zx_RJ} {Q : zi_Q} {I : zi_I} (o0 : Nat) (o1 : Nat) (x2 : Int32) (q1 : (K.2 o1).1 = 9) {r4 : Nat} (e5 : RJ.1 o1 8 = r4) (z6 : r4 ≠ 0) {n8 : Nat} (a7 : K.2 r4 = (0, n8)) (q12 : (K.2 o0).1 = 12) {r13 : Nat} (e14 : RJ.1 o0 0 = r13) (z15 : r13 ≠ 0) {r16 : Nat} (e17 : RJ.1 o0 3 = r16) (z18 : r16 ≠ 0) {n20 : Nat} (a19 : K.2 r16 = (3, n20)) {r30 : Nat} (e31 : RJ.1 o1 10 = r30) (z32 : r30 ≠ 0) {n34 : Nat} (a33 : K.2 r30 = (4, n34)) (q46 : (K.2 r13).1 = 8)
    (k : (((I o1 7) ≤ x2) → Q none I) ∧ ((¬ (I o1 7) ≤ x2) → zi_C l (zx_rm d 0 0) M_Block_pickOfSymbol [.ref o1, .int x2] K RJ I (fun r I2 => ∃ v3, r = some (.int v3) ∧ ∃ j9, x2 = nI j9 ∧ j9 < n8 ∧ ∃ j21, v3 = nI j21 ∧ j21 < n20 ∧ ∃ r25, RJ.1 r16 j21 = r25 ∧ r25 ≠ 0 ∧ (K.2 r25).1 = 13 ∧ zi_C l (zx_rm d 0 0) M_Codes_codeOf [.ref r25, .int (I2 r4 j9)] K RJ I2 (fun r I28 => ∃ v29, r = some (.int v29) ∧ ∃ j35, v3 = nI j35 ∧ j35 < n34 ∧ ∃ r39, RJ.1 r30 j35 = r39 ∧ r39 ≠ 0 ∧ ∃ n42, K.2 r39 = (0, n42) ∧ ∃ j43, I2 r4 j9 = nI j43 ∧ j43 < n42 ∧ zi_C l (zx_rm d 0 0) M_BitWriter_put [.ref r13, .int v29, .int (I28 r39 j43)] K RJ I28 (fun r I47 => r = none ∧ zi_X l (zx_rm (d + 1) 0 0) M_BlockWriter_writeSymbols K RJ Q 2 [(0, .ref o0), (1, .ref o1), (2, .int (x2 + 1))] [] I47))))) :
    zi_X l (zx_rm (d + 1) 0 0) M_BlockWriter_writeSymbols K RJ Q 2 [(0, .ref o0), (1, .ref o1), (2, .int x2)] [] I := by
  refine zx_iload_n d_BlockWriter_writeSymbols_2 rfl ?_
  refine zx_aload_n d_BlockWriter_writeSymbols_3 rfl ?_
  refine zi_getI f_BlockWriter_118 q1 (by decide) d_BlockWriter_writeSymbols_4 ?_
  refine zx_icmp_ge (tgt := 57) d_BlockWriter_writeSymbols_7 rfl (fun c => ?_) (fun c => ?_)
  · have k := k.1 c
    exact zi_vret d_BlockWriter_writeSymbols_57 rfl k
  · have k := k.2 c
    refine zx_aload_n d_BlockWriter_writeSymbols_10 rfl ?_
    refine zx_iload_n d_BlockWriter_writeSymbols_11 rfl ?_
    refine zi_callV (hC := k) k_BlockWriter_121 q1 (by decide) rfl rfl (Nat.le_of_ble_eq_true rfl) (Nat.le_of_ble_eq_true rfl) d_BlockWriter_writeSymbols_12 (fun r I2 k => ?_)
    obtain ⟨v3, rfl, k⟩ := k
    refine zx_istore_n (L2 := [(0, .ref o0), (1, .ref o1), (2, .int x2), (3, .int v3)]) d_BlockWriter_writeSymbols_15 (Nat.le_of_ble_eq_true rfl) rfl ?_
    refine zx_aload_n d_BlockWriter_writeSymbols_16 rfl ?_
    refine zi_getR f_BlockWriter_124 q1 (by decide) e5 z6 d_BlockWriter_writeSymbols_17 ?_
    refine zx_iload_n d_BlockWriter_writeSymbols_20 rfl ?_
    obtain ⟨j9, e10, b11, k⟩ := k
    refine zi_iald j9 a7 e10 b11 d_BlockWriter_writeSymbols_21 ?_
    refine zx_istore (L2 := [(0, .ref o0), (1, .ref o1), (2, .int x2), (3, .int v3), (4, .int (I2 r4 j9))]) d_BlockWriter_writeSymbols_22 (Nat.le_of_ble_eq_true rfl) rfl ?_
    refine zx_aload_n d_BlockWriter_writeSymbols_24 rfl ?_
    refine zi_getR f_BlockWriter_33 q12 (by decide) e14 z15 d_BlockWriter_writeSymbols_25 ?_
    refine zx_aload_n d_BlockWriter_writeSymbols_28 rfl ?_
    refine zi_getR f_BlockWriter_24 q12 (by decide) e17 z18 d_BlockWriter_writeSymbols_29 ?_
    refine zx_iload_n d_BlockWriter_writeSymbols_32 rfl ?_
    obtain ⟨j21, e22, b23, k⟩ := k
    obtain ⟨r25, e26, z24, k⟩ := k
    refine zi_aald3 j21 a19 e22 b23 e26 z24 d_BlockWriter_writeSymbols_33 ?_
    refine zx_iload d_BlockWriter_writeSymbols_34 rfl ?_
    obtain ⟨q27, k⟩ := k
    refine zi_callV (hC := k) k_BlockWriter_127 q27 (by decide) rfl rfl (Nat.le_of_ble_eq_true rfl) (Nat.le_of_ble_eq_true rfl) d_BlockWriter_writeSymbols_36 (fun r I28 k => ?_)
    obtain ⟨v29, rfl, k⟩ := k
    refine zx_aload_n d_BlockWriter_writeSymbols_39 rfl ?_
    refine zi_getR f_BlockWriter_71 q1 (by decide) e31 z32 d_BlockWriter_writeSymbols_40 ?_
    refine zx_iload_n d_BlockWriter_writeSymbols_43 rfl ?_
    obtain ⟨j35, e36, b37, k⟩ := k
    obtain ⟨r39, e40, z38, k⟩ := k
    refine zi_aald4 j35 a33 e36 b37 e40 z38 d_BlockWriter_writeSymbols_44 ?_
    refine zx_iload d_BlockWriter_writeSymbols_45 rfl ?_
    obtain ⟨n42, a41, k⟩ := k
    obtain ⟨j43, e44, b45, k⟩ := k
    refine zi_iald j43 a41 e44 b45 d_BlockWriter_writeSymbols_47 ?_
    refine zi_callV (hC := k) k_BlockWriter_40 q46 (by decide) rfl rfl (Nat.le_of_ble_eq_true rfl) (Nat.le_of_ble_eq_true rfl) d_BlockWriter_writeSymbols_48 (fun r I47 k => ?_)
    obtain ⟨rfl, k⟩ := k
    refine zx_iinc (L2 := [(0, .ref o0), (1, .ref o1), (2, .int (x2 + 1)), (3, .int v3), (4, .int (I2 r4 j9))]) d_BlockWriter_writeSymbols_51 rfl (Nat.le_of_ble_eq_true rfl) zc_1 rfl ?_
    refine zx_goto (tgt := 2) d_BlockWriter_writeSymbols_54 rfl ?_
    refine zx_locs [0, 1, 2] rfl ?_
    exact k
