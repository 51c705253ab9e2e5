/-! Regions of the class's methods that throw or swap, with any end: written by wip/whole/gen/genz.py. -/
abbrev zy_X (l : Launch) (d cc sc : Nat) (M : zx_M) (Z : zx_Zt) (K : zx_Kt) (RJ : zx_RJ) (pc : Nat) (L : List (Nat × Value)) (S : List Value) (I : zi_I) : Prop := zx_X l (zx_rm (d + 1) cc sc) M false 0 0 Z pc L S (K, I, RJ)
set_option maxRecDepth 20000 in
theorem f_Main_45 : zx_fld "SortedBlocks" 45 0 5 true true := ⟨_, F_Main, 12, t_Main, rfl, by decide, cw_Main, ct_Main, cn_Main, rfl, rfl, rfl, (fun h => by first | rfl | cases h), (fun h => by first | rfl | cases h), rfl, Or.inl (zx_i2 93 rfl rfl)⟩
set_option maxRecDepth 20000 in
theorem f_Main_52 : zx_fld "SortedBlocks" 52 0 6 true true := ⟨_, F_Main, 12, t_Main, rfl, by decide, cw_Main, ct_Main, cn_Main, rfl, rfl, rfl, (fun h => by first | rfl | cases h), (fun h => by first | rfl | cases h), rfl, Or.inl (zx_i2 94 rfl rfl)⟩
set_option maxRecDepth 20000 in
theorem f_Main_178 : zx_fld "SortedBlocks" 178 4 1 false false := ⟨_, F_Block, 13, t_Block, rfl, by decide, cw_Block, ct_Block, cn_Block, rfl, rfl, rfl, (fun h => by first | rfl | cases h), (fun h => by first | rfl | cases h), rfl, Or.inr ⟨"SortedBlocks", (zx_n2 11 rfl rfl)⟩⟩
set_option maxRecDepth 20000 in
theorem k_Main_108 : zi_lkV "SortedBlocks" 108 M_Row_turnBit 1 11 := ⟨⟨(zx_i4 10 rfl rfl), (zx_i1 2 rfl rfl), ⟨by decide +kernel, by decide +kernel, by decide +kernel⟩, Or.inl (zx_i4 7 rfl rfl)⟩, (zx_i4 8 rfl rfl), (zx_i4 9 rfl rfl), _, _, rfl⟩
set_option maxRecDepth 20000 in
theorem k_Main_116 : zi_lkV "SortedBlocks" 116 M_BlockWriter_writeHead 1 7 := ⟨⟨(zx_i4 29 rfl rfl), (zx_i1 10 rfl rfl), ⟨by decide +kernel, by decide +kernel, by decide +kernel⟩, Or.inl (zx_i4 26 rfl rfl)⟩, (zx_i4 27 rfl rfl), (zx_i4 28 rfl rfl), _, _, rfl⟩
set_option maxRecDepth 20000 in
theorem k_Main_119 : zi_lkV "SortedBlocks" 119 M_BlockMaker_makeBlock 4 5 := ⟨⟨(zx_i4 42 rfl rfl), (zx_i1 7 rfl rfl), ⟨by decide +kernel, by decide +kernel, by decide +kernel⟩, Or.inl (zx_i4 39 rfl rfl)⟩, (zx_i4 40 rfl rfl), (zx_i4 41 rfl rfl), _, _, rfl⟩
set_option maxRecDepth 20000 in
theorem k_Main_123 : zi_lkV "SortedBlocks" 123 M_BlockWriter_writeBlock 1 7 := ⟨⟨(zx_i4 133 rfl rfl), (zx_i1 10 rfl rfl), ⟨by decide +kernel, by decide +kernel, by decide +kernel⟩, Or.inl (zx_i4 130 rfl rfl)⟩, (zx_i4 131 rfl rfl), (zx_i4 132 rfl rfl), _, _, rfl⟩
set_option maxRecDepth 20000 in
theorem k_Main_134 : zi_lkV "SortedBlocks" 134 M_BlockWriter_writeEnd 1 7 := ⟨⟨(zx_i4 171 rfl rfl), (zx_i1 10 rfl rfl), ⟨by decide +kernel, by decide +kernel, by decide +kernel⟩, Or.inl (zx_i4 168 rfl rfl)⟩, (zx_i4 169 rfl rfl), (zx_i4 170 rfl rfl), _, _, rfl⟩
set_option maxRecDepth 20000 in
theorem k_Main_144 : zi_lkV "SortedBlocks" 144 M_BitReader_isAtEnd 0 2 := ⟨⟨(zx_i4 209 rfl rfl), (zx_i1 3 rfl rfl), ⟨by decide +kernel, by decide +kernel, by decide +kernel⟩, Or.inl (zx_i4 206 rfl rfl)⟩, (zx_i4 207 rfl rfl), (zx_i4 208 rfl rfl), _, _, rfl⟩
set_option maxRecDepth 20000 in
theorem k_Main_92 : zi_lkV "SortedBlocks" 92 M_Row_add 1 11 := ⟨⟨(zx_i3 59 rfl rfl), (zx_i1 2 rfl rfl), ⟨by decide +kernel, by decide +kernel, by decide +kernel⟩, Or.inl (zx_i3 214 rfl rfl)⟩, (zx_i3 57 rfl rfl), (zx_i3 58 rfl rfl), _, _, rfl⟩
set_option maxRecDepth 20000 in
theorem y_Main_feed_0 (l : Launch) (d : Nat) {K : zx_Kt} {RJ : zx_RJ} {Z : zx_Zt} {cc sc : Nat} {I : zi_I} (o0 : Nat) (w1 : Int64) (x3 : Int32) (q1 : (K.2 o0).1 = 5) {r2 : Nat} (e3 : RJ.1 o0 0 = r2) (z4 : r2 ≠ 0) (q5 : (K.2 r2).1 = 16)
    (k : ((x3 < 1) → zy_X l d cc sc M_Main_feed Z K RJ 11 [(0, .ref o0), (1, .long w1), (3, .int x3)] [] I) ∧ ((¬ x3 < 1) → ((x3 ≤ 8) → zi_C l (zx_rm d 0 0) M_Row_hasRoom [.ref r2, .int x3] K RJ I (fun r I6 => ∃ v7, r = some (.int v7) ∧ ((¬ v7 = 0) → zy_X l d cc sc M_Main_feed Z K RJ 47 [(0, .ref o0), (1, .long w1), (3, .int x3), (4, .int (x3 - 1))] [] I6) ∧ ((v7 = 0) → zy_X l d cc sc M_Main_feed Z K RJ 32 [(0, .ref o0), (1, .long w1), (3, .int x3)] [] I6))) ∧ ((¬ x3 ≤ 8) → zy_X l d cc sc M_Main_feed Z K RJ 11 [(0, .ref o0), (1, .long w1), (3, .int x3)] [] I))) :
    zy_X l d cc sc M_Main_feed Z K RJ 0 [(0, .ref o0), (1, .long w1), (3, .int x3)] [] I := by
  refine zx_iload_n d_Main_feed_0 rfl ?_
  refine zx_iconst d_Main_feed_1 zc_1 ?_
  refine zx_icmp_lt (tgt := 11) d_Main_feed_2 rfl (fun c => ?_) (fun c => ?_)
  · have k := k.1 c
    exact k
  · have k := k.2 c
    refine zx_iload_n d_Main_feed_5 rfl ?_
    refine zx_bipush d_Main_feed_6 zb_8 ?_
    refine zx_icmp_le (tgt := 21) d_Main_feed_8 rfl (fun c => ?_) (fun c => ?_)
    · have k := k.1 c
      refine zx_aload_n d_Main_feed_21 rfl ?_
      refine zi_getR f_Main_14 q1 (by decide) e3 z4 d_Main_feed_22 ?_
      refine zx_iload_n d_Main_feed_25 rfl ?_
      refine zi_callV (hC := k) k_Main_83 q5 (by decide) rfl rfl (Nat.le_of_ble_eq_true rfl) (Nat.le_of_ble_eq_true rfl) d_Main_feed_26 (fun r I6 k => ?_)
      obtain ⟨v7, rfl, k⟩ := k
      refine zx_if_ne (tgt := 42) d_Main_feed_29 rfl (fun c => ?_) (fun c => ?_)
      · have k := k.1 c
        refine zx_iload_n d_Main_feed_42 rfl ?_
        refine zx_iconst d_Main_feed_43 zc_1 ?_
        refine zx_isub d_Main_feed_44 ?_
        refine zx_istore (L2 := [(0, .ref o0), (1, .long w1), (3, .int x3), (4, .int (x3 - 1))]) d_Main_feed_45 (Nat.le_of_ble_eq_true rfl) rfl ?_
        exact k
      · have k := k.2 c
        exact k
    · have k := k.2 c
      exact k
set_option maxRecDepth 20000 in
theorem y_Main_feed_47 (l : Launch) (d : Nat) {K : zx_Kt} {RJ : zx_RJ} {Z : zx_Zt} {cc sc : Nat} {I : zi_I} (o0 : Nat) (w1 : Int64) (x3 : Int32) (x4 : Int32) (q1 : (K.2 o0).1 = 5) {r2 : Nat} (e3 : RJ.1 o0 0 = r2) (z4 : r2 ≠ 0) (q5 : (K.2 r2).1 = 16)
    (k : ((x4 < 0) → zy_X l d cc sc M_Main_feed Z K RJ 84 [(0, .ref o0), (1, .long w1), (3, .int x3), (4, .int x4)] [.int (I r2 1)] I) ∧ ((¬ x4 < 0) → zi_C l (zx_rm d 0 0) M_Row_add [.ref r2, .int (((((w1 : Int64).toUInt64 >>> (((8 * x4) : Int32).toInt64.toUInt64 &&& Int64.toUInt64 63)).toInt64 : Int64).toInt32) &&& 255)] K RJ I (fun r I6 => r = none ∧ zy_X l d cc sc M_Main_feed Z K RJ 47 [(0, .ref o0), (1, .long w1), (3, .int x3), (4, .int (x4 + (-1)))] [] I6))) :
    zy_X l d cc sc M_Main_feed Z K RJ 47 [(0, .ref o0), (1, .long w1), (3, .int x3), (4, .int x4)] [] I := by
  refine zx_iload d_Main_feed_47 rfl ?_
  refine zx_if_lt (tgt := 77) d_Main_feed_49 rfl (fun c => ?_) (fun c => ?_)
  · have k := k.1 c
    refine zx_aload_n d_Main_feed_77 rfl ?_
    refine zi_getR f_Main_14 q1 (by decide) e3 z4 d_Main_feed_78 ?_
    refine zi_getI f_Main_95 q5 (by decide) d_Main_feed_81 ?_
    exact k
  · have k := k.2 c
    refine zx_aload_n d_Main_feed_52 rfl ?_
    refine zi_getR f_Main_14 q1 (by decide) e3 z4 d_Main_feed_53 ?_
    refine zx_lload_n d_Main_feed_56 rfl ?_
    refine zx_bipush d_Main_feed_57 zb_8 ?_
    refine zx_iload d_Main_feed_59 rfl ?_
    refine zx_imul d_Main_feed_61 ?_
    refine zx_lushr d_Main_feed_62 ?_
    refine zx_l2i d_Main_feed_63 ?_
    refine zx_sipush d_Main_feed_64 zs_255 ?_
    refine zx_iand d_Main_feed_67 ?_
    refine zi_callV (hC := k) k_Main_92 q5 (by decide) rfl rfl (Nat.le_of_ble_eq_true rfl) (Nat.le_of_ble_eq_true rfl) d_Main_feed_68 (fun r I6 k => ?_)
    obtain ⟨rfl, k⟩ := k
    refine zx_iinc (L2 := [(0, .ref o0), (1, .long w1), (3, .int x3), (4, .int (x4 + (-1)))]) d_Main_feed_71 rfl (Nat.le_of_ble_eq_true rfl) zc_m1 rfl ?_
    refine zx_goto (tgt := 47) d_Main_feed_74 rfl ?_
    exact k
set_option maxRecDepth 20000 in
theorem y_Main_keep_0 (l : Launch) (d : Nat) {K : zx_Kt} {RJ : zx_RJ} {Z : zx_Zt} {cc sc : Nat} {I : zi_I} (o0 : Nat) (x1 : Int32) (q1 : (K.2 o0).1 = 5) {r2 : Nat} (e3 : RJ.1 o0 0 = r2) (z4 : r2 ≠ 0) (q5 : (K.2 r2).1 = 16)
    (k : ((x1 < 0) → zy_X l d cc sc M_Main_keep Z K RJ 15 [(0, .ref o0), (1, .int x1)] [] I) ∧ ((¬ x1 < 0) → ((x1 ≤ (I r2 1)) → zi_C l (zx_rm d 0 0) M_Row_cut [.ref r2, .int x1] K RJ I (fun r I6 => r = none ∧ zy_X l d cc sc M_Main_keep Z K RJ 33 [(0, .ref o0), (1, .int x1)] [] I6)) ∧ ((¬ x1 ≤ (I r2 1)) → zy_X l d cc sc M_Main_keep Z K RJ 15 [(0, .ref o0), (1, .int x1)] [] I))) :
    zy_X l d cc sc M_Main_keep Z K RJ 0 [(0, .ref o0), (1, .int x1)] [] I := by
  refine zx_iload_n d_Main_keep_0 rfl ?_
  refine zx_if_lt (tgt := 15) d_Main_keep_1 rfl (fun c => ?_) (fun c => ?_)
  · have k := k.1 c
    exact k
  · have k := k.2 c
    refine zx_iload_n d_Main_keep_4 rfl ?_
    refine zx_aload_n d_Main_keep_5 rfl ?_
    refine zi_getR f_Main_14 q1 (by decide) e3 z4 d_Main_keep_6 ?_
    refine zi_getI f_Main_95 q5 (by decide) d_Main_keep_9 ?_
    refine zx_icmp_le (tgt := 25) d_Main_keep_12 rfl (fun c => ?_) (fun c => ?_)
    · have k := k.1 c
      refine zx_aload_n d_Main_keep_25 rfl ?_
      refine zi_getR f_Main_14 q1 (by decide) e3 z4 d_Main_keep_26 ?_
      refine zx_iload_n d_Main_keep_29 rfl ?_
      refine zi_callV (hC := k) k_Main_100 q5 (by decide) rfl rfl (Nat.le_of_ble_eq_true rfl) (Nat.le_of_ble_eq_true rfl) d_Main_keep_30 (fun r I6 k => ?_)
      obtain ⟨rfl, k⟩ := k
      exact k
    · have k := k.2 c
      exact k
set_option maxRecDepth 20000 in
theorem y_Main_damage_0 (l : Launch) (d : Nat) {K : zx_Kt} {RJ : zx_RJ} {Z : zx_Zt} {cc sc : Nat} {I : zi_I} (o0 : Nat) (x1 : Int32) (q1 : (K.2 o0).1 = 5) {r2 : Nat} (e3 : RJ.1 o0 0 = r2) (z4 : r2 ≠ 0) (q5 : (K.2 r2).1 = 16)
    (k : ((x1 < 0) → zy_X l d cc sc M_Main_damage Z K RJ 18 [(0, .ref o0), (1, .int x1)] [] I) ∧ ((¬ x1 < 0) → ((x1 < (8 * (I r2 1))) → zi_C l (zx_rm d 0 0) M_Row_turnBit [.ref r2, .int x1] K RJ I (fun r I6 => r = none ∧ zy_X l d cc sc M_Main_damage Z K RJ 36 [(0, .ref o0), (1, .int x1)] [] I6)) ∧ ((¬ x1 < (8 * (I r2 1))) → zy_X l d cc sc M_Main_damage Z K RJ 18 [(0, .ref o0), (1, .int x1)] [] I))) :
    zy_X l d cc sc M_Main_damage Z K RJ 0 [(0, .ref o0), (1, .int x1)] [] I := by
  refine zx_iload_n d_Main_damage_0 rfl ?_
  refine zx_if_lt (tgt := 18) d_Main_damage_1 rfl (fun c => ?_) (fun c => ?_)
  · have k := k.1 c
    exact k
  · have k := k.2 c
    refine zx_iload_n d_Main_damage_4 rfl ?_
    refine zx_bipush d_Main_damage_5 zb_8 ?_
    refine zx_aload_n d_Main_damage_7 rfl ?_
    refine zi_getR f_Main_14 q1 (by decide) e3 z4 d_Main_damage_8 ?_
    refine zi_getI f_Main_95 q5 (by decide) d_Main_damage_11 ?_
    refine zx_imul d_Main_damage_14 ?_
    refine zx_icmp_lt (tgt := 28) d_Main_damage_15 rfl (fun c => ?_) (fun c => ?_)
    · have k := k.1 c
      refine zx_aload_n d_Main_damage_28 rfl ?_
      refine zi_getR f_Main_14 q1 (by decide) e3 z4 d_Main_damage_29 ?_
      refine zx_iload_n d_Main_damage_32 rfl ?_
      refine zi_callV (hC := k) k_Main_108 q5 (by decide) rfl rfl (Nat.le_of_ble_eq_true rfl) (Nat.le_of_ble_eq_true rfl) d_Main_damage_33 (fun r I6 k => ?_)
      obtain ⟨rfl, k⟩ := k
      exact k
    · have k := k.2 c
      exact k
set_option maxRecDepth 20000 in
theorem y_Main_append_0 (l : Launch) (d : Nat) {K : zx_Kt} {RJ : zx_RJ} {Z : zx_Zt} {cc sc : Nat} {I : zi_I} (o0 : Nat) (q1 : (K.2 o0).1 = 5) {r2 : Nat} (e3 : RJ.1 o0 0 = r2) (z4 : r2 ≠ 0) {r5 : Nat} (e6 : RJ.1 o0 1 = r5) (z7 : r5 ≠ 0) (q8 : (K.2 r5).1 = 16) (q9 : (K.2 r2).1 = 16)
    (k : zi_C l (zx_rm d 0 0) M_Row_hasRoom [.ref r2, .int (I r5 1)] K RJ I (fun r I10 => ∃ v11, r = some (.int v11) ∧ ((¬ v11 = 0) → zi_C l (zx_rm d 0 0) M_Row_addAll [.ref r2, .ref r5] K RJ I10 (fun r I12 => r = none ∧ zy_X l d cc sc M_Main_append Z K RJ 45 [(0, .ref o0)] [.int (I12 r2 1)] I12)) ∧ ((v11 = 0) → zy_X l d cc sc M_Main_append Z K RJ 17 [(0, .ref o0)] [] I10))) :
    zy_X l d cc sc M_Main_append Z K RJ 0 [(0, .ref o0)] [] I := by
  refine zx_aload_n d_Main_append_0 rfl ?_
  refine zi_getR f_Main_14 q1 (by decide) e3 z4 d_Main_append_1 ?_
  refine zx_aload_n d_Main_append_4 rfl ?_
  refine zi_getR f_Main_18 q1 (by decide) e6 z7 d_Main_append_5 ?_
  refine zi_getI f_Main_95 q8 (by decide) d_Main_append_8 ?_
  refine zi_callV (hC := k) k_Main_83 q9 (by decide) rfl rfl (Nat.le_of_ble_eq_true rfl) (Nat.le_of_ble_eq_true rfl) d_Main_append_11 (fun r I10 k => ?_)
  obtain ⟨v11, rfl, k⟩ := k
  refine zx_if_ne (tgt := 27) d_Main_append_14 rfl (fun c => ?_) (fun c => ?_)
  · have k := k.1 c
    refine zx_aload_n d_Main_append_27 rfl ?_
    refine zi_getR f_Main_14 q1 (by decide) e3 z4 d_Main_append_28 ?_
    refine zx_aload_n d_Main_append_31 rfl ?_
    refine zi_getR f_Main_18 q1 (by decide) e6 z7 d_Main_append_32 ?_
    refine zi_callV (hC := k) k_Main_111 q9 (by decide) rfl rfl (Nat.le_of_ble_eq_true rfl) (Nat.le_of_ble_eq_true rfl) d_Main_append_35 (fun r I12 k => ?_)
    obtain ⟨rfl, k⟩ := k
    refine zx_aload_n d_Main_append_38 rfl ?_
    refine zi_getR f_Main_14 q1 (by decide) e3 z4 d_Main_append_39 ?_
    refine zi_getI f_Main_95 q9 (by decide) d_Main_append_42 ?_
    exact k
  · have k := k.2 c
    exact k
set_option maxRecDepth 20000 in
theorem y_Main_pack_0 (l : Launch) (d : Nat) {K : zx_Kt} {RJ : zx_RJ} {Z : zx_Zt} {cc sc : Nat} {I : zi_I} (o0 : Nat) (x1 : Int32) (q1 : (K.2 o0).1 = 5) {r2 : Nat} (e3 : RJ.1 o0 1 = r2) (z4 : r2 ≠ 0) (q5 : (K.2 r2).1 = 16) {r7 : Nat} (e8 : RJ.1 o0 6 = r7) (z9 : r7 ≠ 0) (q10 : (K.2 r7).1 = 12)
    (k : ((x1 < 1) → zy_X l d cc sc M_Main_pack Z K RJ 11 [(0, .ref o0), (1, .int x1)] [] I) ∧ ((¬ x1 < 1) → ((x1 ≤ 8) → zi_C l (zx_rm d 0 0) M_Row_cut [.ref r2, .int 0] K RJ I (fun r I6 => r = none ∧ zi_C l (zx_rm d 0 0) M_BlockWriter_writeHead [.ref r7, .int x1] K RJ (zx_u2 I6 o0 9 0) (fun r I11 => r = none ∧ zy_X l d cc sc M_Main_pack Z K RJ 49 [(0, .ref o0), (1, .int x1), (2, .int 0), (3, .int 0), (4, .int 0)] [] I11))) ∧ ((¬ x1 ≤ 8) → zy_X l d cc sc M_Main_pack Z K RJ 11 [(0, .ref o0), (1, .int x1)] [] I))) :
    zy_X l d cc sc M_Main_pack Z K RJ 0 [(0, .ref o0), (1, .int x1)] [] I := by
  refine zx_iload_n d_Main_pack_0 rfl ?_
  refine zx_iconst d_Main_pack_1 zc_1 ?_
  refine zx_icmp_lt (tgt := 11) d_Main_pack_2 rfl (fun c => ?_) (fun c => ?_)
  · have k := k.1 c
    exact k
  · have k := k.2 c
    refine zx_iload_n d_Main_pack_5 rfl ?_
    refine zx_bipush d_Main_pack_6 zb_8 ?_
    refine zx_icmp_le (tgt := 21) d_Main_pack_8 rfl (fun c => ?_) (fun c => ?_)
    · have k := k.1 c
      refine zx_aload_n d_Main_pack_21 rfl ?_
      refine zi_getR f_Main_18 q1 (by decide) e3 z4 d_Main_pack_22 ?_
      refine zx_iconst d_Main_pack_25 zc_0 ?_
      refine zi_callV (hC := k) k_Main_100 q5 (by decide) rfl rfl (Nat.le_of_ble_eq_true rfl) (Nat.le_of_ble_eq_true rfl) d_Main_pack_26 (fun r I6 k => ?_)
      obtain ⟨rfl, k⟩ := k
      refine zx_aload_n d_Main_pack_29 rfl ?_
      refine zx_iconst d_Main_pack_30 zc_0 ?_
      refine zi_putI f_Main_66 q1 (by decide) d_Main_pack_31 ?_
      refine zx_aload_n d_Main_pack_34 rfl ?_
      refine zi_getR f_Main_52 q1 (by decide) e8 z9 d_Main_pack_35 ?_
      refine zx_iload_n d_Main_pack_38 rfl ?_
      refine zi_callV (hC := k) k_Main_116 q10 (by decide) rfl rfl (Nat.le_of_ble_eq_true rfl) (Nat.le_of_ble_eq_true rfl) d_Main_pack_39 (fun r I11 k => ?_)
      obtain ⟨rfl, k⟩ := k
      refine zx_iconst d_Main_pack_42 zc_0 ?_
      refine zx_istore_n (L2 := [(0, .ref o0), (1, .int x1), (2, .int 0)]) d_Main_pack_43 (Nat.le_of_ble_eq_true rfl) rfl ?_
      refine zx_iconst d_Main_pack_44 zc_0 ?_
      refine zx_istore_n (L2 := [(0, .ref o0), (1, .int x1), (2, .int 0), (3, .int 0)]) d_Main_pack_45 (Nat.le_of_ble_eq_true rfl) rfl ?_
      refine zx_iconst d_Main_pack_46 zc_0 ?_
      refine zx_istore (L2 := [(0, .ref o0), (1, .int x1), (2, .int 0), (3, .int 0), (4, .int 0)]) d_Main_pack_47 (Nat.le_of_ble_eq_true rfl) rfl ?_
      exact k
    · have k := k.2 c
      exact k
set_option maxRecDepth 20000 in
theorem y_Main_pack_49 (l : Launch) (d : Nat) {K : zx_Kt} {RJ : zx_RJ} {Z : zx_Zt} {cc sc : Nat} {I : zi_I} (o0 : Nat) (x1 : Int32) (x2 : Int32) (x3 : Int32) (x4 : Int32) (q1 : (K.2 o0).1 = 5) {r2 : Nat} (e3 : RJ.1 o0 6 = r2) (z4 : r2 ≠ 0) (q5 : (K.2 r2).1 = 12) {r7 : Nat} (e8 : RJ.1 o0 1 = r7) (z9 : r7 ≠ 0) (q10 : (K.2 r7).1 = 16) {r11 : Nat} (e12 : RJ.1 o0 0 = r11) (z13 : r11 ≠ 0) (q14 : (K.2 r11).1 = 16) {r16 : Nat} (e17 : RJ.1 o0 5 = r16) (z18 : r16 ≠ 0) {r19 : Nat} (e20 : RJ.1 o0 7 = r19) (z21 : r19 ≠ 0) (q22 : (K.2 r16).1 = 10) (q26 : (K.2 r19).1 = 9)
    (k : ((400 ≤ x4) → zi_C l (zx_rm d 0 0) M_BlockWriter_writeEnd [.ref r2, .int x2] K RJ I (fun r I6 => r = none ∧ zy_X l d cc sc M_Main_pack Z K RJ 143 [(0, .ref o0), (1, .int x1), (2, .int x2), (3, .int x3), (4, .int x4)] [.int (I6 r7 1)] I6)) ∧ ((¬ 400 ≤ x4) → (((I r11 1) ≤ x3) → zi_C l (zx_rm d 0 0) M_BlockWriter_writeEnd [.ref r2, .int x2] K RJ I (fun r I15 => r = none ∧ zy_X l d cc sc M_Main_pack Z K RJ 143 [(0, .ref o0), (1, .int x1), (2, .int x2), (3, .int x3), (4, .int x4)] [.int (I15 r7 1)] I15)) ∧ ((¬ (I r11 1) ≤ x3) → zi_C l (zx_rm d 0 0) M_BlockMaker_makeBlock [.ref r16, .ref r19, .ref r11, .int x3, .int (8 * x1)] K RJ I (fun r I23 => ∃ v24, r = some (.int v24) ∧ zi_C l (zx_rm d 0 0) M_BlockWriter_writeBlock [.ref r2, .ref r19] K RJ I23 (fun r I25 => r = none ∧ zi_C l (zx_rm d 0 0) M_Main_nextTotal [.int x2, .int (I25 r19 0)] K RJ I25 (fun r I27 => ∃ v28, r = some (.int v28) ∧ zy_X l d cc sc M_Main_pack Z K RJ 49 [(0, .ref o0), (1, .int x1), (2, .int v28), (3, .int v24), (4, .int (x4 + 1))] [] (zx_u2 I27 o0 9 ((I27 o0 9) + 1)))))))) :
    zy_X l d cc sc M_Main_pack Z K RJ 49 [(0, .ref o0), (1, .int x1), (2, .int x2), (3, .int x3), (4, .int x4)] [] I := by
  refine zx_iload d_Main_pack_49 rfl ?_
  refine zx_sipush d_Main_pack_51 zs_400 ?_
  refine zx_icmp_ge (tgt := 128) d_Main_pack_54 rfl (fun c => ?_) (fun c => ?_)
  · have k := k.1 c
    refine zx_aload_n d_Main_pack_128 rfl ?_
    refine zi_getR f_Main_52 q1 (by decide) e3 z4 d_Main_pack_129 ?_
    refine zx_iload_n d_Main_pack_132 rfl ?_
    refine zi_callV (hC := k) k_Main_134 q5 (by decide) rfl rfl (Nat.le_of_ble_eq_true rfl) (Nat.le_of_ble_eq_true rfl) d_Main_pack_133 (fun r I6 k => ?_)
    obtain ⟨rfl, k⟩ := k
    refine zx_aload_n d_Main_pack_136 rfl ?_
    refine zi_getR f_Main_18 q1 (by decide) e8 z9 d_Main_pack_137 ?_
    refine zi_getI f_Main_95 q10 (by decide) d_Main_pack_140 ?_
    exact k
  · have k := k.2 c
    refine zx_iload_n d_Main_pack_57 rfl ?_
    refine zx_aload_n d_Main_pack_58 rfl ?_
    refine zi_getR f_Main_14 q1 (by decide) e12 z13 d_Main_pack_59 ?_
    refine zi_getI f_Main_95 q14 (by decide) d_Main_pack_62 ?_
    refine zx_icmp_ge (tgt := 128) d_Main_pack_65 rfl (fun c => ?_) (fun c => ?_)
    · have k := k.1 c
      refine zx_aload_n d_Main_pack_128 rfl ?_
      refine zi_getR f_Main_52 q1 (by decide) e3 z4 d_Main_pack_129 ?_
      refine zx_iload_n d_Main_pack_132 rfl ?_
      refine zi_callV (hC := k) k_Main_134 q5 (by decide) rfl rfl (Nat.le_of_ble_eq_true rfl) (Nat.le_of_ble_eq_true rfl) d_Main_pack_133 (fun r I15 k => ?_)
      obtain ⟨rfl, k⟩ := k
      refine zx_aload_n d_Main_pack_136 rfl ?_
      refine zi_getR f_Main_18 q1 (by decide) e8 z9 d_Main_pack_137 ?_
      refine zi_getI f_Main_95 q10 (by decide) d_Main_pack_140 ?_
      exact k
    · have k := k.2 c
      refine zx_aload_n d_Main_pack_68 rfl ?_
      refine zi_getR f_Main_45 q1 (by decide) e17 z18 d_Main_pack_69 ?_
      refine zx_aload_n d_Main_pack_72 rfl ?_
      refine zi_getR f_Main_59 q1 (by decide) e20 z21 d_Main_pack_73 ?_
      refine zx_aload_n d_Main_pack_76 rfl ?_
      refine zi_getR f_Main_14 q1 (by decide) e12 z13 d_Main_pack_77 ?_
      refine zx_iload_n d_Main_pack_80 rfl ?_
      refine zx_bipush d_Main_pack_81 zb_8 ?_
      refine zx_iload_n d_Main_pack_83 rfl ?_
      refine zx_imul d_Main_pack_84 ?_
      refine zi_callV (hC := k) k_Main_119 q22 (by decide) rfl rfl (Nat.le_of_ble_eq_true rfl) (Nat.le_of_ble_eq_true rfl) d_Main_pack_85 (fun r I23 k => ?_)
      obtain ⟨v24, rfl, k⟩ := k
      refine zx_istore_n (L2 := [(0, .ref o0), (1, .int x1), (2, .int x2), (3, .int v24), (4, .int x4)]) d_Main_pack_88 (Nat.le_of_ble_eq_true rfl) rfl ?_
      refine zx_aload_n d_Main_pack_89 rfl ?_
      refine zi_getR f_Main_52 q1 (by decide) e3 z4 d_Main_pack_90 ?_
      refine zx_aload_n d_Main_pack_93 rfl ?_
      refine zi_getR f_Main_59 q1 (by decide) e20 z21 d_Main_pack_94 ?_
      refine zi_callV (hC := k) k_Main_123 q5 (by decide) rfl rfl (Nat.le_of_ble_eq_true rfl) (Nat.le_of_ble_eq_true rfl) d_Main_pack_97 (fun r I25 k => ?_)
      obtain ⟨rfl, k⟩ := k
      refine zx_iload_n d_Main_pack_100 rfl ?_
      refine zx_aload_n d_Main_pack_101 rfl ?_
      refine zi_getR f_Main_59 q1 (by decide) e20 z21 d_Main_pack_102 ?_
      refine zi_getI f_Main_127 q26 (by decide) d_Main_pack_105 ?_
      refine zi_callS (hC := k) k_Main_130 rfl rfl (Nat.le_of_ble_eq_true rfl) (Nat.le_of_ble_eq_true rfl) d_Main_pack_108 (fun r I27 k => ?_)
      obtain ⟨v28, rfl, k⟩ := k
      refine zx_istore_n (L2 := [(0, .ref o0), (1, .int x1), (2, .int v28), (3, .int v24), (4, .int x4)]) d_Main_pack_111 (Nat.le_of_ble_eq_true rfl) rfl ?_
      refine zx_aload_n d_Main_pack_112 rfl ?_
      refine zx_dup_a d_Main_pack_113 ?_
      refine zi_getI f_Main_66 q1 (by decide) d_Main_pack_114 ?_
      refine zx_iconst d_Main_pack_117 zc_1 ?_
      refine zx_iadd d_Main_pack_118 ?_
      refine zi_putI f_Main_66 q1 (by decide) d_Main_pack_119 ?_
      refine zx_iinc (L2 := [(0, .ref o0), (1, .int x1), (2, .int v28), (3, .int v24), (4, .int (x4 + 1))]) d_Main_pack_122 rfl (Nat.le_of_ble_eq_true rfl) zc_1 rfl ?_
      refine zx_goto (tgt := 49) d_Main_pack_125 rfl ?_
      exact k
set_option maxRecDepth 20000 in
theorem y_Main_unpack_0 (l : Launch) (d : Nat) {K : zx_Kt} {RJ : zx_RJ} {Z : zx_Zt} {cc sc : Nat} {I : zi_I} (o0 : Nat) (q1 : (K.2 o0).1 = 5) {r2 : Nat} (e3 : RJ.1 o0 2 = r2) (z4 : r2 ≠ 0) (q5 : (K.2 r2).1 = 16) {r7 : Nat} (e8 : RJ.1 o0 3 = r7) (z9 : r7 ≠ 0) (q10 : (K.2 r7).1 = 7)
    (k : zi_C l (zx_rm d 0 0) M_Row_cut [.ref r2, .int 0] K RJ (zx_u2 (zx_u2 I o0 11 ((-1))) o0 10 0) (fun r I6 => r = none ∧ zi_C l (zx_rm d 0 0) M_BitReader_goTo [.ref r7, .int 0] K RJ I6 (fun r I11 => r = none ∧ zi_C l (zx_rm d 0 0) M_Main_readStream [.ref o0] K RJ I11 (fun r I12 => ∃ v13, r = some (.int v13) ∧ zy_X l d cc sc M_Main_unpack Z K RJ 33 [(0, .ref o0), (1, .int v13), (2, .int 1)] [] I12)))) :
    zy_X l d cc sc M_Main_unpack Z K RJ 0 [(0, .ref o0)] [] I := by
  refine zx_aload_n d_Main_unpack_0 rfl ?_
  refine zx_iconst d_Main_unpack_1 zc_m1 ?_
  refine zi_putI f_Main_73 q1 (by decide) d_Main_unpack_2 ?_
  refine zx_aload_n d_Main_unpack_5 rfl ?_
  refine zx_iconst d_Main_unpack_6 zc_0 ?_
  refine zi_putI f_Main_70 q1 (by decide) d_Main_unpack_7 ?_
  refine zx_aload_n d_Main_unpack_10 rfl ?_
  refine zi_getR f_Main_21 q1 (by decide) e3 z4 d_Main_unpack_11 ?_
  refine zx_iconst d_Main_unpack_14 zc_0 ?_
  refine zi_callV (hC := k) k_Main_100 q5 (by decide) rfl rfl (Nat.le_of_ble_eq_true rfl) (Nat.le_of_ble_eq_true rfl) d_Main_unpack_15 (fun r I6 k => ?_)
  obtain ⟨rfl, k⟩ := k
  refine zx_aload_n d_Main_unpack_18 rfl ?_
  refine zi_getR f_Main_29 q1 (by decide) e8 z9 d_Main_unpack_19 ?_
  refine zx_iconst d_Main_unpack_22 zc_0 ?_
  refine zi_callV (hC := k) k_Main_137 q10 (by decide) rfl rfl (Nat.le_of_ble_eq_true rfl) (Nat.le_of_ble_eq_true rfl) d_Main_unpack_23 (fun r I11 k => ?_)
  obtain ⟨rfl, k⟩ := k
  refine zx_aload_n d_Main_unpack_26 rfl ?_
  refine zi_callV (hC := k) k_Main_140 q1 (by decide) rfl rfl (Nat.le_of_ble_eq_true rfl) (Nat.le_of_ble_eq_true rfl) d_Main_unpack_27 (fun r I12 k => ?_)
  obtain ⟨v13, rfl, k⟩ := k
  refine zx_istore_n (L2 := [(0, .ref o0), (1, .int v13)]) d_Main_unpack_30 (Nat.le_of_ble_eq_true rfl) rfl ?_
  refine zx_iconst d_Main_unpack_31 zc_1 ?_
  refine zx_istore_n (L2 := [(0, .ref o0), (1, .int v13), (2, .int 1)]) d_Main_unpack_32 (Nat.le_of_ble_eq_true rfl) rfl ?_
  exact k
set_option maxRecDepth 20000 in
theorem y_Main_unpack_33 (l : Launch) (d : Nat) {K : zx_Kt} {RJ : zx_RJ} {Z : zx_Zt} {cc sc : Nat} {I : zi_I} (o0 : Nat) (x1 : Int32) (x2 : Int32) (q1 : (K.2 o0).1 = 5) {r2 : Nat} (e3 : RJ.1 o0 3 = r2) (z4 : r2 ≠ 0) (q5 : (K.2 r2).1 = 7)
    (k : ((400 ≤ x2) → ((¬ x1 = 1) → ((x1 = 0) → (((I o0 10) ≤ 0) → zy_X l d cc sc M_Main_unpack Z K RJ 116 [(0, .ref o0), (1, .int x1), (2, .int x2)] [] (zx_u2 I o0 9 (I o0 10))) ∧ ((¬ (I o0 10) ≤ 0) → zy_X l d cc sc M_Main_unpack Z K RJ 113 [(0, .ref o0), (1, .int x1), (2, .int x2)] [.ref o0] (zx_u2 I o0 9 (I o0 10)))) ∧ ((¬ x1 = 0) → zy_X l d cc sc M_Main_unpack Z K RJ 96 [(0, .ref o0), (1, .int x1), (2, .int x2)] [.int x1] (zx_u2 I o0 11 (I r2 2)))) ∧ ((x1 = 1) → zy_X l d cc sc M_Main_unpack Z K RJ 70 [(0, .ref o0), (1, .int x1), (2, .int x2)] [] I)) ∧ ((¬ 400 ≤ x2) → ((¬ x1 = 0) → ((¬ x1 = 1) → ((x1 = 0) → (((I o0 10) ≤ 0) → zy_X l d cc sc M_Main_unpack Z K RJ 116 [(0, .ref o0), (1, .int x1), (2, .int x2)] [] (zx_u2 I o0 9 (I o0 10))) ∧ ((¬ (I o0 10) ≤ 0) → zy_X l d cc sc M_Main_unpack Z K RJ 113 [(0, .ref o0), (1, .int x1), (2, .int x2)] [.ref o0] (zx_u2 I o0 9 (I o0 10)))) ∧ ((¬ x1 = 0) → zy_X l d cc sc M_Main_unpack Z K RJ 96 [(0, .ref o0), (1, .int x1), (2, .int x2)] [.int x1] (zx_u2 I o0 11 (I r2 2)))) ∧ ((x1 = 1) → zy_X l d cc sc M_Main_unpack Z K RJ 70 [(0, .ref o0), (1, .int x1), (2, .int x2)] [] I)) ∧ ((x1 = 0) → zi_C l (zx_rm d 0 0) M_BitReader_isAtEnd [.ref r2] K RJ I (fun r I6 => ∃ v7, r = some (.int v7) ∧ ((¬ v7 = 0) → ((¬ x1 = 1) → ((x1 = 0) → (((I6 o0 10) ≤ 0) → zy_X l d cc sc M_Main_unpack Z K RJ 116 [(0, .ref o0), (1, .int x1), (2, .int x2)] [] (zx_u2 I6 o0 9 (I6 o0 10))) ∧ ((¬ (I6 o0 10) ≤ 0) → zy_X l d cc sc M_Main_unpack Z K RJ 113 [(0, .ref o0), (1, .int x1), (2, .int x2)] [.ref o0] (zx_u2 I6 o0 9 (I6 o0 10)))) ∧ ((¬ x1 = 0) → zy_X l d cc sc M_Main_unpack Z K RJ 96 [(0, .ref o0), (1, .int x1), (2, .int x2)] [.int x1] (zx_u2 I6 o0 11 (I6 r2 2)))) ∧ ((x1 = 1) → zy_X l d cc sc M_Main_unpack Z K RJ 70 [(0, .ref o0), (1, .int x1), (2, .int x2)] [] I6)) ∧ ((v7 = 0) → zi_C l (zx_rm d 0 0) M_Main_readStream [.ref o0] K RJ I6 (fun r I8 => ∃ v9, r = some (.int v9) ∧ zy_X l d cc sc M_Main_unpack Z K RJ 33 [(0, .ref o0), (1, .int v9), (2, .int (x2 + 1))] [] I8)))))) :
    zy_X l d cc sc M_Main_unpack Z K RJ 33 [(0, .ref o0), (1, .int x1), (2, .int x2)] [] I := by
  refine zx_iload_n d_Main_unpack_33 rfl ?_
  refine zx_sipush d_Main_unpack_34 zs_400 ?_
  refine zx_icmp_ge (tgt := 65) d_Main_unpack_37 rfl (fun c => ?_) (fun c => ?_)
  · have k := k.1 c
    refine zx_iload_n d_Main_unpack_65 rfl ?_
    refine zx_iconst d_Main_unpack_66 zc_1 ?_
    refine zx_icmp_ne (tgt := 80) d_Main_unpack_67 rfl (fun c => ?_) (fun c => ?_)
    · have k := k.1 c
      refine zx_iload_n d_Main_unpack_80 rfl ?_
      refine zx_if_eq (tgt := 97) d_Main_unpack_81 rfl (fun c => ?_) (fun c => ?_)
      · have k := k.1 c
        refine zx_aload_n d_Main_unpack_97 rfl ?_
        refine zx_aload_n d_Main_unpack_98 rfl ?_
        refine zi_getI f_Main_70 q1 (by decide) d_Main_unpack_99 ?_
        refine zi_putI f_Main_66 q1 (by decide) d_Main_unpack_102 ?_
        refine zx_aload_n d_Main_unpack_105 rfl ?_
        refine zi_getIe f_Main_66 q1 (by decide) zx_u2_s d_Main_unpack_106 ?_
        refine zx_if_le (tgt := 116) d_Main_unpack_109 rfl (fun c => ?_) (fun c => ?_)
        · have k := k.1 c
          exact k
        · have k := k.2 c
          refine zx_aload_n d_Main_unpack_112 rfl ?_
          exact k
      · have k := k.2 c
        refine zx_aload_n d_Main_unpack_84 rfl ?_
        refine zx_aload_n d_Main_unpack_85 rfl ?_
        refine zi_getR f_Main_29 q1 (by decide) e3 z4 d_Main_unpack_86 ?_
        refine zi_getI f_Main_153 q5 (by decide) d_Main_unpack_89 ?_
        refine zi_putI f_Main_73 q1 (by decide) d_Main_unpack_92 ?_
        refine zx_iload_n d_Main_unpack_95 rfl ?_
        exact k
    · have k := k.2 c
      exact k
  · have k := k.2 c
    refine zx_iload_n d_Main_unpack_40 rfl ?_
    refine zx_if_ne (tgt := 65) d_Main_unpack_41 rfl (fun c => ?_) (fun c => ?_)
    · have k := k.1 c
      refine zx_iload_n d_Main_unpack_65 rfl ?_
      refine zx_iconst d_Main_unpack_66 zc_1 ?_
      refine zx_icmp_ne (tgt := 80) d_Main_unpack_67 rfl (fun c => ?_) (fun c => ?_)
      · have k := k.1 c
        refine zx_iload_n d_Main_unpack_80 rfl ?_
        refine zx_if_eq (tgt := 97) d_Main_unpack_81 rfl (fun c => ?_) (fun c => ?_)
        · have k := k.1 c
          refine zx_aload_n d_Main_unpack_97 rfl ?_
          refine zx_aload_n d_Main_unpack_98 rfl ?_
          refine zi_getI f_Main_70 q1 (by decide) d_Main_unpack_99 ?_
          refine zi_putI f_Main_66 q1 (by decide) d_Main_unpack_102 ?_
          refine zx_aload_n d_Main_unpack_105 rfl ?_
          refine zi_getIe f_Main_66 q1 (by decide) zx_u2_s d_Main_unpack_106 ?_
          refine zx_if_le (tgt := 116) d_Main_unpack_109 rfl (fun c => ?_) (fun c => ?_)
          · have k := k.1 c
            exact k
          · have k := k.2 c
            refine zx_aload_n d_Main_unpack_112 rfl ?_
            exact k
        · have k := k.2 c
          refine zx_aload_n d_Main_unpack_84 rfl ?_
          refine zx_aload_n d_Main_unpack_85 rfl ?_
          refine zi_getR f_Main_29 q1 (by decide) e3 z4 d_Main_unpack_86 ?_
          refine zi_getI f_Main_153 q5 (by decide) d_Main_unpack_89 ?_
          refine zi_putI f_Main_73 q1 (by decide) d_Main_unpack_92 ?_
          refine zx_iload_n d_Main_unpack_95 rfl ?_
          exact k
      · have k := k.2 c
        exact k
    · have k := k.2 c
      refine zx_aload_n d_Main_unpack_44 rfl ?_
      refine zi_getR f_Main_29 q1 (by decide) e3 z4 d_Main_unpack_45 ?_
      refine zi_callV (hC := k) k_Main_144 q5 (by decide) rfl rfl (Nat.le_of_ble_eq_true rfl) (Nat.le_of_ble_eq_true rfl) d_Main_unpack_48 (fun r I6 k => ?_)
      obtain ⟨v7, rfl, k⟩ := k
      refine zx_if_ne (tgt := 65) d_Main_unpack_51 rfl (fun c => ?_) (fun c => ?_)
      · have k := k.1 c
        refine zx_iload_n d_Main_unpack_65 rfl ?_
        refine zx_iconst d_Main_unpack_66 zc_1 ?_
        refine zx_icmp_ne (tgt := 80) d_Main_unpack_67 rfl (fun c => ?_) (fun c => ?_)
        · have k := k.1 c
          refine zx_iload_n d_Main_unpack_80 rfl ?_
          refine zx_if_eq (tgt := 97) d_Main_unpack_81 rfl (fun c => ?_) (fun c => ?_)
          · have k := k.1 c
            refine zx_aload_n d_Main_unpack_97 rfl ?_
            refine zx_aload_n d_Main_unpack_98 rfl ?_
            refine zi_getI f_Main_70 q1 (by decide) d_Main_unpack_99 ?_
            refine zi_putI f_Main_66 q1 (by decide) d_Main_unpack_102 ?_
            refine zx_aload_n d_Main_unpack_105 rfl ?_
            refine zi_getIe f_Main_66 q1 (by decide) zx_u2_s d_Main_unpack_106 ?_
            refine zx_if_le (tgt := 116) d_Main_unpack_109 rfl (fun c => ?_) (fun c => ?_)
            · have k := k.1 c
              exact k
            · have k := k.2 c
              refine zx_aload_n d_Main_unpack_112 rfl ?_
              exact k
          · have k := k.2 c
            refine zx_aload_n d_Main_unpack_84 rfl ?_
            refine zx_aload_n d_Main_unpack_85 rfl ?_
            refine zi_getR f_Main_29 q1 (by decide) e3 z4 d_Main_unpack_86 ?_
            refine zi_getI f_Main_153 q5 (by decide) d_Main_unpack_89 ?_
            refine zi_putI f_Main_73 q1 (by decide) d_Main_unpack_92 ?_
            refine zx_iload_n d_Main_unpack_95 rfl ?_
            exact k
        · have k := k.2 c
          exact k
      · have k := k.2 c
        refine zx_aload_n d_Main_unpack_54 rfl ?_
        refine zi_callV (hC := k) k_Main_140 q1 (by decide) rfl rfl (Nat.le_of_ble_eq_true rfl) (Nat.le_of_ble_eq_true rfl) d_Main_unpack_55 (fun r I8 k => ?_)
        obtain ⟨v9, rfl, k⟩ := k
        refine zx_istore_n (L2 := [(0, .ref o0), (1, .int v9), (2, .int x2)]) d_Main_unpack_58 (Nat.le_of_ble_eq_true rfl) rfl ?_
        refine zx_iinc (L2 := [(0, .ref o0), (1, .int v9), (2, .int (x2 + 1))]) d_Main_unpack_59 rfl (Nat.le_of_ble_eq_true rfl) zc_1 rfl ?_
        refine zx_goto (tgt := 33) d_Main_unpack_62 rfl ?_
        exact k
set_option maxRecDepth 20000 in
theorem y_Main_unpack_116 (l : Launch) (d : Nat) {K : zx_Kt} {RJ : zx_RJ} {Z : zx_Zt} {cc sc : Nat} {I : zi_I} (o0 : Nat) (x1 : Int32) (x2 : Int32) (q1 : (K.2 o0).1 = 5) {r3 : Nat} (e4 : RJ.1 o0 1 = r3) (z5 : r3 ≠ 0) (q6 : (K.2 r3).1 = 16)
    (k : zi_C l (zx_rm d 0 0) M_Main_takeFresh [.ref o0] K RJ I (fun r I2 => r = none ∧ zy_X l d cc sc M_Main_unpack Z K RJ 127 [(0, .ref o0), (1, .int x1), (2, .int x2)] [.int (I2 r3 1)] I2)) :
    zy_X l d cc sc M_Main_unpack Z K RJ 116 [(0, .ref o0), (1, .int x1), (2, .int x2)] [] I := by
  refine zx_aload_n d_Main_unpack_116 rfl ?_
  refine zi_callV (hC := k) k_Main_159 q1 (by decide) rfl rfl (Nat.le_of_ble_eq_true rfl) (Nat.le_of_ble_eq_true rfl) d_Main_unpack_117 (fun r I2 k => ?_)
  obtain ⟨rfl, k⟩ := k
  refine zx_aload_n d_Main_unpack_120 rfl ?_
  refine zi_getR f_Main_18 q1 (by decide) e4 z5 d_Main_unpack_121 ?_
  refine zi_getI f_Main_95 q6 (by decide) d_Main_unpack_124 ?_
  exact k
set_option maxRecDepth 20000 in
theorem y_Main_rescue_0 (l : Launch) (d : Nat) {K : zx_Kt} {RJ : zx_RJ} {Z : zx_Zt} {cc sc : Nat} {I : zi_I} (o0 : Nat) (q1 : (K.2 o0).1 = 5) {r2 : Nat} (e3 : RJ.1 o0 2 = r2) (z4 : r2 ≠ 0) (q5 : (K.2 r2).1 = 16)
    (k : zi_C l (zx_rm d 0 0) M_Row_cut [.ref r2, .int 0] K RJ I (fun r I6 => r = none ∧ zy_X l d cc sc M_Main_rescue Z K RJ 17 [(0, .ref o0), (1, .int 0), (2, .int 0)] [] (zx_u2 I6 o0 9 0))) :
    zy_X l d cc sc M_Main_rescue Z K RJ 0 [(0, .ref o0)] [] I := by
  refine zx_aload_n d_Main_rescue_0 rfl ?_
  refine zi_getR f_Main_21 q1 (by decide) e3 z4 d_Main_rescue_1 ?_
  refine zx_iconst d_Main_rescue_4 zc_0 ?_
  refine zi_callV (hC := k) k_Main_100 q5 (by decide) rfl rfl (Nat.le_of_ble_eq_true rfl) (Nat.le_of_ble_eq_true rfl) d_Main_rescue_5 (fun r I6 k => ?_)
  obtain ⟨rfl, k⟩ := k
  refine zx_aload_n d_Main_rescue_8 rfl ?_
  refine zx_iconst d_Main_rescue_9 zc_0 ?_
  refine zi_putI f_Main_66 q1 (by decide) d_Main_rescue_10 ?_
  refine zx_iconst d_Main_rescue_13 zc_0 ?_
  refine zx_istore_n (L2 := [(0, .ref o0), (1, .int 0)]) d_Main_rescue_14 (Nat.le_of_ble_eq_true rfl) rfl ?_
  refine zx_iconst d_Main_rescue_15 zc_0 ?_
  refine zx_istore_n (L2 := [(0, .ref o0), (1, .int 0), (2, .int 0)]) d_Main_rescue_16 (Nat.le_of_ble_eq_true rfl) rfl ?_
  exact k
set_option maxRecDepth 20000 in
theorem y_Main_rescue_17 (l : Launch) (d : Nat) {K : zx_Kt} {RJ : zx_RJ} {Z : zx_Zt} {cc sc : Nat} {I : zi_I} (o0 : Nat) (x1 : Int32) (x2 : Int32) (q1 : (K.2 o0).1 = 5) {r3 : Nat} (e4 : RJ.1 o0 3 = r3) (z5 : r3 ≠ 0) (q6 : (K.2 r3).1 = 7) {r10 : Nat} (e11 : RJ.1 o0 4 = r10) (z12 : r10 ≠ 0) {r13 : Nat} (e14 : RJ.1 o0 8 = r13) (z15 : r13 ≠ 0) {r16 : Nat} (e17 : RJ.1 o0 2 = r16) (z18 : r16 ≠ 0) (q19 : (K.2 r10).1 = 11)
    (k : ((3200 ≤ x2) → zi_C l (zx_rm d 0 0) M_Main_takeFresh [.ref o0] K RJ I (fun r I2 => r = none ∧ zy_X l d cc sc M_Main_rescue Z K RJ 104 [(0, .ref o0), (1, .int x1), (2, .int x2)] [.int (I2 o0 9)] I2)) ∧ ((¬ 3200 ≤ x2) → zi_C l (zx_rm d 0 0) M_BitReader_findMark [.ref r3, .int x1] K RJ I (fun r I7 => ∃ v8, r = some (.int v8) ∧ ((v8 = 0) → zi_C l (zx_rm d 0 0) M_Main_takeFresh [.ref o0] K RJ I7 (fun r I9 => r = none ∧ zy_X l d cc sc M_Main_rescue Z K RJ 104 [(0, .ref o0), (1, .int x1), (2, .int x2)] [.int (I9 o0 9)] I9)) ∧ ((¬ v8 = 0) → zi_C l (zx_rm d 0 0) M_BlockReader_readBlock [.ref r10, .ref r13, .int 64, .ref r16] K RJ I7 (fun r I20 => ∃ v21, r = some (.int v21) ∧ ((¬ v21 = 0) → zy_X l d cc sc M_Main_rescue Z K RJ 17 [(0, .ref o0), (1, .int (((I7 r3 1) - 24) + 1)), (2, .int (x2 + 1))] [] I20) ∧ ((v21 = 0) → zy_X l d cc sc M_Main_rescue Z K RJ 69 [(0, .ref o0), (1, .int (((I7 r3 1) - 24) + 1)), (2, .int x2)] [.ref o0] I20)))))) :
    zy_X l d cc sc M_Main_rescue Z K RJ 17 [(0, .ref o0), (1, .int x1), (2, .int x2)] [] I := by
  refine zx_iload_n d_Main_rescue_17 rfl ?_
  refine zx_sipush d_Main_rescue_18 zs_3200 ?_
  refine zx_icmp_ge (tgt := 96) d_Main_rescue_21 rfl (fun c => ?_) (fun c => ?_)
  · have k := k.1 c
    refine zx_aload_n d_Main_rescue_96 rfl ?_
    refine zi_callV (hC := k) k_Main_159 q1 (by decide) rfl rfl (Nat.le_of_ble_eq_true rfl) (Nat.le_of_ble_eq_true rfl) d_Main_rescue_97 (fun r I2 k => ?_)
    obtain ⟨rfl, k⟩ := k
    refine zx_aload_n d_Main_rescue_100 rfl ?_
    refine zi_getI f_Main_66 q1 (by decide) d_Main_rescue_101 ?_
    exact k
  · have k := k.2 c
    refine zx_aload_n d_Main_rescue_24 rfl ?_
    refine zi_getR f_Main_29 q1 (by decide) e4 z5 d_Main_rescue_25 ?_
    refine zx_iload_n d_Main_rescue_28 rfl ?_
    refine zi_callV (hC := k) k_Main_162 q6 (by decide) rfl rfl (Nat.le_of_ble_eq_true rfl) (Nat.le_of_ble_eq_true rfl) d_Main_rescue_29 (fun r I7 k => ?_)
    obtain ⟨v8, rfl, k⟩ := k
    refine zx_if_eq (tgt := 96) d_Main_rescue_32 rfl (fun c => ?_) (fun c => ?_)
    · have k := k.1 c
      refine zx_aload_n d_Main_rescue_96 rfl ?_
      refine zi_callV (hC := k) k_Main_159 q1 (by decide) rfl rfl (Nat.le_of_ble_eq_true rfl) (Nat.le_of_ble_eq_true rfl) d_Main_rescue_97 (fun r I9 k => ?_)
      obtain ⟨rfl, k⟩ := k
      refine zx_aload_n d_Main_rescue_100 rfl ?_
      refine zi_getI f_Main_66 q1 (by decide) d_Main_rescue_101 ?_
      exact k
    · have k := k.2 c
      refine zx_aload_n d_Main_rescue_35 rfl ?_
      refine zi_getR f_Main_29 q1 (by decide) e4 z5 d_Main_rescue_36 ?_
      refine zi_getI f_Main_165 q6 (by decide) d_Main_rescue_39 ?_
      refine zx_bipush d_Main_rescue_42 zb_24 ?_
      refine zx_isub d_Main_rescue_44 ?_
      refine zx_iconst d_Main_rescue_45 zc_1 ?_
      refine zx_iadd d_Main_rescue_46 ?_
      refine zx_istore_n (L2 := [(0, .ref o0), (1, .int (((I7 r3 1) - 24) + 1)), (2, .int x2)]) d_Main_rescue_47 (Nat.le_of_ble_eq_true rfl) rfl ?_
      refine zx_aload_n d_Main_rescue_48 rfl ?_
      refine zi_getR f_Main_38 q1 (by decide) e11 z12 d_Main_rescue_49 ?_
      refine zx_aload_n d_Main_rescue_52 rfl ?_
      refine zi_getR f_Main_63 q1 (by decide) e14 z15 d_Main_rescue_53 ?_
      refine zx_bipush d_Main_rescue_56 zb_64 ?_
      refine zx_aload_n d_Main_rescue_58 rfl ?_
      refine zi_getR f_Main_21 q1 (by decide) e17 z18 d_Main_rescue_59 ?_
      refine zi_callV (hC := k) k_Main_168 q19 (by decide) rfl rfl (Nat.le_of_ble_eq_true rfl) (Nat.le_of_ble_eq_true rfl) d_Main_rescue_62 (fun r I20 k => ?_)
      obtain ⟨v21, rfl, k⟩ := k
      refine zx_if_ne (tgt := 90) d_Main_rescue_65 rfl (fun c => ?_) (fun c => ?_)
      · have k := k.1 c
        refine zx_iinc (L2 := [(0, .ref o0), (1, .int (((I7 r3 1) - 24) + 1)), (2, .int (x2 + 1))]) d_Main_rescue_90 rfl (Nat.le_of_ble_eq_true rfl) zc_1 rfl ?_
        refine zx_goto (tgt := 17) d_Main_rescue_93 rfl ?_
        exact k
      · have k := k.2 c
        refine zx_aload_n d_Main_rescue_68 rfl ?_
        exact k
set_option maxRecDepth 20000 in
theorem y_Main_rescue_72 (l : Launch) (d : Nat) {K : zx_Kt} {RJ : zx_RJ} {Z : zx_Zt} {cc sc : Nat} {I : zi_I} (o0 : Nat) (x1 : Int32) (x2 : Int32) (q1 : (K.2 o0).1 = 5) {r2 : Nat} (e3 : RJ.1 o0 3 = r2) (z4 : r2 ≠ 0) (q5 : (K.2 r2).1 = 7)
    (k : zy_X l d cc sc M_Main_rescue Z K RJ 17 [(0, .ref o0), (1, .int (I r2 1)), (2, .int (x2 + 1))] [] (zx_u2 I o0 9 ((I o0 9) + 1))) :
    zy_X l d cc sc M_Main_rescue Z K RJ 72 [(0, .ref o0), (1, .int x1), (2, .int x2)] [] I := by
  refine zx_aload_n d_Main_rescue_72 rfl ?_
  refine zx_dup_a d_Main_rescue_73 ?_
  refine zi_getI f_Main_66 q1 (by decide) d_Main_rescue_74 ?_
  refine zx_iconst d_Main_rescue_77 zc_1 ?_
  refine zx_iadd d_Main_rescue_78 ?_
  refine zi_putI f_Main_66 q1 (by decide) d_Main_rescue_79 ?_
  refine zx_aload_n d_Main_rescue_82 rfl ?_
  refine zi_getR f_Main_29 q1 (by decide) e3 z4 d_Main_rescue_83 ?_
  refine zi_getIe f_Main_165 q5 (by decide) (zx_u2_o q1 q5 (by decide)) d_Main_rescue_86 ?_
  refine zx_istore_n (L2 := [(0, .ref o0), (1, .int (I r2 1)), (2, .int x2)]) d_Main_rescue_89 (Nat.le_of_ble_eq_true rfl) rfl ?_
  refine zx_iinc (L2 := [(0, .ref o0), (1, .int (I r2 1)), (2, .int (x2 + 1))]) d_Main_rescue_90 rfl (Nat.le_of_ble_eq_true rfl) zc_1 rfl ?_
  refine zx_goto (tgt := 17) d_Main_rescue_93 rfl ?_
  exact k
set_option maxRecDepth 20000 in
theorem y_Main_out_0 (l : Launch) (d : Nat) {K : zx_Kt} {RJ : zx_RJ} {Z : zx_Zt} {cc sc : Nat} {I : zi_I} (o0 : Nat) (x1 : Int32) (q1 : (K.2 o0).1 = 5) {r2 : Nat} (e3 : RJ.1 o0 1 = r2) (z4 : r2 ≠ 0) (q5 : (K.2 r2).1 = 16)
    (k : ((x1 < 0) → zy_X l d cc sc M_Main_out Z K RJ 15 [(0, .ref o0), (1, .int x1)] [] I) ∧ ((¬ x1 < 0) → ((x1 < (I r2 1)) → zi_C l (zx_rm d 0 0) M_Row_get [.ref r2, .int x1] K RJ I (fun r I6 => ∃ v7, r = some (.int v7) ∧ zy_X l d cc sc M_Main_out Z K RJ 33 [(0, .ref o0), (1, .int x1)] [.int v7] I6)) ∧ ((¬ x1 < (I r2 1)) → zy_X l d cc sc M_Main_out Z K RJ 15 [(0, .ref o0), (1, .int x1)] [] I))) :
    zy_X l d cc sc M_Main_out Z K RJ 0 [(0, .ref o0), (1, .int x1)] [] I := by
  refine zx_iload_n d_Main_out_0 rfl ?_
  refine zx_if_lt (tgt := 15) d_Main_out_1 rfl (fun c => ?_) (fun c => ?_)
  · have k := k.1 c
    exact k
  · have k := k.2 c
    refine zx_iload_n d_Main_out_4 rfl ?_
    refine zx_aload_n d_Main_out_5 rfl ?_
    refine zi_getR f_Main_18 q1 (by decide) e3 z4 d_Main_out_6 ?_
    refine zi_getI f_Main_95 q5 (by decide) d_Main_out_9 ?_
    refine zx_icmp_lt (tgt := 25) d_Main_out_12 rfl (fun c => ?_) (fun c => ?_)
    · have k := k.1 c
      refine zx_aload_n d_Main_out_25 rfl ?_
      refine zi_getR f_Main_18 q1 (by decide) e3 z4 d_Main_out_26 ?_
      refine zx_iload_n d_Main_out_29 rfl ?_
      refine zi_callV (hC := k) k_Main_174 q5 (by decide) rfl rfl (Nat.le_of_ble_eq_true rfl) (Nat.le_of_ble_eq_true rfl) d_Main_out_30 (fun r I6 k => ?_)
      obtain ⟨v7, rfl, k⟩ := k
      exact k
    · have k := k.2 c
      exact k
set_option maxRecDepth 20000 in
theorem y_Main_block_0 (l : Launch) (d : Nat) {K : zx_Kt} {RJ : zx_RJ} {Z : zx_Zt} {cc sc : Nat} {I : zi_I} (o0 : Nat) (x1 : Int32) (q1 : (K.2 o0).1 = 5)
    (k : ((¬ (I o0 9) = 0) → zy_X l d cc sc M_Main_block Z K RJ 10 [(0, .ref o0), (1, .int x1)] [.int x1] I) ∧ (((I o0 9) = 0) → zy_X l d cc sc M_Main_block Z K RJ 8 [(0, .ref o0), (1, .int x1)] [.int ((-1))] I)) :
    zy_X l d cc sc M_Main_block Z K RJ 0 [(0, .ref o0), (1, .int x1)] [] I := by
  refine zx_aload_n d_Main_block_0 rfl ?_
  refine zi_getI f_Main_66 q1 (by decide) d_Main_block_1 ?_
  refine zx_if_ne (tgt := 9) d_Main_block_4 rfl (fun c => ?_) (fun c => ?_)
  · have k := k.1 c
    refine zx_iload_n d_Main_block_9 rfl ?_
    exact k
  · have k := k.2 c
    refine zx_iconst d_Main_block_7 zc_m1 ?_
    exact k
set_option maxRecDepth 20000 in
theorem y_Main_block_44 (l : Launch) (d : Nat) {K : zx_Kt} {RJ : zx_RJ} {Z : zx_Zt} {cc sc : Nat} {I : zi_I} (o0 : Nat) (x1 : Int32) (q1 : (K.2 o0).1 = 5) {r2 : Nat} (e3 : RJ.1 o0 7 = r2) (z4 : r2 ≠ 0) (q5 : (K.2 r2).1 = 9)
    (k : zy_X l d cc sc M_Main_block Z K RJ 51 [(0, .ref o0), (1, .int x1)] [.int (I r2 1)] I) :
    zy_X l d cc sc M_Main_block Z K RJ 44 [(0, .ref o0), (1, .int x1)] [] I := by
  refine zx_aload_n d_Main_block_44 rfl ?_
  refine zi_getR f_Main_59 q1 (by decide) e3 z4 d_Main_block_45 ?_
  refine zi_getI f_Main_178 q5 (by decide) d_Main_block_48 ?_
  exact k
set_option maxRecDepth 20000 in
theorem y_Main_block_52 (l : Launch) (d : Nat) {K : zx_Kt} {RJ : zx_RJ} {Z : zx_Zt} {cc sc : Nat} {I : zi_I} (o0 : Nat) (x1 : Int32) (q1 : (K.2 o0).1 = 5) {r2 : Nat} (e3 : RJ.1 o0 7 = r2) (z4 : r2 ≠ 0) (q5 : (K.2 r2).1 = 9)
    (k : zy_X l d cc sc M_Main_block Z K RJ 59 [(0, .ref o0), (1, .int x1)] [.int (I r2 2)] I) :
    zy_X l d cc sc M_Main_block Z K RJ 52 [(0, .ref o0), (1, .int x1)] [] I := by
  refine zx_aload_n d_Main_block_52 rfl ?_
  refine zi_getR f_Main_59 q1 (by decide) e3 z4 d_Main_block_53 ?_
  refine zi_getI f_Main_181 q5 (by decide) d_Main_block_56 ?_
  exact k
set_option maxRecDepth 20000 in
theorem y_Main_block_60 (l : Launch) (d : Nat) {K : zx_Kt} {RJ : zx_RJ} {Z : zx_Zt} {cc sc : Nat} {I : zi_I} (o0 : Nat) (x1 : Int32) (q1 : (K.2 o0).1 = 5) {r2 : Nat} (e3 : RJ.1 o0 7 = r2) (z4 : r2 ≠ 0) (q5 : (K.2 r2).1 = 9)
    (k : zy_X l d cc sc M_Main_block Z K RJ 67 [(0, .ref o0), (1, .int x1)] [.int (I r2 7)] I) :
    zy_X l d cc sc M_Main_block Z K RJ 60 [(0, .ref o0), (1, .int x1)] [] I := by
  refine zx_aload_n d_Main_block_60 rfl ?_
  refine zi_getR f_Main_59 q1 (by decide) e3 z4 d_Main_block_61 ?_
  refine zi_getI f_Main_182 q5 (by decide) d_Main_block_64 ?_
  exact k
set_option maxRecDepth 20000 in
theorem y_Main_block_68 (l : Launch) (d : Nat) {K : zx_Kt} {RJ : zx_RJ} {Z : zx_Zt} {cc sc : Nat} {I : zi_I} (o0 : Nat) (x1 : Int32) (q1 : (K.2 o0).1 = 5) {r2 : Nat} (e3 : RJ.1 o0 7 = r2) (z4 : r2 ≠ 0) (q5 : (K.2 r2).1 = 9)
    (k : zy_X l d cc sc M_Main_block Z K RJ 75 [(0, .ref o0), (1, .int x1)] [.int (I r2 9)] I) :
    zy_X l d cc sc M_Main_block Z K RJ 68 [(0, .ref o0), (1, .int x1)] [] I := by
  refine zx_aload_n d_Main_block_68 rfl ?_
  refine zi_getR f_Main_59 q1 (by decide) e3 z4 d_Main_block_69 ?_
  refine zi_getI f_Main_185 q5 (by decide) d_Main_block_72 ?_
  exact k
set_option maxRecDepth 20000 in
theorem y_Main_block_76 (l : Launch) (d : Nat) {K : zx_Kt} {RJ : zx_RJ} {Z : zx_Zt} {cc sc : Nat} {I : zi_I} (o0 : Nat) (x1 : Int32) (q1 : (K.2 o0).1 = 5) {r2 : Nat} (e3 : RJ.1 o0 7 = r2) (z4 : r2 ≠ 0) (q5 : (K.2 r2).1 = 9)
    (k : zy_X l d cc sc M_Main_block Z K RJ 83 [(0, .ref o0), (1, .int x1)] [.int (I r2 0)] I) :
    zy_X l d cc sc M_Main_block Z K RJ 76 [(0, .ref o0), (1, .int x1)] [] I := by
  refine zx_aload_n d_Main_block_76 rfl ?_
  refine zi_getR f_Main_59 q1 (by decide) e3 z4 d_Main_block_77 ?_
  refine zi_getI f_Main_127 q5 (by decide) d_Main_block_80 ?_
  exact k
set_option maxRecDepth 20000 in
theorem y_Main_block_84 (l : Launch) (d : Nat) {K : zx_Kt} {RJ : zx_RJ} {Z : zx_Zt} {cc sc : Nat} {I : zi_I} (o0 : Nat) (x1 : Int32) 
    (k : zy_X l d cc sc M_Main_block Z K RJ 85 [(0, .ref o0), (1, .int x1)] [.int ((-1))] I) :
    zy_X l d cc sc M_Main_block Z K RJ 84 [(0, .ref o0), (1, .int x1)] [] I := by
  refine zx_iconst d_Main_block_84 zc_m1 ?_
  exact k
