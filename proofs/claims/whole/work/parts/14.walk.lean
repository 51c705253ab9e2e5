/-! Regions of methods between loop heads: written by wip/whole/gen. -/
set_option maxRecDepth 20000 in
theorem r_Mod_thrown_0 (l : Launch) (d : Nat) {K : zx_Kt} {RJ : zx_RJ} {Q : zi_Q} {I : zi_I} (o0 : Nat) (q1 : (K.2 o0).1 = 6)
    (k : Q (some (.int (I o0 0))) I) :
    zi_X l (zx_rm d 0 0) M_Mod_thrown K RJ Q 0 [(0, .ref o0)] [] I := by
  refine zx_aload_n d_Mod_thrown_0 rfl ?_
  refine zi_getI f_Mod_75 q1 (by decide) d_Mod_thrown_1 ?_
  exact zi_iret d_Mod_thrown_4 rfl k
set_option maxRecDepth 20000 in
theorem r_Mod_feed_0 (l : Launch) (d : Nat) {K : zx_Kt} {RJ : zx_RJ} {Q : zi_Q} {I : zi_I} (o0 : Nat) (w1 : Int64) (x3 : Int32) (q1 : (K.2 o0).1 = 6)
    (k : ((x3 < 1) → (((1 : Int32) = 0) → zi_X l (zx_rm d 0 0) M_Mod_feed K RJ Q 50 [(0, .ref o0), (1, .long w1), (3, .int x3), (4, .int (x3 - 1))] [] (zx_u2 I o0 0 1)) ∧ ((¬ (1 : Int32) = 0) → Q (some (.int 0)) (zx_u2 I o0 0 1))) ∧ ((¬ x3 < 1) → ((x3 ≤ 8) → ((((I o0 1) + x3) ≤ 400) → (((0 : Int32) = 0) → zi_X l (zx_rm d 0 0) M_Mod_feed K RJ Q 50 [(0, .ref o0), (1, .long w1), (3, .int x3), (4, .int (x3 - 1))] [] (zx_u2 I o0 0 0)) ∧ ((¬ (0 : Int32) = 0) → Q (some (.int 0)) (zx_u2 I o0 0 0))) ∧ ((¬ ((I o0 1) + x3) ≤ 400) → (((2 : Int32) = 0) → zi_X l (zx_rm d 0 0) M_Mod_feed K RJ Q 50 [(0, .ref o0), (1, .long w1), (3, .int x3), (4, .int (x3 - 1))] [] (zx_u2 I o0 0 2)) ∧ ((¬ (2 : Int32) = 0) → Q (some (.int 0)) (zx_u2 I o0 0 2)))) ∧ ((¬ x3 ≤ 8) → (((1 : Int32) = 0) → zi_X l (zx_rm d 0 0) M_Mod_feed K RJ Q 50 [(0, .ref o0), (1, .long w1), (3, .int x3), (4, .int (x3 - 1))] [] (zx_u2 I o0 0 1)) ∧ ((¬ (1 : Int32) = 0) → Q (some (.int 0)) (zx_u2 I o0 0 1))))) :
    zi_X l (zx_rm d 0 0) M_Mod_feed K RJ Q 0 [(0, .ref o0), (1, .long w1), (3, .int x3)] [] I := by
  refine zx_aload_n d_Mod_feed_0 rfl ?_
  refine zx_iload_n d_Mod_feed_1 rfl ?_
  refine zx_iconst d_Mod_feed_2 zc_1 ?_
  refine zx_icmp_lt (tgt := 12) d_Mod_feed_3 rfl (fun c => ?_) (fun c => ?_)
  · have k := k.1 c
    refine zx_iconst d_Mod_feed_12 zc_1 ?_
    refine zx_goto (tgt := 33) d_Mod_feed_13 rfl ?_
    refine zi_putI f_Mod_75 q1 (by decide) d_Mod_feed_33 ?_
    refine zx_aload_n d_Mod_feed_36 rfl ?_
    refine zi_getIe f_Mod_75 q1 (by decide) zx_u2_s d_Mod_feed_37 ?_
    refine zx_if_eq (tgt := 45) d_Mod_feed_40 rfl (fun c => ?_) (fun c => ?_)
    · have k := k.1 c
      refine zx_iload_n d_Mod_feed_45 rfl ?_
      refine zx_iconst d_Mod_feed_46 zc_1 ?_
      refine zx_isub d_Mod_feed_47 ?_
      refine zx_istore (L2 := [(0, .ref o0), (1, .long w1), (3, .int x3), (4, .int (x3 - 1))]) d_Mod_feed_48 (Nat.le_of_ble_eq_true rfl) rfl ?_
      exact k
    · have k := k.2 c
      refine zx_iconst d_Mod_feed_43 zc_0 ?_
      exact zi_iret d_Mod_feed_44 rfl k
  · have k := k.2 c
    refine zx_iload_n d_Mod_feed_6 rfl ?_
    refine zx_bipush d_Mod_feed_7 zb_8 ?_
    refine zx_icmp_le (tgt := 16) d_Mod_feed_9 rfl (fun c => ?_) (fun c => ?_)
    · have k := k.1 c
      refine zx_aload_n d_Mod_feed_16 rfl ?_
      refine zi_getI f_Mod_78 q1 (by decide) d_Mod_feed_17 ?_
      refine zx_iload_n d_Mod_feed_20 rfl ?_
      refine zx_iadd d_Mod_feed_21 ?_
      refine zx_sipush d_Mod_feed_22 zs_400 ?_
      refine zx_icmp_le (tgt := 32) d_Mod_feed_25 rfl (fun c => ?_) (fun c => ?_)
      · have k := k.1 c
        refine zx_iconst d_Mod_feed_32 zc_0 ?_
        refine zi_putI f_Mod_75 q1 (by decide) d_Mod_feed_33 ?_
        refine zx_aload_n d_Mod_feed_36 rfl ?_
        refine zi_getIe f_Mod_75 q1 (by decide) zx_u2_s d_Mod_feed_37 ?_
        refine zx_if_eq (tgt := 45) d_Mod_feed_40 rfl (fun c => ?_) (fun c => ?_)
        · have k := k.1 c
          refine zx_iload_n d_Mod_feed_45 rfl ?_
          refine zx_iconst d_Mod_feed_46 zc_1 ?_
          refine zx_isub d_Mod_feed_47 ?_
          refine zx_istore (L2 := [(0, .ref o0), (1, .long w1), (3, .int x3), (4, .int (x3 - 1))]) d_Mod_feed_48 (Nat.le_of_ble_eq_true rfl) rfl ?_
          exact k
        · have k := k.2 c
          refine zx_iconst d_Mod_feed_43 zc_0 ?_
          exact zi_iret d_Mod_feed_44 rfl k
      · have k := k.2 c
        refine zx_iconst d_Mod_feed_28 zc_2 ?_
        refine zx_goto (tgt := 33) d_Mod_feed_29 rfl ?_
        refine zi_putI f_Mod_75 q1 (by decide) d_Mod_feed_33 ?_
        refine zx_aload_n d_Mod_feed_36 rfl ?_
        refine zi_getIe f_Mod_75 q1 (by decide) zx_u2_s d_Mod_feed_37 ?_
        refine zx_if_eq (tgt := 45) d_Mod_feed_40 rfl (fun c => ?_) (fun c => ?_)
        · have k := k.1 c
          refine zx_iload_n d_Mod_feed_45 rfl ?_
          refine zx_iconst d_Mod_feed_46 zc_1 ?_
          refine zx_isub d_Mod_feed_47 ?_
          refine zx_istore (L2 := [(0, .ref o0), (1, .long w1), (3, .int x3), (4, .int (x3 - 1))]) d_Mod_feed_48 (Nat.le_of_ble_eq_true rfl) rfl ?_
          exact k
        · have k := k.2 c
          refine zx_iconst d_Mod_feed_43 zc_0 ?_
          exact zi_iret d_Mod_feed_44 rfl k
    · have k := k.2 c
      refine zx_iconst d_Mod_feed_12 zc_1 ?_
      refine zx_goto (tgt := 33) d_Mod_feed_13 rfl ?_
      refine zi_putI f_Mod_75 q1 (by decide) d_Mod_feed_33 ?_
      refine zx_aload_n d_Mod_feed_36 rfl ?_
      refine zi_getIe f_Mod_75 q1 (by decide) zx_u2_s d_Mod_feed_37 ?_
      refine zx_if_eq (tgt := 45) d_Mod_feed_40 rfl (fun c => ?_) (fun c => ?_)
      · have k := k.1 c
        refine zx_iload_n d_Mod_feed_45 rfl ?_
        refine zx_iconst d_Mod_feed_46 zc_1 ?_
        refine zx_isub d_Mod_feed_47 ?_
        refine zx_istore (L2 := [(0, .ref o0), (1, .long w1), (3, .int x3), (4, .int (x3 - 1))]) d_Mod_feed_48 (Nat.le_of_ble_eq_true rfl) rfl ?_
        exact k
      · have k := k.2 c
        refine zx_iconst d_Mod_feed_43 zc_0 ?_
        exact zi_iret d_Mod_feed_44 rfl k
set_option maxRecDepth 20000 in
theorem r_Mod_feed_50 (l : Launch) (d : Nat) {K : zx_Kt} {RJ : zx_RJ} {Q : zi_Q} {I : zi_I} (o0 : Nat) (w1 : Int64) (x3 : Int32) (x4 : Int32) (q1 : (K.2 o0).1 = 6) {r2 : Nat} (e3 : RJ.1 o0 2 = r2) (z4 : r2 ≠ 0) {n6 : Nat} (a5 : K.2 r2 = (0, n6))
    (k : ((x4 < 0) → Q (some (.int (I o0 1))) I) ∧ ((¬ x4 < 0) → ∃ j7, I o0 1 = nI j7 ∧ j7 < n6 ∧ zi_X l (zx_rm d 0 0) M_Mod_feed K RJ Q 50 [(0, .ref o0), (1, .long w1), (3, .int x3), (4, .int (x4 + (-1)))] [] (zx_u2 (zx_u2 I r2 j7 (((((w1 : Int64).toUInt64 >>> (((8 * x4) : Int32).toInt64.toUInt64 &&& Int64.toUInt64 63)).toInt64) &&& 255 : Int64).toInt32)) o0 1 ((I o0 1) + 1)))) :
    zi_X l (zx_rm d 0 0) M_Mod_feed K RJ Q 50 [(0, .ref o0), (1, .long w1), (3, .int x3), (4, .int x4)] [] I := by
  refine zx_iload d_Mod_feed_50 rfl ?_
  refine zx_if_lt (tgt := 92) d_Mod_feed_52 rfl (fun c => ?_) (fun c => ?_)
  · have k := k.1 c
    refine zx_aload_n d_Mod_feed_92 rfl ?_
    refine zi_getI f_Mod_78 q1 (by decide) d_Mod_feed_93 ?_
    exact zi_iret d_Mod_feed_96 rfl k
  · have k := k.2 c
    refine zx_aload_n d_Mod_feed_55 rfl ?_
    refine zi_getR f_Mod_7 q1 (by decide) e3 z4 d_Mod_feed_56 ?_
    refine zx_aload_n d_Mod_feed_59 rfl ?_
    refine zi_getI f_Mod_78 q1 (by decide) d_Mod_feed_60 ?_
    refine zx_lload_n d_Mod_feed_63 rfl ?_
    refine zx_bipush d_Mod_feed_64 zb_8 ?_
    refine zx_iload d_Mod_feed_66 rfl ?_
    refine zx_imul d_Mod_feed_68 ?_
    refine zx_lushr d_Mod_feed_69 ?_
    refine zx_ldc2 w_Mod_81 d_Mod_feed_70 ?_
    refine zx_land d_Mod_feed_73 ?_
    refine zx_l2i d_Mod_feed_74 ?_
    obtain ⟨j7, e8, b9, k⟩ := k
    refine zi_iast j7 a5 e8 b9 d_Mod_feed_75 ?_
    refine zx_aload_n d_Mod_feed_76 rfl ?_
    refine zx_dup_a d_Mod_feed_77 ?_
    refine zi_getIe f_Mod_78 q1 (by decide) (zx_u2_a a5 q1 (by decide)) d_Mod_feed_78 ?_
    refine zx_iconst d_Mod_feed_81 zc_1 ?_
    refine zx_iadd d_Mod_feed_82 ?_
    refine zi_putI f_Mod_78 q1 (by decide) d_Mod_feed_83 ?_
    refine zx_iinc (L2 := [(0, .ref o0), (1, .long w1), (3, .int x3), (4, .int (x4 + (-1)))]) d_Mod_feed_86 rfl (Nat.le_of_ble_eq_true rfl) zc_m1 rfl ?_
    refine zx_goto (tgt := 50) d_Mod_feed_89 rfl ?_
    exact k
set_option maxRecDepth 20000 in
theorem r_Mod_keep_0 (l : Launch) (d : Nat) {K : zx_Kt} {RJ : zx_RJ} {Q : zi_Q} {I : zi_I} (o0 : Nat) (x1 : Int32) (q1 : (K.2 o0).1 = 6)
    (k : ((x1 < 0) → ((¬ (1 : Int32) = 0) → Q none (zx_u2 (zx_u2 I o0 0 1) o0 1 (I o0 1))) ∧ (((1 : Int32) = 0) → Q none (zx_u2 (zx_u2 I o0 0 1) o0 1 x1))) ∧ ((¬ x1 < 0) → ((x1 ≤ (I o0 1)) → ((¬ (0 : Int32) = 0) → Q none (zx_u2 (zx_u2 I o0 0 0) o0 1 (I o0 1))) ∧ (((0 : Int32) = 0) → Q none (zx_u2 (zx_u2 I o0 0 0) o0 1 x1))) ∧ ((¬ x1 ≤ (I o0 1)) → ((¬ (1 : Int32) = 0) → Q none (zx_u2 (zx_u2 I o0 0 1) o0 1 (I o0 1))) ∧ (((1 : Int32) = 0) → Q none (zx_u2 (zx_u2 I o0 0 1) o0 1 x1))))) :
    zi_X l (zx_rm d 0 0) M_Mod_keep K RJ Q 0 [(0, .ref o0), (1, .int x1)] [] I := by
  refine zx_aload_n d_Mod_keep_0 rfl ?_
  refine zx_iload_n d_Mod_keep_1 rfl ?_
  refine zx_if_lt (tgt := 13) d_Mod_keep_2 rfl (fun c => ?_) (fun c => ?_)
  · have k := k.1 c
    refine zx_iconst d_Mod_keep_13 zc_1 ?_
    refine zx_goto (tgt := 18) d_Mod_keep_14 rfl ?_
    refine zi_putI f_Mod_75 q1 (by decide) d_Mod_keep_18 ?_
    refine zx_aload_n d_Mod_keep_21 rfl ?_
    refine zx_aload_n d_Mod_keep_22 rfl ?_
    refine zi_getIe f_Mod_75 q1 (by decide) zx_u2_s d_Mod_keep_23 ?_
    refine zx_if_ne (tgt := 33) d_Mod_keep_26 rfl (fun c => ?_) (fun c => ?_)
    · have k := k.1 c
      refine zx_aload_n d_Mod_keep_33 rfl ?_
      refine zi_getIe f_Mod_78 q1 (by decide) (zx_u2_k (by decide)) d_Mod_keep_34 ?_
      refine zi_putI f_Mod_78 q1 (by decide) d_Mod_keep_37 ?_
      exact zi_vret d_Mod_keep_40 rfl k
    · have k := k.2 c
      refine zx_iload_n d_Mod_keep_29 rfl ?_
      refine zx_goto (tgt := 37) d_Mod_keep_30 rfl ?_
      refine zi_putI f_Mod_78 q1 (by decide) d_Mod_keep_37 ?_
      exact zi_vret d_Mod_keep_40 rfl k
  · have k := k.2 c
    refine zx_iload_n d_Mod_keep_5 rfl ?_
    refine zx_aload_n d_Mod_keep_6 rfl ?_
    refine zi_getI f_Mod_78 q1 (by decide) d_Mod_keep_7 ?_
    refine zx_icmp_le (tgt := 17) d_Mod_keep_10 rfl (fun c => ?_) (fun c => ?_)
    · have k := k.1 c
      refine zx_iconst d_Mod_keep_17 zc_0 ?_
      refine zi_putI f_Mod_75 q1 (by decide) d_Mod_keep_18 ?_
      refine zx_aload_n d_Mod_keep_21 rfl ?_
      refine zx_aload_n d_Mod_keep_22 rfl ?_
      refine zi_getIe f_Mod_75 q1 (by decide) zx_u2_s d_Mod_keep_23 ?_
      refine zx_if_ne (tgt := 33) d_Mod_keep_26 rfl (fun c => ?_) (fun c => ?_)
      · have k := k.1 c
        refine zx_aload_n d_Mod_keep_33 rfl ?_
        refine zi_getIe f_Mod_78 q1 (by decide) (zx_u2_k (by decide)) d_Mod_keep_34 ?_
        refine zi_putI f_Mod_78 q1 (by decide) d_Mod_keep_37 ?_
        exact zi_vret d_Mod_keep_40 rfl k
      · have k := k.2 c
        refine zx_iload_n d_Mod_keep_29 rfl ?_
        refine zx_goto (tgt := 37) d_Mod_keep_30 rfl ?_
        refine zi_putI f_Mod_78 q1 (by decide) d_Mod_keep_37 ?_
        exact zi_vret d_Mod_keep_40 rfl k
    · have k := k.2 c
      refine zx_iconst d_Mod_keep_13 zc_1 ?_
      refine zx_goto (tgt := 18) d_Mod_keep_14 rfl ?_
      refine zi_putI f_Mod_75 q1 (by decide) d_Mod_keep_18 ?_
      refine zx_aload_n d_Mod_keep_21 rfl ?_
      refine zx_aload_n d_Mod_keep_22 rfl ?_
      refine zi_getIe f_Mod_75 q1 (by decide) zx_u2_s d_Mod_keep_23 ?_
      refine zx_if_ne (tgt := 33) d_Mod_keep_26 rfl (fun c => ?_) (fun c => ?_)
      · have k := k.1 c
        refine zx_aload_n d_Mod_keep_33 rfl ?_
        refine zi_getIe f_Mod_78 q1 (by decide) (zx_u2_k (by decide)) d_Mod_keep_34 ?_
        refine zi_putI f_Mod_78 q1 (by decide) d_Mod_keep_37 ?_
        exact zi_vret d_Mod_keep_40 rfl k
      · have k := k.2 c
        refine zx_iload_n d_Mod_keep_29 rfl ?_
        refine zx_goto (tgt := 37) d_Mod_keep_30 rfl ?_
        refine zi_putI f_Mod_78 q1 (by decide) d_Mod_keep_37 ?_
        exact zi_vret d_Mod_keep_40 rfl k
set_option maxRecDepth 20000 in
theorem r_Mod_damage_0 (l : Launch) (d : Nat) {K : zx_Kt} {RJ : zx_RJ} {Q : zi_Q} {I : zi_I} (o0 : Nat) (x1 : Int32) (q1 : (K.2 o0).1 = 6) {r2 : Nat} (e3 : RJ.1 o0 2 = r2) (z4 : r2 ≠ 0) {n6 : Nat} (a5 : K.2 r2 = (0, n6))
    (k : ((x1 < 0) → ((¬ (1 : Int32) = 0) → Q none (zx_u2 I o0 0 1)) ∧ (((1 : Int32) = 0) → ∃ j7, x1 / 8 = nI j7 ∧ j7 < n6 ∧ ∃ j10, x1 / 8 = nI j10 ∧ j10 < n6 ∧ Q none (zx_u2 (zx_u2 I o0 0 1) r2 j10 (((zx_u2 I o0 0 1) r2 j7) ^^^ ((128 : Int32) >>> (((x1 - x1 / 8 * 8) : Int32) &&& 31)))))) ∧ ((¬ x1 < 0) → ((x1 < (8 * (I o0 1))) → ((¬ (0 : Int32) = 0) → Q none (zx_u2 I o0 0 0)) ∧ (((0 : Int32) = 0) → ∃ j13, x1 / 8 = nI j13 ∧ j13 < n6 ∧ ∃ j16, x1 / 8 = nI j16 ∧ j16 < n6 ∧ Q none (zx_u2 (zx_u2 I o0 0 0) r2 j16 (((zx_u2 I o0 0 0) r2 j13) ^^^ ((128 : Int32) >>> (((x1 - x1 / 8 * 8) : Int32) &&& 31)))))) ∧ ((¬ x1 < (8 * (I o0 1))) → ((¬ (1 : Int32) = 0) → Q none (zx_u2 I o0 0 1)) ∧ (((1 : Int32) = 0) → ∃ j19, x1 / 8 = nI j19 ∧ j19 < n6 ∧ ∃ j22, x1 / 8 = nI j22 ∧ j22 < n6 ∧ Q none (zx_u2 (zx_u2 I o0 0 1) r2 j22 (((zx_u2 I o0 0 1) r2 j19) ^^^ ((128 : Int32) >>> (((x1 - x1 / 8 * 8) : Int32) &&& 31)))))))) :
    zi_X l (zx_rm d 0 0) M_Mod_damage K RJ Q 0 [(0, .ref o0), (1, .int x1)] [] I := by
  refine zx_aload_n d_Mod_damage_0 rfl ?_
  refine zx_iload_n d_Mod_damage_1 rfl ?_
  refine zx_if_lt (tgt := 16) d_Mod_damage_2 rfl (fun c => ?_) (fun c => ?_)
  · have k := k.1 c
    refine zx_iconst d_Mod_damage_16 zc_1 ?_
    refine zx_goto (tgt := 21) d_Mod_damage_17 rfl ?_
    refine zi_putI f_Mod_75 q1 (by decide) d_Mod_damage_21 ?_
    refine zx_aload_n d_Mod_damage_24 rfl ?_
    refine zi_getIe f_Mod_75 q1 (by decide) zx_u2_s d_Mod_damage_25 ?_
    refine zx_if_ne (tgt := 51) d_Mod_damage_28 rfl (fun c => ?_) (fun c => ?_)
    · have k := k.1 c
      exact zi_vret d_Mod_damage_51 rfl k
    · have k := k.2 c
      refine zx_aload_n d_Mod_damage_31 rfl ?_
      refine zi_getR f_Mod_7 q1 (by decide) e3 z4 d_Mod_damage_32 ?_
      refine zx_iload_n d_Mod_damage_35 rfl ?_
      refine zx_bipush d_Mod_damage_36 zb_8 ?_
      refine zx_idiv d_Mod_damage_38 (by decide) ?_
      refine zx_dup2_ai d_Mod_damage_39 ?_
      obtain ⟨j7, e8, b9, k⟩ := k
      refine zi_iald j7 a5 e8 b9 d_Mod_damage_40 ?_
      refine zx_sipush d_Mod_damage_41 zs_128 ?_
      refine zx_iload_n d_Mod_damage_44 rfl ?_
      refine zx_bipush d_Mod_damage_45 zb_8 ?_
      refine zx_irem d_Mod_damage_47 (by decide) ?_
      refine zx_ishr d_Mod_damage_48 ?_
      refine zx_ixor d_Mod_damage_49 ?_
      obtain ⟨j10, e11, b12, k⟩ := k
      refine zi_iast j10 a5 e11 b12 d_Mod_damage_50 ?_
      exact zi_vret d_Mod_damage_51 rfl k
  · have k := k.2 c
    refine zx_iload_n d_Mod_damage_5 rfl ?_
    refine zx_bipush d_Mod_damage_6 zb_8 ?_
    refine zx_aload_n d_Mod_damage_8 rfl ?_
    refine zi_getI f_Mod_78 q1 (by decide) d_Mod_damage_9 ?_
    refine zx_imul d_Mod_damage_12 ?_
    refine zx_icmp_lt (tgt := 20) d_Mod_damage_13 rfl (fun c => ?_) (fun c => ?_)
    · have k := k.1 c
      refine zx_iconst d_Mod_damage_20 zc_0 ?_
      refine zi_putI f_Mod_75 q1 (by decide) d_Mod_damage_21 ?_
      refine zx_aload_n d_Mod_damage_24 rfl ?_
      refine zi_getIe f_Mod_75 q1 (by decide) zx_u2_s d_Mod_damage_25 ?_
      refine zx_if_ne (tgt := 51) d_Mod_damage_28 rfl (fun c => ?_) (fun c => ?_)
      · have k := k.1 c
        exact zi_vret d_Mod_damage_51 rfl k
      · have k := k.2 c
        refine zx_aload_n d_Mod_damage_31 rfl ?_
        refine zi_getR f_Mod_7 q1 (by decide) e3 z4 d_Mod_damage_32 ?_
        refine zx_iload_n d_Mod_damage_35 rfl ?_
        refine zx_bipush d_Mod_damage_36 zb_8 ?_
        refine zx_idiv d_Mod_damage_38 (by decide) ?_
        refine zx_dup2_ai d_Mod_damage_39 ?_
        obtain ⟨j13, e14, b15, k⟩ := k
        refine zi_iald j13 a5 e14 b15 d_Mod_damage_40 ?_
        refine zx_sipush d_Mod_damage_41 zs_128 ?_
        refine zx_iload_n d_Mod_damage_44 rfl ?_
        refine zx_bipush d_Mod_damage_45 zb_8 ?_
        refine zx_irem d_Mod_damage_47 (by decide) ?_
        refine zx_ishr d_Mod_damage_48 ?_
        refine zx_ixor d_Mod_damage_49 ?_
        obtain ⟨j16, e17, b18, k⟩ := k
        refine zi_iast j16 a5 e17 b18 d_Mod_damage_50 ?_
        exact zi_vret d_Mod_damage_51 rfl k
    · have k := k.2 c
      refine zx_iconst d_Mod_damage_16 zc_1 ?_
      refine zx_goto (tgt := 21) d_Mod_damage_17 rfl ?_
      refine zi_putI f_Mod_75 q1 (by decide) d_Mod_damage_21 ?_
      refine zx_aload_n d_Mod_damage_24 rfl ?_
      refine zi_getIe f_Mod_75 q1 (by decide) zx_u2_s d_Mod_damage_25 ?_
      refine zx_if_ne (tgt := 51) d_Mod_damage_28 rfl (fun c => ?_) (fun c => ?_)
      · have k := k.1 c
        exact zi_vret d_Mod_damage_51 rfl k
      · have k := k.2 c
        refine zx_aload_n d_Mod_damage_31 rfl ?_
        refine zi_getR f_Mod_7 q1 (by decide) e3 z4 d_Mod_damage_32 ?_
        refine zx_iload_n d_Mod_damage_35 rfl ?_
        refine zx_bipush d_Mod_damage_36 zb_8 ?_
        refine zx_idiv d_Mod_damage_38 (by decide) ?_
        refine zx_dup2_ai d_Mod_damage_39 ?_
        obtain ⟨j19, e20, b21, k⟩ := k
        refine zi_iald j19 a5 e20 b21 d_Mod_damage_40 ?_
        refine zx_sipush d_Mod_damage_41 zs_128 ?_
        refine zx_iload_n d_Mod_damage_44 rfl ?_
        refine zx_bipush d_Mod_damage_45 zb_8 ?_
        refine zx_irem d_Mod_damage_47 (by decide) ?_
        refine zx_ishr d_Mod_damage_48 ?_
        refine zx_ixor d_Mod_damage_49 ?_
        obtain ⟨j22, e23, b24, k⟩ := k
        refine zi_iast j22 a5 e23 b24 d_Mod_damage_50 ?_
        exact zi_vret d_Mod_damage_51 rfl k
set_option maxRecDepth 20000 in
theorem r_Mod_append_0 (l : Launch) (d : Nat) {K : zx_Kt} {RJ : zx_RJ} {Q : zi_Q} {I : zi_I} (o0 : Nat) (q1 : (K.2 o0).1 = 6)
    (k : ((((I o0 1) + (I o0 3)) ≤ 400) → (((0 : Int32) = 0) → zi_X l (zx_rm d 0 0) M_Mod_append K RJ Q 35 [(0, .ref o0), (1, .int 0)] [] (zx_u2 I o0 0 0)) ∧ ((¬ (0 : Int32) = 0) → Q (some (.int 0)) (zx_u2 I o0 0 0))) ∧ ((¬ ((I o0 1) + (I o0 3)) ≤ 400) → (((1 : Int32) = 0) → zi_X l (zx_rm d 0 0) M_Mod_append K RJ Q 35 [(0, .ref o0), (1, .int 0)] [] (zx_u2 I o0 0 1)) ∧ ((¬ (1 : Int32) = 0) → Q (some (.int 0)) (zx_u2 I o0 0 1)))) :
    zi_X l (zx_rm d 0 0) M_Mod_append K RJ Q 0 [(0, .ref o0)] [] I := by
  refine zx_aload_n d_Mod_append_0 rfl ?_
  refine zx_aload_n d_Mod_append_1 rfl ?_
  refine zi_getI f_Mod_78 q1 (by decide) d_Mod_append_2 ?_
  refine zx_aload_n d_Mod_append_5 rfl ?_
  refine zi_getI f_Mod_83 q1 (by decide) d_Mod_append_6 ?_
  refine zx_iadd d_Mod_append_9 ?_
  refine zx_sipush d_Mod_append_10 zs_400 ?_
  refine zx_icmp_le (tgt := 20) d_Mod_append_13 rfl (fun c => ?_) (fun c => ?_)
  · have k := k.1 c
    refine zx_iconst d_Mod_append_20 zc_0 ?_
    refine zi_putI f_Mod_75 q1 (by decide) d_Mod_append_21 ?_
    refine zx_aload_n d_Mod_append_24 rfl ?_
    refine zi_getIe f_Mod_75 q1 (by decide) zx_u2_s d_Mod_append_25 ?_
    refine zx_if_eq (tgt := 33) d_Mod_append_28 rfl (fun c => ?_) (fun c => ?_)
    · have k := k.1 c
      refine zx_iconst d_Mod_append_33 zc_0 ?_
      refine zx_istore_n (L2 := [(0, .ref o0), (1, .int 0)]) d_Mod_append_34 (Nat.le_of_ble_eq_true rfl) rfl ?_
      exact k
    · have k := k.2 c
      refine zx_iconst d_Mod_append_31 zc_0 ?_
      exact zi_iret d_Mod_append_32 rfl k
  · have k := k.2 c
    refine zx_iconst d_Mod_append_16 zc_1 ?_
    refine zx_goto (tgt := 21) d_Mod_append_17 rfl ?_
    refine zi_putI f_Mod_75 q1 (by decide) d_Mod_append_21 ?_
    refine zx_aload_n d_Mod_append_24 rfl ?_
    refine zi_getIe f_Mod_75 q1 (by decide) zx_u2_s d_Mod_append_25 ?_
    refine zx_if_eq (tgt := 33) d_Mod_append_28 rfl (fun c => ?_) (fun c => ?_)
    · have k := k.1 c
      refine zx_iconst d_Mod_append_33 zc_0 ?_
      refine zx_istore_n (L2 := [(0, .ref o0), (1, .int 0)]) d_Mod_append_34 (Nat.le_of_ble_eq_true rfl) rfl ?_
      exact k
    · have k := k.2 c
      refine zx_iconst d_Mod_append_31 zc_0 ?_
      exact zi_iret d_Mod_append_32 rfl k
set_option maxRecDepth 20000 in
theorem r_Mod_append_35 (l : Launch) (d : Nat) {K : zx_Kt} {RJ : zx_RJ} {Q : zi_Q} {I : zi_I} (o0 : Nat) (x1 : Int32) (q1 : (K.2 o0).1 = 6) {r2 : Nat} (e3 : RJ.1 o0 2 = r2) (z4 : r2 ≠ 0) {r5 : Nat} (e6 : RJ.1 o0 4 = r5) (z7 : r5 ≠ 0) {n9 : Nat} (a8 : K.2 r5 = (0, n9)) {n14 : Nat} (a13 : K.2 r2 = (0, n14))
    (k : (((I o0 3) ≤ x1) → Q (some (.int ((I o0 1) + (I o0 3)))) (zx_u2 I o0 1 ((I o0 1) + (I o0 3)))) ∧ ((¬ (I o0 3) ≤ x1) → ∃ j10, x1 = nI j10 ∧ j10 < n9 ∧ ∃ j15, (I o0 1) + x1 = nI j15 ∧ j15 < n14 ∧ zi_X l (zx_rm d 0 0) M_Mod_append K RJ Q 35 [(0, .ref o0), (1, .int (x1 + 1))] [] (zx_u2 I r2 j15 (I r5 j10)))) :
    zi_X l (zx_rm d 0 0) M_Mod_append K RJ Q 35 [(0, .ref o0), (1, .int x1)] [] I := by
  refine zx_iload_n d_Mod_append_35 rfl ?_
  refine zx_aload_n d_Mod_append_36 rfl ?_
  refine zi_getI f_Mod_83 q1 (by decide) d_Mod_append_37 ?_
  refine zx_icmp_ge (tgt := 66) d_Mod_append_40 rfl (fun c => ?_) (fun c => ?_)
  · have k := k.1 c
    refine zx_aload_n d_Mod_append_66 rfl ?_
    refine zx_dup_a d_Mod_append_67 ?_
    refine zi_getI f_Mod_78 q1 (by decide) d_Mod_append_68 ?_
    refine zx_aload_n d_Mod_append_71 rfl ?_
    refine zi_getI f_Mod_83 q1 (by decide) d_Mod_append_72 ?_
    refine zx_iadd d_Mod_append_75 ?_
    refine zi_putI f_Mod_78 q1 (by decide) d_Mod_append_76 ?_
    refine zx_aload_n d_Mod_append_79 rfl ?_
    refine zi_getIe f_Mod_78 q1 (by decide) zx_u2_s d_Mod_append_80 ?_
    exact zi_iret d_Mod_append_83 rfl k
  · have k := k.2 c
    refine zx_aload_n d_Mod_append_43 rfl ?_
    refine zi_getR f_Mod_7 q1 (by decide) e3 z4 d_Mod_append_44 ?_
    refine zx_aload_n d_Mod_append_47 rfl ?_
    refine zi_getI f_Mod_78 q1 (by decide) d_Mod_append_48 ?_
    refine zx_iload_n d_Mod_append_51 rfl ?_
    refine zx_iadd d_Mod_append_52 ?_
    refine zx_aload_n d_Mod_append_53 rfl ?_
    refine zi_getR f_Mod_13 q1 (by decide) e6 z7 d_Mod_append_54 ?_
    refine zx_iload_n d_Mod_append_57 rfl ?_
    obtain ⟨j10, e11, b12, k⟩ := k
    refine zi_iald j10 a8 e11 b12 d_Mod_append_58 ?_
    obtain ⟨j15, e16, b17, k⟩ := k
    refine zi_iast j15 a13 e16 b17 d_Mod_append_59 ?_
    refine zx_iinc (L2 := [(0, .ref o0), (1, .int (x1 + 1))]) d_Mod_append_60 rfl (Nat.le_of_ble_eq_true rfl) zc_1 rfl ?_
    refine zx_goto (tgt := 35) d_Mod_append_63 rfl ?_
    exact k
set_option maxRecDepth 20000 in
theorem r_Mod_takeOver_0 (l : Launch) (d : Nat) {K : zx_Kt} {RJ : zx_RJ} {Q : zi_Q} {I : zi_I} (o0 : Nat) 
    (k : zi_X l (zx_rm d 0 0) M_Mod_takeOver K RJ Q 2 [(0, .ref o0), (1, .int 0)] [] I) :
    zi_X l (zx_rm d 0 0) M_Mod_takeOver K RJ Q 0 [(0, .ref o0)] [] I := by
  refine zx_iconst d_Mod_takeOver_0 zc_0 ?_
  refine zx_istore_n (L2 := [(0, .ref o0), (1, .int 0)]) d_Mod_takeOver_1 (Nat.le_of_ble_eq_true rfl) rfl ?_
  exact k
set_option maxRecDepth 20000 in
theorem r_Mod_takeOver_2 (l : Launch) (d : Nat) {K : zx_Kt} {RJ : zx_RJ} {Q : zi_Q} {I : zi_I} (o0 : Nat) (x1 : Int32) (q1 : (K.2 o0).1 = 6) {r2 : Nat} (e3 : RJ.1 o0 4 = r2) (z4 : r2 ≠ 0) {r5 : Nat} (e6 : RJ.1 o0 6 = r5) (z7 : r5 ≠ 0) {n9 : Nat} (a8 : K.2 r5 = (0, n9)) {n14 : Nat} (a13 : K.2 r2 = (0, n14))
    (k : (((I o0 5) ≤ x1) → Q none (zx_u2 I o0 3 (I o0 5))) ∧ ((¬ (I o0 5) ≤ x1) → ∃ j10, x1 = nI j10 ∧ j10 < n9 ∧ ∃ j15, x1 = nI j15 ∧ j15 < n14 ∧ zi_X l (zx_rm d 0 0) M_Mod_takeOver K RJ Q 2 [(0, .ref o0), (1, .int (x1 + 1))] [] (zx_u2 I r2 j15 (I r5 j10)))) :
    zi_X l (zx_rm d 0 0) M_Mod_takeOver K RJ Q 2 [(0, .ref o0), (1, .int x1)] [] I := by
  refine zx_iload_n d_Mod_takeOver_2 rfl ?_
  refine zx_aload_n d_Mod_takeOver_3 rfl ?_
  refine zi_getI f_Mod_86 q1 (by decide) d_Mod_takeOver_4 ?_
  refine zx_icmp_ge (tgt := 28) d_Mod_takeOver_7 rfl (fun c => ?_) (fun c => ?_)
  · have k := k.1 c
    refine zx_aload_n d_Mod_takeOver_28 rfl ?_
    refine zx_aload_n d_Mod_takeOver_29 rfl ?_
    refine zi_getI f_Mod_86 q1 (by decide) d_Mod_takeOver_30 ?_
    refine zi_putI f_Mod_83 q1 (by decide) d_Mod_takeOver_33 ?_
    exact zi_vret d_Mod_takeOver_36 rfl k
  · have k := k.2 c
    refine zx_aload_n d_Mod_takeOver_10 rfl ?_
    refine zi_getR f_Mod_13 q1 (by decide) e3 z4 d_Mod_takeOver_11 ?_
    refine zx_iload_n d_Mod_takeOver_14 rfl ?_
    refine zx_aload_n d_Mod_takeOver_15 rfl ?_
    refine zi_getR f_Mod_16 q1 (by decide) e6 z7 d_Mod_takeOver_16 ?_
    refine zx_iload_n d_Mod_takeOver_19 rfl ?_
    obtain ⟨j10, e11, b12, k⟩ := k
    refine zi_iald j10 a8 e11 b12 d_Mod_takeOver_20 ?_
    obtain ⟨j15, e16, b17, k⟩ := k
    refine zi_iast j15 a13 e16 b17 d_Mod_takeOver_21 ?_
    refine zx_iinc (L2 := [(0, .ref o0), (1, .int (x1 + 1))]) d_Mod_takeOver_22 rfl (Nat.le_of_ble_eq_true rfl) zc_1 rfl ?_
    refine zx_goto (tgt := 2) d_Mod_takeOver_25 rfl ?_
    exact k
set_option maxRecDepth 20000 in
theorem r_Mod_step_0 (l : Launch) (d : Nat) {K : zx_Kt} {RJ : zx_RJ} {Q : zi_Q} {I : zi_I} (x0 : Int32) (x1 : Int32) 
    (k : zi_X l (zx_rm d 0 0) M_Mod_step K RJ Q 9 [(0, .int x0), (1, .int x1), (2, .int (x0 ^^^ ((x1 : Int32) <<< ((8 : Int32) &&& 31)))), (3, .int 0)] [] I) :
    zi_X l (zx_rm d 0 0) M_Mod_step K RJ Q 0 [(0, .int x0), (1, .int x1)] [] I := by
  refine zx_iload_n d_Mod_step_0 rfl ?_
  refine zx_iload_n d_Mod_step_1 rfl ?_
  refine zx_bipush d_Mod_step_2 zb_8 ?_
  refine zx_ishl d_Mod_step_4 ?_
  refine zx_ixor d_Mod_step_5 ?_
  refine zx_istore_n (L2 := [(0, .int x0), (1, .int x1), (2, .int (x0 ^^^ ((x1 : Int32) <<< ((8 : Int32) &&& 31))))]) d_Mod_step_6 (Nat.le_of_ble_eq_true rfl) rfl ?_
  refine zx_iconst d_Mod_step_7 zc_0 ?_
  refine zx_istore_n (L2 := [(0, .int x0), (1, .int x1), (2, .int (x0 ^^^ ((x1 : Int32) <<< ((8 : Int32) &&& 31)))), (3, .int 0)]) d_Mod_step_8 (Nat.le_of_ble_eq_true rfl) rfl ?_
  exact k
set_option maxRecDepth 20000 in
theorem r_Mod_step_9 (l : Launch) (d : Nat) {K : zx_Kt} {RJ : zx_RJ} {Q : zi_Q} {I : zi_I} (x0 : Int32) (x1 : Int32) (x2 : Int32) (x3 : Int32) 
    (k : ((8 ≤ x3) → Q (some (.int x2)) I) ∧ ((¬ 8 ≤ x3) → (((x2 &&& 32768) = 0) → zi_X l (zx_rm d 0 0) M_Mod_step K RJ Q 9 [(0, .int x0), (1, .int x1), (2, .int (((x2 : Int32) <<< ((1 : Int32) &&& 31)) &&& 65535)), (3, .int (x3 + 1))] [] I) ∧ ((¬ (x2 &&& 32768) = 0) → zi_X l (zx_rm d 0 0) M_Mod_step K RJ Q 9 [(0, .int x0), (1, .int x1), (2, .int ((((x2 : Int32) <<< ((1 : Int32) &&& 31)) ^^^ 4129) &&& 65535)), (3, .int (x3 + 1))] [] I))) :
    zi_X l (zx_rm d 0 0) M_Mod_step K RJ Q 9 [(0, .int x0), (1, .int x1), (2, .int x2), (3, .int x3)] [] I := by
  refine zx_iload_n d_Mod_step_9 rfl ?_
  refine zx_bipush d_Mod_step_10 zb_8 ?_
  refine zx_icmp_ge (tgt := 48) d_Mod_step_12 rfl (fun c => ?_) (fun c => ?_)
  · have k := k.1 c
    refine zx_iload_n d_Mod_step_48 rfl ?_
    exact zi_iret d_Mod_step_49 rfl k
  · have k := k.2 c
    refine zx_iload_n d_Mod_step_15 rfl ?_
    refine zx_ldc w_Mod_89 d_Mod_step_16 ?_
    refine zx_iand d_Mod_step_18 ?_
    refine zx_if_eq (tgt := 35) d_Mod_step_19 rfl (fun c => ?_) (fun c => ?_)
    · have k := k.1 c
      refine zx_iload_n d_Mod_step_35 rfl ?_
      refine zx_iconst d_Mod_step_36 zc_1 ?_
      refine zx_ishl d_Mod_step_37 ?_
      refine zx_ldc w_Mod_90 d_Mod_step_38 ?_
      refine zx_iand d_Mod_step_40 ?_
      refine zx_istore_n (L2 := [(0, .int x0), (1, .int x1), (2, .int (((x2 : Int32) <<< ((1 : Int32) &&& 31)) &&& 65535)), (3, .int x3)]) d_Mod_step_41 (Nat.le_of_ble_eq_true rfl) rfl ?_
      refine zx_iinc (L2 := [(0, .int x0), (1, .int x1), (2, .int (((x2 : Int32) <<< ((1 : Int32) &&& 31)) &&& 65535)), (3, .int (x3 + 1))]) d_Mod_step_42 rfl (Nat.le_of_ble_eq_true rfl) zc_1 rfl ?_
      refine zx_goto (tgt := 9) d_Mod_step_45 rfl ?_
      exact k
    · have k := k.2 c
      refine zx_iload_n d_Mod_step_22 rfl ?_
      refine zx_iconst d_Mod_step_23 zc_1 ?_
      refine zx_ishl d_Mod_step_24 ?_
      refine zx_sipush d_Mod_step_25 zs_4129 ?_
      refine zx_ixor d_Mod_step_28 ?_
      refine zx_ldc w_Mod_90 d_Mod_step_29 ?_
      refine zx_iand d_Mod_step_31 ?_
      refine zx_goto (tgt := 41) d_Mod_step_32 rfl ?_
      refine zx_istore_n (L2 := [(0, .int x0), (1, .int x1), (2, .int ((((x2 : Int32) <<< ((1 : Int32) &&& 31)) ^^^ 4129) &&& 65535)), (3, .int x3)]) d_Mod_step_41 (Nat.le_of_ble_eq_true rfl) rfl ?_
      refine zx_iinc (L2 := [(0, .int x0), (1, .int x1), (2, .int ((((x2 : Int32) <<< ((1 : Int32) &&& 31)) ^^^ 4129) &&& 65535)), (3, .int (x3 + 1))]) d_Mod_step_42 rfl (Nat.le_of_ble_eq_true rfl) zc_1 rfl ?_
      refine zx_goto (tgt := 9) d_Mod_step_45 rfl ?_
      exact k
set_option maxRecDepth 20000 in
theorem r_Mod_checkOf_0 (l : Launch) (d : Nat) {K : zx_Kt} {RJ : zx_RJ} {Q : zi_Q} {I : zi_I} (o0 : Nat) 
    (k : zi_X l (zx_rm (d + 1) 0 0) M_Mod_checkOf K RJ Q 5 [(0, .ref o0), (1, .int 65535), (2, .int 0)] [] I) :
    zi_X l (zx_rm (d + 1) 0 0) M_Mod_checkOf K RJ Q 0 [(0, .ref o0)] [] I := by
  refine zx_ldc w_Mod_90 d_Mod_checkOf_0 ?_
  refine zx_istore_n (L2 := [(0, .ref o0), (1, .int 65535)]) d_Mod_checkOf_2 (Nat.le_of_ble_eq_true rfl) rfl ?_
  refine zx_iconst d_Mod_checkOf_3 zc_0 ?_
  refine zx_istore_n (L2 := [(0, .ref o0), (1, .int 65535), (2, .int 0)]) d_Mod_checkOf_4 (Nat.le_of_ble_eq_true rfl) rfl ?_
  exact k
set_option maxRecDepth 20000 in
theorem r_Mod_checkOf_5 (l : Launch) (d : Nat) {K : zx_Kt} {RJ : zx_RJ} {Q : zi_Q} {I : zi_I} (o0 : Nat) (x1 : Int32) (x2 : Int32) (q1 : (K.2 o0).1 = 6) {r2 : Nat} (e3 : RJ.1 o0 13 = r2) (z4 : r2 ≠ 0) {n6 : Nat} (a5 : K.2 r2 = (0, n6))
    (k : (((I o0 12) ≤ x2) → Q (some (.int x1)) I) ∧ ((¬ (I o0 12) ≤ x2) → ∃ j7, x2 = nI j7 ∧ j7 < n6 ∧ zi_C l (zx_rm d 0 0) M_Mod_step [.int x1, .int (I r2 j7)] K RJ I (fun r I10 => ∃ v11, r = some (.int v11) ∧ zi_X l (zx_rm (d + 1) 0 0) M_Mod_checkOf K RJ Q 5 [(0, .ref o0), (1, .int v11), (2, .int (x2 + 1))] [] I10))) :
    zi_X l (zx_rm (d + 1) 0 0) M_Mod_checkOf K RJ Q 5 [(0, .ref o0), (1, .int x1), (2, .int x2)] [] I := by
  refine zx_iload_n d_Mod_checkOf_5 rfl ?_
  refine zx_aload_n d_Mod_checkOf_6 rfl ?_
  refine zi_getI f_Mod_91 q1 (by decide) d_Mod_checkOf_7 ?_
  refine zx_icmp_ge (tgt := 30) d_Mod_checkOf_10 rfl (fun c => ?_) (fun c => ?_)
  · have k := k.1 c
    refine zx_iload_n d_Mod_checkOf_30 rfl ?_
    exact zi_iret d_Mod_checkOf_31 rfl k
  · have k := k.2 c
    refine zx_iload_n d_Mod_checkOf_13 rfl ?_
    refine zx_aload_n d_Mod_checkOf_14 rfl ?_
    refine zi_getR f_Mod_23 q1 (by decide) e3 z4 d_Mod_checkOf_15 ?_
    refine zx_iload_n d_Mod_checkOf_18 rfl ?_
    obtain ⟨j7, e8, b9, k⟩ := k
    refine zi_iald j7 a5 e8 b9 d_Mod_checkOf_19 ?_
    refine zi_callS (hC := k) k_Mod_94 rfl rfl (Nat.le_of_ble_eq_true rfl) (Nat.le_of_ble_eq_true rfl) d_Mod_checkOf_20 (fun r I10 k => ?_)
    obtain ⟨v11, rfl, k⟩ := k
    refine zx_istore_n (L2 := [(0, .ref o0), (1, .int v11), (2, .int x2)]) d_Mod_checkOf_23 (Nat.le_of_ble_eq_true rfl) rfl ?_
    refine zx_iinc (L2 := [(0, .ref o0), (1, .int v11), (2, .int (x2 + 1))]) d_Mod_checkOf_24 rfl (Nat.le_of_ble_eq_true rfl) zc_1 rfl ?_
    refine zx_goto (tgt := 5) d_Mod_checkOf_27 rfl ?_
    exact k
set_option maxRecDepth 20000 in
theorem r_Mod_addTotal_0 (l : Launch) (d : Nat) {K : zx_Kt} {RJ : zx_RJ} {Q : zi_Q} {I : zi_I} (x0 : Int32) (x1 : Int32) 
    (k : Q (some (.int (((((x0 : Int32) <<< ((1 : Int32) &&& 31)) &&& 65535) ||| ((x0 : Int32) >>> ((15 : Int32) &&& 31))) ^^^ x1))) I) :
    zi_X l (zx_rm d 0 0) M_Mod_addTotal K RJ Q 0 [(0, .int x0), (1, .int x1)] [] I := by
  refine zx_iload_n d_Mod_addTotal_0 rfl ?_
  refine zx_iconst d_Mod_addTotal_1 zc_1 ?_
  refine zx_ishl d_Mod_addTotal_2 ?_
  refine zx_ldc w_Mod_90 d_Mod_addTotal_3 ?_
  refine zx_iand d_Mod_addTotal_5 ?_
  refine zx_iload_n d_Mod_addTotal_6 rfl ?_
  refine zx_bipush d_Mod_addTotal_7 zb_15 ?_
  refine zx_ishr d_Mod_addTotal_9 ?_
  refine zx_ior d_Mod_addTotal_10 ?_
  refine zx_iload_n d_Mod_addTotal_11 rfl ?_
  refine zx_ixor d_Mod_addTotal_12 ?_
  exact zi_iret d_Mod_addTotal_13 rfl k
set_option maxRecDepth 20000 in
theorem r_Mod_shorten_0 (l : Launch) (d : Nat) {K : zx_Kt} {RJ : zx_RJ} {Q : zi_Q} {I : zi_I} (o0 : Nat) (x1 : Int32) (x2 : Int32) 
    (k : zi_X l (zx_rm d 0 0) M_Mod_shorten K RJ Q 5 [(0, .ref o0), (1, .int x1), (2, .int x2), (3, .int 0), (4, .int x1)] [] I) :
    zi_X l (zx_rm d 0 0) M_Mod_shorten K RJ Q 0 [(0, .ref o0), (1, .int x1), (2, .int x2)] [] I := by
  refine zx_iconst d_Mod_shorten_0 zc_0 ?_
  refine zx_istore_n (L2 := [(0, .ref o0), (1, .int x1), (2, .int x2), (3, .int 0)]) d_Mod_shorten_1 (Nat.le_of_ble_eq_true rfl) rfl ?_
  refine zx_iload_n d_Mod_shorten_2 rfl ?_
  refine zx_istore (L2 := [(0, .ref o0), (1, .int x1), (2, .int x2), (3, .int 0), (4, .int x1)]) d_Mod_shorten_3 (Nat.le_of_ble_eq_true rfl) rfl ?_
  exact k
set_option maxRecDepth 20000 in
theorem r_Mod_shorten_5 (l : Launch) (d : Nat) {K : zx_Kt} {RJ : zx_RJ} {Q : zi_Q} {I : zi_I} (o0 : Nat) (x1 : Int32) (x2 : Int32) (x3 : Int32) (x4 : Int32) 
    (k : (((x1 + x2) ≤ x4) → Q (some (.int x3)) I) ∧ ((¬ (x1 + x2) ≤ x4) → ((72 ≤ x3) → Q (some (.int x3)) I) ∧ ((¬ 72 ≤ x3) → zi_X l (zx_rm d 0 0) M_Mod_shorten K RJ Q 22 [(0, .ref o0), (1, .int x1), (2, .int x2), (3, .int x3), (4, .int x4), (5, .int 1)] [] I))) :
    zi_X l (zx_rm d 0 0) M_Mod_shorten K RJ Q 5 [(0, .ref o0), (1, .int x1), (2, .int x2), (3, .int x3), (4, .int x4)] [] I := by
  refine zx_iload d_Mod_shorten_5 rfl ?_
  refine zx_iload_n d_Mod_shorten_7 rfl ?_
  refine zx_iload_n d_Mod_shorten_8 rfl ?_
  refine zx_iadd d_Mod_shorten_9 ?_
  refine zx_icmp_ge (tgt := 142) d_Mod_shorten_10 rfl (fun c => ?_) (fun c => ?_)
  · have k := k.1 c
    refine zx_iload_n d_Mod_shorten_142 rfl ?_
    exact zi_iret d_Mod_shorten_143 rfl k
  · have k := k.2 c
    refine zx_iload_n d_Mod_shorten_13 rfl ?_
    refine zx_bipush d_Mod_shorten_14 zb_72 ?_
    refine zx_icmp_ge (tgt := 142) d_Mod_shorten_16 rfl (fun c => ?_) (fun c => ?_)
    · have k := k.1 c
      refine zx_iload_n d_Mod_shorten_142 rfl ?_
      exact zi_iret d_Mod_shorten_143 rfl k
    · have k := k.2 c
      refine zx_iconst d_Mod_shorten_19 zc_1 ?_
      refine zx_istore (L2 := [(0, .ref o0), (1, .int x1), (2, .int x2), (3, .int x3), (4, .int x4), (5, .int 1)]) d_Mod_shorten_20 (Nat.le_of_ble_eq_true rfl) rfl ?_
      exact k
set_option maxRecDepth 20000 in
theorem r_Mod_shorten_22 (l : Launch) (d : Nat) {K : zx_Kt} {RJ : zx_RJ} {Q : zi_Q} {I : zi_I} (o0 : Nat) (x1 : Int32) (x2 : Int32) (x3 : Int32) (x4 : Int32) (x5 : Int32) (q1 : (K.2 o0).1 = 6) {r2 : Nat} (e3 : RJ.1 o0 2 = r2) (z4 : r2 ≠ 0) {n6 : Nat} (a5 : K.2 r2 = (0, n6))
    (k : (((x1 + x2) ≤ (x4 + x5)) → ((4 ≤ x5) → zi_X l (zx_rm d 0 0) M_Mod_shorten K RJ Q 84 [(0, .ref o0), (1, .int x1), (2, .int x2), (3, .int x3), (4, .int x4), (5, .int x5), (6, .int 4), (7, .int 0)] [] I) ∧ ((¬ 4 ≤ x5) → zi_X l (zx_rm d 0 0) M_Mod_shorten K RJ Q 84 [(0, .ref o0), (1, .int x1), (2, .int x2), (3, .int x3), (4, .int x4), (5, .int x5), (6, .int x5), (7, .int 0)] [] I)) ∧ ((¬ (x1 + x2) ≤ (x4 + x5)) → ((255 ≤ x5) → ((4 ≤ x5) → zi_X l (zx_rm d 0 0) M_Mod_shorten K RJ Q 84 [(0, .ref o0), (1, .int x1), (2, .int x2), (3, .int x3), (4, .int x4), (5, .int x5), (6, .int 4), (7, .int 0)] [] I) ∧ ((¬ 4 ≤ x5) → zi_X l (zx_rm d 0 0) M_Mod_shorten K RJ Q 84 [(0, .ref o0), (1, .int x1), (2, .int x2), (3, .int x3), (4, .int x4), (5, .int x5), (6, .int x5), (7, .int 0)] [] I)) ∧ ((¬ 255 ≤ x5) → ∃ j7, x4 + x5 = nI j7 ∧ j7 < n6 ∧ ∃ j10, x4 = nI j10 ∧ j10 < n6 ∧ ((¬ (I r2 j7) = (I r2 j10)) → ((4 ≤ x5) → zi_X l (zx_rm d 0 0) M_Mod_shorten K RJ Q 84 [(0, .ref o0), (1, .int x1), (2, .int x2), (3, .int x3), (4, .int x4), (5, .int x5), (6, .int 4), (7, .int 0)] [] I) ∧ ((¬ 4 ≤ x5) → zi_X l (zx_rm d 0 0) M_Mod_shorten K RJ Q 84 [(0, .ref o0), (1, .int x1), (2, .int x2), (3, .int x3), (4, .int x4), (5, .int x5), (6, .int x5), (7, .int 0)] [] I)) ∧ (((I r2 j7) = (I r2 j10)) → zi_X l (zx_rm d 0 0) M_Mod_shorten K RJ Q 22 [(0, .ref o0), (1, .int x1), (2, .int x2), (3, .int x3), (4, .int x4), (5, .int (x5 + 1))] [] I)))) :
    zi_X l (zx_rm d 0 0) M_Mod_shorten K RJ Q 22 [(0, .ref o0), (1, .int x1), (2, .int x2), (3, .int x3), (4, .int x4), (5, .int x5)] [] I := by
  refine zx_iload d_Mod_shorten_22 rfl ?_
  refine zx_iload d_Mod_shorten_24 rfl ?_
  refine zx_iadd d_Mod_shorten_26 ?_
  refine zx_iload_n d_Mod_shorten_27 rfl ?_
  refine zx_iload_n d_Mod_shorten_28 rfl ?_
  refine zx_iadd d_Mod_shorten_29 ?_
  refine zx_icmp_ge (tgt := 67) d_Mod_shorten_30 rfl (fun c => ?_) (fun c => ?_)
  · have k := k.1 c
    refine zx_iload d_Mod_shorten_67 rfl ?_
    refine zx_iconst d_Mod_shorten_69 zc_4 ?_
    refine zx_icmp_ge (tgt := 78) d_Mod_shorten_70 rfl (fun c => ?_) (fun c => ?_)
    · have k := k.1 c
      refine zx_iconst d_Mod_shorten_78 zc_4 ?_
      refine zx_istore (L2 := [(0, .ref o0), (1, .int x1), (2, .int x2), (3, .int x3), (4, .int x4), (5, .int x5), (6, .int 4)]) d_Mod_shorten_79 (Nat.le_of_ble_eq_true rfl) rfl ?_
      refine zx_iconst d_Mod_shorten_81 zc_0 ?_
      refine zx_istore (L2 := [(0, .ref o0), (1, .int x1), (2, .int x2), (3, .int x3), (4, .int x4), (5, .int x5), (6, .int 4), (7, .int 0)]) d_Mod_shorten_82 (Nat.le_of_ble_eq_true rfl) rfl ?_
      exact k
    · have k := k.2 c
      refine zx_iload d_Mod_shorten_73 rfl ?_
      refine zx_goto (tgt := 79) d_Mod_shorten_75 rfl ?_
      refine zx_istore (L2 := [(0, .ref o0), (1, .int x1), (2, .int x2), (3, .int x3), (4, .int x4), (5, .int x5), (6, .int x5)]) d_Mod_shorten_79 (Nat.le_of_ble_eq_true rfl) rfl ?_
      refine zx_iconst d_Mod_shorten_81 zc_0 ?_
      refine zx_istore (L2 := [(0, .ref o0), (1, .int x1), (2, .int x2), (3, .int x3), (4, .int x4), (5, .int x5), (6, .int x5), (7, .int 0)]) d_Mod_shorten_82 (Nat.le_of_ble_eq_true rfl) rfl ?_
      exact k
  · have k := k.2 c
    refine zx_iload d_Mod_shorten_33 rfl ?_
    refine zx_sipush d_Mod_shorten_35 zs_255 ?_
    refine zx_icmp_ge (tgt := 67) d_Mod_shorten_38 rfl (fun c => ?_) (fun c => ?_)
    · have k := k.1 c
      refine zx_iload d_Mod_shorten_67 rfl ?_
      refine zx_iconst d_Mod_shorten_69 zc_4 ?_
      refine zx_icmp_ge (tgt := 78) d_Mod_shorten_70 rfl (fun c => ?_) (fun c => ?_)
      · have k := k.1 c
        refine zx_iconst d_Mod_shorten_78 zc_4 ?_
        refine zx_istore (L2 := [(0, .ref o0), (1, .int x1), (2, .int x2), (3, .int x3), (4, .int x4), (5, .int x5), (6, .int 4)]) d_Mod_shorten_79 (Nat.le_of_ble_eq_true rfl) rfl ?_
        refine zx_iconst d_Mod_shorten_81 zc_0 ?_
        refine zx_istore (L2 := [(0, .ref o0), (1, .int x1), (2, .int x2), (3, .int x3), (4, .int x4), (5, .int x5), (6, .int 4), (7, .int 0)]) d_Mod_shorten_82 (Nat.le_of_ble_eq_true rfl) rfl ?_
        exact k
      · have k := k.2 c
        refine zx_iload d_Mod_shorten_73 rfl ?_
        refine zx_goto (tgt := 79) d_Mod_shorten_75 rfl ?_
        refine zx_istore (L2 := [(0, .ref o0), (1, .int x1), (2, .int x2), (3, .int x3), (4, .int x4), (5, .int x5), (6, .int x5)]) d_Mod_shorten_79 (Nat.le_of_ble_eq_true rfl) rfl ?_
        refine zx_iconst d_Mod_shorten_81 zc_0 ?_
        refine zx_istore (L2 := [(0, .ref o0), (1, .int x1), (2, .int x2), (3, .int x3), (4, .int x4), (5, .int x5), (6, .int x5), (7, .int 0)]) d_Mod_shorten_82 (Nat.le_of_ble_eq_true rfl) rfl ?_
        exact k
    · have k := k.2 c
      refine zx_aload_n d_Mod_shorten_41 rfl ?_
      refine zi_getR f_Mod_7 q1 (by decide) e3 z4 d_Mod_shorten_42 ?_
      refine zx_iload d_Mod_shorten_45 rfl ?_
      refine zx_iload d_Mod_shorten_47 rfl ?_
      refine zx_iadd d_Mod_shorten_49 ?_
      obtain ⟨j7, e8, b9, k⟩ := k
      refine zi_iald j7 a5 e8 b9 d_Mod_shorten_50 ?_
      refine zx_aload_n d_Mod_shorten_51 rfl ?_
      refine zi_getR f_Mod_7 q1 (by decide) e3 z4 d_Mod_shorten_52 ?_
      refine zx_iload d_Mod_shorten_55 rfl ?_
      obtain ⟨j10, e11, b12, k⟩ := k
      refine zi_iald j10 a5 e11 b12 d_Mod_shorten_57 ?_
      refine zx_icmp_ne (tgt := 67) d_Mod_shorten_58 rfl (fun c => ?_) (fun c => ?_)
      · have k := k.1 c
        refine zx_iload d_Mod_shorten_67 rfl ?_
        refine zx_iconst d_Mod_shorten_69 zc_4 ?_
        refine zx_icmp_ge (tgt := 78) d_Mod_shorten_70 rfl (fun c => ?_) (fun c => ?_)
        · have k := k.1 c
          refine zx_iconst d_Mod_shorten_78 zc_4 ?_
          refine zx_istore (L2 := [(0, .ref o0), (1, .int x1), (2, .int x2), (3, .int x3), (4, .int x4), (5, .int x5), (6, .int 4)]) d_Mod_shorten_79 (Nat.le_of_ble_eq_true rfl) rfl ?_
          refine zx_iconst d_Mod_shorten_81 zc_0 ?_
          refine zx_istore (L2 := [(0, .ref o0), (1, .int x1), (2, .int x2), (3, .int x3), (4, .int x4), (5, .int x5), (6, .int 4), (7, .int 0)]) d_Mod_shorten_82 (Nat.le_of_ble_eq_true rfl) rfl ?_
          exact k
        · have k := k.2 c
          refine zx_iload d_Mod_shorten_73 rfl ?_
          refine zx_goto (tgt := 79) d_Mod_shorten_75 rfl ?_
          refine zx_istore (L2 := [(0, .ref o0), (1, .int x1), (2, .int x2), (3, .int x3), (4, .int x4), (5, .int x5), (6, .int x5)]) d_Mod_shorten_79 (Nat.le_of_ble_eq_true rfl) rfl ?_
          refine zx_iconst d_Mod_shorten_81 zc_0 ?_
          refine zx_istore (L2 := [(0, .ref o0), (1, .int x1), (2, .int x2), (3, .int x3), (4, .int x4), (5, .int x5), (6, .int x5), (7, .int 0)]) d_Mod_shorten_82 (Nat.le_of_ble_eq_true rfl) rfl ?_
          exact k
      · have k := k.2 c
        refine zx_iinc (L2 := [(0, .ref o0), (1, .int x1), (2, .int x2), (3, .int x3), (4, .int x4), (5, .int (x5 + 1))]) d_Mod_shorten_61 rfl (Nat.le_of_ble_eq_true rfl) zc_1 rfl ?_
        refine zx_goto (tgt := 22) d_Mod_shorten_64 rfl ?_
        exact k
set_option maxRecDepth 20000 in
theorem r_Mod_shorten_84 (l : Launch) (d : Nat) {K : zx_Kt} {RJ : zx_RJ} {Q : zi_Q} {I : zi_I} (o0 : Nat) (x1 : Int32) (x2 : Int32) (x3 : Int32) (x4 : Int32) (x5 : Int32) (x6 : Int32) (x7 : Int32) (q1 : (K.2 o0).1 = 6) {r2 : Nat} (e3 : RJ.1 o0 15 = r2) (z4 : r2 ≠ 0) {n6 : Nat} (a5 : K.2 r2 = (0, n6)) {r10 : Nat} (e11 : RJ.1 o0 2 = r10) (z12 : r10 ≠ 0) {n14 : Nat} (a13 : K.2 r10 = (0, n14))
    (k : ((x6 ≤ x7) → ((x5 ≤ 3) → zi_X l (zx_rm d 0 0) M_Mod_shorten K RJ Q 5 [(0, .ref o0), (1, .int x1), (2, .int x2), (3, .int x3), (4, .int (x4 + x5))] [] I) ∧ ((¬ x5 ≤ 3) → ∃ j7, x3 = nI j7 ∧ j7 < n6 ∧ zi_X l (zx_rm d 0 0) M_Mod_shorten K RJ Q 5 [(0, .ref o0), (1, .int x1), (2, .int x2), (3, .int (x3 + 1)), (4, .int (x4 + x5))] [] (zx_u2 I r2 j7 (x5 - 4)))) ∧ ((¬ x6 ≤ x7) → ∃ j15, x4 = nI j15 ∧ j15 < n14 ∧ ∃ j18, x3 = nI j18 ∧ j18 < n6 ∧ zi_X l (zx_rm d 0 0) M_Mod_shorten K RJ Q 84 [(0, .ref o0), (1, .int x1), (2, .int x2), (3, .int (x3 + 1)), (4, .int x4), (5, .int x5), (6, .int x6), (7, .int (x7 + 1))] [] (zx_u2 I r2 j18 (I r10 j15)))) :
    zi_X l (zx_rm d 0 0) M_Mod_shorten K RJ Q 84 [(0, .ref o0), (1, .int x1), (2, .int x2), (3, .int x3), (4, .int x4), (5, .int x5), (6, .int x6), (7, .int x7)] [] I := by
  refine zx_iload d_Mod_shorten_84 rfl ?_
  refine zx_iload d_Mod_shorten_86 rfl ?_
  refine zx_icmp_ge (tgt := 113) d_Mod_shorten_88 rfl (fun c => ?_) (fun c => ?_)
  · have k := k.1 c
    refine zx_iload d_Mod_shorten_113 rfl ?_
    refine zx_iconst d_Mod_shorten_115 zc_3 ?_
    refine zx_icmp_le (tgt := 132) d_Mod_shorten_116 rfl (fun c => ?_) (fun c => ?_)
    · have k := k.1 c
      refine zx_iload d_Mod_shorten_132 rfl ?_
      refine zx_iload d_Mod_shorten_134 rfl ?_
      refine zx_iadd d_Mod_shorten_136 ?_
      refine zx_istore (L2 := [(0, .ref o0), (1, .int x1), (2, .int x2), (3, .int x3), (4, .int (x4 + x5)), (5, .int x5), (6, .int x6), (7, .int x7)]) d_Mod_shorten_137 (Nat.le_of_ble_eq_true rfl) rfl ?_
      refine zx_goto (tgt := 5) d_Mod_shorten_139 rfl ?_
      refine zx_locs [0, 1, 2, 3, 4] rfl ?_
      exact k
    · have k := k.2 c
      refine zx_aload_n d_Mod_shorten_119 rfl ?_
      refine zi_getR f_Mod_26 q1 (by decide) e3 z4 d_Mod_shorten_120 ?_
      refine zx_iload_n d_Mod_shorten_123 rfl ?_
      refine zx_iload d_Mod_shorten_124 rfl ?_
      refine zx_iconst d_Mod_shorten_126 zc_4 ?_
      refine zx_isub d_Mod_shorten_127 ?_
      obtain ⟨j7, e8, b9, k⟩ := k
      refine zi_iast j7 a5 e8 b9 d_Mod_shorten_128 ?_
      refine zx_iinc (L2 := [(0, .ref o0), (1, .int x1), (2, .int x2), (3, .int (x3 + 1)), (4, .int x4), (5, .int x5), (6, .int x6), (7, .int x7)]) d_Mod_shorten_129 rfl (Nat.le_of_ble_eq_true rfl) zc_1 rfl ?_
      refine zx_iload d_Mod_shorten_132 rfl ?_
      refine zx_iload d_Mod_shorten_134 rfl ?_
      refine zx_iadd d_Mod_shorten_136 ?_
      refine zx_istore (L2 := [(0, .ref o0), (1, .int x1), (2, .int x2), (3, .int (x3 + 1)), (4, .int (x4 + x5)), (5, .int x5), (6, .int x6), (7, .int x7)]) d_Mod_shorten_137 (Nat.le_of_ble_eq_true rfl) rfl ?_
      refine zx_goto (tgt := 5) d_Mod_shorten_139 rfl ?_
      refine zx_locs [0, 1, 2, 3, 4] rfl ?_
      exact k
  · have k := k.2 c
    refine zx_aload_n d_Mod_shorten_91 rfl ?_
    refine zi_getR f_Mod_26 q1 (by decide) e3 z4 d_Mod_shorten_92 ?_
    refine zx_iload_n d_Mod_shorten_95 rfl ?_
    refine zx_aload_n d_Mod_shorten_96 rfl ?_
    refine zi_getR f_Mod_7 q1 (by decide) e11 z12 d_Mod_shorten_97 ?_
    refine zx_iload d_Mod_shorten_100 rfl ?_
    obtain ⟨j15, e16, b17, k⟩ := k
    refine zi_iald j15 a13 e16 b17 d_Mod_shorten_102 ?_
    obtain ⟨j18, e19, b20, k⟩ := k
    refine zi_iast j18 a5 e19 b20 d_Mod_shorten_103 ?_
    refine zx_iinc (L2 := [(0, .ref o0), (1, .int x1), (2, .int x2), (3, .int (x3 + 1)), (4, .int x4), (5, .int x5), (6, .int x6), (7, .int x7)]) d_Mod_shorten_104 rfl (Nat.le_of_ble_eq_true rfl) zc_1 rfl ?_
    refine zx_iinc (L2 := [(0, .ref o0), (1, .int x1), (2, .int x2), (3, .int (x3 + 1)), (4, .int x4), (5, .int x5), (6, .int x6), (7, .int (x7 + 1))]) d_Mod_shorten_107 rfl (Nat.le_of_ble_eq_true rfl) zc_1 rfl ?_
    refine zx_goto (tgt := 84) d_Mod_shorten_110 rfl ?_
    exact k
set_option maxRecDepth 20000 in
theorem r_Mod_lengthen_0 (l : Launch) (d : Nat) {K : zx_Kt} {RJ : zx_RJ} {Q : zi_Q} {I : zi_I} (o0 : Nat) (q1 : (K.2 o0).1 = 6)
    (k : zi_X l (zx_rm d 0 0) M_Mod_lengthen K RJ Q 9 [(0, .ref o0), (1, .int 0), (2, .int 0)] [] (zx_u2 I o0 12 0)) :
    zi_X l (zx_rm d 0 0) M_Mod_lengthen K RJ Q 0 [(0, .ref o0)] [] I := by
  refine zx_aload_n d_Mod_lengthen_0 rfl ?_
  refine zx_iconst d_Mod_lengthen_1 zc_0 ?_
  refine zi_putI f_Mod_91 q1 (by decide) d_Mod_lengthen_2 ?_
  refine zx_iconst d_Mod_lengthen_5 zc_0 ?_
  refine zx_istore_n (L2 := [(0, .ref o0), (1, .int 0)]) d_Mod_lengthen_6 (Nat.le_of_ble_eq_true rfl) rfl ?_
  refine zx_iconst d_Mod_lengthen_7 zc_0 ?_
  refine zx_istore_n (L2 := [(0, .ref o0), (1, .int 0), (2, .int 0)]) d_Mod_lengthen_8 (Nat.le_of_ble_eq_true rfl) rfl ?_
  exact k
set_option maxRecDepth 20000 in
theorem r_Mod_lengthen_9 (l : Launch) (d : Nat) {K : zx_Kt} {RJ : zx_RJ} {Q : zi_Q} {I : zi_I} (o0 : Nat) (x1 : Int32) (x2 : Int32) (q1 : (K.2 o0).1 = 6) {r2 : Nat} (e3 : RJ.1 o0 13 = r2) (z4 : r2 ≠ 0) {r5 : Nat} (e6 : RJ.1 o0 15 = r5) (z7 : r5 ≠ 0) {n9 : Nat} (a8 : K.2 r5 = (0, n9)) {n14 : Nat} (a13 : K.2 r2 = (0, n14))
    (k : (((I o0 14) ≤ x2) → ((4 ≤ x1) → Q (some (.int 0)) I) ∧ ((¬ 4 ≤ x1) → Q (some (.int 1)) I)) ∧ ((¬ (I o0 14) ≤ x2) → ((¬ x1 = 4) → ((x1 ≤ 0) → ∃ j10, x2 = nI j10 ∧ j10 < n9 ∧ ∃ j15, I o0 12 = nI j15 ∧ j15 < n14 ∧ zi_X l (zx_rm d 0 0) M_Mod_lengthen K RJ Q 9 [(0, .ref o0), (1, .int 1), (2, .int (x2 + 1))] [] (zx_u2 (zx_u2 I r2 j15 (I r5 j10)) o0 12 ((I o0 12) + 1))) ∧ ((¬ x1 ≤ 0) → ∃ j18, x2 = nI j18 ∧ j18 < n9 ∧ ∃ j21, x2 - 1 = nI j21 ∧ j21 < n9 ∧ ((¬ (I r5 j18) = (I r5 j21)) → ∃ j24, x2 = nI j24 ∧ j24 < n9 ∧ ∃ j27, I o0 12 = nI j27 ∧ j27 < n14 ∧ zi_X l (zx_rm d 0 0) M_Mod_lengthen K RJ Q 9 [(0, .ref o0), (1, .int 1), (2, .int (x2 + 1))] [] (zx_u2 (zx_u2 I r2 j27 (I r5 j24)) o0 12 ((I o0 12) + 1))) ∧ (((I r5 j18) = (I r5 j21)) → ∃ j30, x2 = nI j30 ∧ j30 < n9 ∧ ∃ j33, I o0 12 = nI j33 ∧ j33 < n14 ∧ zi_X l (zx_rm d 0 0) M_Mod_lengthen K RJ Q 9 [(0, .ref o0), (1, .int (x1 + 1)), (2, .int (x2 + 1))] [] (zx_u2 (zx_u2 I r2 j33 (I r5 j30)) o0 12 ((I o0 12) + 1))))) ∧ ((x1 = 4) → zi_X l (zx_rm d 0 0) M_Mod_lengthen K RJ Q 24 [(0, .ref o0), (1, .int x1), (2, .int x2), (3, .int 0)] [] I))) :
    zi_X l (zx_rm d 0 0) M_Mod_lengthen K RJ Q 9 [(0, .ref o0), (1, .int x1), (2, .int x2)] [] I := by
  refine zx_iload_n d_Mod_lengthen_9 rfl ?_
  refine zx_aload_n d_Mod_lengthen_10 rfl ?_
  refine zi_getI f_Mod_98 q1 (by decide) d_Mod_lengthen_11 ?_
  refine zx_icmp_ge (tgt := 132) d_Mod_lengthen_14 rfl (fun c => ?_) (fun c => ?_)
  · have k := k.1 c
    refine zx_iload_n d_Mod_lengthen_132 rfl ?_
    refine zx_iconst d_Mod_lengthen_133 zc_4 ?_
    refine zx_icmp_ge (tgt := 141) d_Mod_lengthen_134 rfl (fun c => ?_) (fun c => ?_)
    · have k := k.1 c
      refine zx_iconst d_Mod_lengthen_141 zc_0 ?_
      exact zi_zret d_Mod_lengthen_142 rfl rfl k
    · have k := k.2 c
      refine zx_iconst d_Mod_lengthen_137 zc_1 ?_
      refine zx_goto (tgt := 142) d_Mod_lengthen_138 rfl ?_
      exact zi_zret d_Mod_lengthen_142 rfl rfl k
  · have k := k.2 c
    refine zx_iload_n d_Mod_lengthen_17 rfl ?_
    refine zx_iconst d_Mod_lengthen_18 zc_4 ?_
    refine zx_icmp_ne (tgt := 72) d_Mod_lengthen_19 rfl (fun c => ?_) (fun c => ?_)
    · have k := k.1 c
      refine zx_iload_n d_Mod_lengthen_72 rfl ?_
      refine zx_if_le (tgt := 99) d_Mod_lengthen_73 rfl (fun c => ?_) (fun c => ?_)
      · have k := k.1 c
        refine zx_iconst d_Mod_lengthen_99 zc_1 ?_
        refine zx_istore_n (L2 := [(0, .ref o0), (1, .int 1), (2, .int x2)]) d_Mod_lengthen_100 (Nat.le_of_ble_eq_true rfl) rfl ?_
        refine zx_aload_n d_Mod_lengthen_101 rfl ?_
        refine zi_getR f_Mod_23 q1 (by decide) e3 z4 d_Mod_lengthen_102 ?_
        refine zx_aload_n d_Mod_lengthen_105 rfl ?_
        refine zi_getI f_Mod_91 q1 (by decide) d_Mod_lengthen_106 ?_
        refine zx_aload_n d_Mod_lengthen_109 rfl ?_
        refine zi_getR f_Mod_26 q1 (by decide) e6 z7 d_Mod_lengthen_110 ?_
        refine zx_iload_n d_Mod_lengthen_113 rfl ?_
        obtain ⟨j10, e11, b12, k⟩ := k
        refine zi_iald j10 a8 e11 b12 d_Mod_lengthen_114 ?_
        obtain ⟨j15, e16, b17, k⟩ := k
        refine zi_iast j15 a13 e16 b17 d_Mod_lengthen_115 ?_
        refine zx_aload_n d_Mod_lengthen_116 rfl ?_
        refine zx_dup_a d_Mod_lengthen_117 ?_
        refine zi_getIe f_Mod_91 q1 (by decide) (zx_u2_a a13 q1 (by decide)) d_Mod_lengthen_118 ?_
        refine zx_iconst d_Mod_lengthen_121 zc_1 ?_
        refine zx_iadd d_Mod_lengthen_122 ?_
        refine zi_putI f_Mod_91 q1 (by decide) d_Mod_lengthen_123 ?_
        refine zx_iinc (L2 := [(0, .ref o0), (1, .int 1), (2, .int (x2 + 1))]) d_Mod_lengthen_126 rfl (Nat.le_of_ble_eq_true rfl) zc_1 rfl ?_
        refine zx_goto (tgt := 9) d_Mod_lengthen_129 rfl ?_
        exact k
      · have k := k.2 c
        refine zx_aload_n d_Mod_lengthen_76 rfl ?_
        refine zi_getR f_Mod_26 q1 (by decide) e6 z7 d_Mod_lengthen_77 ?_
        refine zx_iload_n d_Mod_lengthen_80 rfl ?_
        obtain ⟨j18, e19, b20, k⟩ := k
        refine zi_iald j18 a8 e19 b20 d_Mod_lengthen_81 ?_
        refine zx_aload_n d_Mod_lengthen_82 rfl ?_
        refine zi_getR f_Mod_26 q1 (by decide) e6 z7 d_Mod_lengthen_83 ?_
        refine zx_iload_n d_Mod_lengthen_86 rfl ?_
        refine zx_iconst d_Mod_lengthen_87 zc_1 ?_
        refine zx_isub d_Mod_lengthen_88 ?_
        obtain ⟨j21, e22, b23, k⟩ := k
        refine zi_iald j21 a8 e22 b23 d_Mod_lengthen_89 ?_
        refine zx_icmp_ne (tgt := 99) d_Mod_lengthen_90 rfl (fun c => ?_) (fun c => ?_)
        · have k := k.1 c
          refine zx_iconst d_Mod_lengthen_99 zc_1 ?_
          refine zx_istore_n (L2 := [(0, .ref o0), (1, .int 1), (2, .int x2)]) d_Mod_lengthen_100 (Nat.le_of_ble_eq_true rfl) rfl ?_
          refine zx_aload_n d_Mod_lengthen_101 rfl ?_
          refine zi_getR f_Mod_23 q1 (by decide) e3 z4 d_Mod_lengthen_102 ?_
          refine zx_aload_n d_Mod_lengthen_105 rfl ?_
          refine zi_getI f_Mod_91 q1 (by decide) d_Mod_lengthen_106 ?_
          refine zx_aload_n d_Mod_lengthen_109 rfl ?_
          refine zi_getR f_Mod_26 q1 (by decide) e6 z7 d_Mod_lengthen_110 ?_
          refine zx_iload_n d_Mod_lengthen_113 rfl ?_
          obtain ⟨j24, e25, b26, k⟩ := k
          refine zi_iald j24 a8 e25 b26 d_Mod_lengthen_114 ?_
          obtain ⟨j27, e28, b29, k⟩ := k
          refine zi_iast j27 a13 e28 b29 d_Mod_lengthen_115 ?_
          refine zx_aload_n d_Mod_lengthen_116 rfl ?_
          refine zx_dup_a d_Mod_lengthen_117 ?_
          refine zi_getIe f_Mod_91 q1 (by decide) (zx_u2_a a13 q1 (by decide)) d_Mod_lengthen_118 ?_
          refine zx_iconst d_Mod_lengthen_121 zc_1 ?_
          refine zx_iadd d_Mod_lengthen_122 ?_
          refine zi_putI f_Mod_91 q1 (by decide) d_Mod_lengthen_123 ?_
          refine zx_iinc (L2 := [(0, .ref o0), (1, .int 1), (2, .int (x2 + 1))]) d_Mod_lengthen_126 rfl (Nat.le_of_ble_eq_true rfl) zc_1 rfl ?_
          refine zx_goto (tgt := 9) d_Mod_lengthen_129 rfl ?_
          exact k
        · have k := k.2 c
          refine zx_iload_n d_Mod_lengthen_93 rfl ?_
          refine zx_iconst d_Mod_lengthen_94 zc_1 ?_
          refine zx_iadd d_Mod_lengthen_95 ?_
          refine zx_goto (tgt := 100) d_Mod_lengthen_96 rfl ?_
          refine zx_istore_n (L2 := [(0, .ref o0), (1, .int (x1 + 1)), (2, .int x2)]) d_Mod_lengthen_100 (Nat.le_of_ble_eq_true rfl) rfl ?_
          refine zx_aload_n d_Mod_lengthen_101 rfl ?_
          refine zi_getR f_Mod_23 q1 (by decide) e3 z4 d_Mod_lengthen_102 ?_
          refine zx_aload_n d_Mod_lengthen_105 rfl ?_
          refine zi_getI f_Mod_91 q1 (by decide) d_Mod_lengthen_106 ?_
          refine zx_aload_n d_Mod_lengthen_109 rfl ?_
          refine zi_getR f_Mod_26 q1 (by decide) e6 z7 d_Mod_lengthen_110 ?_
          refine zx_iload_n d_Mod_lengthen_113 rfl ?_
          obtain ⟨j30, e31, b32, k⟩ := k
          refine zi_iald j30 a8 e31 b32 d_Mod_lengthen_114 ?_
          obtain ⟨j33, e34, b35, k⟩ := k
          refine zi_iast j33 a13 e34 b35 d_Mod_lengthen_115 ?_
          refine zx_aload_n d_Mod_lengthen_116 rfl ?_
          refine zx_dup_a d_Mod_lengthen_117 ?_
          refine zi_getIe f_Mod_91 q1 (by decide) (zx_u2_a a13 q1 (by decide)) d_Mod_lengthen_118 ?_
          refine zx_iconst d_Mod_lengthen_121 zc_1 ?_
          refine zx_iadd d_Mod_lengthen_122 ?_
          refine zi_putI f_Mod_91 q1 (by decide) d_Mod_lengthen_123 ?_
          refine zx_iinc (L2 := [(0, .ref o0), (1, .int (x1 + 1)), (2, .int (x2 + 1))]) d_Mod_lengthen_126 rfl (Nat.le_of_ble_eq_true rfl) zc_1 rfl ?_
          refine zx_goto (tgt := 9) d_Mod_lengthen_129 rfl ?_
          exact k
    · have k := k.2 c
      refine zx_iconst d_Mod_lengthen_22 zc_0 ?_
      refine zx_istore_n (L2 := [(0, .ref o0), (1, .int x1), (2, .int x2), (3, .int 0)]) d_Mod_lengthen_23 (Nat.le_of_ble_eq_true rfl) rfl ?_
      exact k
set_option maxRecDepth 20000 in
theorem r_Mod_lengthen_24 (l : Launch) (d : Nat) {K : zx_Kt} {RJ : zx_RJ} {Q : zi_Q} {I : zi_I} (o0 : Nat) (x1 : Int32) (x2 : Int32) (x3 : Int32) (q1 : (K.2 o0).1 = 6) {r2 : Nat} (e3 : RJ.1 o0 15 = r2) (z4 : r2 ≠ 0) {n6 : Nat} (a5 : K.2 r2 = (0, n6)) {r10 : Nat} (e11 : RJ.1 o0 13 = r10) (z12 : r10 ≠ 0) {n17 : Nat} (a16 : K.2 r10 = (0, n17))
    (k : ∃ j7, x2 = nI j7 ∧ j7 < n6 ∧ (((I r2 j7) ≤ x3) → zi_X l (zx_rm d 0 0) M_Mod_lengthen K RJ Q 9 [(0, .ref o0), (1, .int 0), (2, .int (x2 + 1))] [] I) ∧ ((¬ (I r2 j7) ≤ x3) → ∃ j13, x2 - 1 = nI j13 ∧ j13 < n6 ∧ ∃ j18, I o0 12 = nI j18 ∧ j18 < n17 ∧ zi_X l (zx_rm d 0 0) M_Mod_lengthen K RJ Q 24 [(0, .ref o0), (1, .int x1), (2, .int x2), (3, .int (x3 + 1))] [] (zx_u2 (zx_u2 I r10 j18 (I r2 j13)) o0 12 ((I o0 12) + 1)))) :
    zi_X l (zx_rm d 0 0) M_Mod_lengthen K RJ Q 24 [(0, .ref o0), (1, .int x1), (2, .int x2), (3, .int x3)] [] I := by
  refine zx_iload_n d_Mod_lengthen_24 rfl ?_
  refine zx_aload_n d_Mod_lengthen_25 rfl ?_
  refine zi_getR f_Mod_26 q1 (by decide) e3 z4 d_Mod_lengthen_26 ?_
  refine zx_iload_n d_Mod_lengthen_29 rfl ?_
  obtain ⟨j7, e8, b9, k⟩ := k
  refine zi_iald j7 a5 e8 b9 d_Mod_lengthen_30 ?_
  refine zx_icmp_ge (tgt := 67) d_Mod_lengthen_31 rfl (fun c => ?_) (fun c => ?_)
  · have k := k.1 c
    refine zx_iconst d_Mod_lengthen_67 zc_0 ?_
    refine zx_istore_n (L2 := [(0, .ref o0), (1, .int 0), (2, .int x2), (3, .int x3)]) d_Mod_lengthen_68 (Nat.le_of_ble_eq_true rfl) rfl ?_
    refine zx_goto (tgt := 126) d_Mod_lengthen_69 rfl ?_
    refine zx_iinc (L2 := [(0, .ref o0), (1, .int 0), (2, .int (x2 + 1)), (3, .int x3)]) d_Mod_lengthen_126 rfl (Nat.le_of_ble_eq_true rfl) zc_1 rfl ?_
    refine zx_goto (tgt := 9) d_Mod_lengthen_129 rfl ?_
    refine zx_locs [0, 1, 2] rfl ?_
    exact k
  · have k := k.2 c
    refine zx_aload_n d_Mod_lengthen_34 rfl ?_
    refine zi_getR f_Mod_23 q1 (by decide) e11 z12 d_Mod_lengthen_35 ?_
    refine zx_aload_n d_Mod_lengthen_38 rfl ?_
    refine zi_getI f_Mod_91 q1 (by decide) d_Mod_lengthen_39 ?_
    refine zx_aload_n d_Mod_lengthen_42 rfl ?_
    refine zi_getR f_Mod_26 q1 (by decide) e3 z4 d_Mod_lengthen_43 ?_
    refine zx_iload_n d_Mod_lengthen_46 rfl ?_
    refine zx_iconst d_Mod_lengthen_47 zc_1 ?_
    refine zx_isub d_Mod_lengthen_48 ?_
    obtain ⟨j13, e14, b15, k⟩ := k
    refine zi_iald j13 a5 e14 b15 d_Mod_lengthen_49 ?_
    obtain ⟨j18, e19, b20, k⟩ := k
    refine zi_iast j18 a16 e19 b20 d_Mod_lengthen_50 ?_
    refine zx_aload_n d_Mod_lengthen_51 rfl ?_
    refine zx_dup_a d_Mod_lengthen_52 ?_
    refine zi_getIe f_Mod_91 q1 (by decide) (zx_u2_a a16 q1 (by decide)) d_Mod_lengthen_53 ?_
    refine zx_iconst d_Mod_lengthen_56 zc_1 ?_
    refine zx_iadd d_Mod_lengthen_57 ?_
    refine zi_putI f_Mod_91 q1 (by decide) d_Mod_lengthen_58 ?_
    refine zx_iinc (L2 := [(0, .ref o0), (1, .int x1), (2, .int x2), (3, .int (x3 + 1))]) d_Mod_lengthen_61 rfl (Nat.le_of_ble_eq_true rfl) zc_1 rfl ?_
    refine zx_goto (tgt := 24) d_Mod_lengthen_64 rfl ?_
    exact k
set_option maxRecDepth 20000 in
theorem r_Mod_before_0 (l : Launch) (d : Nat) {K : zx_Kt} {RJ : zx_RJ} {Q : zi_Q} {I : zi_I} (o0 : Nat) (x1 : Int32) (x2 : Int32) 
    (k : zi_X l (zx_rm d 0 0) M_Mod_before K RJ Q 2 [(0, .ref o0), (1, .int x1), (2, .int x2), (3, .int 0)] [] I) :
    zi_X l (zx_rm d 0 0) M_Mod_before K RJ Q 0 [(0, .ref o0), (1, .int x1), (2, .int x2)] [] I := by
  refine zx_iconst d_Mod_before_0 zc_0 ?_
  refine zx_istore_n (L2 := [(0, .ref o0), (1, .int x1), (2, .int x2), (3, .int 0)]) d_Mod_before_1 (Nat.le_of_ble_eq_true rfl) rfl ?_
  exact k
set_option maxRecDepth 20000 in
theorem r_Mod_before_2 (l : Launch) (d : Nat) {K : zx_Kt} {RJ : zx_RJ} {Q : zi_Q} {I : zi_I} (o0 : Nat) (x1 : Int32) (x2 : Int32) (x3 : Int32) (q1 : (K.2 o0).1 = 6) {r2 : Nat} (e3 : RJ.1 o0 15 = r2) (z4 : r2 ≠ 0) {n7 : Nat} (a6 : K.2 r2 = (0, n7))
    (k : (((I o0 14) ≤ x3) → ((x2 ≤ x1) → Q (some (.int 0)) I) ∧ ((¬ x2 ≤ x1) → Q (some (.int 1)) I)) ∧ ((¬ (I o0 14) ≤ x3) → ¬ (I o0 14) = 0 ∧ ∃ j8, (x1 + x3) - (x1 + x3) / (I o0 14) * (I o0 14) = nI j8 ∧ j8 < n7 ∧ ¬ (I o0 14) = 0 ∧ ∃ j12, (x2 + x3) - (x2 + x3) / (I o0 14) * (I o0 14) = nI j12 ∧ j12 < n7 ∧ (((I r2 j8) = (I r2 j12)) → zi_X l (zx_rm d 0 0) M_Mod_before K RJ Q 2 [(0, .ref o0), (1, .int x1), (2, .int x2), (3, .int (x3 + 1))] [] I) ∧ ((¬ (I r2 j8) = (I r2 j12)) → (((I r2 j12) ≤ (I r2 j8)) → Q (some (.int 0)) I) ∧ ((¬ (I r2 j12) ≤ (I r2 j8)) → Q (some (.int 1)) I)))) :
    zi_X l (zx_rm d 0 0) M_Mod_before K RJ Q 2 [(0, .ref o0), (1, .int x1), (2, .int x2), (3, .int x3)] [] I := by
  refine zx_iload_n d_Mod_before_2 rfl ?_
  refine zx_aload_n d_Mod_before_3 rfl ?_
  refine zi_getI f_Mod_98 q1 (by decide) d_Mod_before_4 ?_
  refine zx_icmp_ge (tgt := 66) d_Mod_before_7 rfl (fun c => ?_) (fun c => ?_)
  · have k := k.1 c
    refine zx_iload_n d_Mod_before_66 rfl ?_
    refine zx_iload_n d_Mod_before_67 rfl ?_
    refine zx_icmp_ge (tgt := 75) d_Mod_before_68 rfl (fun c => ?_) (fun c => ?_)
    · have k := k.1 c
      refine zx_iconst d_Mod_before_75 zc_0 ?_
      exact zi_zret d_Mod_before_76 rfl rfl k
    · have k := k.2 c
      refine zx_iconst d_Mod_before_71 zc_1 ?_
      refine zx_goto (tgt := 76) d_Mod_before_72 rfl ?_
      exact zi_zret d_Mod_before_76 rfl rfl k
  · have k := k.2 c
    refine zx_aload_n d_Mod_before_10 rfl ?_
    refine zi_getR f_Mod_26 q1 (by decide) e3 z4 d_Mod_before_11 ?_
    refine zx_iload_n d_Mod_before_14 rfl ?_
    refine zx_iload_n d_Mod_before_15 rfl ?_
    refine zx_iadd d_Mod_before_16 ?_
    refine zx_aload_n d_Mod_before_17 rfl ?_
    refine zi_getI f_Mod_98 q1 (by decide) d_Mod_before_18 ?_
    obtain ⟨z5, k⟩ := k
    refine zx_irem d_Mod_before_21 z5 ?_
    obtain ⟨j8, e9, b10, k⟩ := k
    refine zi_iald j8 a6 e9 b10 d_Mod_before_22 ?_
    refine zx_istore (L2 := [(0, .ref o0), (1, .int x1), (2, .int x2), (3, .int x3), (4, .int (I r2 j8))]) d_Mod_before_23 (Nat.le_of_ble_eq_true rfl) rfl ?_
    refine zx_aload_n d_Mod_before_25 rfl ?_
    refine zi_getR f_Mod_26 q1 (by decide) e3 z4 d_Mod_before_26 ?_
    refine zx_iload_n d_Mod_before_29 rfl ?_
    refine zx_iload_n d_Mod_before_30 rfl ?_
    refine zx_iadd d_Mod_before_31 ?_
    refine zx_aload_n d_Mod_before_32 rfl ?_
    refine zi_getI f_Mod_98 q1 (by decide) d_Mod_before_33 ?_
    obtain ⟨z11, k⟩ := k
    refine zx_irem d_Mod_before_36 z11 ?_
    obtain ⟨j12, e13, b14, k⟩ := k
    refine zi_iald j12 a6 e13 b14 d_Mod_before_37 ?_
    refine zx_istore (L2 := [(0, .ref o0), (1, .int x1), (2, .int x2), (3, .int x3), (4, .int (I r2 j8)), (5, .int (I r2 j12))]) d_Mod_before_38 (Nat.le_of_ble_eq_true rfl) rfl ?_
    refine zx_iload d_Mod_before_40 rfl ?_
    refine zx_iload d_Mod_before_42 rfl ?_
    refine zx_icmp_eq (tgt := 60) d_Mod_before_44 rfl (fun c => ?_) (fun c => ?_)
    · have k := k.1 c
      refine zx_iinc (L2 := [(0, .ref o0), (1, .int x1), (2, .int x2), (3, .int (x3 + 1)), (4, .int (I r2 j8)), (5, .int (I r2 j12))]) d_Mod_before_60 rfl (Nat.le_of_ble_eq_true rfl) zc_1 rfl ?_
      refine zx_goto (tgt := 2) d_Mod_before_63 rfl ?_
      refine zx_locs [0, 1, 2, 3] rfl ?_
      exact k
    · have k := k.2 c
      refine zx_iload d_Mod_before_47 rfl ?_
      refine zx_iload d_Mod_before_49 rfl ?_
      refine zx_icmp_ge (tgt := 58) d_Mod_before_51 rfl (fun c => ?_) (fun c => ?_)
      · have k := k.1 c
        refine zx_iconst d_Mod_before_58 zc_0 ?_
        exact zi_zret d_Mod_before_59 rfl rfl k
      · have k := k.2 c
        refine zx_iconst d_Mod_before_54 zc_1 ?_
        refine zx_goto (tgt := 59) d_Mod_before_55 rfl ?_
        exact zi_zret d_Mod_before_59 rfl rfl k
set_option maxRecDepth 20000 in
theorem r_Mod_sort_0 (l : Launch) (d : Nat) {K : zx_Kt} {RJ : zx_RJ} {Q : zi_Q} {I : zi_I} (o0 : Nat) 
    (k : zi_X l (zx_rm (d + 1) 0 0) M_Mod_sort K RJ Q 2 [(0, .ref o0), (1, .int 0)] [] I) :
    zi_X l (zx_rm (d + 1) 0 0) M_Mod_sort K RJ Q 0 [(0, .ref o0)] [] I := by
  refine zx_iconst d_Mod_sort_0 zc_0 ?_
  refine zx_istore_n (L2 := [(0, .ref o0), (1, .int 0)]) d_Mod_sort_1 (Nat.le_of_ble_eq_true rfl) rfl ?_
  exact k
set_option maxRecDepth 20000 in
theorem r_Mod_sort_2 (l : Launch) (d : Nat) {K : zx_Kt} {RJ : zx_RJ} {Q : zi_Q} {I : zi_I} (o0 : Nat) (x1 : Int32) (q1 : (K.2 o0).1 = 6)
    (k : (((I o0 14) ≤ x1) → Q none I) ∧ ((¬ (I o0 14) ≤ x1) → zi_X l (zx_rm (d + 1) 0 0) M_Mod_sort K RJ Q 14 [(0, .ref o0), (1, .int x1), (2, .int 0), (3, .int 0)] [] I)) :
    zi_X l (zx_rm (d + 1) 0 0) M_Mod_sort K RJ Q 2 [(0, .ref o0), (1, .int x1)] [] I := by
  refine zx_iload_n d_Mod_sort_2 rfl ?_
  refine zx_aload_n d_Mod_sort_3 rfl ?_
  refine zi_getI f_Mod_98 q1 (by decide) d_Mod_sort_4 ?_
  refine zx_icmp_ge (tgt := 96) d_Mod_sort_7 rfl (fun c => ?_) (fun c => ?_)
  · have k := k.1 c
    exact zi_vret d_Mod_sort_96 rfl k
  · have k := k.2 c
    refine zx_iconst d_Mod_sort_10 zc_0 ?_
    refine zx_istore_n (L2 := [(0, .ref o0), (1, .int x1), (2, .int 0)]) d_Mod_sort_11 (Nat.le_of_ble_eq_true rfl) rfl ?_
    refine zx_iconst d_Mod_sort_12 zc_0 ?_
    refine zx_istore_n (L2 := [(0, .ref o0), (1, .int x1), (2, .int 0), (3, .int 0)]) d_Mod_sort_13 (Nat.le_of_ble_eq_true rfl) rfl ?_
    exact k
set_option maxRecDepth 20000 in
theorem r_Mod_sort_14 (l : Launch) (d : Nat) {K : zx_Kt} {RJ : zx_RJ} {Q : zi_Q} {I : zi_I} (o0 : Nat) (x1 : Int32) (x2 : Int32) (x3 : Int32) (q1 : (K.2 o0).1 = 6) {r2 : Nat} (e3 : RJ.1 o0 16 = r2) (z4 : r2 ≠ 0) {r5 : Nat} (e6 : RJ.1 o0 15 = r5) (z7 : r5 ≠ 0) {n10 : Nat} (a9 : K.2 r5 = (0, n10)) {n15 : Nat} (a14 : K.2 r2 = (0, n15))
    (k : (((I o0 14) ≤ x3) → ¬ (I o0 14) = 0 ∧ ∃ j11, ((x1 + (I o0 14)) - 1) - ((x1 + (I o0 14)) - 1) / (I o0 14) * (I o0 14) = nI j11 ∧ j11 < n10 ∧ ∃ j16, x2 = nI j16 ∧ j16 < n15 ∧ ((¬ x1 = 0) → zi_X l (zx_rm (d + 1) 0 0) M_Mod_sort K RJ Q 2 [(0, .ref o0), (1, .int (x1 + 1))] [] (zx_u2 (zx_u2 I r2 j16 (I r5 j11)) o0 21 (I o0 21))) ∧ ((x1 = 0) → zi_X l (zx_rm (d + 1) 0 0) M_Mod_sort K RJ Q 2 [(0, .ref o0), (1, .int (x1 + 1))] [] (zx_u2 (zx_u2 I r2 j16 (I r5 j11)) o0 21 x2))) ∧ ((¬ (I o0 14) ≤ x3) → ((x3 = x1) → zi_X l (zx_rm (d + 1) 0 0) M_Mod_sort K RJ Q 14 [(0, .ref o0), (1, .int x1), (2, .int (x2 + 0)), (3, .int (x3 + 1))] [] I) ∧ ((¬ x3 = x1) → zi_C l (zx_rm d 0 0) M_Mod_before [.ref o0, .int x3, .int x1] K RJ I (fun r I19 => ∃ v20, r = some (.int v20) ∧ ((v20 = 0) → zi_X l (zx_rm (d + 1) 0 0) M_Mod_sort K RJ Q 14 [(0, .ref o0), (1, .int x1), (2, .int (x2 + 0)), (3, .int (x3 + 1))] [] I19) ∧ ((¬ v20 = 0) → zi_X l (zx_rm (d + 1) 0 0) M_Mod_sort K RJ Q 14 [(0, .ref o0), (1, .int x1), (2, .int (x2 + 1)), (3, .int (x3 + 1))] [] I19))))) :
    zi_X l (zx_rm (d + 1) 0 0) M_Mod_sort K RJ Q 14 [(0, .ref o0), (1, .int x1), (2, .int x2), (3, .int x3)] [] I := by
  refine zx_iload_n d_Mod_sort_14 rfl ?_
  refine zx_aload_n d_Mod_sort_15 rfl ?_
  refine zi_getI f_Mod_98 q1 (by decide) d_Mod_sort_16 ?_
  refine zx_icmp_ge (tgt := 50) d_Mod_sort_19 rfl (fun c => ?_) (fun c => ?_)
  · have k := k.1 c
    refine zx_aload_n d_Mod_sort_50 rfl ?_
    refine zi_getR f_Mod_29 q1 (by decide) e3 z4 d_Mod_sort_51 ?_
    refine zx_iload_n d_Mod_sort_54 rfl ?_
    refine zx_aload_n d_Mod_sort_55 rfl ?_
    refine zi_getR f_Mod_26 q1 (by decide) e6 z7 d_Mod_sort_56 ?_
    refine zx_iload_n d_Mod_sort_59 rfl ?_
    refine zx_aload_n d_Mod_sort_60 rfl ?_
    refine zi_getI f_Mod_98 q1 (by decide) d_Mod_sort_61 ?_
    refine zx_iadd d_Mod_sort_64 ?_
    refine zx_iconst d_Mod_sort_65 zc_1 ?_
    refine zx_isub d_Mod_sort_66 ?_
    refine zx_aload_n d_Mod_sort_67 rfl ?_
    refine zi_getI f_Mod_98 q1 (by decide) d_Mod_sort_68 ?_
    obtain ⟨z8, k⟩ := k
    refine zx_irem d_Mod_sort_71 z8 ?_
    obtain ⟨j11, e12, b13, k⟩ := k
    refine zi_iald j11 a9 e12 b13 d_Mod_sort_72 ?_
    obtain ⟨j16, e17, b18, k⟩ := k
    refine zi_iast j16 a14 e17 b18 d_Mod_sort_73 ?_
    refine zx_aload_n d_Mod_sort_74 rfl ?_
    refine zx_iload_n d_Mod_sort_75 rfl ?_
    refine zx_if_ne (tgt := 83) d_Mod_sort_76 rfl (fun c => ?_) (fun c => ?_)
    · have k := k.1 c
      refine zx_aload_n d_Mod_sort_83 rfl ?_
      refine zi_getIe f_Mod_105 q1 (by decide) (zx_u2_a a14 q1 (by decide)) d_Mod_sort_84 ?_
      refine zi_putI f_Mod_105 q1 (by decide) d_Mod_sort_87 ?_
      refine zx_iinc (L2 := [(0, .ref o0), (1, .int (x1 + 1)), (2, .int x2), (3, .int x3)]) d_Mod_sort_90 rfl (Nat.le_of_ble_eq_true rfl) zc_1 rfl ?_
      refine zx_goto (tgt := 2) d_Mod_sort_93 rfl ?_
      refine zx_locs [0, 1] rfl ?_
      exact k
    · have k := k.2 c
      refine zx_iload_n d_Mod_sort_79 rfl ?_
      refine zx_goto (tgt := 87) d_Mod_sort_80 rfl ?_
      refine zi_putI f_Mod_105 q1 (by decide) d_Mod_sort_87 ?_
      refine zx_iinc (L2 := [(0, .ref o0), (1, .int (x1 + 1)), (2, .int x2), (3, .int x3)]) d_Mod_sort_90 rfl (Nat.le_of_ble_eq_true rfl) zc_1 rfl ?_
      refine zx_goto (tgt := 2) d_Mod_sort_93 rfl ?_
      refine zx_locs [0, 1] rfl ?_
      exact k
  · have k := k.2 c
    refine zx_iload_n d_Mod_sort_22 rfl ?_
    refine zx_iload_n d_Mod_sort_23 rfl ?_
    refine zx_iload_n d_Mod_sort_24 rfl ?_
    refine zx_icmp_eq (tgt := 41) d_Mod_sort_25 rfl (fun c => ?_) (fun c => ?_)
    · have k := k.1 c
      refine zx_iconst d_Mod_sort_41 zc_0 ?_
      refine zx_iadd d_Mod_sort_42 ?_
      refine zx_istore_n (L2 := [(0, .ref o0), (1, .int x1), (2, .int (x2 + 0)), (3, .int x3)]) d_Mod_sort_43 (Nat.le_of_ble_eq_true rfl) rfl ?_
      refine zx_iinc (L2 := [(0, .ref o0), (1, .int x1), (2, .int (x2 + 0)), (3, .int (x3 + 1))]) d_Mod_sort_44 rfl (Nat.le_of_ble_eq_true rfl) zc_1 rfl ?_
      refine zx_goto (tgt := 14) d_Mod_sort_47 rfl ?_
      exact k
    · have k := k.2 c
      refine zx_aload_n d_Mod_sort_28 rfl ?_
      refine zx_iload_n d_Mod_sort_29 rfl ?_
      refine zx_iload_n d_Mod_sort_30 rfl ?_
      refine zi_callV (hC := k) k_Mod_101 q1 (by decide) rfl rfl (Nat.le_of_ble_eq_true rfl) (Nat.le_of_ble_eq_true rfl) d_Mod_sort_31 (fun r I19 k => ?_)
      obtain ⟨v20, rfl, k⟩ := k
      refine zx_if_eq (tgt := 41) d_Mod_sort_34 rfl (fun c => ?_) (fun c => ?_)
      · have k := k.1 c
        refine zx_iconst d_Mod_sort_41 zc_0 ?_
        refine zx_iadd d_Mod_sort_42 ?_
        refine zx_istore_n (L2 := [(0, .ref o0), (1, .int x1), (2, .int (x2 + 0)), (3, .int x3)]) d_Mod_sort_43 (Nat.le_of_ble_eq_true rfl) rfl ?_
        refine zx_iinc (L2 := [(0, .ref o0), (1, .int x1), (2, .int (x2 + 0)), (3, .int (x3 + 1))]) d_Mod_sort_44 rfl (Nat.le_of_ble_eq_true rfl) zc_1 rfl ?_
        refine zx_goto (tgt := 14) d_Mod_sort_47 rfl ?_
        exact k
      · have k := k.2 c
        refine zx_iconst d_Mod_sort_37 zc_1 ?_
        refine zx_goto (tgt := 42) d_Mod_sort_38 rfl ?_
        refine zx_iadd d_Mod_sort_42 ?_
        refine zx_istore_n (L2 := [(0, .ref o0), (1, .int x1), (2, .int (x2 + 1)), (3, .int x3)]) d_Mod_sort_43 (Nat.le_of_ble_eq_true rfl) rfl ?_
        refine zx_iinc (L2 := [(0, .ref o0), (1, .int x1), (2, .int (x2 + 1)), (3, .int (x3 + 1))]) d_Mod_sort_44 rfl (Nat.le_of_ble_eq_true rfl) zc_1 rfl ?_
        refine zx_goto (tgt := 14) d_Mod_sort_47 rfl ?_
        exact k
set_option maxRecDepth 20000 in
theorem r_Mod_unsort_0 (l : Launch) (d : Nat) {K : zx_Kt} {RJ : zx_RJ} {Q : zi_Q} {I : zi_I} (o0 : Nat) 
    (k : zi_X l (zx_rm d 0 0) M_Mod_unsort K RJ Q 2 [(0, .ref o0), (1, .int 0)] [] I) :
    zi_X l (zx_rm d 0 0) M_Mod_unsort K RJ Q 0 [(0, .ref o0)] [] I := by
  refine zx_iconst d_Mod_unsort_0 zc_0 ?_
  refine zx_istore_n (L2 := [(0, .ref o0), (1, .int 0)]) d_Mod_unsort_1 (Nat.le_of_ble_eq_true rfl) rfl ?_
  exact k
set_option maxRecDepth 20000 in
theorem r_Mod_unsort_2 (l : Launch) (d : Nat) {K : zx_Kt} {RJ : zx_RJ} {Q : zi_Q} {I : zi_I} (o0 : Nat) (x1 : Int32) (q1 : (K.2 o0).1 = 6)
    (k : (((I o0 14) ≤ x1) → zi_X l (zx_rm d 0 0) M_Mod_unsort K RJ Q 91 [(0, .ref o0), (1, .int (I o0 21)), (2, .int 0)] [] I) ∧ ((¬ (I o0 14) ≤ x1) → zi_X l (zx_rm d 0 0) M_Mod_unsort K RJ Q 14 [(0, .ref o0), (1, .int x1), (2, .int 0), (3, .int 0)] [] I)) :
    zi_X l (zx_rm d 0 0) M_Mod_unsort K RJ Q 2 [(0, .ref o0), (1, .int x1)] [] I := by
  refine zx_iload_n d_Mod_unsort_2 rfl ?_
  refine zx_aload_n d_Mod_unsort_3 rfl ?_
  refine zi_getI f_Mod_98 q1 (by decide) d_Mod_unsort_4 ?_
  refine zx_icmp_ge (tgt := 84) d_Mod_unsort_7 rfl (fun c => ?_) (fun c => ?_)
  · have k := k.1 c
    refine zx_aload_n d_Mod_unsort_84 rfl ?_
    refine zi_getI f_Mod_105 q1 (by decide) d_Mod_unsort_85 ?_
    refine zx_istore_n (L2 := [(0, .ref o0), (1, .int (I o0 21))]) d_Mod_unsort_88 (Nat.le_of_ble_eq_true rfl) rfl ?_
    refine zx_iconst d_Mod_unsort_89 zc_0 ?_
    refine zx_istore_n (L2 := [(0, .ref o0), (1, .int (I o0 21)), (2, .int 0)]) d_Mod_unsort_90 (Nat.le_of_ble_eq_true rfl) rfl ?_
    exact k
  · have k := k.2 c
    refine zx_iconst d_Mod_unsort_10 zc_0 ?_
    refine zx_istore_n (L2 := [(0, .ref o0), (1, .int x1), (2, .int 0)]) d_Mod_unsort_11 (Nat.le_of_ble_eq_true rfl) rfl ?_
    refine zx_iconst d_Mod_unsort_12 zc_0 ?_
    refine zx_istore_n (L2 := [(0, .ref o0), (1, .int x1), (2, .int 0), (3, .int 0)]) d_Mod_unsort_13 (Nat.le_of_ble_eq_true rfl) rfl ?_
    exact k
set_option maxRecDepth 20000 in
theorem r_Mod_unsort_14 (l : Launch) (d : Nat) {K : zx_Kt} {RJ : zx_RJ} {Q : zi_Q} {I : zi_I} (o0 : Nat) (x1 : Int32) (x2 : Int32) (x3 : Int32) (q1 : (K.2 o0).1 = 6) {r2 : Nat} (e3 : RJ.1 o0 31 = r2) (z4 : r2 ≠ 0) {n6 : Nat} (a5 : K.2 r2 = (0, n6)) {r10 : Nat} (e11 : RJ.1 o0 16 = r10) (z12 : r10 ≠ 0) {n14 : Nat} (a13 : K.2 r10 = (0, n14))
    (k : (((I o0 14) ≤ x3) → ∃ j7, x2 = nI j7 ∧ j7 < n6 ∧ zi_X l (zx_rm d 0 0) M_Mod_unsort K RJ Q 2 [(0, .ref o0), (1, .int (x1 + 1))] [] (zx_u2 I r2 j7 x1)) ∧ ((¬ (I o0 14) ≤ x3) → ∃ j15, x3 = nI j15 ∧ j15 < n14 ∧ ∃ j18, x1 = nI j18 ∧ j18 < n14 ∧ (((I r10 j15) < (I r10 j18)) → zi_X l (zx_rm d 0 0) M_Mod_unsort K RJ Q 14 [(0, .ref o0), (1, .int x1), (2, .int (x2 + 1)), (3, .int (x3 + 1))] [] I) ∧ ((¬ (I r10 j15) < (I r10 j18)) → ∃ j21, x3 = nI j21 ∧ j21 < n14 ∧ ∃ j24, x1 = nI j24 ∧ j24 < n14 ∧ ((¬ (I r10 j21) = (I r10 j24)) → zi_X l (zx_rm d 0 0) M_Mod_unsort K RJ Q 14 [(0, .ref o0), (1, .int x1), (2, .int (x2 + 0)), (3, .int (x3 + 1))] [] I) ∧ (((I r10 j21) = (I r10 j24)) → ((x1 ≤ x3) → zi_X l (zx_rm d 0 0) M_Mod_unsort K RJ Q 14 [(0, .ref o0), (1, .int x1), (2, .int (x2 + 0)), (3, .int (x3 + 1))] [] I) ∧ ((¬ x1 ≤ x3) → zi_X l (zx_rm d 0 0) M_Mod_unsort K RJ Q 14 [(0, .ref o0), (1, .int x1), (2, .int (x2 + 1)), (3, .int (x3 + 1))] [] I))))) :
    zi_X l (zx_rm d 0 0) M_Mod_unsort K RJ Q 14 [(0, .ref o0), (1, .int x1), (2, .int x2), (3, .int x3)] [] I := by
  refine zx_iload_n d_Mod_unsort_14 rfl ?_
  refine zx_aload_n d_Mod_unsort_15 rfl ?_
  refine zi_getI f_Mod_98 q1 (by decide) d_Mod_unsort_16 ?_
  refine zx_icmp_ge (tgt := 71) d_Mod_unsort_19 rfl (fun c => ?_) (fun c => ?_)
  · have k := k.1 c
    refine zx_aload_n d_Mod_unsort_71 rfl ?_
    refine zi_getR f_Mod_54 q1 (by decide) e3 z4 d_Mod_unsort_72 ?_
    refine zx_iload_n d_Mod_unsort_75 rfl ?_
    refine zx_iload_n d_Mod_unsort_76 rfl ?_
    obtain ⟨j7, e8, b9, k⟩ := k
    refine zi_iast j7 a5 e8 b9 d_Mod_unsort_77 ?_
    refine zx_iinc (L2 := [(0, .ref o0), (1, .int (x1 + 1)), (2, .int x2), (3, .int x3)]) d_Mod_unsort_78 rfl (Nat.le_of_ble_eq_true rfl) zc_1 rfl ?_
    refine zx_goto (tgt := 2) d_Mod_unsort_81 rfl ?_
    refine zx_locs [0, 1] rfl ?_
    exact k
  · have k := k.2 c
    refine zx_iload_n d_Mod_unsort_22 rfl ?_
    refine zx_aload_n d_Mod_unsort_23 rfl ?_
    refine zi_getR f_Mod_29 q1 (by decide) e11 z12 d_Mod_unsort_24 ?_
    refine zx_iload_n d_Mod_unsort_27 rfl ?_
    obtain ⟨j15, e16, b17, k⟩ := k
    refine zi_iald j15 a13 e16 b17 d_Mod_unsort_28 ?_
    refine zx_aload_n d_Mod_unsort_29 rfl ?_
    refine zi_getR f_Mod_29 q1 (by decide) e11 z12 d_Mod_unsort_30 ?_
    refine zx_iload_n d_Mod_unsort_33 rfl ?_
    obtain ⟨j18, e19, b20, k⟩ := k
    refine zi_iald j18 a13 e19 b20 d_Mod_unsort_34 ?_
    refine zx_icmp_lt (tgt := 58) d_Mod_unsort_35 rfl (fun c => ?_) (fun c => ?_)
    · have k := k.1 c
      refine zx_iconst d_Mod_unsort_58 zc_1 ?_
      refine zx_goto (tgt := 63) d_Mod_unsort_59 rfl ?_
      refine zx_iadd d_Mod_unsort_63 ?_
      refine zx_istore_n (L2 := [(0, .ref o0), (1, .int x1), (2, .int (x2 + 1)), (3, .int x3)]) d_Mod_unsort_64 (Nat.le_of_ble_eq_true rfl) rfl ?_
      refine zx_iinc (L2 := [(0, .ref o0), (1, .int x1), (2, .int (x2 + 1)), (3, .int (x3 + 1))]) d_Mod_unsort_65 rfl (Nat.le_of_ble_eq_true rfl) zc_1 rfl ?_
      refine zx_goto (tgt := 14) d_Mod_unsort_68 rfl ?_
      exact k
    · have k := k.2 c
      refine zx_aload_n d_Mod_unsort_38 rfl ?_
      refine zi_getR f_Mod_29 q1 (by decide) e11 z12 d_Mod_unsort_39 ?_
      refine zx_iload_n d_Mod_unsort_42 rfl ?_
      obtain ⟨j21, e22, b23, k⟩ := k
      refine zi_iald j21 a13 e22 b23 d_Mod_unsort_43 ?_
      refine zx_aload_n d_Mod_unsort_44 rfl ?_
      refine zi_getR f_Mod_29 q1 (by decide) e11 z12 d_Mod_unsort_45 ?_
      refine zx_iload_n d_Mod_unsort_48 rfl ?_
      obtain ⟨j24, e25, b26, k⟩ := k
      refine zi_iald j24 a13 e25 b26 d_Mod_unsort_49 ?_
      refine zx_icmp_ne (tgt := 62) d_Mod_unsort_50 rfl (fun c => ?_) (fun c => ?_)
      · have k := k.1 c
        refine zx_iconst d_Mod_unsort_62 zc_0 ?_
        refine zx_iadd d_Mod_unsort_63 ?_
        refine zx_istore_n (L2 := [(0, .ref o0), (1, .int x1), (2, .int (x2 + 0)), (3, .int x3)]) d_Mod_unsort_64 (Nat.le_of_ble_eq_true rfl) rfl ?_
        refine zx_iinc (L2 := [(0, .ref o0), (1, .int x1), (2, .int (x2 + 0)), (3, .int (x3 + 1))]) d_Mod_unsort_65 rfl (Nat.le_of_ble_eq_true rfl) zc_1 rfl ?_
        refine zx_goto (tgt := 14) d_Mod_unsort_68 rfl ?_
        exact k
      · have k := k.2 c
        refine zx_iload_n d_Mod_unsort_53 rfl ?_
        refine zx_iload_n d_Mod_unsort_54 rfl ?_
        refine zx_icmp_ge (tgt := 62) d_Mod_unsort_55 rfl (fun c => ?_) (fun c => ?_)
        · have k := k.1 c
          refine zx_iconst d_Mod_unsort_62 zc_0 ?_
          refine zx_iadd d_Mod_unsort_63 ?_
          refine zx_istore_n (L2 := [(0, .ref o0), (1, .int x1), (2, .int (x2 + 0)), (3, .int x3)]) d_Mod_unsort_64 (Nat.le_of_ble_eq_true rfl) rfl ?_
          refine zx_iinc (L2 := [(0, .ref o0), (1, .int x1), (2, .int (x2 + 0)), (3, .int (x3 + 1))]) d_Mod_unsort_65 rfl (Nat.le_of_ble_eq_true rfl) zc_1 rfl ?_
          refine zx_goto (tgt := 14) d_Mod_unsort_68 rfl ?_
          exact k
        · have k := k.2 c
          refine zx_iconst d_Mod_unsort_58 zc_1 ?_
          refine zx_goto (tgt := 63) d_Mod_unsort_59 rfl ?_
          refine zx_iadd d_Mod_unsort_63 ?_
          refine zx_istore_n (L2 := [(0, .ref o0), (1, .int x1), (2, .int (x2 + 1)), (3, .int x3)]) d_Mod_unsort_64 (Nat.le_of_ble_eq_true rfl) rfl ?_
          refine zx_iinc (L2 := [(0, .ref o0), (1, .int x1), (2, .int (x2 + 1)), (3, .int (x3 + 1))]) d_Mod_unsort_65 rfl (Nat.le_of_ble_eq_true rfl) zc_1 rfl ?_
          refine zx_goto (tgt := 14) d_Mod_unsort_68 rfl ?_
          exact k
set_option maxRecDepth 20000 in
theorem r_Mod_unsort_91 (l : Launch) (d : Nat) {K : zx_Kt} {RJ : zx_RJ} {Q : zi_Q} {I : zi_I} (o0 : Nat) (x1 : Int32) (x2 : Int32) (q1 : (K.2 o0).1 = 6) {r2 : Nat} (e3 : RJ.1 o0 31 = r2) (z4 : r2 ≠ 0) {n6 : Nat} (a5 : K.2 r2 = (0, n6)) {r10 : Nat} (e11 : RJ.1 o0 15 = r10) (z12 : r10 ≠ 0) {r13 : Nat} (e14 : RJ.1 o0 16 = r13) (z15 : r13 ≠ 0) {n17 : Nat} (a16 : K.2 r13 = (0, n17)) {n22 : Nat} (a21 : K.2 r10 = (0, n22))
    (k : (((I o0 14) ≤ x2) → Q none I) ∧ ((¬ (I o0 14) ≤ x2) → ∃ j7, x1 = nI j7 ∧ j7 < n6 ∧ ∃ j18, I r2 j7 = nI j18 ∧ j18 < n17 ∧ ∃ j23, x2 = nI j23 ∧ j23 < n22 ∧ zi_X l (zx_rm d 0 0) M_Mod_unsort K RJ Q 91 [(0, .ref o0), (1, .int (I r2 j7)), (2, .int (x2 + 1))] [] (zx_u2 I r10 j23 (I r13 j18)))) :
    zi_X l (zx_rm d 0 0) M_Mod_unsort K RJ Q 91 [(0, .ref o0), (1, .int x1), (2, .int x2)] [] I := by
  refine zx_iload_n d_Mod_unsort_91 rfl ?_
  refine zx_aload_n d_Mod_unsort_92 rfl ?_
  refine zi_getI f_Mod_98 q1 (by decide) d_Mod_unsort_93 ?_
  refine zx_icmp_ge (tgt := 124) d_Mod_unsort_96 rfl (fun c => ?_) (fun c => ?_)
  · have k := k.1 c
    exact zi_vret d_Mod_unsort_124 rfl k
  · have k := k.2 c
    refine zx_aload_n d_Mod_unsort_99 rfl ?_
    refine zi_getR f_Mod_54 q1 (by decide) e3 z4 d_Mod_unsort_100 ?_
    refine zx_iload_n d_Mod_unsort_103 rfl ?_
    obtain ⟨j7, e8, b9, k⟩ := k
    refine zi_iald j7 a5 e8 b9 d_Mod_unsort_104 ?_
    refine zx_istore_n (L2 := [(0, .ref o0), (1, .int (I r2 j7)), (2, .int x2)]) d_Mod_unsort_105 (Nat.le_of_ble_eq_true rfl) rfl ?_
    refine zx_aload_n d_Mod_unsort_106 rfl ?_
    refine zi_getR f_Mod_26 q1 (by decide) e11 z12 d_Mod_unsort_107 ?_
    refine zx_iload_n d_Mod_unsort_110 rfl ?_
    refine zx_aload_n d_Mod_unsort_111 rfl ?_
    refine zi_getR f_Mod_29 q1 (by decide) e14 z15 d_Mod_unsort_112 ?_
    refine zx_iload_n d_Mod_unsort_115 rfl ?_
    obtain ⟨j18, e19, b20, k⟩ := k
    refine zi_iald j18 a16 e19 b20 d_Mod_unsort_116 ?_
    obtain ⟨j23, e24, b25, k⟩ := k
    refine zi_iast j23 a21 e24 b25 d_Mod_unsort_117 ?_
    refine zx_iinc (L2 := [(0, .ref o0), (1, .int (I r2 j7)), (2, .int (x2 + 1))]) d_Mod_unsort_118 rfl (Nat.le_of_ble_eq_true rfl) zc_1 rfl ?_
    refine zx_goto (tgt := 91) d_Mod_unsort_121 rfl ?_
    exact k
set_option maxRecDepth 20000 in
theorem r_Mod_listUsed_0 (l : Launch) (d : Nat) {K : zx_Kt} {RJ : zx_RJ} {Q : zi_Q} {I : zi_I} (o0 : Nat) (q1 : (K.2 o0).1 = 6)
    (k : zi_X l (zx_rm d 0 0) M_Mod_listUsed K RJ Q 7 [(0, .ref o0), (1, .int 0)] [] (zx_u2 I o0 22 0)) :
    zi_X l (zx_rm d 0 0) M_Mod_listUsed K RJ Q 0 [(0, .ref o0)] [] I := by
  refine zx_aload_n d_Mod_listUsed_0 rfl ?_
  refine zx_iconst d_Mod_listUsed_1 zc_0 ?_
  refine zi_putI f_Mod_108 q1 (by decide) d_Mod_listUsed_2 ?_
  refine zx_iconst d_Mod_listUsed_5 zc_0 ?_
  refine zx_istore_n (L2 := [(0, .ref o0), (1, .int 0)]) d_Mod_listUsed_6 (Nat.le_of_ble_eq_true rfl) rfl ?_
  exact k
set_option maxRecDepth 20000 in
theorem r_Mod_listUsed_7 (l : Launch) (d : Nat) {K : zx_Kt} {RJ : zx_RJ} {Q : zi_Q} {I : zi_I} (o0 : Nat) (x1 : Int32) (q1 : (K.2 o0).1 = 6) {r2 : Nat} (e3 : RJ.1 o0 23 = r2) (z4 : r2 ≠ 0) {n6 : Nat} (a5 : K.2 r2 = (1, n6)) {r10 : Nat} (e11 : RJ.1 o0 24 = r10) (z12 : r10 ≠ 0) {n14 : Nat} (a13 : K.2 r10 = (0, n14))
    (k : ((256 ≤ x1) → Q none I) ∧ ((¬ 256 ≤ x1) → ∃ j7, x1 = nI j7 ∧ j7 < n6 ∧ (((I r2 j7) = 0) → zi_X l (zx_rm d 0 0) M_Mod_listUsed K RJ Q 7 [(0, .ref o0), (1, .int (x1 + 1))] [] I) ∧ ((¬ (I r2 j7) = 0) → ∃ j15, I o0 22 = nI j15 ∧ j15 < n14 ∧ zi_X l (zx_rm d 0 0) M_Mod_listUsed K RJ Q 7 [(0, .ref o0), (1, .int (x1 + 1))] [] (zx_u2 (zx_u2 I r10 j15 x1) o0 22 ((I o0 22) + 1))))) :
    zi_X l (zx_rm d 0 0) M_Mod_listUsed K RJ Q 7 [(0, .ref o0), (1, .int x1)] [] I := by
  refine zx_iload_n d_Mod_listUsed_7 rfl ?_
  refine zx_sipush d_Mod_listUsed_8 zs_256 ?_
  refine zx_icmp_ge (tgt := 49) d_Mod_listUsed_11 rfl (fun c => ?_) (fun c => ?_)
  · have k := k.1 c
    exact zi_vret d_Mod_listUsed_49 rfl k
  · have k := k.2 c
    refine zx_aload_n d_Mod_listUsed_14 rfl ?_
    refine zi_getR f_Mod_35 q1 (by decide) e3 z4 d_Mod_listUsed_15 ?_
    refine zx_iload_n d_Mod_listUsed_18 rfl ?_
    obtain ⟨j7, e8, b9, k⟩ := k
    refine zi_zald j7 a5 e8 b9 d_Mod_listUsed_19 ?_
    refine zx_if_eq (tgt := 43) d_Mod_listUsed_20 rfl (fun c => ?_) (fun c => ?_)
    · have k := k.1 c
      refine zx_iinc (L2 := [(0, .ref o0), (1, .int (x1 + 1))]) d_Mod_listUsed_43 rfl (Nat.le_of_ble_eq_true rfl) zc_1 rfl ?_
      refine zx_goto (tgt := 7) d_Mod_listUsed_46 rfl ?_
      exact k
    · have k := k.2 c
      refine zx_aload_n d_Mod_listUsed_23 rfl ?_
      refine zi_getR f_Mod_39 q1 (by decide) e11 z12 d_Mod_listUsed_24 ?_
      refine zx_aload_n d_Mod_listUsed_27 rfl ?_
      refine zi_getI f_Mod_108 q1 (by decide) d_Mod_listUsed_28 ?_
      refine zx_iload_n d_Mod_listUsed_31 rfl ?_
      obtain ⟨j15, e16, b17, k⟩ := k
      refine zi_iast j15 a13 e16 b17 d_Mod_listUsed_32 ?_
      refine zx_aload_n d_Mod_listUsed_33 rfl ?_
      refine zx_dup_a d_Mod_listUsed_34 ?_
      refine zi_getIe f_Mod_108 q1 (by decide) (zx_u2_a a13 q1 (by decide)) d_Mod_listUsed_35 ?_
      refine zx_iconst d_Mod_listUsed_38 zc_1 ?_
      refine zx_iadd d_Mod_listUsed_39 ?_
      refine zi_putI f_Mod_108 q1 (by decide) d_Mod_listUsed_40 ?_
      refine zx_iinc (L2 := [(0, .ref o0), (1, .int (x1 + 1))]) d_Mod_listUsed_43 rfl (Nat.le_of_ble_eq_true rfl) zc_1 rfl ?_
      refine zx_goto (tgt := 7) d_Mod_listUsed_46 rfl ?_
      exact k
set_option maxRecDepth 20000 in
theorem r_Mod_toFront_0 (l : Launch) (d : Nat) {K : zx_Kt} {RJ : zx_RJ} {Q : zi_Q} {I : zi_I} (o0 : Nat) (x1 : Int32) (q1 : (K.2 o0).1 = 6) {r2 : Nat} (e3 : RJ.1 o0 24 = r2) (z4 : r2 ≠ 0) {n6 : Nat} (a5 : K.2 r2 = (0, n6))
    (k : ∃ j7, x1 = nI j7 ∧ j7 < n6 ∧ zi_X l (zx_rm d 0 0) M_Mod_toFront K RJ Q 9 [(0, .ref o0), (1, .int x1), (2, .int (I r2 j7)), (3, .int x1)] [] I) :
    zi_X l (zx_rm d 0 0) M_Mod_toFront K RJ Q 0 [(0, .ref o0), (1, .int x1)] [] I := by
  refine zx_aload_n d_Mod_toFront_0 rfl ?_
  refine zi_getR f_Mod_39 q1 (by decide) e3 z4 d_Mod_toFront_1 ?_
  refine zx_iload_n d_Mod_toFront_4 rfl ?_
  obtain ⟨j7, e8, b9, k⟩ := k
  refine zi_iald j7 a5 e8 b9 d_Mod_toFront_5 ?_
  refine zx_istore_n (L2 := [(0, .ref o0), (1, .int x1), (2, .int (I r2 j7))]) d_Mod_toFront_6 (Nat.le_of_ble_eq_true rfl) rfl ?_
  refine zx_iload_n d_Mod_toFront_7 rfl ?_
  refine zx_istore_n (L2 := [(0, .ref o0), (1, .int x1), (2, .int (I r2 j7)), (3, .int x1)]) d_Mod_toFront_8 (Nat.le_of_ble_eq_true rfl) rfl ?_
  exact k
set_option maxRecDepth 20000 in
theorem r_Mod_toFront_9 (l : Launch) (d : Nat) {K : zx_Kt} {RJ : zx_RJ} {Q : zi_Q} {I : zi_I} (o0 : Nat) (x1 : Int32) (x2 : Int32) (x3 : Int32) (q1 : (K.2 o0).1 = 6) {r2 : Nat} (e3 : RJ.1 o0 24 = r2) (z4 : r2 ≠ 0) {n6 : Nat} (a5 : K.2 r2 = (0, n6))
    (k : ((x3 ≤ 0) → 0 < n6 ∧ Q (some (.int x2)) (zx_u2 I r2 0 x2)) ∧ ((¬ x3 ≤ 0) → ∃ j10, x3 - 1 = nI j10 ∧ j10 < n6 ∧ ∃ j13, x3 = nI j13 ∧ j13 < n6 ∧ zi_X l (zx_rm d 0 0) M_Mod_toFront K RJ Q 9 [(0, .ref o0), (1, .int x1), (2, .int x2), (3, .int (x3 + (-1)))] [] (zx_u2 I r2 j13 (I r2 j10)))) :
    zi_X l (zx_rm d 0 0) M_Mod_toFront K RJ Q 9 [(0, .ref o0), (1, .int x1), (2, .int x2), (3, .int x3)] [] I := by
  refine zx_iload_n d_Mod_toFront_9 rfl ?_
  refine zx_if_le (tgt := 33) d_Mod_toFront_10 rfl (fun c => ?_) (fun c => ?_)
  · have k := k.1 c
    refine zx_aload_n d_Mod_toFront_33 rfl ?_
    refine zi_getR f_Mod_39 q1 (by decide) e3 z4 d_Mod_toFront_34 ?_
    refine zx_iconst d_Mod_toFront_37 zc_0 ?_
    refine zx_iload_n d_Mod_toFront_38 rfl ?_
    obtain ⟨b9, k⟩ := k
    refine zi_iast 0 a5 rfl b9 d_Mod_toFront_39 ?_
    refine zx_iload_n d_Mod_toFront_40 rfl ?_
    exact zi_iret d_Mod_toFront_41 rfl k
  · have k := k.2 c
    refine zx_aload_n d_Mod_toFront_13 rfl ?_
    refine zi_getR f_Mod_39 q1 (by decide) e3 z4 d_Mod_toFront_14 ?_
    refine zx_iload_n d_Mod_toFront_17 rfl ?_
    refine zx_aload_n d_Mod_toFront_18 rfl ?_
    refine zi_getR f_Mod_39 q1 (by decide) e3 z4 d_Mod_toFront_19 ?_
    refine zx_iload_n d_Mod_toFront_22 rfl ?_
    refine zx_iconst d_Mod_toFront_23 zc_1 ?_
    refine zx_isub d_Mod_toFront_24 ?_
    obtain ⟨j10, e11, b12, k⟩ := k
    refine zi_iald j10 a5 e11 b12 d_Mod_toFront_25 ?_
    obtain ⟨j13, e14, b15, k⟩ := k
    refine zi_iast j13 a5 e14 b15 d_Mod_toFront_26 ?_
    refine zx_iinc (L2 := [(0, .ref o0), (1, .int x1), (2, .int x2), (3, .int (x3 + (-1)))]) d_Mod_toFront_27 rfl (Nat.le_of_ble_eq_true rfl) zc_m1 rfl ?_
    refine zx_goto (tgt := 9) d_Mod_toFront_30 rfl ?_
    exact k
set_option maxRecDepth 20000 in
theorem r_Mod_addSymbol_0 (l : Launch) (d : Nat) {K : zx_Kt} {RJ : zx_RJ} {Q : zi_Q} {I : zi_I} (o0 : Nat) (x1 : Int32) (q1 : (K.2 o0).1 = 6) {r2 : Nat} (e3 : RJ.1 o0 18 = r2) (z4 : r2 ≠ 0) {n6 : Nat} (a5 : K.2 r2 = (0, n6))
    (k : ∃ j7, I o0 17 = nI j7 ∧ j7 < n6 ∧ Q none (zx_u2 (zx_u2 I r2 j7 x1) o0 17 ((I o0 17) + 1))) :
    zi_X l (zx_rm d 0 0) M_Mod_addSymbol K RJ Q 0 [(0, .ref o0), (1, .int x1)] [] I := by
  refine zx_aload_n d_Mod_addSymbol_0 rfl ?_
  refine zi_getR f_Mod_32 q1 (by decide) e3 z4 d_Mod_addSymbol_1 ?_
  refine zx_aload_n d_Mod_addSymbol_4 rfl ?_
  refine zi_getI f_Mod_111 q1 (by decide) d_Mod_addSymbol_5 ?_
  refine zx_iload_n d_Mod_addSymbol_8 rfl ?_
  obtain ⟨j7, e8, b9, k⟩ := k
  refine zi_iast j7 a5 e8 b9 d_Mod_addSymbol_9 ?_
  refine zx_aload_n d_Mod_addSymbol_10 rfl ?_
  refine zx_dup_a d_Mod_addSymbol_11 ?_
  refine zi_getIe f_Mod_111 q1 (by decide) (zx_u2_a a5 q1 (by decide)) d_Mod_addSymbol_12 ?_
  refine zx_iconst d_Mod_addSymbol_15 zc_1 ?_
  refine zx_iadd d_Mod_addSymbol_16 ?_
  refine zi_putI f_Mod_111 q1 (by decide) d_Mod_addSymbol_17 ?_
  exact zi_vret d_Mod_addSymbol_20 rfl k
set_option maxRecDepth 20000 in
theorem r_Mod_addRun_0 (l : Launch) (d : Nat) {K : zx_Kt} {RJ : zx_RJ} {Q : zi_Q} {I : zi_I} (o0 : Nat) (x1 : Int32) 
    (k : zi_X l (zx_rm (d + 1) 0 0) M_Mod_addRun K RJ Q 2 [(0, .ref o0), (1, .int x1), (2, .int x1)] [] I) :
    zi_X l (zx_rm (d + 1) 0 0) M_Mod_addRun K RJ Q 0 [(0, .ref o0), (1, .int x1)] [] I := by
  refine zx_iload_n d_Mod_addRun_0 rfl ?_
  refine zx_istore_n (L2 := [(0, .ref o0), (1, .int x1), (2, .int x1)]) d_Mod_addRun_1 (Nat.le_of_ble_eq_true rfl) rfl ?_
  exact k
set_option maxRecDepth 20000 in
theorem r_Mod_addRun_2 (l : Launch) (d : Nat) {K : zx_Kt} {RJ : zx_RJ} {Q : zi_Q} {I : zi_I} (o0 : Nat) (x1 : Int32) (x2 : Int32) (q1 : (K.2 o0).1 = 6)
    (k : ((x2 ≤ 0) → Q none I) ∧ ((¬ x2 ≤ 0) → ((¬ (x2 - x2 / 2 * 2) = 1) → zi_C l (zx_rm d 0 0) M_Mod_addSymbol [.ref o0, .int 1] K RJ I (fun r I2 => r = none ∧ zi_X l (zx_rm (d + 1) 0 0) M_Mod_addRun K RJ Q 2 [(0, .ref o0), (1, .int x1), (2, .int (((x2 - 1) - 1) / 2))] [] I2)) ∧ (((x2 - x2 / 2 * 2) = 1) → zi_C l (zx_rm d 0 0) M_Mod_addSymbol [.ref o0, .int 0] K RJ I (fun r I3 => r = none ∧ zi_X l (zx_rm (d + 1) 0 0) M_Mod_addRun K RJ Q 2 [(0, .ref o0), (1, .int x1), (2, .int (((x2 - 1) - 0) / 2))] [] I3)))) :
    zi_X l (zx_rm (d + 1) 0 0) M_Mod_addRun K RJ Q 2 [(0, .ref o0), (1, .int x1), (2, .int x2)] [] I := by
  refine zx_iload_n d_Mod_addRun_2 rfl ?_
  refine zx_if_le (tgt := 35) d_Mod_addRun_3 rfl (fun c => ?_) (fun c => ?_)
  · have k := k.1 c
    exact zi_vret d_Mod_addRun_35 rfl k
  · have k := k.2 c
    refine zx_iload_n d_Mod_addRun_6 rfl ?_
    refine zx_iconst d_Mod_addRun_7 zc_2 ?_
    refine zx_irem d_Mod_addRun_8 (by decide) ?_
    refine zx_iconst d_Mod_addRun_9 zc_1 ?_
    refine zx_icmp_ne (tgt := 17) d_Mod_addRun_10 rfl (fun c => ?_) (fun c => ?_)
    · have k := k.1 c
      refine zx_iconst d_Mod_addRun_17 zc_1 ?_
      refine zx_istore_n (L2 := [(0, .ref o0), (1, .int x1), (2, .int x2), (3, .int 1)]) d_Mod_addRun_18 (Nat.le_of_ble_eq_true rfl) rfl ?_
      refine zx_aload_n d_Mod_addRun_19 rfl ?_
      refine zx_iload_n d_Mod_addRun_20 rfl ?_
      refine zi_callV (hC := k) k_Mod_114 q1 (by decide) rfl rfl (Nat.le_of_ble_eq_true rfl) (Nat.le_of_ble_eq_true rfl) d_Mod_addRun_21 (fun r I2 k => ?_)
      obtain ⟨rfl, k⟩ := k
      refine zx_iload_n d_Mod_addRun_24 rfl ?_
      refine zx_iconst d_Mod_addRun_25 zc_1 ?_
      refine zx_isub d_Mod_addRun_26 ?_
      refine zx_iload_n d_Mod_addRun_27 rfl ?_
      refine zx_isub d_Mod_addRun_28 ?_
      refine zx_iconst d_Mod_addRun_29 zc_2 ?_
      refine zx_idiv d_Mod_addRun_30 (by decide) ?_
      refine zx_istore_n (L2 := [(0, .ref o0), (1, .int x1), (2, .int (((x2 - 1) - 1) / 2)), (3, .int 1)]) d_Mod_addRun_31 (Nat.le_of_ble_eq_true rfl) rfl ?_
      refine zx_goto (tgt := 2) d_Mod_addRun_32 rfl ?_
      refine zx_locs [0, 1, 2] rfl ?_
      exact k
    · have k := k.2 c
      refine zx_iconst d_Mod_addRun_13 zc_0 ?_
      refine zx_goto (tgt := 18) d_Mod_addRun_14 rfl ?_
      refine zx_istore_n (L2 := [(0, .ref o0), (1, .int x1), (2, .int x2), (3, .int 0)]) d_Mod_addRun_18 (Nat.le_of_ble_eq_true rfl) rfl ?_
      refine zx_aload_n d_Mod_addRun_19 rfl ?_
      refine zx_iload_n d_Mod_addRun_20 rfl ?_
      refine zi_callV (hC := k) k_Mod_114 q1 (by decide) rfl rfl (Nat.le_of_ble_eq_true rfl) (Nat.le_of_ble_eq_true rfl) d_Mod_addRun_21 (fun r I3 k => ?_)
      obtain ⟨rfl, k⟩ := k
      refine zx_iload_n d_Mod_addRun_24 rfl ?_
      refine zx_iconst d_Mod_addRun_25 zc_1 ?_
      refine zx_isub d_Mod_addRun_26 ?_
      refine zx_iload_n d_Mod_addRun_27 rfl ?_
      refine zx_isub d_Mod_addRun_28 ?_
      refine zx_iconst d_Mod_addRun_29 zc_2 ?_
      refine zx_idiv d_Mod_addRun_30 (by decide) ?_
      refine zx_istore_n (L2 := [(0, .ref o0), (1, .int x1), (2, .int (((x2 - 1) - 0) / 2)), (3, .int 0)]) d_Mod_addRun_31 (Nat.le_of_ble_eq_true rfl) rfl ?_
      refine zx_goto (tgt := 2) d_Mod_addRun_32 rfl ?_
      refine zx_locs [0, 1, 2] rfl ?_
      exact k
set_option maxRecDepth 20000 in
theorem r_Mod_makeSymbols_0 (l : Launch) (d : Nat) {K : zx_Kt} {RJ : zx_RJ} {Q : zi_Q} {I : zi_I} (o0 : Nat) 
    (k : zi_X l (zx_rm (d + 1) 0 0) M_Mod_makeSymbols K RJ Q 2 [(0, .ref o0), (1, .int 0)] [] I) :
    zi_X l (zx_rm (d + 1) 0 0) M_Mod_makeSymbols K RJ Q 0 [(0, .ref o0)] [] I := by
  refine zx_iconst d_Mod_makeSymbols_0 zc_0 ?_
  refine zx_istore_n (L2 := [(0, .ref o0), (1, .int 0)]) d_Mod_makeSymbols_1 (Nat.le_of_ble_eq_true rfl) rfl ?_
  exact k
set_option maxRecDepth 20000 in
theorem r_Mod_makeSymbols_2 (l : Launch) (d : Nat) {K : zx_Kt} {RJ : zx_RJ} {Q : zi_Q} {I : zi_I} (o0 : Nat) (x1 : Int32) (q1 : (K.2 o0).1 = 6) {r2 : Nat} (e3 : RJ.1 o0 23 = r2) (z4 : r2 ≠ 0) {n6 : Nat} (a5 : K.2 r2 = (1, n6))
    (k : ((256 ≤ x1) → zi_X l (zx_rm (d + 1) 0 0) M_Mod_makeSymbols K RJ Q 24 [(0, .ref o0), (1, .int 0)] [] I) ∧ ((¬ 256 ≤ x1) → ∃ j7, x1 = nI j7 ∧ j7 < n6 ∧ zi_X l (zx_rm (d + 1) 0 0) M_Mod_makeSymbols K RJ Q 2 [(0, .ref o0), (1, .int (x1 + 1))] [] (zx_u2 I r2 j7 0))) :
    zi_X l (zx_rm (d + 1) 0 0) M_Mod_makeSymbols K RJ Q 2 [(0, .ref o0), (1, .int x1)] [] I := by
  refine zx_iload_n d_Mod_makeSymbols_2 rfl ?_
  refine zx_sipush d_Mod_makeSymbols_3 zs_256 ?_
  refine zx_icmp_ge (tgt := 22) d_Mod_makeSymbols_6 rfl (fun c => ?_) (fun c => ?_)
  · have k := k.1 c
    refine zx_iconst d_Mod_makeSymbols_22 zc_0 ?_
    refine zx_istore_n (L2 := [(0, .ref o0), (1, .int 0)]) d_Mod_makeSymbols_23 (Nat.le_of_ble_eq_true rfl) rfl ?_
    exact k
  · have k := k.2 c
    refine zx_aload_n d_Mod_makeSymbols_9 rfl ?_
    refine zi_getR f_Mod_35 q1 (by decide) e3 z4 d_Mod_makeSymbols_10 ?_
    refine zx_iload_n d_Mod_makeSymbols_13 rfl ?_
    refine zx_iconst d_Mod_makeSymbols_14 zc_0 ?_
    obtain ⟨j7, e8, b9, k⟩ := k
    refine zi_zast j7 a5 e8 b9 rfl d_Mod_makeSymbols_15 ?_
    refine zx_iinc (L2 := [(0, .ref o0), (1, .int (x1 + 1))]) d_Mod_makeSymbols_16 rfl (Nat.le_of_ble_eq_true rfl) zc_1 rfl ?_
    refine zx_goto (tgt := 2) d_Mod_makeSymbols_19 rfl ?_
    exact k
set_option maxRecDepth 20000 in
theorem r_Mod_makeSymbols_24 (l : Launch) (d : Nat) {K : zx_Kt} {RJ : zx_RJ} {Q : zi_Q} {I : zi_I} (o0 : Nat) (x1 : Int32) (q1 : (K.2 o0).1 = 6) {r3 : Nat} (e4 : RJ.1 o0 23 = r3) (z5 : r3 ≠ 0) {r6 : Nat} (e7 : RJ.1 o0 15 = r6) (z8 : r6 ≠ 0) {n10 : Nat} (a9 : K.2 r6 = (0, n10)) {n15 : Nat} (a14 : K.2 r3 = (1, n15))
    (k : (((I o0 14) ≤ x1) → zi_C l (zx_rm d 0 0) M_Mod_listUsed [.ref o0] K RJ I (fun r I2 => r = none ∧ zi_X l (zx_rm (d + 1) 0 0) M_Mod_makeSymbols K RJ Q 63 [(0, .ref o0), (1, .int 0), (2, .int 0)] [] (zx_u2 I2 o0 17 0))) ∧ ((¬ (I o0 14) ≤ x1) → ∃ j11, x1 = nI j11 ∧ j11 < n10 ∧ ∃ j16, I r6 j11 = nI j16 ∧ j16 < n15 ∧ zi_X l (zx_rm (d + 1) 0 0) M_Mod_makeSymbols K RJ Q 24 [(0, .ref o0), (1, .int (x1 + 1))] [] (zx_u2 I r3 j16 1))) :
    zi_X l (zx_rm (d + 1) 0 0) M_Mod_makeSymbols K RJ Q 24 [(0, .ref o0), (1, .int x1)] [] I := by
  refine zx_iload_n d_Mod_makeSymbols_24 rfl ?_
  refine zx_aload_n d_Mod_makeSymbols_25 rfl ?_
  refine zi_getI f_Mod_98 q1 (by decide) d_Mod_makeSymbols_26 ?_
  refine zx_icmp_ge (tgt := 50) d_Mod_makeSymbols_29 rfl (fun c => ?_) (fun c => ?_)
  · have k := k.1 c
    refine zx_aload_n d_Mod_makeSymbols_50 rfl ?_
    refine zi_callV (hC := k) k_Mod_118 q1 (by decide) rfl rfl (Nat.le_of_ble_eq_true rfl) (Nat.le_of_ble_eq_true rfl) d_Mod_makeSymbols_51 (fun r I2 k => ?_)
    obtain ⟨rfl, k⟩ := k
    refine zx_aload_n d_Mod_makeSymbols_54 rfl ?_
    refine zx_iconst d_Mod_makeSymbols_55 zc_0 ?_
    refine zi_putI f_Mod_111 q1 (by decide) d_Mod_makeSymbols_56 ?_
    refine zx_iconst d_Mod_makeSymbols_59 zc_0 ?_
    refine zx_istore_n (L2 := [(0, .ref o0), (1, .int 0)]) d_Mod_makeSymbols_60 (Nat.le_of_ble_eq_true rfl) rfl ?_
    refine zx_iconst d_Mod_makeSymbols_61 zc_0 ?_
    refine zx_istore_n (L2 := [(0, .ref o0), (1, .int 0), (2, .int 0)]) d_Mod_makeSymbols_62 (Nat.le_of_ble_eq_true rfl) rfl ?_
    exact k
  · have k := k.2 c
    refine zx_aload_n d_Mod_makeSymbols_32 rfl ?_
    refine zi_getR f_Mod_35 q1 (by decide) e4 z5 d_Mod_makeSymbols_33 ?_
    refine zx_aload_n d_Mod_makeSymbols_36 rfl ?_
    refine zi_getR f_Mod_26 q1 (by decide) e7 z8 d_Mod_makeSymbols_37 ?_
    refine zx_iload_n d_Mod_makeSymbols_40 rfl ?_
    obtain ⟨j11, e12, b13, k⟩ := k
    refine zi_iald j11 a9 e12 b13 d_Mod_makeSymbols_41 ?_
    refine zx_iconst d_Mod_makeSymbols_42 zc_1 ?_
    obtain ⟨j16, e17, b18, k⟩ := k
    refine zi_zast j16 a14 e17 b18 rfl d_Mod_makeSymbols_43 ?_
    refine zx_iinc (L2 := [(0, .ref o0), (1, .int (x1 + 1))]) d_Mod_makeSymbols_44 rfl (Nat.le_of_ble_eq_true rfl) zc_1 rfl ?_
    refine zx_goto (tgt := 24) d_Mod_makeSymbols_47 rfl ?_
    exact k
set_option maxRecDepth 20000 in
theorem r_Mod_makeSymbols_63 (l : Launch) (d : Nat) {K : zx_Kt} {RJ : zx_RJ} {Q : zi_Q} {I : zi_I} (o0 : Nat) (x1 : Int32) (x2 : Int32) (q1 : (K.2 o0).1 = 6)
    (k : (((I o0 14) ≤ x2) → zi_C l (zx_rm d 0 0) M_Mod_addRun [.ref o0, .int x1] K RJ I (fun r I2 => r = none ∧ zi_C l (zx_rm d 0 0) M_Mod_addSymbol [.ref o0, .int ((I2 o0 22) + 1)] K RJ I2 (fun r I3 => r = none ∧ Q none I3))) ∧ ((¬ (I o0 14) ≤ x2) → zi_X l (zx_rm (d + 1) 0 0) M_Mod_makeSymbols K RJ Q 73 [(0, .ref o0), (1, .int x1), (2, .int x2), (3, .int 0)] [] I)) :
    zi_X l (zx_rm (d + 1) 0 0) M_Mod_makeSymbols K RJ Q 63 [(0, .ref o0), (1, .int x1), (2, .int x2)] [] I := by
  refine zx_iload_n d_Mod_makeSymbols_63 rfl ?_
  refine zx_aload_n d_Mod_makeSymbols_64 rfl ?_
  refine zi_getI f_Mod_98 q1 (by decide) d_Mod_makeSymbols_65 ?_
  refine zx_icmp_ge (tgt := 141) d_Mod_makeSymbols_68 rfl (fun c => ?_) (fun c => ?_)
  · have k := k.1 c
    refine zx_aload_n d_Mod_makeSymbols_141 rfl ?_
    refine zx_iload_n d_Mod_makeSymbols_142 rfl ?_
    refine zi_callV (hC := k) k_Mod_125 q1 (by decide) rfl rfl (Nat.le_of_ble_eq_true rfl) (Nat.le_of_ble_eq_true rfl) d_Mod_makeSymbols_143 (fun r I2 k => ?_)
    obtain ⟨rfl, k⟩ := k
    refine zx_aload_n d_Mod_makeSymbols_146 rfl ?_
    refine zx_aload_n d_Mod_makeSymbols_147 rfl ?_
    refine zi_getI f_Mod_108 q1 (by decide) d_Mod_makeSymbols_148 ?_
    refine zx_iconst d_Mod_makeSymbols_151 zc_1 ?_
    refine zx_iadd d_Mod_makeSymbols_152 ?_
    refine zi_callV (hC := k) k_Mod_114 q1 (by decide) rfl rfl (Nat.le_of_ble_eq_true rfl) (Nat.le_of_ble_eq_true rfl) d_Mod_makeSymbols_153 (fun r I3 k => ?_)
    obtain ⟨rfl, k⟩ := k
    exact zi_vret d_Mod_makeSymbols_156 rfl k
  · have k := k.2 c
    refine zx_iconst d_Mod_makeSymbols_71 zc_0 ?_
    refine zx_istore_n (L2 := [(0, .ref o0), (1, .int x1), (2, .int x2), (3, .int 0)]) d_Mod_makeSymbols_72 (Nat.le_of_ble_eq_true rfl) rfl ?_
    exact k
set_option maxRecDepth 20000 in
theorem r_Mod_makeSymbols_73 (l : Launch) (d : Nat) {K : zx_Kt} {RJ : zx_RJ} {Q : zi_Q} {I : zi_I} (o0 : Nat) (x1 : Int32) (x2 : Int32) (x3 : Int32) (q1 : (K.2 o0).1 = 6) {r2 : Nat} (e3 : RJ.1 o0 24 = r2) (z4 : r2 ≠ 0) {n6 : Nat} (a5 : K.2 r2 = (0, n6)) {r10 : Nat} (e11 : RJ.1 o0 16 = r10) (z12 : r10 ≠ 0) {n14 : Nat} (a13 : K.2 r10 = (0, n14))
    (k : ∃ j7, x3 = nI j7 ∧ j7 < n6 ∧ ∃ j15, x2 = nI j15 ∧ j15 < n14 ∧ (((I r2 j7) = (I r10 j15)) → zi_C l (zx_rm d 0 0) M_Mod_toFront [.ref o0, .int x3] K RJ I (fun r I18 => ∃ v19, r = some (.int v19) ∧ ((¬ x3 = 0) → zi_C l (zx_rm d 0 0) M_Mod_addRun [.ref o0, .int x1] K RJ I18 (fun r I20 => r = none ∧ zi_C l (zx_rm d 0 0) M_Mod_addSymbol [.ref o0, .int (x3 + 1)] K RJ I20 (fun r I21 => r = none ∧ zi_X l (zx_rm (d + 1) 0 0) M_Mod_makeSymbols K RJ Q 63 [(0, .ref o0), (1, .int 0), (2, .int (x2 + 1))] [] I21))) ∧ ((x3 = 0) → ((v19 < 0) → zi_X l (zx_rm (d + 1) 0 0) M_Mod_makeSymbols K RJ Q 63 [(0, .ref o0), (1, .int (x1 + 0)), (2, .int (x2 + 1))] [] I18) ∧ ((¬ v19 < 0) → zi_X l (zx_rm (d + 1) 0 0) M_Mod_makeSymbols K RJ Q 63 [(0, .ref o0), (1, .int (x1 + 1)), (2, .int (x2 + 1))] [] I18)))) ∧ ((¬ (I r2 j7) = (I r10 j15)) → zi_X l (zx_rm (d + 1) 0 0) M_Mod_makeSymbols K RJ Q 73 [(0, .ref o0), (1, .int x1), (2, .int x2), (3, .int (x3 + 1))] [] I)) :
    zi_X l (zx_rm (d + 1) 0 0) M_Mod_makeSymbols K RJ Q 73 [(0, .ref o0), (1, .int x1), (2, .int x2), (3, .int x3)] [] I := by
  refine zx_aload_n d_Mod_makeSymbols_73 rfl ?_
  refine zi_getR f_Mod_39 q1 (by decide) e3 z4 d_Mod_makeSymbols_74 ?_
  refine zx_iload_n d_Mod_makeSymbols_77 rfl ?_
  obtain ⟨j7, e8, b9, k⟩ := k
  refine zi_iald j7 a5 e8 b9 d_Mod_makeSymbols_78 ?_
  refine zx_aload_n d_Mod_makeSymbols_79 rfl ?_
  refine zi_getR f_Mod_29 q1 (by decide) e11 z12 d_Mod_makeSymbols_80 ?_
  refine zx_iload_n d_Mod_makeSymbols_83 rfl ?_
  obtain ⟨j15, e16, b17, k⟩ := k
  refine zi_iald j15 a13 e16 b17 d_Mod_makeSymbols_84 ?_
  refine zx_icmp_eq (tgt := 94) d_Mod_makeSymbols_85 rfl (fun c => ?_) (fun c => ?_)
  · have k := k.1 c
    refine zx_aload_n d_Mod_makeSymbols_94 rfl ?_
    refine zx_iload_n d_Mod_makeSymbols_95 rfl ?_
    refine zi_callV (hC := k) k_Mod_121 q1 (by decide) rfl rfl (Nat.le_of_ble_eq_true rfl) (Nat.le_of_ble_eq_true rfl) d_Mod_makeSymbols_96 (fun r I18 k => ?_)
    obtain ⟨v19, rfl, k⟩ := k
    refine zx_istore (L2 := [(0, .ref o0), (1, .int x1), (2, .int x2), (3, .int x3), (4, .int v19)]) d_Mod_makeSymbols_99 (Nat.le_of_ble_eq_true rfl) rfl ?_
    refine zx_iload_n d_Mod_makeSymbols_101 rfl ?_
    refine zx_if_ne (tgt := 121) d_Mod_makeSymbols_102 rfl (fun c => ?_) (fun c => ?_)
    · have k := k.1 c
      refine zx_aload_n d_Mod_makeSymbols_121 rfl ?_
      refine zx_iload_n d_Mod_makeSymbols_122 rfl ?_
      refine zi_callV (hC := k) k_Mod_125 q1 (by decide) rfl rfl (Nat.le_of_ble_eq_true rfl) (Nat.le_of_ble_eq_true rfl) d_Mod_makeSymbols_123 (fun r I20 k => ?_)
      obtain ⟨rfl, k⟩ := k
      refine zx_iconst d_Mod_makeSymbols_126 zc_0 ?_
      refine zx_istore_n (L2 := [(0, .ref o0), (1, .int 0), (2, .int x2), (3, .int x3), (4, .int v19)]) d_Mod_makeSymbols_127 (Nat.le_of_ble_eq_true rfl) rfl ?_
      refine zx_aload_n d_Mod_makeSymbols_128 rfl ?_
      refine zx_iload_n d_Mod_makeSymbols_129 rfl ?_
      refine zx_iconst d_Mod_makeSymbols_130 zc_1 ?_
      refine zx_iadd d_Mod_makeSymbols_131 ?_
      refine zi_callV (hC := k) k_Mod_114 q1 (by decide) rfl rfl (Nat.le_of_ble_eq_true rfl) (Nat.le_of_ble_eq_true rfl) d_Mod_makeSymbols_132 (fun r I21 k => ?_)
      obtain ⟨rfl, k⟩ := k
      refine zx_iinc (L2 := [(0, .ref o0), (1, .int 0), (2, .int (x2 + 1)), (3, .int x3), (4, .int v19)]) d_Mod_makeSymbols_135 rfl (Nat.le_of_ble_eq_true rfl) zc_1 rfl ?_
      refine zx_goto (tgt := 63) d_Mod_makeSymbols_138 rfl ?_
      refine zx_locs [0, 1, 2] rfl ?_
      exact k
    · have k := k.2 c
      refine zx_iload_n d_Mod_makeSymbols_105 rfl ?_
      refine zx_iload d_Mod_makeSymbols_106 rfl ?_
      refine zx_if_lt (tgt := 115) d_Mod_makeSymbols_108 rfl (fun c => ?_) (fun c => ?_)
      · have k := k.1 c
        refine zx_iconst d_Mod_makeSymbols_115 zc_0 ?_
        refine zx_iadd d_Mod_makeSymbols_116 ?_
        refine zx_istore_n (L2 := [(0, .ref o0), (1, .int (x1 + 0)), (2, .int x2), (3, .int x3), (4, .int v19)]) d_Mod_makeSymbols_117 (Nat.le_of_ble_eq_true rfl) rfl ?_
        refine zx_goto (tgt := 135) d_Mod_makeSymbols_118 rfl ?_
        refine zx_iinc (L2 := [(0, .ref o0), (1, .int (x1 + 0)), (2, .int (x2 + 1)), (3, .int x3), (4, .int v19)]) d_Mod_makeSymbols_135 rfl (Nat.le_of_ble_eq_true rfl) zc_1 rfl ?_
        refine zx_goto (tgt := 63) d_Mod_makeSymbols_138 rfl ?_
        refine zx_locs [0, 1, 2] rfl ?_
        exact k
      · have k := k.2 c
        refine zx_iconst d_Mod_makeSymbols_111 zc_1 ?_
        refine zx_goto (tgt := 116) d_Mod_makeSymbols_112 rfl ?_
        refine zx_iadd d_Mod_makeSymbols_116 ?_
        refine zx_istore_n (L2 := [(0, .ref o0), (1, .int (x1 + 1)), (2, .int x2), (3, .int x3), (4, .int v19)]) d_Mod_makeSymbols_117 (Nat.le_of_ble_eq_true rfl) rfl ?_
        refine zx_goto (tgt := 135) d_Mod_makeSymbols_118 rfl ?_
        refine zx_iinc (L2 := [(0, .ref o0), (1, .int (x1 + 1)), (2, .int (x2 + 1)), (3, .int x3), (4, .int v19)]) d_Mod_makeSymbols_135 rfl (Nat.le_of_ble_eq_true rfl) zc_1 rfl ?_
        refine zx_goto (tgt := 63) d_Mod_makeSymbols_138 rfl ?_
        refine zx_locs [0, 1, 2] rfl ?_
        exact k
  · have k := k.2 c
    refine zx_iinc (L2 := [(0, .ref o0), (1, .int x1), (2, .int x2), (3, .int (x3 + 1))]) d_Mod_makeSymbols_88 rfl (Nat.le_of_ble_eq_true rfl) zc_1 rfl ?_
    refine zx_goto (tgt := 73) d_Mod_makeSymbols_91 rfl ?_
    exact k
set_option maxRecDepth 20000 in
theorem r_Mod_firstTree_0 (l : Launch) (d : Nat) {K : zx_Kt} {RJ : zx_RJ} {Q : zi_Q} {I : zi_I} (o0 : Nat) (x1 : Int32) (x2 : Int32) 
    (k : zi_X l (zx_rm d 0 0) M_Mod_firstTree K RJ Q 5 [(0, .ref o0), (1, .int x1), (2, .int x2), (3, .int ((-1))), (4, .int 0)] [] I) :
    zi_X l (zx_rm d 0 0) M_Mod_firstTree K RJ Q 0 [(0, .ref o0), (1, .int x1), (2, .int x2)] [] I := by
  refine zx_iconst d_Mod_firstTree_0 zc_m1 ?_
  refine zx_istore_n (L2 := [(0, .ref o0), (1, .int x1), (2, .int x2), (3, .int ((-1)))]) d_Mod_firstTree_1 (Nat.le_of_ble_eq_true rfl) rfl ?_
  refine zx_iconst d_Mod_firstTree_2 zc_0 ?_
  refine zx_istore (L2 := [(0, .ref o0), (1, .int x1), (2, .int x2), (3, .int ((-1))), (4, .int 0)]) d_Mod_firstTree_3 (Nat.le_of_ble_eq_true rfl) rfl ?_
  exact k
set_option maxRecDepth 20000 in
theorem r_Mod_firstTree_5 (l : Launch) (d : Nat) {K : zx_Kt} {RJ : zx_RJ} {Q : zi_Q} {I : zi_I} (o0 : Nat) (x1 : Int32) (x2 : Int32) (x3 : Int32) (x4 : Int32) (q1 : (K.2 o0).1 = 6) {r2 : Nat} (e3 : RJ.1 o0 33 = r2) (z4 : r2 ≠ 0) {n6 : Nat} (a5 : K.2 r2 = (0, n6)) {r10 : Nat} (e11 : RJ.1 o0 32 = r10) (z12 : r10 ≠ 0) {n14 : Nat} (a13 : K.2 r10 = (0, n14))
    (k : ((x1 ≤ x4) → Q (some (.int x3)) I) ∧ ((¬ x1 ≤ x4) → ∃ j7, x4 = nI j7 ∧ j7 < n6 ∧ ((0 ≤ (I r2 j7)) → zi_X l (zx_rm d 0 0) M_Mod_firstTree K RJ Q 5 [(0, .ref o0), (1, .int x1), (2, .int x2), (3, .int x3), (4, .int (x4 + 1))] [] I) ∧ ((¬ 0 ≤ (I r2 j7)) → ((x4 = x2) → zi_X l (zx_rm d 0 0) M_Mod_firstTree K RJ Q 5 [(0, .ref o0), (1, .int x1), (2, .int x2), (3, .int x3), (4, .int (x4 + 1))] [] I) ∧ ((¬ x4 = x2) → ((x3 < 0) → zi_X l (zx_rm d 0 0) M_Mod_firstTree K RJ Q 5 [(0, .ref o0), (1, .int x1), (2, .int x2), (3, .int x4), (4, .int (x4 + 1))] [] I) ∧ ((¬ x3 < 0) → ∃ j15, x4 = nI j15 ∧ j15 < n14 ∧ ∃ j18, x3 = nI j18 ∧ j18 < n14 ∧ (((I r10 j18) ≤ (I r10 j15)) → zi_X l (zx_rm d 0 0) M_Mod_firstTree K RJ Q 5 [(0, .ref o0), (1, .int x1), (2, .int x2), (3, .int x3), (4, .int (x4 + 1))] [] I) ∧ ((¬ (I r10 j18) ≤ (I r10 j15)) → zi_X l (zx_rm d 0 0) M_Mod_firstTree K RJ Q 5 [(0, .ref o0), (1, .int x1), (2, .int x2), (3, .int x4), (4, .int (x4 + 1))] [] I)))))) :
    zi_X l (zx_rm d 0 0) M_Mod_firstTree K RJ Q 5 [(0, .ref o0), (1, .int x1), (2, .int x2), (3, .int x3), (4, .int x4)] [] I := by
  refine zx_iload d_Mod_firstTree_5 rfl ?_
  refine zx_iload_n d_Mod_firstTree_7 rfl ?_
  refine zx_icmp_ge (tgt := 56) d_Mod_firstTree_8 rfl (fun c => ?_) (fun c => ?_)
  · have k := k.1 c
    refine zx_iload_n d_Mod_firstTree_56 rfl ?_
    exact zi_iret d_Mod_firstTree_57 rfl k
  · have k := k.2 c
    refine zx_aload_n d_Mod_firstTree_11 rfl ?_
    refine zi_getR f_Mod_60 q1 (by decide) e3 z4 d_Mod_firstTree_12 ?_
    refine zx_iload d_Mod_firstTree_15 rfl ?_
    obtain ⟨j7, e8, b9, k⟩ := k
    refine zi_iald j7 a5 e8 b9 d_Mod_firstTree_17 ?_
    refine zx_if_ge (tgt := 50) d_Mod_firstTree_18 rfl (fun c => ?_) (fun c => ?_)
    · have k := k.1 c
      refine zx_iinc (L2 := [(0, .ref o0), (1, .int x1), (2, .int x2), (3, .int x3), (4, .int (x4 + 1))]) d_Mod_firstTree_50 rfl (Nat.le_of_ble_eq_true rfl) zc_1 rfl ?_
      refine zx_goto (tgt := 5) d_Mod_firstTree_53 rfl ?_
      exact k
    · have k := k.2 c
      refine zx_iload d_Mod_firstTree_21 rfl ?_
      refine zx_iload_n d_Mod_firstTree_23 rfl ?_
      refine zx_icmp_eq (tgt := 50) d_Mod_firstTree_24 rfl (fun c => ?_) (fun c => ?_)
      · have k := k.1 c
        refine zx_iinc (L2 := [(0, .ref o0), (1, .int x1), (2, .int x2), (3, .int x3), (4, .int (x4 + 1))]) d_Mod_firstTree_50 rfl (Nat.le_of_ble_eq_true rfl) zc_1 rfl ?_
        refine zx_goto (tgt := 5) d_Mod_firstTree_53 rfl ?_
        exact k
      · have k := k.2 c
        refine zx_iload_n d_Mod_firstTree_27 rfl ?_
        refine zx_if_lt (tgt := 47) d_Mod_firstTree_28 rfl (fun c => ?_) (fun c => ?_)
        · have k := k.1 c
          refine zx_iload d_Mod_firstTree_47 rfl ?_
          refine zx_istore_n (L2 := [(0, .ref o0), (1, .int x1), (2, .int x2), (3, .int x4), (4, .int x4)]) d_Mod_firstTree_49 (Nat.le_of_ble_eq_true rfl) rfl ?_
          refine zx_iinc (L2 := [(0, .ref o0), (1, .int x1), (2, .int x2), (3, .int x4), (4, .int (x4 + 1))]) d_Mod_firstTree_50 rfl (Nat.le_of_ble_eq_true rfl) zc_1 rfl ?_
          refine zx_goto (tgt := 5) d_Mod_firstTree_53 rfl ?_
          exact k
        · have k := k.2 c
          refine zx_aload_n d_Mod_firstTree_31 rfl ?_
          refine zi_getR f_Mod_57 q1 (by decide) e11 z12 d_Mod_firstTree_32 ?_
          refine zx_iload d_Mod_firstTree_35 rfl ?_
          obtain ⟨j15, e16, b17, k⟩ := k
          refine zi_iald j15 a13 e16 b17 d_Mod_firstTree_37 ?_
          refine zx_aload_n d_Mod_firstTree_38 rfl ?_
          refine zi_getR f_Mod_57 q1 (by decide) e11 z12 d_Mod_firstTree_39 ?_
          refine zx_iload_n d_Mod_firstTree_42 rfl ?_
          obtain ⟨j18, e19, b20, k⟩ := k
          refine zi_iald j18 a13 e19 b20 d_Mod_firstTree_43 ?_
          refine zx_icmp_ge (tgt := 50) d_Mod_firstTree_44 rfl (fun c => ?_) (fun c => ?_)
          · have k := k.1 c
            refine zx_iinc (L2 := [(0, .ref o0), (1, .int x1), (2, .int x2), (3, .int x3), (4, .int (x4 + 1))]) d_Mod_firstTree_50 rfl (Nat.le_of_ble_eq_true rfl) zc_1 rfl ?_
            refine zx_goto (tgt := 5) d_Mod_firstTree_53 rfl ?_
            exact k
          · have k := k.2 c
            refine zx_iload d_Mod_firstTree_47 rfl ?_
            refine zx_istore_n (L2 := [(0, .ref o0), (1, .int x1), (2, .int x2), (3, .int x4), (4, .int x4)]) d_Mod_firstTree_49 (Nat.le_of_ble_eq_true rfl) rfl ?_
            refine zx_iinc (L2 := [(0, .ref o0), (1, .int x1), (2, .int x2), (3, .int x4), (4, .int (x4 + 1))]) d_Mod_firstTree_50 rfl (Nat.le_of_ble_eq_true rfl) zc_1 rfl ?_
            refine zx_goto (tgt := 5) d_Mod_firstTree_53 rfl ?_
            exact k
set_option maxRecDepth 20000 in
theorem r_Mod_makeLengths_0 (l : Launch) (d : Nat) {K : zx_Kt} {RJ : zx_RJ} {Q : zi_Q} {I : zi_I} (o0 : Nat) (x1 : Int32) (q1 : (K.2 o0).1 = 6)
    (k : zi_X l (zx_rm (d + 1) 0 0) M_Mod_makeLengths K RJ Q 12 [(0, .ref o0), (1, .int x1), (2, .int ((I o0 22) + 2)), (3, .int ((I o0 22) + 2)), (4, .int 0)] [] I) :
    zi_X l (zx_rm (d + 1) 0 0) M_Mod_makeLengths K RJ Q 0 [(0, .ref o0), (1, .int x1)] [] I := by
  refine zx_aload_n d_Mod_makeLengths_0 rfl ?_
  refine zi_getI f_Mod_108 q1 (by decide) d_Mod_makeLengths_1 ?_
  refine zx_iconst d_Mod_makeLengths_4 zc_2 ?_
  refine zx_iadd d_Mod_makeLengths_5 ?_
  refine zx_istore_n (L2 := [(0, .ref o0), (1, .int x1), (2, .int ((I o0 22) + 2))]) d_Mod_makeLengths_6 (Nat.le_of_ble_eq_true rfl) rfl ?_
  refine zx_iload_n d_Mod_makeLengths_7 rfl ?_
  refine zx_istore_n (L2 := [(0, .ref o0), (1, .int x1), (2, .int ((I o0 22) + 2)), (3, .int ((I o0 22) + 2))]) d_Mod_makeLengths_8 (Nat.le_of_ble_eq_true rfl) rfl ?_
  refine zx_iconst d_Mod_makeLengths_9 zc_0 ?_
  refine zx_istore (L2 := [(0, .ref o0), (1, .int x1), (2, .int ((I o0 22) + 2)), (3, .int ((I o0 22) + 2)), (4, .int 0)]) d_Mod_makeLengths_10 (Nat.le_of_ble_eq_true rfl) rfl ?_
  exact k
set_option maxRecDepth 20000 in
theorem r_Mod_makeLengths_12 (l : Launch) (d : Nat) {K : zx_Kt} {RJ : zx_RJ} {Q : zi_Q} {I : zi_I} (o0 : Nat) (x1 : Int32) (x2 : Int32) (x3 : Int32) (x4 : Int32) (q1 : (K.2 o0).1 = 6) {r2 : Nat} (e3 : RJ.1 o0 33 = r2) (z4 : r2 ≠ 0) {n6 : Nat} (a5 : K.2 r2 = (0, n6))
    (k : (((2 * x2) ≤ x4) → zi_X l (zx_rm (d + 1) 0 0) M_Mod_makeLengths K RJ Q 34 [(0, .ref o0), (1, .int x1), (2, .int x2), (3, .int x3), (4, .int x4)] [] I) ∧ ((¬ (2 * x2) ≤ x4) → ∃ j7, x4 = nI j7 ∧ j7 < n6 ∧ zi_X l (zx_rm (d + 1) 0 0) M_Mod_makeLengths K RJ Q 12 [(0, .ref o0), (1, .int x1), (2, .int x2), (3, .int x3), (4, .int (x4 + 1))] [] (zx_u2 I r2 j7 ((-1))))) :
    zi_X l (zx_rm (d + 1) 0 0) M_Mod_makeLengths K RJ Q 12 [(0, .ref o0), (1, .int x1), (2, .int x2), (3, .int x3), (4, .int x4)] [] I := by
  refine zx_iload d_Mod_makeLengths_12 rfl ?_
  refine zx_iconst d_Mod_makeLengths_14 zc_2 ?_
  refine zx_iload_n d_Mod_makeLengths_15 rfl ?_
  refine zx_imul d_Mod_makeLengths_16 ?_
  refine zx_icmp_ge (tgt := 34) d_Mod_makeLengths_17 rfl (fun c => ?_) (fun c => ?_)
  · have k := k.1 c
    exact k
  · have k := k.2 c
    refine zx_aload_n d_Mod_makeLengths_20 rfl ?_
    refine zi_getR f_Mod_60 q1 (by decide) e3 z4 d_Mod_makeLengths_21 ?_
    refine zx_iload d_Mod_makeLengths_24 rfl ?_
    refine zx_iconst d_Mod_makeLengths_26 zc_m1 ?_
    obtain ⟨j7, e8, b9, k⟩ := k
    refine zi_iast j7 a5 e8 b9 d_Mod_makeLengths_27 ?_
    refine zx_iinc (L2 := [(0, .ref o0), (1, .int x1), (2, .int x2), (3, .int x3), (4, .int (x4 + 1))]) d_Mod_makeLengths_28 rfl (Nat.le_of_ble_eq_true rfl) zc_1 rfl ?_
    refine zx_goto (tgt := 12) d_Mod_makeLengths_31 rfl ?_
    exact k
set_option maxRecDepth 20000 in
theorem r_Mod_makeLengths_34 (l : Launch) (d : Nat) {K : zx_Kt} {RJ : zx_RJ} {Q : zi_Q} {I : zi_I} (o0 : Nat) (x1 : Int32) (x2 : Int32) (x3 : Int32) (x4 : Int32) (q1 : (K.2 o0).1 = 6) {r6 : Nat} (e7 : RJ.1 o0 32 = r6) (z8 : r6 ≠ 0) {n10 : Nat} (a9 : K.2 r6 = (0, n10)) {r20 : Nat} (e21 : RJ.1 o0 33 = r20) (z22 : r20 ≠ 0) {n24 : Nat} (a23 : K.2 r20 = (0, n24))
    (k : ((((2 * x2) - 1) ≤ x3) → zi_X l (zx_rm (d + 1) 0 0) M_Mod_makeLengths K RJ Q 106 [(0, .ref o0), (1, .int x1), (2, .int x2), (3, .int x3), (4, .int 0)] [] I) ∧ ((¬ ((2 * x2) - 1) ≤ x3) → zi_C l (zx_rm d 0 0) M_Mod_firstTree [.ref o0, .int x3, .int ((-1))] K RJ I (fun r I2 => ∃ v3, r = some (.int v3) ∧ zi_C l (zx_rm d 0 0) M_Mod_firstTree [.ref o0, .int x3, .int v3] K RJ I2 (fun r I4 => ∃ v5, r = some (.int v5) ∧ ∃ j11, v3 = nI j11 ∧ j11 < n10 ∧ ∃ j14, v5 = nI j14 ∧ j14 < n10 ∧ ∃ j17, x3 = nI j17 ∧ j17 < n10 ∧ ∃ j25, v3 = nI j25 ∧ j25 < n24 ∧ ∃ j28, v5 = nI j28 ∧ j28 < n24 ∧ zi_X l (zx_rm (d + 1) 0 0) M_Mod_makeLengths K RJ Q 34 [(0, .ref o0), (1, .int x1), (2, .int x2), (3, .int (x3 + 1)), (4, .int v3)] [] (zx_u2 (zx_u2 (zx_u2 I4 r6 j17 ((I4 r6 j11) + (I4 r6 j14))) r20 j25 x3) r20 j28 x3))))) :
    zi_X l (zx_rm (d + 1) 0 0) M_Mod_makeLengths K RJ Q 34 [(0, .ref o0), (1, .int x1), (2, .int x2), (3, .int x3), (4, .int x4)] [] I := by
  refine zx_iload_n d_Mod_makeLengths_34 rfl ?_
  refine zx_iconst d_Mod_makeLengths_35 zc_2 ?_
  refine zx_iload_n d_Mod_makeLengths_36 rfl ?_
  refine zx_imul d_Mod_makeLengths_37 ?_
  refine zx_iconst d_Mod_makeLengths_38 zc_1 ?_
  refine zx_isub d_Mod_makeLengths_39 ?_
  refine zx_icmp_ge (tgt := 103) d_Mod_makeLengths_40 rfl (fun c => ?_) (fun c => ?_)
  · have k := k.1 c
    refine zx_iconst d_Mod_makeLengths_103 zc_0 ?_
    refine zx_istore (L2 := [(0, .ref o0), (1, .int x1), (2, .int x2), (3, .int x3), (4, .int 0)]) d_Mod_makeLengths_104 (Nat.le_of_ble_eq_true rfl) rfl ?_
    exact k
  · have k := k.2 c
    refine zx_aload_n d_Mod_makeLengths_43 rfl ?_
    refine zx_iload_n d_Mod_makeLengths_44 rfl ?_
    refine zx_iconst d_Mod_makeLengths_45 zc_m1 ?_
    refine zi_callV (hC := k) k_Mod_128 q1 (by decide) rfl rfl (Nat.le_of_ble_eq_true rfl) (Nat.le_of_ble_eq_true rfl) d_Mod_makeLengths_46 (fun r I2 k => ?_)
    obtain ⟨v3, rfl, k⟩ := k
    refine zx_istore (L2 := [(0, .ref o0), (1, .int x1), (2, .int x2), (3, .int x3), (4, .int v3)]) d_Mod_makeLengths_49 (Nat.le_of_ble_eq_true rfl) rfl ?_
    refine zx_aload_n d_Mod_makeLengths_51 rfl ?_
    refine zx_iload_n d_Mod_makeLengths_52 rfl ?_
    refine zx_iload d_Mod_makeLengths_53 rfl ?_
    refine zi_callV (hC := k) k_Mod_128 q1 (by decide) rfl rfl (Nat.le_of_ble_eq_true rfl) (Nat.le_of_ble_eq_true rfl) d_Mod_makeLengths_55 (fun r I4 k => ?_)
    obtain ⟨v5, rfl, k⟩ := k
    refine zx_istore (L2 := [(0, .ref o0), (1, .int x1), (2, .int x2), (3, .int x3), (4, .int v3), (5, .int v5)]) d_Mod_makeLengths_58 (Nat.le_of_ble_eq_true rfl) rfl ?_
    refine zx_aload_n d_Mod_makeLengths_60 rfl ?_
    refine zi_getR f_Mod_57 q1 (by decide) e7 z8 d_Mod_makeLengths_61 ?_
    refine zx_iload_n d_Mod_makeLengths_64 rfl ?_
    refine zx_aload_n d_Mod_makeLengths_65 rfl ?_
    refine zi_getR f_Mod_57 q1 (by decide) e7 z8 d_Mod_makeLengths_66 ?_
    refine zx_iload d_Mod_makeLengths_69 rfl ?_
    obtain ⟨j11, e12, b13, k⟩ := k
    refine zi_iald j11 a9 e12 b13 d_Mod_makeLengths_71 ?_
    refine zx_aload_n d_Mod_makeLengths_72 rfl ?_
    refine zi_getR f_Mod_57 q1 (by decide) e7 z8 d_Mod_makeLengths_73 ?_
    refine zx_iload d_Mod_makeLengths_76 rfl ?_
    obtain ⟨j14, e15, b16, k⟩ := k
    refine zi_iald j14 a9 e15 b16 d_Mod_makeLengths_78 ?_
    refine zx_iadd d_Mod_makeLengths_79 ?_
    obtain ⟨j17, e18, b19, k⟩ := k
    refine zi_iast j17 a9 e18 b19 d_Mod_makeLengths_80 ?_
    refine zx_aload_n d_Mod_makeLengths_81 rfl ?_
    refine zi_getR f_Mod_60 q1 (by decide) e21 z22 d_Mod_makeLengths_82 ?_
    refine zx_iload d_Mod_makeLengths_85 rfl ?_
    refine zx_iload_n d_Mod_makeLengths_87 rfl ?_
    obtain ⟨j25, e26, b27, k⟩ := k
    refine zi_iast j25 a23 e26 b27 d_Mod_makeLengths_88 ?_
    refine zx_aload_n d_Mod_makeLengths_89 rfl ?_
    refine zi_getR f_Mod_60 q1 (by decide) e21 z22 d_Mod_makeLengths_90 ?_
    refine zx_iload d_Mod_makeLengths_93 rfl ?_
    refine zx_iload_n d_Mod_makeLengths_95 rfl ?_
    obtain ⟨j28, e29, b30, k⟩ := k
    refine zi_iast j28 a23 e29 b30 d_Mod_makeLengths_96 ?_
    refine zx_iinc (L2 := [(0, .ref o0), (1, .int x1), (2, .int x2), (3, .int (x3 + 1)), (4, .int v3), (5, .int v5)]) d_Mod_makeLengths_97 rfl (Nat.le_of_ble_eq_true rfl) zc_1 rfl ?_
    refine zx_goto (tgt := 34) d_Mod_makeLengths_100 rfl ?_
    refine zx_locs [0, 1, 2, 3, 4] rfl ?_
    exact k
set_option maxRecDepth 20000 in
theorem r_Mod_makeLengths_106 (l : Launch) (d : Nat) {K : zx_Kt} {RJ : zx_RJ} {Q : zi_Q} {I : zi_I} (o0 : Nat) (x1 : Int32) (x2 : Int32) (x3 : Int32) (x4 : Int32) (q1 : (K.2 o0).1 = 6) {r2 : Nat} (e3 : RJ.1 o0 33 = r2) (z4 : r2 ≠ 0) {n6 : Nat} (a5 : K.2 r2 = (0, n6))
    (k : ((x2 ≤ x4) → Q none I) ∧ ((¬ x2 ≤ x4) → ∃ j7, x4 = nI j7 ∧ j7 < n6 ∧ zi_X l (zx_rm (d + 1) 0 0) M_Mod_makeLengths K RJ Q 124 [(0, .ref o0), (1, .int x1), (2, .int x2), (3, .int x3), (4, .int x4), (5, .int 0), (6, .int (I r2 j7))] [] I)) :
    zi_X l (zx_rm (d + 1) 0 0) M_Mod_makeLengths K RJ Q 106 [(0, .ref o0), (1, .int x1), (2, .int x2), (3, .int x3), (4, .int x4)] [] I := by
  refine zx_iload d_Mod_makeLengths_106 rfl ?_
  refine zx_iload_n d_Mod_makeLengths_108 rfl ?_
  refine zx_icmp_ge (tgt := 165) d_Mod_makeLengths_109 rfl (fun c => ?_) (fun c => ?_)
  · have k := k.1 c
    exact zi_vret d_Mod_makeLengths_165 rfl k
  · have k := k.2 c
    refine zx_iconst d_Mod_makeLengths_112 zc_0 ?_
    refine zx_istore (L2 := [(0, .ref o0), (1, .int x1), (2, .int x2), (3, .int x3), (4, .int x4), (5, .int 0)]) d_Mod_makeLengths_113 (Nat.le_of_ble_eq_true rfl) rfl ?_
    refine zx_aload_n d_Mod_makeLengths_115 rfl ?_
    refine zi_getR f_Mod_60 q1 (by decide) e3 z4 d_Mod_makeLengths_116 ?_
    refine zx_iload d_Mod_makeLengths_119 rfl ?_
    obtain ⟨j7, e8, b9, k⟩ := k
    refine zi_iald j7 a5 e8 b9 d_Mod_makeLengths_121 ?_
    refine zx_istore (L2 := [(0, .ref o0), (1, .int x1), (2, .int x2), (3, .int x3), (4, .int x4), (5, .int 0), (6, .int (I r2 j7))]) d_Mod_makeLengths_122 (Nat.le_of_ble_eq_true rfl) rfl ?_
    exact k
set_option maxRecDepth 20000 in
theorem r_Mod_makeLengths_124 (l : Launch) (d : Nat) {K : zx_Kt} {RJ : zx_RJ} {Q : zi_Q} {I : zi_I} (o0 : Nat) (x1 : Int32) (x2 : Int32) (x3 : Int32) (x4 : Int32) (x5 : Int32) (x6 : Int32) (q1 : (K.2 o0).1 = 6) {r2 : Nat} (e3 : RJ.1 o0 26 = r2) (z4 : r2 ≠ 0) {n6 : Nat} (a5 : K.2 r2 = (0, n6)) {r10 : Nat} (e11 : RJ.1 o0 33 = r10) (z12 : r10 ≠ 0) {n14 : Nat} (a13 : K.2 r10 = (0, n14))
    (k : ((x6 < 0) → ∃ j7, (260 * x1) + x4 = nI j7 ∧ j7 < n6 ∧ zi_X l (zx_rm (d + 1) 0 0) M_Mod_makeLengths K RJ Q 106 [(0, .ref o0), (1, .int x1), (2, .int x2), (3, .int x3), (4, .int (x4 + 1))] [] (zx_u2 I r2 j7 x5)) ∧ ((¬ x6 < 0) → ∃ j15, x6 = nI j15 ∧ j15 < n14 ∧ zi_X l (zx_rm (d + 1) 0 0) M_Mod_makeLengths K RJ Q 124 [(0, .ref o0), (1, .int x1), (2, .int x2), (3, .int x3), (4, .int x4), (5, .int (x5 + 1)), (6, .int (I r10 j15))] [] I)) :
    zi_X l (zx_rm (d + 1) 0 0) M_Mod_makeLengths K RJ Q 124 [(0, .ref o0), (1, .int x1), (2, .int x2), (3, .int x3), (4, .int x4), (5, .int x5), (6, .int x6)] [] I := by
  refine zx_iload d_Mod_makeLengths_124 rfl ?_
  refine zx_if_lt (tgt := 144) d_Mod_makeLengths_126 rfl (fun c => ?_) (fun c => ?_)
  · have k := k.1 c
    refine zx_aload_n d_Mod_makeLengths_144 rfl ?_
    refine zi_getR f_Mod_42 q1 (by decide) e3 z4 d_Mod_makeLengths_145 ?_
    refine zx_sipush d_Mod_makeLengths_148 zs_260 ?_
    refine zx_iload_n d_Mod_makeLengths_151 rfl ?_
    refine zx_imul d_Mod_makeLengths_152 ?_
    refine zx_iload d_Mod_makeLengths_153 rfl ?_
    refine zx_iadd d_Mod_makeLengths_155 ?_
    refine zx_iload d_Mod_makeLengths_156 rfl ?_
    obtain ⟨j7, e8, b9, k⟩ := k
    refine zi_iast j7 a5 e8 b9 d_Mod_makeLengths_158 ?_
    refine zx_iinc (L2 := [(0, .ref o0), (1, .int x1), (2, .int x2), (3, .int x3), (4, .int (x4 + 1)), (5, .int x5), (6, .int x6)]) d_Mod_makeLengths_159 rfl (Nat.le_of_ble_eq_true rfl) zc_1 rfl ?_
    refine zx_goto (tgt := 106) d_Mod_makeLengths_162 rfl ?_
    refine zx_locs [0, 1, 2, 3, 4] rfl ?_
    exact k
  · have k := k.2 c
    refine zx_iinc (L2 := [(0, .ref o0), (1, .int x1), (2, .int x2), (3, .int x3), (4, .int x4), (5, .int (x5 + 1)), (6, .int x6)]) d_Mod_makeLengths_129 rfl (Nat.le_of_ble_eq_true rfl) zc_1 rfl ?_
    refine zx_aload_n d_Mod_makeLengths_132 rfl ?_
    refine zi_getR f_Mod_60 q1 (by decide) e11 z12 d_Mod_makeLengths_133 ?_
    refine zx_iload d_Mod_makeLengths_136 rfl ?_
    obtain ⟨j15, e16, b17, k⟩ := k
    refine zi_iald j15 a13 e16 b17 d_Mod_makeLengths_138 ?_
    refine zx_istore (L2 := [(0, .ref o0), (1, .int x1), (2, .int x2), (3, .int x3), (4, .int x4), (5, .int (x5 + 1)), (6, .int (I r10 j15))]) d_Mod_makeLengths_139 (Nat.le_of_ble_eq_true rfl) rfl ?_
    refine zx_goto (tgt := 124) d_Mod_makeLengths_141 rfl ?_
    exact k
set_option maxRecDepth 20000 in
theorem r_Mod_makeCodes_0 (l : Launch) (d : Nat) {K : zx_Kt} {RJ : zx_RJ} {Q : zi_Q} {I : zi_I} (o0 : Nat) (x1 : Int32) 
    (k : zi_X l (zx_rm d 0 0) M_Mod_makeCodes K RJ Q 7 [(0, .ref o0), (1, .int x1), (2, .int ((-1))), (3, .int 1), (4, .int 1)] [] I) :
    zi_X l (zx_rm d 0 0) M_Mod_makeCodes K RJ Q 0 [(0, .ref o0), (1, .int x1)] [] I := by
  refine zx_iconst d_Mod_makeCodes_0 zc_m1 ?_
  refine zx_istore_n (L2 := [(0, .ref o0), (1, .int x1), (2, .int ((-1)))]) d_Mod_makeCodes_1 (Nat.le_of_ble_eq_true rfl) rfl ?_
  refine zx_iconst d_Mod_makeCodes_2 zc_1 ?_
  refine zx_istore_n (L2 := [(0, .ref o0), (1, .int x1), (2, .int ((-1))), (3, .int 1)]) d_Mod_makeCodes_3 (Nat.le_of_ble_eq_true rfl) rfl ?_
  refine zx_iconst d_Mod_makeCodes_4 zc_1 ?_
  refine zx_istore (L2 := [(0, .ref o0), (1, .int x1), (2, .int ((-1))), (3, .int 1), (4, .int 1)]) d_Mod_makeCodes_5 (Nat.le_of_ble_eq_true rfl) rfl ?_
  exact k
set_option maxRecDepth 20000 in
theorem r_Mod_makeCodes_7 (l : Launch) (d : Nat) {K : zx_Kt} {RJ : zx_RJ} {Q : zi_Q} {I : zi_I} (o0 : Nat) (x1 : Int32) (x2 : Int32) (x3 : Int32) (x4 : Int32) 
    (k : ((12 < x4) → Q none I) ∧ ((¬ 12 < x4) → zi_X l (zx_rm d 0 0) M_Mod_makeCodes K RJ Q 17 [(0, .ref o0), (1, .int x1), (2, .int x2), (3, .int x3), (4, .int x4), (5, .int 0)] [] I)) :
    zi_X l (zx_rm d 0 0) M_Mod_makeCodes K RJ Q 7 [(0, .ref o0), (1, .int x1), (2, .int x2), (3, .int x3), (4, .int x4)] [] I := by
  refine zx_iload d_Mod_makeCodes_7 rfl ?_
  refine zx_bipush d_Mod_makeCodes_9 zb_12 ?_
  refine zx_icmp_gt (tgt := 96) d_Mod_makeCodes_11 rfl (fun c => ?_) (fun c => ?_)
  · have k := k.1 c
    exact zi_vret d_Mod_makeCodes_96 rfl k
  · have k := k.2 c
    refine zx_iconst d_Mod_makeCodes_14 zc_0 ?_
    refine zx_istore (L2 := [(0, .ref o0), (1, .int x1), (2, .int x2), (3, .int x3), (4, .int x4), (5, .int 0)]) d_Mod_makeCodes_15 (Nat.le_of_ble_eq_true rfl) rfl ?_
    exact k
set_option maxRecDepth 20000 in
theorem r_Mod_makeCodes_17 (l : Launch) (d : Nat) {K : zx_Kt} {RJ : zx_RJ} {Q : zi_Q} {I : zi_I} (o0 : Nat) (x1 : Int32) (x2 : Int32) (x3 : Int32) (x4 : Int32) (x5 : Int32) (q1 : (K.2 o0).1 = 6) {r2 : Nat} (e3 : RJ.1 o0 26 = r2) (z4 : r2 ≠ 0) {n6 : Nat} (a5 : K.2 r2 = (0, n6)) {r11 : Nat} (e12 : RJ.1 o0 27 = r11) (z13 : r11 ≠ 0) {n15 : Nat} (a14 : K.2 r11 = (0, n15))
    (k : ((((I o0 22) + 2) ≤ x5) → zi_X l (zx_rm d 0 0) M_Mod_makeCodes K RJ Q 7 [(0, .ref o0), (1, .int x1), (2, .int x2), (3, .int x3), (4, .int (x4 + 1))] [] I) ∧ ((¬ ((I o0 22) + 2) ≤ x5) → ∃ j7, (260 * x1) + x5 = nI j7 ∧ j7 < n6 ∧ ((¬ (I r2 j7) = x4) → zi_X l (zx_rm d 0 0) M_Mod_makeCodes K RJ Q 17 [(0, .ref o0), (1, .int x1), (2, .int x2), (3, .int x3), (4, .int x4), (5, .int (x5 + 1))] [] I) ∧ (((I r2 j7) = x4) → ((0 ≤ x2) → ¬ ((1 : Int32) <<< ((x3 : Int32) &&& 31)) = 0 ∧ ∃ j16, (260 * x1) + x5 = nI j16 ∧ j16 < n15 ∧ zi_X l (zx_rm d 0 0) M_Mod_makeCodes K RJ Q 17 [(0, .ref o0), (1, .int x1), (2, .int ((((x2 + 1) - (x2 + 1) / ((1 : Int32) <<< ((x3 : Int32) &&& 31)) * ((1 : Int32) <<< ((x3 : Int32) &&& 31))) : Int32) <<< (((x4 - x3) : Int32) &&& 31))), (3, .int x4), (4, .int x4), (5, .int (x5 + 1))] [] (zx_u2 I r11 j16 ((((x2 + 1) - (x2 + 1) / ((1 : Int32) <<< ((x3 : Int32) &&& 31)) * ((1 : Int32) <<< ((x3 : Int32) &&& 31))) : Int32) <<< (((x4 - x3) : Int32) &&& 31)))) ∧ ((¬ 0 ≤ x2) → ∃ j19, (260 * x1) + x5 = nI j19 ∧ j19 < n15 ∧ zi_X l (zx_rm d 0 0) M_Mod_makeCodes K RJ Q 17 [(0, .ref o0), (1, .int x1), (2, .int 0), (3, .int x4), (4, .int x4), (5, .int (x5 + 1))] [] (zx_u2 I r11 j19 0))))) :
    zi_X l (zx_rm d 0 0) M_Mod_makeCodes K RJ Q 17 [(0, .ref o0), (1, .int x1), (2, .int x2), (3, .int x3), (4, .int x4), (5, .int x5)] [] I := by
  refine zx_iload d_Mod_makeCodes_17 rfl ?_
  refine zx_aload_n d_Mod_makeCodes_19 rfl ?_
  refine zi_getI f_Mod_108 q1 (by decide) d_Mod_makeCodes_20 ?_
  refine zx_iconst d_Mod_makeCodes_23 zc_2 ?_
  refine zx_iadd d_Mod_makeCodes_24 ?_
  refine zx_icmp_ge (tgt := 90) d_Mod_makeCodes_25 rfl (fun c => ?_) (fun c => ?_)
  · have k := k.1 c
    refine zx_iinc (L2 := [(0, .ref o0), (1, .int x1), (2, .int x2), (3, .int x3), (4, .int (x4 + 1)), (5, .int x5)]) d_Mod_makeCodes_90 rfl (Nat.le_of_ble_eq_true rfl) zc_1 rfl ?_
    refine zx_goto (tgt := 7) d_Mod_makeCodes_93 rfl ?_
    refine zx_locs [0, 1, 2, 3, 4] rfl ?_
    exact k
  · have k := k.2 c
    refine zx_aload_n d_Mod_makeCodes_28 rfl ?_
    refine zi_getR f_Mod_42 q1 (by decide) e3 z4 d_Mod_makeCodes_29 ?_
    refine zx_sipush d_Mod_makeCodes_32 zs_260 ?_
    refine zx_iload_n d_Mod_makeCodes_35 rfl ?_
    refine zx_imul d_Mod_makeCodes_36 ?_
    refine zx_iload d_Mod_makeCodes_37 rfl ?_
    refine zx_iadd d_Mod_makeCodes_39 ?_
    obtain ⟨j7, e8, b9, k⟩ := k
    refine zi_iald j7 a5 e8 b9 d_Mod_makeCodes_40 ?_
    refine zx_iload d_Mod_makeCodes_41 rfl ?_
    refine zx_icmp_ne (tgt := 84) d_Mod_makeCodes_43 rfl (fun c => ?_) (fun c => ?_)
    · have k := k.1 c
      refine zx_iinc (L2 := [(0, .ref o0), (1, .int x1), (2, .int x2), (3, .int x3), (4, .int x4), (5, .int (x5 + 1))]) d_Mod_makeCodes_84 rfl (Nat.le_of_ble_eq_true rfl) zc_1 rfl ?_
      refine zx_goto (tgt := 17) d_Mod_makeCodes_87 rfl ?_
      exact k
    · have k := k.2 c
      refine zx_iload_n d_Mod_makeCodes_46 rfl ?_
      refine zx_if_ge (tgt := 54) d_Mod_makeCodes_47 rfl (fun c => ?_) (fun c => ?_)
      · have k := k.1 c
        refine zx_iload_n d_Mod_makeCodes_54 rfl ?_
        refine zx_iconst d_Mod_makeCodes_55 zc_1 ?_
        refine zx_iadd d_Mod_makeCodes_56 ?_
        refine zx_iconst d_Mod_makeCodes_57 zc_1 ?_
        refine zx_iload_n d_Mod_makeCodes_58 rfl ?_
        refine zx_ishl d_Mod_makeCodes_59 ?_
        obtain ⟨z10, k⟩ := k
        refine zx_irem d_Mod_makeCodes_60 z10 ?_
        refine zx_iload d_Mod_makeCodes_61 rfl ?_
        refine zx_iload_n d_Mod_makeCodes_63 rfl ?_
        refine zx_isub d_Mod_makeCodes_64 ?_
        refine zx_ishl d_Mod_makeCodes_65 ?_
        refine zx_istore_n (L2 := [(0, .ref o0), (1, .int x1), (2, .int ((((x2 + 1) - (x2 + 1) / ((1 : Int32) <<< ((x3 : Int32) &&& 31)) * ((1 : Int32) <<< ((x3 : Int32) &&& 31))) : Int32) <<< (((x4 - x3) : Int32) &&& 31))), (3, .int x3), (4, .int x4), (5, .int x5)]) d_Mod_makeCodes_66 (Nat.le_of_ble_eq_true rfl) rfl ?_
        refine zx_iload d_Mod_makeCodes_67 rfl ?_
        refine zx_istore_n (L2 := [(0, .ref o0), (1, .int x1), (2, .int ((((x2 + 1) - (x2 + 1) / ((1 : Int32) <<< ((x3 : Int32) &&& 31)) * ((1 : Int32) <<< ((x3 : Int32) &&& 31))) : Int32) <<< (((x4 - x3) : Int32) &&& 31))), (3, .int x4), (4, .int x4), (5, .int x5)]) d_Mod_makeCodes_69 (Nat.le_of_ble_eq_true rfl) rfl ?_
        refine zx_aload_n d_Mod_makeCodes_70 rfl ?_
        refine zi_getR f_Mod_45 q1 (by decide) e12 z13 d_Mod_makeCodes_71 ?_
        refine zx_sipush d_Mod_makeCodes_74 zs_260 ?_
        refine zx_iload_n d_Mod_makeCodes_77 rfl ?_
        refine zx_imul d_Mod_makeCodes_78 ?_
        refine zx_iload d_Mod_makeCodes_79 rfl ?_
        refine zx_iadd d_Mod_makeCodes_81 ?_
        refine zx_iload_n d_Mod_makeCodes_82 rfl ?_
        obtain ⟨j16, e17, b18, k⟩ := k
        refine zi_iast j16 a14 e17 b18 d_Mod_makeCodes_83 ?_
        refine zx_iinc (L2 := [(0, .ref o0), (1, .int x1), (2, .int ((((x2 + 1) - (x2 + 1) / ((1 : Int32) <<< ((x3 : Int32) &&& 31)) * ((1 : Int32) <<< ((x3 : Int32) &&& 31))) : Int32) <<< (((x4 - x3) : Int32) &&& 31))), (3, .int x4), (4, .int x4), (5, .int (x5 + 1))]) d_Mod_makeCodes_84 rfl (Nat.le_of_ble_eq_true rfl) zc_1 rfl ?_
        refine zx_goto (tgt := 17) d_Mod_makeCodes_87 rfl ?_
        exact k
      · have k := k.2 c
        refine zx_iconst d_Mod_makeCodes_50 zc_0 ?_
        refine zx_goto (tgt := 66) d_Mod_makeCodes_51 rfl ?_
        refine zx_istore_n (L2 := [(0, .ref o0), (1, .int x1), (2, .int 0), (3, .int x3), (4, .int x4), (5, .int x5)]) d_Mod_makeCodes_66 (Nat.le_of_ble_eq_true rfl) rfl ?_
        refine zx_iload d_Mod_makeCodes_67 rfl ?_
        refine zx_istore_n (L2 := [(0, .ref o0), (1, .int x1), (2, .int 0), (3, .int x4), (4, .int x4), (5, .int x5)]) d_Mod_makeCodes_69 (Nat.le_of_ble_eq_true rfl) rfl ?_
        refine zx_aload_n d_Mod_makeCodes_70 rfl ?_
        refine zi_getR f_Mod_45 q1 (by decide) e12 z13 d_Mod_makeCodes_71 ?_
        refine zx_sipush d_Mod_makeCodes_74 zs_260 ?_
        refine zx_iload_n d_Mod_makeCodes_77 rfl ?_
        refine zx_imul d_Mod_makeCodes_78 ?_
        refine zx_iload d_Mod_makeCodes_79 rfl ?_
        refine zx_iadd d_Mod_makeCodes_81 ?_
        refine zx_iload_n d_Mod_makeCodes_82 rfl ?_
        obtain ⟨j19, e20, b21, k⟩ := k
        refine zi_iast j19 a14 e20 b21 d_Mod_makeCodes_83 ?_
        refine zx_iinc (L2 := [(0, .ref o0), (1, .int x1), (2, .int 0), (3, .int x4), (4, .int x4), (5, .int (x5 + 1))]) d_Mod_makeCodes_84 rfl (Nat.le_of_ble_eq_true rfl) zc_1 rfl ?_
        refine zx_goto (tgt := 17) d_Mod_makeCodes_87 rfl ?_
        exact k
set_option maxRecDepth 20000 in
theorem r_Mod_costOf_0 (l : Launch) (d : Nat) {K : zx_Kt} {RJ : zx_RJ} {Q : zi_Q} {I : zi_I} (o0 : Nat) (x1 : Int32) (x2 : Int32) 
    (k : zi_X l (zx_rm d 0 0) M_Mod_costOf K RJ Q 8 [(0, .ref o0), (1, .int x1), (2, .int x2), (3, .int 0), (4, .int (8 * x1))] [] I) :
    zi_X l (zx_rm d 0 0) M_Mod_costOf K RJ Q 0 [(0, .ref o0), (1, .int x1), (2, .int x2)] [] I := by
  refine zx_iconst d_Mod_costOf_0 zc_0 ?_
  refine zx_istore_n (L2 := [(0, .ref o0), (1, .int x1), (2, .int x2), (3, .int 0)]) d_Mod_costOf_1 (Nat.le_of_ble_eq_true rfl) rfl ?_
  refine zx_bipush d_Mod_costOf_2 zb_8 ?_
  refine zx_iload_n d_Mod_costOf_4 rfl ?_
  refine zx_imul d_Mod_costOf_5 ?_
  refine zx_istore (L2 := [(0, .ref o0), (1, .int x1), (2, .int x2), (3, .int 0), (4, .int (8 * x1))]) d_Mod_costOf_6 (Nat.le_of_ble_eq_true rfl) rfl ?_
  exact k
set_option maxRecDepth 20000 in
theorem r_Mod_costOf_8 (l : Launch) (d : Nat) {K : zx_Kt} {RJ : zx_RJ} {Q : zi_Q} {I : zi_I} (o0 : Nat) (x1 : Int32) (x2 : Int32) (x3 : Int32) (x4 : Int32) (q1 : (K.2 o0).1 = 6) {r2 : Nat} (e3 : RJ.1 o0 26 = r2) (z4 : r2 ≠ 0) {r5 : Nat} (e6 : RJ.1 o0 18 = r5) (z7 : r5 ≠ 0) {n9 : Nat} (a8 : K.2 r5 = (0, n9)) {n14 : Nat} (a13 : K.2 r2 = (0, n14))
    (k : ((((8 * x1) + 8) ≤ x4) → Q (some (.int x3)) I) ∧ ((¬ ((8 * x1) + 8) ≤ x4) → (((I o0 17) ≤ x4) → Q (some (.int x3)) I) ∧ ((¬ (I o0 17) ≤ x4) → ∃ j10, x4 = nI j10 ∧ j10 < n9 ∧ ∃ j15, (260 * x2) + (I r5 j10) = nI j15 ∧ j15 < n14 ∧ zi_X l (zx_rm d 0 0) M_Mod_costOf K RJ Q 8 [(0, .ref o0), (1, .int x1), (2, .int x2), (3, .int (x3 + (I r2 j15))), (4, .int (x4 + 1))] [] I))) :
    zi_X l (zx_rm d 0 0) M_Mod_costOf K RJ Q 8 [(0, .ref o0), (1, .int x1), (2, .int x2), (3, .int x3), (4, .int x4)] [] I := by
  refine zx_iload d_Mod_costOf_8 rfl ?_
  refine zx_bipush d_Mod_costOf_10 zb_8 ?_
  refine zx_iload_n d_Mod_costOf_12 rfl ?_
  refine zx_imul d_Mod_costOf_13 ?_
  refine zx_bipush d_Mod_costOf_14 zb_8 ?_
  refine zx_iadd d_Mod_costOf_16 ?_
  refine zx_icmp_ge (tgt := 56) d_Mod_costOf_17 rfl (fun c => ?_) (fun c => ?_)
  · have k := k.1 c
    refine zx_iload_n d_Mod_costOf_56 rfl ?_
    exact zi_iret d_Mod_costOf_57 rfl k
  · have k := k.2 c
    refine zx_iload d_Mod_costOf_20 rfl ?_
    refine zx_aload_n d_Mod_costOf_22 rfl ?_
    refine zi_getI f_Mod_111 q1 (by decide) d_Mod_costOf_23 ?_
    refine zx_icmp_ge (tgt := 56) d_Mod_costOf_26 rfl (fun c => ?_) (fun c => ?_)
    · have k := k.1 c
      refine zx_iload_n d_Mod_costOf_56 rfl ?_
      exact zi_iret d_Mod_costOf_57 rfl k
    · have k := k.2 c
      refine zx_iload_n d_Mod_costOf_29 rfl ?_
      refine zx_aload_n d_Mod_costOf_30 rfl ?_
      refine zi_getR f_Mod_42 q1 (by decide) e3 z4 d_Mod_costOf_31 ?_
      refine zx_sipush d_Mod_costOf_34 zs_260 ?_
      refine zx_iload_n d_Mod_costOf_37 rfl ?_
      refine zx_imul d_Mod_costOf_38 ?_
      refine zx_aload_n d_Mod_costOf_39 rfl ?_
      refine zi_getR f_Mod_32 q1 (by decide) e6 z7 d_Mod_costOf_40 ?_
      refine zx_iload d_Mod_costOf_43 rfl ?_
      obtain ⟨j10, e11, b12, k⟩ := k
      refine zi_iald j10 a8 e11 b12 d_Mod_costOf_45 ?_
      refine zx_iadd d_Mod_costOf_46 ?_
      obtain ⟨j15, e16, b17, k⟩ := k
      refine zi_iald j15 a13 e16 b17 d_Mod_costOf_47 ?_
      refine zx_iadd d_Mod_costOf_48 ?_
      refine zx_istore_n (L2 := [(0, .ref o0), (1, .int x1), (2, .int x2), (3, .int (x3 + (I r2 j15))), (4, .int x4)]) d_Mod_costOf_49 (Nat.le_of_ble_eq_true rfl) rfl ?_
      refine zx_iinc (L2 := [(0, .ref o0), (1, .int x1), (2, .int x2), (3, .int (x3 + (I r2 j15))), (4, .int (x4 + 1))]) d_Mod_costOf_50 rfl (Nat.le_of_ble_eq_true rfl) zc_1 rfl ?_
      refine zx_goto (tgt := 8) d_Mod_costOf_53 rfl ?_
      exact k
set_option maxRecDepth 20000 in
theorem r_Mod_pick_0 (l : Launch) (d : Nat) {K : zx_Kt} {RJ : zx_RJ} {Q : zi_Q} {I : zi_I} (o0 : Nat) (q1 : (K.2 o0).1 = 6)
    (k : (((((I o0 17) + 7) / 8) ≤ 4) → zi_X l (zx_rm (d + 1) 0 0) M_Mod_pick K RJ Q 33 [(0, .ref o0), (1, .int 0)] [] (zx_u2 (zx_u2 I o0 28 (((I o0 17) + 7) / 8)) o0 25 2)) ∧ ((¬ (((I o0 17) + 7) / 8) ≤ 4) → zi_X l (zx_rm (d + 1) 0 0) M_Mod_pick K RJ Q 33 [(0, .ref o0), (1, .int 0)] [] (zx_u2 (zx_u2 I o0 28 (((I o0 17) + 7) / 8)) o0 25 3))) :
    zi_X l (zx_rm (d + 1) 0 0) M_Mod_pick K RJ Q 0 [(0, .ref o0)] [] I := by
  refine zx_aload_n d_Mod_pick_0 rfl ?_
  refine zx_aload_n d_Mod_pick_1 rfl ?_
  refine zi_getI f_Mod_111 q1 (by decide) d_Mod_pick_2 ?_
  refine zx_bipush d_Mod_pick_5 zb_7 ?_
  refine zx_iadd d_Mod_pick_7 ?_
  refine zx_bipush d_Mod_pick_8 zb_8 ?_
  refine zx_idiv d_Mod_pick_10 (by decide) ?_
  refine zi_putI f_Mod_131 q1 (by decide) d_Mod_pick_11 ?_
  refine zx_aload_n d_Mod_pick_14 rfl ?_
  refine zx_aload_n d_Mod_pick_15 rfl ?_
  refine zi_getIe f_Mod_131 q1 (by decide) zx_u2_s d_Mod_pick_16 ?_
  refine zx_iconst d_Mod_pick_19 zc_4 ?_
  refine zx_icmp_le (tgt := 27) d_Mod_pick_20 rfl (fun c => ?_) (fun c => ?_)
  · have k := k.1 c
    refine zx_iconst d_Mod_pick_27 zc_2 ?_
    refine zi_putI f_Mod_134 q1 (by decide) d_Mod_pick_28 ?_
    refine zx_iconst d_Mod_pick_31 zc_0 ?_
    refine zx_istore_n (L2 := [(0, .ref o0), (1, .int 0)]) d_Mod_pick_32 (Nat.le_of_ble_eq_true rfl) rfl ?_
    exact k
  · have k := k.2 c
    refine zx_iconst d_Mod_pick_23 zc_3 ?_
    refine zx_goto (tgt := 28) d_Mod_pick_24 rfl ?_
    refine zi_putI f_Mod_134 q1 (by decide) d_Mod_pick_28 ?_
    refine zx_iconst d_Mod_pick_31 zc_0 ?_
    refine zx_istore_n (L2 := [(0, .ref o0), (1, .int 0)]) d_Mod_pick_32 (Nat.le_of_ble_eq_true rfl) rfl ?_
    exact k
set_option maxRecDepth 20000 in
theorem r_Mod_pick_33 (l : Launch) (d : Nat) {K : zx_Kt} {RJ : zx_RJ} {Q : zi_Q} {I : zi_I} (o0 : Nat) (x1 : Int32) (q1 : (K.2 o0).1 = 6) {r2 : Nat} (e3 : RJ.1 o0 29 = r2) (z4 : r2 ≠ 0) {n7 : Nat} (a6 : K.2 r2 = (0, n7))
    (k : (((I o0 28) ≤ x1) → zi_X l (zx_rm (d + 1) 0 0) M_Mod_pick K RJ Q 61 [(0, .ref o0), (1, .int 0)] [] I) ∧ ((¬ (I o0 28) ≤ x1) → ¬ (I o0 25) = 0 ∧ ∃ j8, x1 = nI j8 ∧ j8 < n7 ∧ zi_X l (zx_rm (d + 1) 0 0) M_Mod_pick K RJ Q 33 [(0, .ref o0), (1, .int (x1 + 1))] [] (zx_u2 I r2 j8 (x1 - x1 / (I o0 25) * (I o0 25))))) :
    zi_X l (zx_rm (d + 1) 0 0) M_Mod_pick K RJ Q 33 [(0, .ref o0), (1, .int x1)] [] I := by
  refine zx_iload_n d_Mod_pick_33 rfl ?_
  refine zx_aload_n d_Mod_pick_34 rfl ?_
  refine zi_getI f_Mod_131 q1 (by decide) d_Mod_pick_35 ?_
  refine zx_icmp_ge (tgt := 59) d_Mod_pick_38 rfl (fun c => ?_) (fun c => ?_)
  · have k := k.1 c
    refine zx_iconst d_Mod_pick_59 zc_0 ?_
    refine zx_istore_n (L2 := [(0, .ref o0), (1, .int 0)]) d_Mod_pick_60 (Nat.le_of_ble_eq_true rfl) rfl ?_
    exact k
  · have k := k.2 c
    refine zx_aload_n d_Mod_pick_41 rfl ?_
    refine zi_getR f_Mod_48 q1 (by decide) e3 z4 d_Mod_pick_42 ?_
    refine zx_iload_n d_Mod_pick_45 rfl ?_
    refine zx_iload_n d_Mod_pick_46 rfl ?_
    refine zx_aload_n d_Mod_pick_47 rfl ?_
    refine zi_getI f_Mod_134 q1 (by decide) d_Mod_pick_48 ?_
    obtain ⟨z5, k⟩ := k
    refine zx_irem d_Mod_pick_51 z5 ?_
    obtain ⟨j8, e9, b10, k⟩ := k
    refine zi_iast j8 a6 e9 b10 d_Mod_pick_52 ?_
    refine zx_iinc (L2 := [(0, .ref o0), (1, .int (x1 + 1))]) d_Mod_pick_53 rfl (Nat.le_of_ble_eq_true rfl) zc_1 rfl ?_
    refine zx_goto (tgt := 33) d_Mod_pick_56 rfl ?_
    exact k
set_option maxRecDepth 20000 in
theorem r_Mod_pick_61 (l : Launch) (d : Nat) {K : zx_Kt} {RJ : zx_RJ} {Q : zi_Q} {I : zi_I} (o0 : Nat) (x1 : Int32) 
    (k : ((3 ≤ x1) → zi_X l (zx_rm (d + 1) 0 0) M_Mod_pick K RJ Q 286 [(0, .ref o0), (1, .int 0)] [] I) ∧ ((¬ 3 ≤ x1) → zi_X l (zx_rm (d + 1) 0 0) M_Mod_pick K RJ Q 68 [(0, .ref o0), (1, .int x1), (2, .int 0)] [] I)) :
    zi_X l (zx_rm (d + 1) 0 0) M_Mod_pick K RJ Q 61 [(0, .ref o0), (1, .int x1)] [] I := by
  refine zx_iload_n d_Mod_pick_61 rfl ?_
  refine zx_iconst d_Mod_pick_62 zc_3 ?_
  refine zx_icmp_ge (tgt := 284) d_Mod_pick_63 rfl (fun c => ?_) (fun c => ?_)
  · have k := k.1 c
    refine zx_iconst d_Mod_pick_284 zc_0 ?_
    refine zx_istore_n (L2 := [(0, .ref o0), (1, .int 0)]) d_Mod_pick_285 (Nat.le_of_ble_eq_true rfl) rfl ?_
    exact k
  · have k := k.2 c
    refine zx_iconst d_Mod_pick_66 zc_0 ?_
    refine zx_istore_n (L2 := [(0, .ref o0), (1, .int x1), (2, .int 0)]) d_Mod_pick_67 (Nat.le_of_ble_eq_true rfl) rfl ?_
    exact k
set_option maxRecDepth 20000 in
theorem r_Mod_pick_68 (l : Launch) (d : Nat) {K : zx_Kt} {RJ : zx_RJ} {Q : zi_Q} {I : zi_I} (o0 : Nat) (x1 : Int32) (x2 : Int32) (q1 : (K.2 o0).1 = 6)
    (k : (((I o0 25) ≤ x2) → zi_X l (zx_rm (d + 1) 0 0) M_Mod_pick K RJ Q 205 [(0, .ref o0), (1, .int x1), (2, .int 0)] [] I) ∧ ((¬ (I o0 25) ≤ x2) → zi_X l (zx_rm (d + 1) 0 0) M_Mod_pick K RJ Q 78 [(0, .ref o0), (1, .int x1), (2, .int x2), (3, .int 0)] [] I)) :
    zi_X l (zx_rm (d + 1) 0 0) M_Mod_pick K RJ Q 68 [(0, .ref o0), (1, .int x1), (2, .int x2)] [] I := by
  refine zx_iload_n d_Mod_pick_68 rfl ?_
  refine zx_aload_n d_Mod_pick_69 rfl ?_
  refine zi_getI f_Mod_134 q1 (by decide) d_Mod_pick_70 ?_
  refine zx_icmp_ge (tgt := 203) d_Mod_pick_73 rfl (fun c => ?_) (fun c => ?_)
  · have k := k.1 c
    refine zx_iconst d_Mod_pick_203 zc_0 ?_
    refine zx_istore_n (L2 := [(0, .ref o0), (1, .int x1), (2, .int 0)]) d_Mod_pick_204 (Nat.le_of_ble_eq_true rfl) rfl ?_
    exact k
  · have k := k.2 c
    refine zx_iconst d_Mod_pick_76 zc_0 ?_
    refine zx_istore_n (L2 := [(0, .ref o0), (1, .int x1), (2, .int x2), (3, .int 0)]) d_Mod_pick_77 (Nat.le_of_ble_eq_true rfl) rfl ?_
    exact k
set_option maxRecDepth 20000 in
theorem r_Mod_pick_78 (l : Launch) (d : Nat) {K : zx_Kt} {RJ : zx_RJ} {Q : zi_Q} {I : zi_I} (o0 : Nat) (x1 : Int32) (x2 : Int32) (x3 : Int32) (q1 : (K.2 o0).1 = 6) {r2 : Nat} (e3 : RJ.1 o0 32 = r2) (z4 : r2 ≠ 0) {n6 : Nat} (a5 : K.2 r2 = (0, n6))
    (k : ((((I o0 22) + 2) ≤ x3) → zi_X l (zx_rm (d + 1) 0 0) M_Mod_pick K RJ Q 103 [(0, .ref o0), (1, .int x1), (2, .int x2), (3, .int 0)] [] I) ∧ ((¬ ((I o0 22) + 2) ≤ x3) → ∃ j7, x3 = nI j7 ∧ j7 < n6 ∧ zi_X l (zx_rm (d + 1) 0 0) M_Mod_pick K RJ Q 78 [(0, .ref o0), (1, .int x1), (2, .int x2), (3, .int (x3 + 1))] [] (zx_u2 I r2 j7 0))) :
    zi_X l (zx_rm (d + 1) 0 0) M_Mod_pick K RJ Q 78 [(0, .ref o0), (1, .int x1), (2, .int x2), (3, .int x3)] [] I := by
  refine zx_iload_n d_Mod_pick_78 rfl ?_
  refine zx_aload_n d_Mod_pick_79 rfl ?_
  refine zi_getI f_Mod_108 q1 (by decide) d_Mod_pick_80 ?_
  refine zx_iconst d_Mod_pick_83 zc_2 ?_
  refine zx_iadd d_Mod_pick_84 ?_
  refine zx_icmp_ge (tgt := 101) d_Mod_pick_85 rfl (fun c => ?_) (fun c => ?_)
  · have k := k.1 c
    refine zx_iconst d_Mod_pick_101 zc_0 ?_
    refine zx_istore_n (L2 := [(0, .ref o0), (1, .int x1), (2, .int x2), (3, .int 0)]) d_Mod_pick_102 (Nat.le_of_ble_eq_true rfl) rfl ?_
    exact k
  · have k := k.2 c
    refine zx_aload_n d_Mod_pick_88 rfl ?_
    refine zi_getR f_Mod_57 q1 (by decide) e3 z4 d_Mod_pick_89 ?_
    refine zx_iload_n d_Mod_pick_92 rfl ?_
    refine zx_iconst d_Mod_pick_93 zc_0 ?_
    obtain ⟨j7, e8, b9, k⟩ := k
    refine zi_iast j7 a5 e8 b9 d_Mod_pick_94 ?_
    refine zx_iinc (L2 := [(0, .ref o0), (1, .int x1), (2, .int x2), (3, .int (x3 + 1))]) d_Mod_pick_95 rfl (Nat.le_of_ble_eq_true rfl) zc_1 rfl ?_
    refine zx_goto (tgt := 78) d_Mod_pick_98 rfl ?_
    exact k
set_option maxRecDepth 20000 in
theorem r_Mod_pick_103 (l : Launch) (d : Nat) {K : zx_Kt} {RJ : zx_RJ} {Q : zi_Q} {I : zi_I} (o0 : Nat) (x1 : Int32) (x2 : Int32) (x3 : Int32) (q1 : (K.2 o0).1 = 6) {r2 : Nat} (e3 : RJ.1 o0 32 = r2) (z4 : r2 ≠ 0) {r5 : Nat} (e6 : RJ.1 o0 18 = r5) (z7 : r5 ≠ 0) {n9 : Nat} (a8 : K.2 r5 = (0, n9)) {n14 : Nat} (a13 : K.2 r2 = (0, n14)) {r18 : Nat} (e19 : RJ.1 o0 29 = r18) (z20 : r18 ≠ 0) {n22 : Nat} (a21 : K.2 r18 = (0, n22))
    (k : (((I o0 17) ≤ x3) → zi_X l (zx_rm (d + 1) 0 0) M_Mod_pick K RJ Q 151 [(0, .ref o0), (1, .int x1), (2, .int x2), (3, .int 0)] [] I) ∧ ((¬ (I o0 17) ≤ x3) → ∃ j10, x3 = nI j10 ∧ j10 < n9 ∧ ∃ j15, I r5 j10 = nI j15 ∧ j15 < n14 ∧ ∃ j23, x3 / 8 = nI j23 ∧ j23 < n22 ∧ ((¬ (I r18 j23) = x2) → ∃ j26, I r5 j10 = nI j26 ∧ j26 < n14 ∧ zi_X l (zx_rm (d + 1) 0 0) M_Mod_pick K RJ Q 103 [(0, .ref o0), (1, .int x1), (2, .int x2), (3, .int (x3 + 1))] [] (zx_u2 I r2 j26 ((I r2 j15) + 0))) ∧ (((I r18 j23) = x2) → ∃ j29, I r5 j10 = nI j29 ∧ j29 < n14 ∧ zi_X l (zx_rm (d + 1) 0 0) M_Mod_pick K RJ Q 103 [(0, .ref o0), (1, .int x1), (2, .int x2), (3, .int (x3 + 1))] [] (zx_u2 I r2 j29 ((I r2 j15) + 1))))) :
    zi_X l (zx_rm (d + 1) 0 0) M_Mod_pick K RJ Q 103 [(0, .ref o0), (1, .int x1), (2, .int x2), (3, .int x3)] [] I := by
  refine zx_iload_n d_Mod_pick_103 rfl ?_
  refine zx_aload_n d_Mod_pick_104 rfl ?_
  refine zi_getI f_Mod_111 q1 (by decide) d_Mod_pick_105 ?_
  refine zx_icmp_ge (tgt := 149) d_Mod_pick_108 rfl (fun c => ?_) (fun c => ?_)
  · have k := k.1 c
    refine zx_iconst d_Mod_pick_149 zc_0 ?_
    refine zx_istore_n (L2 := [(0, .ref o0), (1, .int x1), (2, .int x2), (3, .int 0)]) d_Mod_pick_150 (Nat.le_of_ble_eq_true rfl) rfl ?_
    exact k
  · have k := k.2 c
    refine zx_aload_n d_Mod_pick_111 rfl ?_
    refine zi_getR f_Mod_57 q1 (by decide) e3 z4 d_Mod_pick_112 ?_
    refine zx_aload_n d_Mod_pick_115 rfl ?_
    refine zi_getR f_Mod_32 q1 (by decide) e6 z7 d_Mod_pick_116 ?_
    refine zx_iload_n d_Mod_pick_119 rfl ?_
    obtain ⟨j10, e11, b12, k⟩ := k
    refine zi_iald j10 a8 e11 b12 d_Mod_pick_120 ?_
    refine zx_dup2_ai d_Mod_pick_121 ?_
    obtain ⟨j15, e16, b17, k⟩ := k
    refine zi_iald j15 a13 e16 b17 d_Mod_pick_122 ?_
    refine zx_aload_n d_Mod_pick_123 rfl ?_
    refine zi_getR f_Mod_48 q1 (by decide) e19 z20 d_Mod_pick_124 ?_
    refine zx_iload_n d_Mod_pick_127 rfl ?_
    refine zx_bipush d_Mod_pick_128 zb_8 ?_
    refine zx_idiv d_Mod_pick_130 (by decide) ?_
    obtain ⟨j23, e24, b25, k⟩ := k
    refine zi_iald j23 a21 e24 b25 d_Mod_pick_131 ?_
    refine zx_iload_n d_Mod_pick_132 rfl ?_
    refine zx_icmp_ne (tgt := 140) d_Mod_pick_133 rfl (fun c => ?_) (fun c => ?_)
    · have k := k.1 c
      refine zx_iconst d_Mod_pick_140 zc_0 ?_
      refine zx_iadd d_Mod_pick_141 ?_
      obtain ⟨j26, e27, b28, k⟩ := k
      refine zi_iast j26 a13 e27 b28 d_Mod_pick_142 ?_
      refine zx_iinc (L2 := [(0, .ref o0), (1, .int x1), (2, .int x2), (3, .int (x3 + 1))]) d_Mod_pick_143 rfl (Nat.le_of_ble_eq_true rfl) zc_1 rfl ?_
      refine zx_goto (tgt := 103) d_Mod_pick_146 rfl ?_
      exact k
    · have k := k.2 c
      refine zx_iconst d_Mod_pick_136 zc_1 ?_
      refine zx_goto (tgt := 141) d_Mod_pick_137 rfl ?_
      refine zx_iadd d_Mod_pick_141 ?_
      obtain ⟨j29, e30, b31, k⟩ := k
      refine zi_iast j29 a13 e30 b31 d_Mod_pick_142 ?_
      refine zx_iinc (L2 := [(0, .ref o0), (1, .int x1), (2, .int x2), (3, .int (x3 + 1))]) d_Mod_pick_143 rfl (Nat.le_of_ble_eq_true rfl) zc_1 rfl ?_
      refine zx_goto (tgt := 103) d_Mod_pick_146 rfl ?_
      exact k
set_option maxRecDepth 20000 in
theorem r_Mod_pick_151 (l : Launch) (d : Nat) {K : zx_Kt} {RJ : zx_RJ} {Q : zi_Q} {I : zi_I} (o0 : Nat) (x1 : Int32) (x2 : Int32) (x3 : Int32) (q1 : (K.2 o0).1 = 6) {r3 : Nat} (e4 : RJ.1 o0 32 = r3) (z5 : r3 ≠ 0) {n7 : Nat} (a6 : K.2 r3 = (0, n7))
    (k : ((((I o0 22) + 2) ≤ x3) → zi_C l (zx_rm d 0 0) M_Mod_makeLengths [.ref o0, .int x2] K RJ I (fun r I2 => r = none ∧ zi_X l (zx_rm (d + 1) 0 0) M_Mod_pick K RJ Q 68 [(0, .ref o0), (1, .int x1), (2, .int (x2 + 1))] [] I2)) ∧ ((¬ ((I o0 22) + 2) ≤ x3) → ∃ j8, x3 = nI j8 ∧ j8 < n7 ∧ ((¬ (I r3 j8) = 0) → ∃ j11, x3 = nI j11 ∧ j11 < n7 ∧ ∃ j14, x3 = nI j14 ∧ j14 < n7 ∧ zi_X l (zx_rm (d + 1) 0 0) M_Mod_pick K RJ Q 151 [(0, .ref o0), (1, .int x1), (2, .int x2), (3, .int (x3 + 1))] [] (zx_u2 I r3 j14 (I r3 j11))) ∧ (((I r3 j8) = 0) → ∃ j17, x3 = nI j17 ∧ j17 < n7 ∧ zi_X l (zx_rm (d + 1) 0 0) M_Mod_pick K RJ Q 151 [(0, .ref o0), (1, .int x1), (2, .int x2), (3, .int (x3 + 1))] [] (zx_u2 I r3 j17 1)))) :
    zi_X l (zx_rm (d + 1) 0 0) M_Mod_pick K RJ Q 151 [(0, .ref o0), (1, .int x1), (2, .int x2), (3, .int x3)] [] I := by
  refine zx_iload_n d_Mod_pick_151 rfl ?_
  refine zx_aload_n d_Mod_pick_152 rfl ?_
  refine zi_getI f_Mod_108 q1 (by decide) d_Mod_pick_153 ?_
  refine zx_iconst d_Mod_pick_156 zc_2 ?_
  refine zx_iadd d_Mod_pick_157 ?_
  refine zx_icmp_ge (tgt := 192) d_Mod_pick_158 rfl (fun c => ?_) (fun c => ?_)
  · have k := k.1 c
    refine zx_aload_n d_Mod_pick_192 rfl ?_
    refine zx_iload_n d_Mod_pick_193 rfl ?_
    refine zi_callV (hC := k) k_Mod_137 q1 (by decide) rfl rfl (Nat.le_of_ble_eq_true rfl) (Nat.le_of_ble_eq_true rfl) d_Mod_pick_194 (fun r I2 k => ?_)
    obtain ⟨rfl, k⟩ := k
    refine zx_iinc (L2 := [(0, .ref o0), (1, .int x1), (2, .int (x2 + 1)), (3, .int x3)]) d_Mod_pick_197 rfl (Nat.le_of_ble_eq_true rfl) zc_1 rfl ?_
    refine zx_goto (tgt := 68) d_Mod_pick_200 rfl ?_
    refine zx_locs [0, 1, 2] rfl ?_
    exact k
  · have k := k.2 c
    refine zx_aload_n d_Mod_pick_161 rfl ?_
    refine zi_getR f_Mod_57 q1 (by decide) e4 z5 d_Mod_pick_162 ?_
    refine zx_iload_n d_Mod_pick_165 rfl ?_
    refine zx_aload_n d_Mod_pick_166 rfl ?_
    refine zi_getR f_Mod_57 q1 (by decide) e4 z5 d_Mod_pick_167 ?_
    refine zx_iload_n d_Mod_pick_170 rfl ?_
    obtain ⟨j8, e9, b10, k⟩ := k
    refine zi_iald j8 a6 e9 b10 d_Mod_pick_171 ?_
    refine zx_if_ne (tgt := 179) d_Mod_pick_172 rfl (fun c => ?_) (fun c => ?_)
    · have k := k.1 c
      refine zx_aload_n d_Mod_pick_179 rfl ?_
      refine zi_getR f_Mod_57 q1 (by decide) e4 z5 d_Mod_pick_180 ?_
      refine zx_iload_n d_Mod_pick_183 rfl ?_
      obtain ⟨j11, e12, b13, k⟩ := k
      refine zi_iald j11 a6 e12 b13 d_Mod_pick_184 ?_
      obtain ⟨j14, e15, b16, k⟩ := k
      refine zi_iast j14 a6 e15 b16 d_Mod_pick_185 ?_
      refine zx_iinc (L2 := [(0, .ref o0), (1, .int x1), (2, .int x2), (3, .int (x3 + 1))]) d_Mod_pick_186 rfl (Nat.le_of_ble_eq_true rfl) zc_1 rfl ?_
      refine zx_goto (tgt := 151) d_Mod_pick_189 rfl ?_
      exact k
    · have k := k.2 c
      refine zx_iconst d_Mod_pick_175 zc_1 ?_
      refine zx_goto (tgt := 185) d_Mod_pick_176 rfl ?_
      obtain ⟨j17, e18, b19, k⟩ := k
      refine zi_iast j17 a6 e18 b19 d_Mod_pick_185 ?_
      refine zx_iinc (L2 := [(0, .ref o0), (1, .int x1), (2, .int x2), (3, .int (x3 + 1))]) d_Mod_pick_186 rfl (Nat.le_of_ble_eq_true rfl) zc_1 rfl ?_
      refine zx_goto (tgt := 151) d_Mod_pick_189 rfl ?_
      exact k
set_option maxRecDepth 20000 in
theorem r_Mod_pick_205 (l : Launch) (d : Nat) {K : zx_Kt} {RJ : zx_RJ} {Q : zi_Q} {I : zi_I} (o0 : Nat) (x1 : Int32) (x2 : Int32) (q1 : (K.2 o0).1 = 6) {r2 : Nat} (e3 : RJ.1 o0 29 = r2) (z4 : r2 ≠ 0) {n6 : Nat} (a5 : K.2 r2 = (0, n6))
    (k : (((I o0 28) ≤ x2) → zi_X l (zx_rm (d + 1) 0 0) M_Mod_pick K RJ Q 61 [(0, .ref o0), (1, .int (x1 + 1))] [] I) ∧ ((¬ (I o0 28) ≤ x2) → ∃ j7, x2 = nI j7 ∧ j7 < n6 ∧ zi_X l (zx_rm (d + 1) 0 0) M_Mod_pick K RJ Q 222 [(0, .ref o0), (1, .int x1), (2, .int x2), (3, .int 1)] [] (zx_u2 I r2 j7 0))) :
    zi_X l (zx_rm (d + 1) 0 0) M_Mod_pick K RJ Q 205 [(0, .ref o0), (1, .int x1), (2, .int x2)] [] I := by
  refine zx_iload_n d_Mod_pick_205 rfl ?_
  refine zx_aload_n d_Mod_pick_206 rfl ?_
  refine zi_getI f_Mod_131 q1 (by decide) d_Mod_pick_207 ?_
  refine zx_icmp_ge (tgt := 278) d_Mod_pick_210 rfl (fun c => ?_) (fun c => ?_)
  · have k := k.1 c
    refine zx_iinc (L2 := [(0, .ref o0), (1, .int (x1 + 1)), (2, .int x2)]) d_Mod_pick_278 rfl (Nat.le_of_ble_eq_true rfl) zc_1 rfl ?_
    refine zx_goto (tgt := 61) d_Mod_pick_281 rfl ?_
    refine zx_locs [0, 1] rfl ?_
    exact k
  · have k := k.2 c
    refine zx_aload_n d_Mod_pick_213 rfl ?_
    refine zi_getR f_Mod_48 q1 (by decide) e3 z4 d_Mod_pick_214 ?_
    refine zx_iload_n d_Mod_pick_217 rfl ?_
    refine zx_iconst d_Mod_pick_218 zc_0 ?_
    obtain ⟨j7, e8, b9, k⟩ := k
    refine zi_iast j7 a5 e8 b9 d_Mod_pick_219 ?_
    refine zx_iconst d_Mod_pick_220 zc_1 ?_
    refine zx_istore_n (L2 := [(0, .ref o0), (1, .int x1), (2, .int x2), (3, .int 1)]) d_Mod_pick_221 (Nat.le_of_ble_eq_true rfl) rfl ?_
    exact k
set_option maxRecDepth 20000 in
theorem r_Mod_pick_222 (l : Launch) (d : Nat) {K : zx_Kt} {RJ : zx_RJ} {Q : zi_Q} {I : zi_I} (o0 : Nat) (x1 : Int32) (x2 : Int32) (x3 : Int32) (q1 : (K.2 o0).1 = 6) {r2 : Nat} (e3 : RJ.1 o0 29 = r2) (z4 : r2 ≠ 0) {n8 : Nat} (a7 : K.2 r2 = (0, n8))
    (k : (((I o0 25) ≤ x3) → zi_X l (zx_rm (d + 1) 0 0) M_Mod_pick K RJ Q 205 [(0, .ref o0), (1, .int x1), (2, .int (x2 + 1))] [] I) ∧ ((¬ (I o0 25) ≤ x3) → zi_C l (zx_rm d 0 0) M_Mod_costOf [.ref o0, .int x2, .int x3] K RJ I (fun r I5 => ∃ v6, r = some (.int v6) ∧ ∃ j9, x2 = nI j9 ∧ j9 < n8 ∧ zi_C l (zx_rm d 0 0) M_Mod_costOf [.ref o0, .int x2, .int (I5 r2 j9)] K RJ I5 (fun r I12 => ∃ v13, r = some (.int v13) ∧ ((v13 ≤ v6) → ∃ j14, x2 = nI j14 ∧ j14 < n8 ∧ ∃ j17, x2 = nI j17 ∧ j17 < n8 ∧ zi_X l (zx_rm (d + 1) 0 0) M_Mod_pick K RJ Q 222 [(0, .ref o0), (1, .int x1), (2, .int x2), (3, .int (x3 + 1))] [] (zx_u2 I12 r2 j17 (I12 r2 j14))) ∧ ((¬ v13 ≤ v6) → ∃ j20, x2 = nI j20 ∧ j20 < n8 ∧ zi_X l (zx_rm (d + 1) 0 0) M_Mod_pick K RJ Q 222 [(0, .ref o0), (1, .int x1), (2, .int x2), (3, .int (x3 + 1))] [] (zx_u2 I12 r2 j20 x3)))))) :
    zi_X l (zx_rm (d + 1) 0 0) M_Mod_pick K RJ Q 222 [(0, .ref o0), (1, .int x1), (2, .int x2), (3, .int x3)] [] I := by
  refine zx_iload_n d_Mod_pick_222 rfl ?_
  refine zx_aload_n d_Mod_pick_223 rfl ?_
  refine zi_getI f_Mod_134 q1 (by decide) d_Mod_pick_224 ?_
  refine zx_icmp_ge (tgt := 272) d_Mod_pick_227 rfl (fun c => ?_) (fun c => ?_)
  · have k := k.1 c
    refine zx_iinc (L2 := [(0, .ref o0), (1, .int x1), (2, .int (x2 + 1)), (3, .int x3)]) d_Mod_pick_272 rfl (Nat.le_of_ble_eq_true rfl) zc_1 rfl ?_
    refine zx_goto (tgt := 205) d_Mod_pick_275 rfl ?_
    refine zx_locs [0, 1, 2] rfl ?_
    exact k
  · have k := k.2 c
    refine zx_aload_n d_Mod_pick_230 rfl ?_
    refine zi_getR f_Mod_48 q1 (by decide) e3 z4 d_Mod_pick_231 ?_
    refine zx_iload_n d_Mod_pick_234 rfl ?_
    refine zx_aload_n d_Mod_pick_235 rfl ?_
    refine zx_iload_n d_Mod_pick_236 rfl ?_
    refine zx_iload_n d_Mod_pick_237 rfl ?_
    refine zi_callV (hC := k) k_Mod_140 q1 (by decide) rfl rfl (Nat.le_of_ble_eq_true rfl) (Nat.le_of_ble_eq_true rfl) d_Mod_pick_238 (fun r I5 k => ?_)
    obtain ⟨v6, rfl, k⟩ := k
    refine zx_aload_n d_Mod_pick_241 rfl ?_
    refine zx_iload_n d_Mod_pick_242 rfl ?_
    refine zx_aload_n d_Mod_pick_243 rfl ?_
    refine zi_getR f_Mod_48 q1 (by decide) e3 z4 d_Mod_pick_244 ?_
    refine zx_iload_n d_Mod_pick_247 rfl ?_
    obtain ⟨j9, e10, b11, k⟩ := k
    refine zi_iald j9 a7 e10 b11 d_Mod_pick_248 ?_
    refine zi_callV (hC := k) k_Mod_140 q1 (by decide) rfl rfl (Nat.le_of_ble_eq_true rfl) (Nat.le_of_ble_eq_true rfl) d_Mod_pick_249 (fun r I12 k => ?_)
    obtain ⟨v13, rfl, k⟩ := k
    refine zx_icmp_ge (tgt := 259) d_Mod_pick_252 rfl (fun c => ?_) (fun c => ?_)
    · have k := k.1 c
      refine zx_aload_n d_Mod_pick_259 rfl ?_
      refine zi_getR f_Mod_48 q1 (by decide) e3 z4 d_Mod_pick_260 ?_
      refine zx_iload_n d_Mod_pick_263 rfl ?_
      obtain ⟨j14, e15, b16, k⟩ := k
      refine zi_iald j14 a7 e15 b16 d_Mod_pick_264 ?_
      obtain ⟨j17, e18, b19, k⟩ := k
      refine zi_iast j17 a7 e18 b19 d_Mod_pick_265 ?_
      refine zx_iinc (L2 := [(0, .ref o0), (1, .int x1), (2, .int x2), (3, .int (x3 + 1))]) d_Mod_pick_266 rfl (Nat.le_of_ble_eq_true rfl) zc_1 rfl ?_
      refine zx_goto (tgt := 222) d_Mod_pick_269 rfl ?_
      exact k
    · have k := k.2 c
      refine zx_iload_n d_Mod_pick_255 rfl ?_
      refine zx_goto (tgt := 265) d_Mod_pick_256 rfl ?_
      obtain ⟨j20, e21, b22, k⟩ := k
      refine zi_iast j20 a7 e21 b22 d_Mod_pick_265 ?_
      refine zx_iinc (L2 := [(0, .ref o0), (1, .int x1), (2, .int x2), (3, .int (x3 + 1))]) d_Mod_pick_266 rfl (Nat.le_of_ble_eq_true rfl) zc_1 rfl ?_
      refine zx_goto (tgt := 222) d_Mod_pick_269 rfl ?_
      exact k
set_option maxRecDepth 20000 in
theorem r_Mod_pick_286 (l : Launch) (d : Nat) {K : zx_Kt} {RJ : zx_RJ} {Q : zi_Q} {I : zi_I} (o0 : Nat) (x1 : Int32) (q1 : (K.2 o0).1 = 6)
    (k : (((I o0 25) ≤ x1) → Q none I) ∧ ((¬ (I o0 25) ≤ x1) → zi_C l (zx_rm d 0 0) M_Mod_makeCodes [.ref o0, .int x1] K RJ I (fun r I2 => r = none ∧ zi_X l (zx_rm (d + 1) 0 0) M_Mod_pick K RJ Q 286 [(0, .ref o0), (1, .int (x1 + 1))] [] I2))) :
    zi_X l (zx_rm (d + 1) 0 0) M_Mod_pick K RJ Q 286 [(0, .ref o0), (1, .int x1)] [] I := by
  refine zx_iload_n d_Mod_pick_286 rfl ?_
  refine zx_aload_n d_Mod_pick_287 rfl ?_
  refine zi_getI f_Mod_134 q1 (by decide) d_Mod_pick_288 ?_
  refine zx_icmp_ge (tgt := 305) d_Mod_pick_291 rfl (fun c => ?_) (fun c => ?_)
  · have k := k.1 c
    exact zi_vret d_Mod_pick_305 rfl k
  · have k := k.2 c
    refine zx_aload_n d_Mod_pick_294 rfl ?_
    refine zx_iload_n d_Mod_pick_295 rfl ?_
    refine zi_callV (hC := k) k_Mod_143 q1 (by decide) rfl rfl (Nat.le_of_ble_eq_true rfl) (Nat.le_of_ble_eq_true rfl) d_Mod_pick_296 (fun r I2 k => ?_)
    obtain ⟨rfl, k⟩ := k
    refine zx_iinc (L2 := [(0, .ref o0), (1, .int (x1 + 1))]) d_Mod_pick_299 rfl (Nat.le_of_ble_eq_true rfl) zc_1 rfl ?_
    refine zx_goto (tgt := 286) d_Mod_pick_302 rfl ?_
    exact k
set_option maxRecDepth 20000 in
theorem r_Mod_write_0 (l : Launch) (d : Nat) {K : zx_Kt} {RJ : zx_RJ} {Q : zi_Q} {I : zi_I} (o0 : Nat) (x1 : Int32) (x2 : Int32) 
    (k : zi_X l (zx_rm d 0 0) M_Mod_write K RJ Q 4 [(0, .ref o0), (1, .int x1), (2, .int x2), (3, .int (x2 - 1))] [] I) :
    zi_X l (zx_rm d 0 0) M_Mod_write K RJ Q 0 [(0, .ref o0), (1, .int x1), (2, .int x2)] [] I := by
  refine zx_iload_n d_Mod_write_0 rfl ?_
  refine zx_iconst d_Mod_write_1 zc_1 ?_
  refine zx_isub d_Mod_write_2 ?_
  refine zx_istore_n (L2 := [(0, .ref o0), (1, .int x1), (2, .int x2), (3, .int (x2 - 1))]) d_Mod_write_3 (Nat.le_of_ble_eq_true rfl) rfl ?_
  exact k
set_option maxRecDepth 20000 in
theorem r_Mod_write_4 (l : Launch) (d : Nat) {K : zx_Kt} {RJ : zx_RJ} {Q : zi_Q} {I : zi_I} (o0 : Nat) (x1 : Int32) (x2 : Int32) (x3 : Int32) (q1 : (K.2 o0).1 = 6) {r2 : Nat} (e3 : RJ.1 o0 6 = r2) (z4 : r2 ≠ 0) {n6 : Nat} (a5 : K.2 r2 = (0, n6))
    (k : ((x3 < 0) → Q none I) ∧ ((¬ x3 < 0) → ((¬ (I o0 11) = 0) → ∃ j7, (I o0 5) - 1 = nI j7 ∧ j7 < n6 ∧ ∃ j10, (I o0 5) - 1 = nI j10 ∧ j10 < n6 ∧ zi_X l (zx_rm d 0 0) M_Mod_write K RJ Q 4 [(0, .ref o0), (1, .int x1), (2, .int x2), (3, .int (x3 + (-1)))] [] (zx_u2 (zx_u2 I o0 11 ((I o0 11) - 1)) r2 j10 (((zx_u2 I o0 11 ((I o0 11) - 1)) r2 j7) ||| (((((x1 : Int32) >>> ((x3 : Int32) &&& 31)) &&& 1) : Int32) <<< ((((I o0 11) - 1) : Int32) &&& 31))))) ∧ (((I o0 11) = 0) → ∃ j13, I o0 5 = nI j13 ∧ j13 < n6 ∧ ∃ j16, ((I o0 5) + 1) - 1 = nI j16 ∧ j16 < n6 ∧ ∃ j19, ((I o0 5) + 1) - 1 = nI j19 ∧ j19 < n6 ∧ zi_X l (zx_rm d 0 0) M_Mod_write K RJ Q 4 [(0, .ref o0), (1, .int x1), (2, .int x2), (3, .int (x3 + (-1)))] [] (zx_u2 (zx_u2 (zx_u2 (zx_u2 (zx_u2 I r2 j13 0) o0 5 ((I o0 5) + 1)) o0 11 8) o0 11 (8 - 1)) r2 j19 (((zx_u2 (zx_u2 (zx_u2 (zx_u2 I r2 j13 0) o0 5 ((I o0 5) + 1)) o0 11 8) o0 11 (8 - 1)) r2 j16) ||| (((((x1 : Int32) >>> ((x3 : Int32) &&& 31)) &&& 1) : Int32) <<< (((8 - 1) : Int32) &&& 31))))))) :
    zi_X l (zx_rm d 0 0) M_Mod_write K RJ Q 4 [(0, .ref o0), (1, .int x1), (2, .int x2), (3, .int x3)] [] I := by
  refine zx_iload_n d_Mod_write_4 rfl ?_
  refine zx_if_lt (tgt := 81) d_Mod_write_5 rfl (fun c => ?_) (fun c => ?_)
  · have k := k.1 c
    exact zi_vret d_Mod_write_81 rfl k
  · have k := k.2 c
    refine zx_aload_n d_Mod_write_8 rfl ?_
    refine zi_getI f_Mod_146 q1 (by decide) d_Mod_write_9 ?_
    refine zx_if_ne (tgt := 41) d_Mod_write_12 rfl (fun c => ?_) (fun c => ?_)
    · have k := k.1 c
      refine zx_aload_n d_Mod_write_41 rfl ?_
      refine zx_dup_a d_Mod_write_42 ?_
      refine zi_getI f_Mod_146 q1 (by decide) d_Mod_write_43 ?_
      refine zx_iconst d_Mod_write_46 zc_1 ?_
      refine zx_isub d_Mod_write_47 ?_
      refine zi_putI f_Mod_146 q1 (by decide) d_Mod_write_48 ?_
      refine zx_aload_n d_Mod_write_51 rfl ?_
      refine zi_getR f_Mod_16 q1 (by decide) e3 z4 d_Mod_write_52 ?_
      refine zx_aload_n d_Mod_write_55 rfl ?_
      refine zi_getIe f_Mod_86 q1 (by decide) (zx_u2_k (by decide)) d_Mod_write_56 ?_
      refine zx_iconst d_Mod_write_59 zc_1 ?_
      refine zx_isub d_Mod_write_60 ?_
      refine zx_dup2_ai d_Mod_write_61 ?_
      obtain ⟨j7, e8, b9, k⟩ := k
      refine zi_iald j7 a5 e8 b9 d_Mod_write_62 ?_
      refine zx_iload_n d_Mod_write_63 rfl ?_
      refine zx_iload_n d_Mod_write_64 rfl ?_
      refine zx_ishr d_Mod_write_65 ?_
      refine zx_iconst d_Mod_write_66 zc_1 ?_
      refine zx_iand d_Mod_write_67 ?_
      refine zx_aload_n d_Mod_write_68 rfl ?_
      refine zi_getIe f_Mod_146 q1 (by decide) zx_u2_s d_Mod_write_69 ?_
      refine zx_ishl d_Mod_write_72 ?_
      refine zx_ior d_Mod_write_73 ?_
      obtain ⟨j10, e11, b12, k⟩ := k
      refine zi_iast j10 a5 e11 b12 d_Mod_write_74 ?_
      refine zx_iinc (L2 := [(0, .ref o0), (1, .int x1), (2, .int x2), (3, .int (x3 + (-1)))]) d_Mod_write_75 rfl (Nat.le_of_ble_eq_true rfl) zc_m1 rfl ?_
      refine zx_goto (tgt := 4) d_Mod_write_78 rfl ?_
      exact k
    · have k := k.2 c
      refine zx_aload_n d_Mod_write_15 rfl ?_
      refine zi_getR f_Mod_16 q1 (by decide) e3 z4 d_Mod_write_16 ?_
      refine zx_aload_n d_Mod_write_19 rfl ?_
      refine zi_getI f_Mod_86 q1 (by decide) d_Mod_write_20 ?_
      refine zx_iconst d_Mod_write_23 zc_0 ?_
      obtain ⟨j13, e14, b15, k⟩ := k
      refine zi_iast j13 a5 e14 b15 d_Mod_write_24 ?_
      refine zx_aload_n d_Mod_write_25 rfl ?_
      refine zx_dup_a d_Mod_write_26 ?_
      refine zi_getIe f_Mod_86 q1 (by decide) (zx_u2_a a5 q1 (by decide)) d_Mod_write_27 ?_
      refine zx_iconst d_Mod_write_30 zc_1 ?_
      refine zx_iadd d_Mod_write_31 ?_
      refine zi_putI f_Mod_86 q1 (by decide) d_Mod_write_32 ?_
      refine zx_aload_n d_Mod_write_35 rfl ?_
      refine zx_bipush d_Mod_write_36 zb_8 ?_
      refine zi_putI f_Mod_146 q1 (by decide) d_Mod_write_38 ?_
      refine zx_aload_n d_Mod_write_41 rfl ?_
      refine zx_dup_a d_Mod_write_42 ?_
      refine zi_getIe f_Mod_146 q1 (by decide) zx_u2_s d_Mod_write_43 ?_
      refine zx_iconst d_Mod_write_46 zc_1 ?_
      refine zx_isub d_Mod_write_47 ?_
      refine zi_putI f_Mod_146 q1 (by decide) d_Mod_write_48 ?_
      refine zx_aload_n d_Mod_write_51 rfl ?_
      refine zi_getR f_Mod_16 q1 (by decide) e3 z4 d_Mod_write_52 ?_
      refine zx_aload_n d_Mod_write_55 rfl ?_
      refine zi_getIe f_Mod_86 q1 (by decide) ((zx_u2_k (by decide)).trans ((zx_u2_k (by decide)).trans zx_u2_s)) d_Mod_write_56 ?_
      refine zx_iconst d_Mod_write_59 zc_1 ?_
      refine zx_isub d_Mod_write_60 ?_
      refine zx_dup2_ai d_Mod_write_61 ?_
      obtain ⟨j16, e17, b18, k⟩ := k
      refine zi_iald j16 a5 e17 b18 d_Mod_write_62 ?_
      refine zx_iload_n d_Mod_write_63 rfl ?_
      refine zx_iload_n d_Mod_write_64 rfl ?_
      refine zx_ishr d_Mod_write_65 ?_
      refine zx_iconst d_Mod_write_66 zc_1 ?_
      refine zx_iand d_Mod_write_67 ?_
      refine zx_aload_n d_Mod_write_68 rfl ?_
      refine zi_getIe f_Mod_146 q1 (by decide) zx_u2_s d_Mod_write_69 ?_
      refine zx_ishl d_Mod_write_72 ?_
      refine zx_ior d_Mod_write_73 ?_
      obtain ⟨j19, e20, b21, k⟩ := k
      refine zi_iast j19 a5 e20 b21 d_Mod_write_74 ?_
      refine zx_iinc (L2 := [(0, .ref o0), (1, .int x1), (2, .int x2), (3, .int (x3 + (-1)))]) d_Mod_write_75 rfl (Nat.le_of_ble_eq_true rfl) zc_m1 rfl ?_
      refine zx_goto (tgt := 4) d_Mod_write_78 rfl ?_
      exact k
set_option maxRecDepth 20000 in
theorem r_Mod_mapOf_0 (l : Launch) (d : Nat) {K : zx_Kt} {RJ : zx_RJ} {Q : zi_Q} {I : zi_I} (o0 : Nat) (x1 : Int32) (x2 : Int32) 
    (k : zi_X l (zx_rm d 0 0) M_Mod_mapOf K RJ Q 5 [(0, .ref o0), (1, .int x1), (2, .int x2), (3, .int 0), (4, .int 0)] [] I) :
    zi_X l (zx_rm d 0 0) M_Mod_mapOf K RJ Q 0 [(0, .ref o0), (1, .int x1), (2, .int x2)] [] I := by
  refine zx_iconst d_Mod_mapOf_0 zc_0 ?_
  refine zx_istore_n (L2 := [(0, .ref o0), (1, .int x1), (2, .int x2), (3, .int 0)]) d_Mod_mapOf_1 (Nat.le_of_ble_eq_true rfl) rfl ?_
  refine zx_iconst d_Mod_mapOf_2 zc_0 ?_
  refine zx_istore (L2 := [(0, .ref o0), (1, .int x1), (2, .int x2), (3, .int 0), (4, .int 0)]) d_Mod_mapOf_3 (Nat.le_of_ble_eq_true rfl) rfl ?_
  exact k
set_option maxRecDepth 20000 in
theorem r_Mod_mapOf_5 (l : Launch) (d : Nat) {K : zx_Kt} {RJ : zx_RJ} {Q : zi_Q} {I : zi_I} (o0 : Nat) (x1 : Int32) (x2 : Int32) (x3 : Int32) (x4 : Int32) 
    (k : ((16 ≤ x4) → Q (some (.int x3)) I) ∧ ((¬ 16 ≤ x4) → zi_X l (zx_rm d 0 0) M_Mod_mapOf K RJ Q 23 [(0, .ref o0), (1, .int x1), (2, .int x2), (3, .int x3), (4, .int x4), (5, .int 0), (6, .int (x1 + (x2 * x4)))] [] I)) :
    zi_X l (zx_rm d 0 0) M_Mod_mapOf K RJ Q 5 [(0, .ref o0), (1, .int x1), (2, .int x2), (3, .int x3), (4, .int x4)] [] I := by
  refine zx_iload d_Mod_mapOf_5 rfl ?_
  refine zx_bipush d_Mod_mapOf_7 zb_16 ?_
  refine zx_icmp_ge (tgt := 85) d_Mod_mapOf_9 rfl (fun c => ?_) (fun c => ?_)
  · have k := k.1 c
    refine zx_iload_n d_Mod_mapOf_85 rfl ?_
    exact zi_iret d_Mod_mapOf_86 rfl k
  · have k := k.2 c
    refine zx_iconst d_Mod_mapOf_12 zc_0 ?_
    refine zx_istore (L2 := [(0, .ref o0), (1, .int x1), (2, .int x2), (3, .int x3), (4, .int x4), (5, .int 0)]) d_Mod_mapOf_13 (Nat.le_of_ble_eq_true rfl) rfl ?_
    refine zx_iload_n d_Mod_mapOf_15 rfl ?_
    refine zx_iload_n d_Mod_mapOf_16 rfl ?_
    refine zx_iload d_Mod_mapOf_17 rfl ?_
    refine zx_imul d_Mod_mapOf_19 ?_
    refine zx_iadd d_Mod_mapOf_20 ?_
    refine zx_istore (L2 := [(0, .ref o0), (1, .int x1), (2, .int x2), (3, .int x3), (4, .int x4), (5, .int 0), (6, .int (x1 + (x2 * x4)))]) d_Mod_mapOf_21 (Nat.le_of_ble_eq_true rfl) rfl ?_
    exact k
set_option maxRecDepth 20000 in
theorem r_Mod_mapOf_23 (l : Launch) (d : Nat) {K : zx_Kt} {RJ : zx_RJ} {Q : zi_Q} {I : zi_I} (o0 : Nat) (x1 : Int32) (x2 : Int32) (x3 : Int32) (x4 : Int32) (x5 : Int32) (x6 : Int32) (q1 : (K.2 o0).1 = 6) {r2 : Nat} (e3 : RJ.1 o0 23 = r2) (z4 : r2 ≠ 0) {n6 : Nat} (a5 : K.2 r2 = (1, n6))
    (k : ((((x1 + (x2 * x4)) + x2) ≤ x6) → ((x5 = 0) → zi_X l (zx_rm d 0 0) M_Mod_mapOf K RJ Q 5 [(0, .ref o0), (1, .int x1), (2, .int x2), (3, .int ((2 * x3) + 0)), (4, .int (x4 + 1))] [] I) ∧ ((¬ x5 = 0) → zi_X l (zx_rm d 0 0) M_Mod_mapOf K RJ Q 5 [(0, .ref o0), (1, .int x1), (2, .int x2), (3, .int ((2 * x3) + 1)), (4, .int (x4 + 1))] [] I)) ∧ ((¬ ((x1 + (x2 * x4)) + x2) ≤ x6) → ((¬ x5 = 0) → zi_X l (zx_rm d 0 0) M_Mod_mapOf K RJ Q 23 [(0, .ref o0), (1, .int x1), (2, .int x2), (3, .int x3), (4, .int x4), (5, .int 1), (6, .int (x6 + 1))] [] I) ∧ ((x5 = 0) → ∃ j7, x6 = nI j7 ∧ j7 < n6 ∧ (((I r2 j7) = 0) → zi_X l (zx_rm d 0 0) M_Mod_mapOf K RJ Q 23 [(0, .ref o0), (1, .int x1), (2, .int x2), (3, .int x3), (4, .int x4), (5, .int 0), (6, .int (x6 + 1))] [] I) ∧ ((¬ (I r2 j7) = 0) → zi_X l (zx_rm d 0 0) M_Mod_mapOf K RJ Q 23 [(0, .ref o0), (1, .int x1), (2, .int x2), (3, .int x3), (4, .int x4), (5, .int 1), (6, .int (x6 + 1))] [] I)))) :
    zi_X l (zx_rm d 0 0) M_Mod_mapOf K RJ Q 23 [(0, .ref o0), (1, .int x1), (2, .int x2), (3, .int x3), (4, .int x4), (5, .int x5), (6, .int x6)] [] I := by
  refine zx_iload d_Mod_mapOf_23 rfl ?_
  refine zx_iload_n d_Mod_mapOf_25 rfl ?_
  refine zx_iload_n d_Mod_mapOf_26 rfl ?_
  refine zx_iload d_Mod_mapOf_27 rfl ?_
  refine zx_imul d_Mod_mapOf_29 ?_
  refine zx_iadd d_Mod_mapOf_30 ?_
  refine zx_iload_n d_Mod_mapOf_31 rfl ?_
  refine zx_iadd d_Mod_mapOf_32 ?_
  refine zx_icmp_ge (tgt := 64) d_Mod_mapOf_33 rfl (fun c => ?_) (fun c => ?_)
  · have k := k.1 c
    refine zx_iconst d_Mod_mapOf_64 zc_2 ?_
    refine zx_iload_n d_Mod_mapOf_65 rfl ?_
    refine zx_imul d_Mod_mapOf_66 ?_
    refine zx_iload d_Mod_mapOf_67 rfl ?_
    refine zx_if_eq (tgt := 76) d_Mod_mapOf_69 rfl (fun c => ?_) (fun c => ?_)
    · have k := k.1 c
      refine zx_iconst d_Mod_mapOf_76 zc_0 ?_
      refine zx_iadd d_Mod_mapOf_77 ?_
      refine zx_istore_n (L2 := [(0, .ref o0), (1, .int x1), (2, .int x2), (3, .int ((2 * x3) + 0)), (4, .int x4), (5, .int x5), (6, .int x6)]) d_Mod_mapOf_78 (Nat.le_of_ble_eq_true rfl) rfl ?_
      refine zx_iinc (L2 := [(0, .ref o0), (1, .int x1), (2, .int x2), (3, .int ((2 * x3) + 0)), (4, .int (x4 + 1)), (5, .int x5), (6, .int x6)]) d_Mod_mapOf_79 rfl (Nat.le_of_ble_eq_true rfl) zc_1 rfl ?_
      refine zx_goto (tgt := 5) d_Mod_mapOf_82 rfl ?_
      refine zx_locs [0, 1, 2, 3, 4] rfl ?_
      exact k
    · have k := k.2 c
      refine zx_iconst d_Mod_mapOf_72 zc_1 ?_
      refine zx_goto (tgt := 77) d_Mod_mapOf_73 rfl ?_
      refine zx_iadd d_Mod_mapOf_77 ?_
      refine zx_istore_n (L2 := [(0, .ref o0), (1, .int x1), (2, .int x2), (3, .int ((2 * x3) + 1)), (4, .int x4), (5, .int x5), (6, .int x6)]) d_Mod_mapOf_78 (Nat.le_of_ble_eq_true rfl) rfl ?_
      refine zx_iinc (L2 := [(0, .ref o0), (1, .int x1), (2, .int x2), (3, .int ((2 * x3) + 1)), (4, .int (x4 + 1)), (5, .int x5), (6, .int x6)]) d_Mod_mapOf_79 rfl (Nat.le_of_ble_eq_true rfl) zc_1 rfl ?_
      refine zx_goto (tgt := 5) d_Mod_mapOf_82 rfl ?_
      refine zx_locs [0, 1, 2, 3, 4] rfl ?_
      exact k
  · have k := k.2 c
    refine zx_iload d_Mod_mapOf_36 rfl ?_
    refine zx_if_ne (tgt := 51) d_Mod_mapOf_38 rfl (fun c => ?_) (fun c => ?_)
    · have k := k.1 c
      refine zx_iconst d_Mod_mapOf_51 zc_1 ?_
      refine zx_goto (tgt := 56) d_Mod_mapOf_52 rfl ?_
      refine zx_istore (L2 := [(0, .ref o0), (1, .int x1), (2, .int x2), (3, .int x3), (4, .int x4), (5, .int 1), (6, .int x6)]) d_Mod_mapOf_56 (Nat.le_of_ble_eq_true rfl) rfl ?_
      refine zx_iinc (L2 := [(0, .ref o0), (1, .int x1), (2, .int x2), (3, .int x3), (4, .int x4), (5, .int 1), (6, .int (x6 + 1))]) d_Mod_mapOf_58 rfl (Nat.le_of_ble_eq_true rfl) zc_1 rfl ?_
      refine zx_goto (tgt := 23) d_Mod_mapOf_61 rfl ?_
      exact k
    · have k := k.2 c
      refine zx_aload_n d_Mod_mapOf_41 rfl ?_
      refine zi_getR f_Mod_35 q1 (by decide) e3 z4 d_Mod_mapOf_42 ?_
      refine zx_iload d_Mod_mapOf_45 rfl ?_
      obtain ⟨j7, e8, b9, k⟩ := k
      refine zi_zald j7 a5 e8 b9 d_Mod_mapOf_47 ?_
      refine zx_if_eq (tgt := 55) d_Mod_mapOf_48 rfl (fun c => ?_) (fun c => ?_)
      · have k := k.1 c
        refine zx_iconst d_Mod_mapOf_55 zc_0 ?_
        refine zx_istore (L2 := [(0, .ref o0), (1, .int x1), (2, .int x2), (3, .int x3), (4, .int x4), (5, .int 0), (6, .int x6)]) d_Mod_mapOf_56 (Nat.le_of_ble_eq_true rfl) rfl ?_
        refine zx_iinc (L2 := [(0, .ref o0), (1, .int x1), (2, .int x2), (3, .int x3), (4, .int x4), (5, .int 0), (6, .int (x6 + 1))]) d_Mod_mapOf_58 rfl (Nat.le_of_ble_eq_true rfl) zc_1 rfl ?_
        refine zx_goto (tgt := 23) d_Mod_mapOf_61 rfl ?_
        exact k
      · have k := k.2 c
        refine zx_iconst d_Mod_mapOf_51 zc_1 ?_
        refine zx_goto (tgt := 56) d_Mod_mapOf_52 rfl ?_
        refine zx_istore (L2 := [(0, .ref o0), (1, .int x1), (2, .int x2), (3, .int x3), (4, .int x4), (5, .int 1), (6, .int x6)]) d_Mod_mapOf_56 (Nat.le_of_ble_eq_true rfl) rfl ?_
        refine zx_iinc (L2 := [(0, .ref o0), (1, .int x1), (2, .int x2), (3, .int x3), (4, .int x4), (5, .int 1), (6, .int (x6 + 1))]) d_Mod_mapOf_58 rfl (Nat.le_of_ble_eq_true rfl) zc_1 rfl ?_
        refine zx_goto (tgt := 23) d_Mod_mapOf_61 rfl ?_
        exact k
set_option maxRecDepth 20000 in
theorem r_Mod_writeMaps_0 (l : Launch) (d : Nat) {K : zx_Kt} {RJ : zx_RJ} {Q : zi_Q} {I : zi_I} (o0 : Nat) (q1 : (K.2 o0).1 = 6)
    (k : zi_C l (zx_rm d 0 0) M_Mod_mapOf [.ref o0, .int 0, .int 16] K RJ I (fun r I2 => ∃ v3, r = some (.int v3) ∧ zi_C l (zx_rm d 0 0) M_Mod_write [.ref o0, .int v3, .int 16] K RJ I2 (fun r I4 => r = none ∧ zi_X l (zx_rm (d + 1) 0 0) M_Mod_writeMaps K RJ Q 17 [(0, .ref o0), (1, .int v3), (2, .int 0)] [] I4))) :
    zi_X l (zx_rm (d + 1) 0 0) M_Mod_writeMaps K RJ Q 0 [(0, .ref o0)] [] I := by
  refine zx_aload_n d_Mod_writeMaps_0 rfl ?_
  refine zx_iconst d_Mod_writeMaps_1 zc_0 ?_
  refine zx_bipush d_Mod_writeMaps_2 zb_16 ?_
  refine zi_callV (hC := k) k_Mod_149 q1 (by decide) rfl rfl (Nat.le_of_ble_eq_true rfl) (Nat.le_of_ble_eq_true rfl) d_Mod_writeMaps_4 (fun r I2 k => ?_)
  obtain ⟨v3, rfl, k⟩ := k
  refine zx_istore_n (L2 := [(0, .ref o0), (1, .int v3)]) d_Mod_writeMaps_7 (Nat.le_of_ble_eq_true rfl) rfl ?_
  refine zx_aload_n d_Mod_writeMaps_8 rfl ?_
  refine zx_iload_n d_Mod_writeMaps_9 rfl ?_
  refine zx_bipush d_Mod_writeMaps_10 zb_16 ?_
  refine zi_callV (hC := k) k_Mod_152 q1 (by decide) rfl rfl (Nat.le_of_ble_eq_true rfl) (Nat.le_of_ble_eq_true rfl) d_Mod_writeMaps_12 (fun r I4 k => ?_)
  obtain ⟨rfl, k⟩ := k
  refine zx_iconst d_Mod_writeMaps_15 zc_0 ?_
  refine zx_istore_n (L2 := [(0, .ref o0), (1, .int v3), (2, .int 0)]) d_Mod_writeMaps_16 (Nat.le_of_ble_eq_true rfl) rfl ?_
  exact k
set_option maxRecDepth 20000 in
theorem r_Mod_writeMaps_17 (l : Launch) (d : Nat) {K : zx_Kt} {RJ : zx_RJ} {Q : zi_Q} {I : zi_I} (o0 : Nat) (x1 : Int32) (x2 : Int32) (q1 : (K.2 o0).1 = 6)
    (k : ((16 ≤ x2) → Q none I) ∧ ((¬ 16 ≤ x2) → ((¬ (((x1 : Int32) >>> (((15 - x2) : Int32) &&& 31)) &&& 1) = 1) → zi_X l (zx_rm (d + 1) 0 0) M_Mod_writeMaps K RJ Q 17 [(0, .ref o0), (1, .int x1), (2, .int (x2 + 1))] [] I) ∧ (((((x1 : Int32) >>> (((15 - x2) : Int32) &&& 31)) &&& 1) = 1) → zi_C l (zx_rm d 0 0) M_Mod_mapOf [.ref o0, .int (16 * x2), .int 1] K RJ I (fun r I2 => ∃ v3, r = some (.int v3) ∧ zi_C l (zx_rm d 0 0) M_Mod_write [.ref o0, .int v3, .int 16] K RJ I2 (fun r I4 => r = none ∧ zi_X l (zx_rm (d + 1) 0 0) M_Mod_writeMaps K RJ Q 17 [(0, .ref o0), (1, .int x1), (2, .int (x2 + 1))] [] I4))))) :
    zi_X l (zx_rm (d + 1) 0 0) M_Mod_writeMaps K RJ Q 17 [(0, .ref o0), (1, .int x1), (2, .int x2)] [] I := by
  refine zx_iload_n d_Mod_writeMaps_17 rfl ?_
  refine zx_bipush d_Mod_writeMaps_18 zb_16 ?_
  refine zx_icmp_ge (tgt := 56) d_Mod_writeMaps_20 rfl (fun c => ?_) (fun c => ?_)
  · have k := k.1 c
    exact zi_vret d_Mod_writeMaps_56 rfl k
  · have k := k.2 c
    refine zx_iload_n d_Mod_writeMaps_23 rfl ?_
    refine zx_bipush d_Mod_writeMaps_24 zb_15 ?_
    refine zx_iload_n d_Mod_writeMaps_26 rfl ?_
    refine zx_isub d_Mod_writeMaps_27 ?_
    refine zx_ishr d_Mod_writeMaps_28 ?_
    refine zx_iconst d_Mod_writeMaps_29 zc_1 ?_
    refine zx_iand d_Mod_writeMaps_30 ?_
    refine zx_iconst d_Mod_writeMaps_31 zc_1 ?_
    refine zx_icmp_ne (tgt := 50) d_Mod_writeMaps_32 rfl (fun c => ?_) (fun c => ?_)
    · have k := k.1 c
      refine zx_iinc (L2 := [(0, .ref o0), (1, .int x1), (2, .int (x2 + 1))]) d_Mod_writeMaps_50 rfl (Nat.le_of_ble_eq_true rfl) zc_1 rfl ?_
      refine zx_goto (tgt := 17) d_Mod_writeMaps_53 rfl ?_
      exact k
    · have k := k.2 c
      refine zx_aload_n d_Mod_writeMaps_35 rfl ?_
      refine zx_aload_n d_Mod_writeMaps_36 rfl ?_
      refine zx_bipush d_Mod_writeMaps_37 zb_16 ?_
      refine zx_iload_n d_Mod_writeMaps_39 rfl ?_
      refine zx_imul d_Mod_writeMaps_40 ?_
      refine zx_iconst d_Mod_writeMaps_41 zc_1 ?_
      refine zi_callV (hC := k) k_Mod_149 q1 (by decide) rfl rfl (Nat.le_of_ble_eq_true rfl) (Nat.le_of_ble_eq_true rfl) d_Mod_writeMaps_42 (fun r I2 k => ?_)
      obtain ⟨v3, rfl, k⟩ := k
      refine zx_bipush d_Mod_writeMaps_45 zb_16 ?_
      refine zi_callV (hC := k) k_Mod_152 q1 (by decide) rfl rfl (Nat.le_of_ble_eq_true rfl) (Nat.le_of_ble_eq_true rfl) d_Mod_writeMaps_47 (fun r I4 k => ?_)
      obtain ⟨rfl, k⟩ := k
      refine zx_iinc (L2 := [(0, .ref o0), (1, .int x1), (2, .int (x2 + 1))]) d_Mod_writeMaps_50 rfl (Nat.le_of_ble_eq_true rfl) zc_1 rfl ?_
      refine zx_goto (tgt := 17) d_Mod_writeMaps_53 rfl ?_
      exact k
set_option maxRecDepth 20000 in
theorem r_Mod_beginOrder_0 (l : Launch) (d : Nat) {K : zx_Kt} {RJ : zx_RJ} {Q : zi_Q} {I : zi_I} (o0 : Nat) 
    (k : zi_X l (zx_rm d 0 0) M_Mod_beginOrder K RJ Q 2 [(0, .ref o0), (1, .int 0)] [] I) :
    zi_X l (zx_rm d 0 0) M_Mod_beginOrder K RJ Q 0 [(0, .ref o0)] [] I := by
  refine zx_iconst d_Mod_beginOrder_0 zc_0 ?_
  refine zx_istore_n (L2 := [(0, .ref o0), (1, .int 0)]) d_Mod_beginOrder_1 (Nat.le_of_ble_eq_true rfl) rfl ?_
  exact k
set_option maxRecDepth 20000 in
theorem r_Mod_beginOrder_2 (l : Launch) (d : Nat) {K : zx_Kt} {RJ : zx_RJ} {Q : zi_Q} {I : zi_I} (o0 : Nat) (x1 : Int32) (q1 : (K.2 o0).1 = 6) {r2 : Nat} (e3 : RJ.1 o0 30 = r2) (z4 : r2 ≠ 0) {n6 : Nat} (a5 : K.2 r2 = (0, n6))
    (k : ((4 ≤ x1) → Q none I) ∧ ((¬ 4 ≤ x1) → ∃ j7, x1 = nI j7 ∧ j7 < n6 ∧ zi_X l (zx_rm d 0 0) M_Mod_beginOrder K RJ Q 2 [(0, .ref o0), (1, .int (x1 + 1))] [] (zx_u2 I r2 j7 x1))) :
    zi_X l (zx_rm d 0 0) M_Mod_beginOrder K RJ Q 2 [(0, .ref o0), (1, .int x1)] [] I := by
  refine zx_iload_n d_Mod_beginOrder_2 rfl ?_
  refine zx_iconst d_Mod_beginOrder_3 zc_4 ?_
  refine zx_icmp_ge (tgt := 20) d_Mod_beginOrder_4 rfl (fun c => ?_) (fun c => ?_)
  · have k := k.1 c
    exact zi_vret d_Mod_beginOrder_20 rfl k
  · have k := k.2 c
    refine zx_aload_n d_Mod_beginOrder_7 rfl ?_
    refine zi_getR f_Mod_51 q1 (by decide) e3 z4 d_Mod_beginOrder_8 ?_
    refine zx_iload_n d_Mod_beginOrder_11 rfl ?_
    refine zx_iload_n d_Mod_beginOrder_12 rfl ?_
    obtain ⟨j7, e8, b9, k⟩ := k
    refine zi_iast j7 a5 e8 b9 d_Mod_beginOrder_13 ?_
    refine zx_iinc (L2 := [(0, .ref o0), (1, .int (x1 + 1))]) d_Mod_beginOrder_14 rfl (Nat.le_of_ble_eq_true rfl) zc_1 rfl ?_
    refine zx_goto (tgt := 2) d_Mod_beginOrder_17 rfl ?_
    exact k
set_option maxRecDepth 20000 in
theorem r_Mod_orderFront_0 (l : Launch) (d : Nat) {K : zx_Kt} {RJ : zx_RJ} {Q : zi_Q} {I : zi_I} (o0 : Nat) (x1 : Int32) (q1 : (K.2 o0).1 = 6) {r2 : Nat} (e3 : RJ.1 o0 30 = r2) (z4 : r2 ≠ 0) {n6 : Nat} (a5 : K.2 r2 = (0, n6))
    (k : ∃ j7, x1 = nI j7 ∧ j7 < n6 ∧ zi_X l (zx_rm d 0 0) M_Mod_orderFront K RJ Q 9 [(0, .ref o0), (1, .int x1), (2, .int (I r2 j7)), (3, .int x1)] [] I) :
    zi_X l (zx_rm d 0 0) M_Mod_orderFront K RJ Q 0 [(0, .ref o0), (1, .int x1)] [] I := by
  refine zx_aload_n d_Mod_orderFront_0 rfl ?_
  refine zi_getR f_Mod_51 q1 (by decide) e3 z4 d_Mod_orderFront_1 ?_
  refine zx_iload_n d_Mod_orderFront_4 rfl ?_
  obtain ⟨j7, e8, b9, k⟩ := k
  refine zi_iald j7 a5 e8 b9 d_Mod_orderFront_5 ?_
  refine zx_istore_n (L2 := [(0, .ref o0), (1, .int x1), (2, .int (I r2 j7))]) d_Mod_orderFront_6 (Nat.le_of_ble_eq_true rfl) rfl ?_
  refine zx_iload_n d_Mod_orderFront_7 rfl ?_
  refine zx_istore_n (L2 := [(0, .ref o0), (1, .int x1), (2, .int (I r2 j7)), (3, .int x1)]) d_Mod_orderFront_8 (Nat.le_of_ble_eq_true rfl) rfl ?_
  exact k
set_option maxRecDepth 20000 in
theorem r_Mod_orderFront_9 (l : Launch) (d : Nat) {K : zx_Kt} {RJ : zx_RJ} {Q : zi_Q} {I : zi_I} (o0 : Nat) (x1 : Int32) (x2 : Int32) (x3 : Int32) (q1 : (K.2 o0).1 = 6) {r2 : Nat} (e3 : RJ.1 o0 30 = r2) (z4 : r2 ≠ 0) {n6 : Nat} (a5 : K.2 r2 = (0, n6))
    (k : ((x3 ≤ 0) → 0 < n6 ∧ Q (some (.int x2)) (zx_u2 I r2 0 x2)) ∧ ((¬ x3 ≤ 0) → ∃ j10, x3 - 1 = nI j10 ∧ j10 < n6 ∧ ∃ j13, x3 = nI j13 ∧ j13 < n6 ∧ zi_X l (zx_rm d 0 0) M_Mod_orderFront K RJ Q 9 [(0, .ref o0), (1, .int x1), (2, .int x2), (3, .int (x3 + (-1)))] [] (zx_u2 I r2 j13 (I r2 j10)))) :
    zi_X l (zx_rm d 0 0) M_Mod_orderFront K RJ Q 9 [(0, .ref o0), (1, .int x1), (2, .int x2), (3, .int x3)] [] I := by
  refine zx_iload_n d_Mod_orderFront_9 rfl ?_
  refine zx_if_le (tgt := 33) d_Mod_orderFront_10 rfl (fun c => ?_) (fun c => ?_)
  · have k := k.1 c
    refine zx_aload_n d_Mod_orderFront_33 rfl ?_
    refine zi_getR f_Mod_51 q1 (by decide) e3 z4 d_Mod_orderFront_34 ?_
    refine zx_iconst d_Mod_orderFront_37 zc_0 ?_
    refine zx_iload_n d_Mod_orderFront_38 rfl ?_
    obtain ⟨b9, k⟩ := k
    refine zi_iast 0 a5 rfl b9 d_Mod_orderFront_39 ?_
    refine zx_iload_n d_Mod_orderFront_40 rfl ?_
    exact zi_iret d_Mod_orderFront_41 rfl k
  · have k := k.2 c
    refine zx_aload_n d_Mod_orderFront_13 rfl ?_
    refine zi_getR f_Mod_51 q1 (by decide) e3 z4 d_Mod_orderFront_14 ?_
    refine zx_iload_n d_Mod_orderFront_17 rfl ?_
    refine zx_aload_n d_Mod_orderFront_18 rfl ?_
    refine zi_getR f_Mod_51 q1 (by decide) e3 z4 d_Mod_orderFront_19 ?_
    refine zx_iload_n d_Mod_orderFront_22 rfl ?_
    refine zx_iconst d_Mod_orderFront_23 zc_1 ?_
    refine zx_isub d_Mod_orderFront_24 ?_
    obtain ⟨j10, e11, b12, k⟩ := k
    refine zi_iald j10 a5 e11 b12 d_Mod_orderFront_25 ?_
    obtain ⟨j13, e14, b15, k⟩ := k
    refine zi_iast j13 a5 e14 b15 d_Mod_orderFront_26 ?_
    refine zx_iinc (L2 := [(0, .ref o0), (1, .int x1), (2, .int x2), (3, .int (x3 + (-1)))]) d_Mod_orderFront_27 rfl (Nat.le_of_ble_eq_true rfl) zc_m1 rfl ?_
    refine zx_goto (tgt := 9) d_Mod_orderFront_30 rfl ?_
    exact k
set_option maxRecDepth 20000 in
theorem r_Mod_writePicks_0 (l : Launch) (d : Nat) {K : zx_Kt} {RJ : zx_RJ} {Q : zi_Q} {I : zi_I} (o0 : Nat) (q1 : (K.2 o0).1 = 6)
    (k : zi_C l (zx_rm d 0 0) M_Mod_beginOrder [.ref o0] K RJ I (fun r I2 => r = none ∧ zi_X l (zx_rm (d + 1) 0 0) M_Mod_writePicks K RJ Q 6 [(0, .ref o0), (1, .int 0)] [] I2)) :
    zi_X l (zx_rm (d + 1) 0 0) M_Mod_writePicks K RJ Q 0 [(0, .ref o0)] [] I := by
  refine zx_aload_n d_Mod_writePicks_0 rfl ?_
  refine zi_callV (hC := k) k_Mod_156 q1 (by decide) rfl rfl (Nat.le_of_ble_eq_true rfl) (Nat.le_of_ble_eq_true rfl) d_Mod_writePicks_1 (fun r I2 k => ?_)
  obtain ⟨rfl, k⟩ := k
  refine zx_iconst d_Mod_writePicks_4 zc_0 ?_
  refine zx_istore_n (L2 := [(0, .ref o0), (1, .int 0)]) d_Mod_writePicks_5 (Nat.le_of_ble_eq_true rfl) rfl ?_
  exact k
set_option maxRecDepth 20000 in
theorem r_Mod_writePicks_6 (l : Launch) (d : Nat) {K : zx_Kt} {RJ : zx_RJ} {Q : zi_Q} {I : zi_I} (o0 : Nat) (x1 : Int32) (q1 : (K.2 o0).1 = 6)
    (k : (((I o0 28) ≤ x1) → Q none I) ∧ ((¬ (I o0 28) ≤ x1) → zi_X l (zx_rm (d + 1) 0 0) M_Mod_writePicks K RJ Q 16 [(0, .ref o0), (1, .int x1), (2, .int 0)] [] I)) :
    zi_X l (zx_rm (d + 1) 0 0) M_Mod_writePicks K RJ Q 6 [(0, .ref o0), (1, .int x1)] [] I := by
  refine zx_iload_n d_Mod_writePicks_6 rfl ?_
  refine zx_aload_n d_Mod_writePicks_7 rfl ?_
  refine zi_getI f_Mod_131 q1 (by decide) d_Mod_writePicks_8 ?_
  refine zx_icmp_ge (tgt := 80) d_Mod_writePicks_11 rfl (fun c => ?_) (fun c => ?_)
  · have k := k.1 c
    exact zi_vret d_Mod_writePicks_80 rfl k
  · have k := k.2 c
    refine zx_iconst d_Mod_writePicks_14 zc_0 ?_
    refine zx_istore_n (L2 := [(0, .ref o0), (1, .int x1), (2, .int 0)]) d_Mod_writePicks_15 (Nat.le_of_ble_eq_true rfl) rfl ?_
    exact k
set_option maxRecDepth 20000 in
theorem r_Mod_writePicks_16 (l : Launch) (d : Nat) {K : zx_Kt} {RJ : zx_RJ} {Q : zi_Q} {I : zi_I} (o0 : Nat) (x1 : Int32) (x2 : Int32) (q1 : (K.2 o0).1 = 6) {r2 : Nat} (e3 : RJ.1 o0 30 = r2) (z4 : r2 ≠ 0) {n6 : Nat} (a5 : K.2 r2 = (0, n6)) {r10 : Nat} (e11 : RJ.1 o0 29 = r10) (z12 : r10 ≠ 0) {n14 : Nat} (a13 : K.2 r10 = (0, n14))
    (k : ∃ j7, x2 = nI j7 ∧ j7 < n6 ∧ ∃ j15, x1 = nI j15 ∧ j15 < n14 ∧ (((I r2 j7) = (I r10 j15)) → zi_C l (zx_rm d 0 0) M_Mod_orderFront [.ref o0, .int x2] K RJ I (fun r I18 => ∃ v19, r = some (.int v19) ∧ zi_X l (zx_rm (d + 1) 0 0) M_Mod_writePicks K RJ Q 46 [(0, .ref o0), (1, .int x1), (2, .int x2), (3, .int v19), (4, .int 0)] [] I18)) ∧ ((¬ (I r2 j7) = (I r10 j15)) → zi_X l (zx_rm (d + 1) 0 0) M_Mod_writePicks K RJ Q 16 [(0, .ref o0), (1, .int x1), (2, .int (x2 + 1))] [] I)) :
    zi_X l (zx_rm (d + 1) 0 0) M_Mod_writePicks K RJ Q 16 [(0, .ref o0), (1, .int x1), (2, .int x2)] [] I := by
  refine zx_aload_n d_Mod_writePicks_16 rfl ?_
  refine zi_getR f_Mod_51 q1 (by decide) e3 z4 d_Mod_writePicks_17 ?_
  refine zx_iload_n d_Mod_writePicks_20 rfl ?_
  obtain ⟨j7, e8, b9, k⟩ := k
  refine zi_iald j7 a5 e8 b9 d_Mod_writePicks_21 ?_
  refine zx_aload_n d_Mod_writePicks_22 rfl ?_
  refine zi_getR f_Mod_48 q1 (by decide) e11 z12 d_Mod_writePicks_23 ?_
  refine zx_iload_n d_Mod_writePicks_26 rfl ?_
  obtain ⟨j15, e16, b17, k⟩ := k
  refine zi_iald j15 a13 e16 b17 d_Mod_writePicks_27 ?_
  refine zx_icmp_eq (tgt := 37) d_Mod_writePicks_28 rfl (fun c => ?_) (fun c => ?_)
  · have k := k.1 c
    refine zx_aload_n d_Mod_writePicks_37 rfl ?_
    refine zx_iload_n d_Mod_writePicks_38 rfl ?_
    refine zi_callV (hC := k) k_Mod_159 q1 (by decide) rfl rfl (Nat.le_of_ble_eq_true rfl) (Nat.le_of_ble_eq_true rfl) d_Mod_writePicks_39 (fun r I18 k => ?_)
    obtain ⟨v19, rfl, k⟩ := k
    refine zx_istore_n (L2 := [(0, .ref o0), (1, .int x1), (2, .int x2), (3, .int v19)]) d_Mod_writePicks_42 (Nat.le_of_ble_eq_true rfl) rfl ?_
    refine zx_iconst d_Mod_writePicks_43 zc_0 ?_
    refine zx_istore (L2 := [(0, .ref o0), (1, .int x1), (2, .int x2), (3, .int v19), (4, .int 0)]) d_Mod_writePicks_44 (Nat.le_of_ble_eq_true rfl) rfl ?_
    exact k
  · have k := k.2 c
    refine zx_iinc (L2 := [(0, .ref o0), (1, .int x1), (2, .int (x2 + 1))]) d_Mod_writePicks_31 rfl (Nat.le_of_ble_eq_true rfl) zc_1 rfl ?_
    refine zx_goto (tgt := 16) d_Mod_writePicks_34 rfl ?_
    exact k
set_option maxRecDepth 20000 in
theorem r_Mod_writePicks_46 (l : Launch) (d : Nat) {K : zx_Kt} {RJ : zx_RJ} {Q : zi_Q} {I : zi_I} (o0 : Nat) (x1 : Int32) (x2 : Int32) (x3 : Int32) (x4 : Int32) (q1 : (K.2 o0).1 = 6)
    (k : ((x2 ≤ x4) → zi_C l (zx_rm d 0 0) M_Mod_write [.ref o0, .int 0, .int 1] K RJ I (fun r I2 => r = none ∧ zi_X l (zx_rm (d + 1) 0 0) M_Mod_writePicks K RJ Q 6 [(0, .ref o0), (1, .int (x1 + 1))] [] I2)) ∧ ((¬ x2 ≤ x4) → ((x3 < 0) → zi_C l (zx_rm d 0 0) M_Mod_write [.ref o0, .int 0, .int 1] K RJ I (fun r I3 => r = none ∧ zi_X l (zx_rm (d + 1) 0 0) M_Mod_writePicks K RJ Q 6 [(0, .ref o0), (1, .int (x1 + 1))] [] I3)) ∧ ((¬ x3 < 0) → zi_C l (zx_rm d 0 0) M_Mod_write [.ref o0, .int 1, .int 1] K RJ I (fun r I4 => r = none ∧ zi_X l (zx_rm (d + 1) 0 0) M_Mod_writePicks K RJ Q 46 [(0, .ref o0), (1, .int x1), (2, .int x2), (3, .int x3), (4, .int (x4 + 1))] [] I4)))) :
    zi_X l (zx_rm (d + 1) 0 0) M_Mod_writePicks K RJ Q 46 [(0, .ref o0), (1, .int x1), (2, .int x2), (3, .int x3), (4, .int x4)] [] I := by
  refine zx_iload d_Mod_writePicks_46 rfl ?_
  refine zx_iload_n d_Mod_writePicks_48 rfl ?_
  refine zx_icmp_ge (tgt := 68) d_Mod_writePicks_49 rfl (fun c => ?_) (fun c => ?_)
  · have k := k.1 c
    refine zx_aload_n d_Mod_writePicks_68 rfl ?_
    refine zx_iconst d_Mod_writePicks_69 zc_0 ?_
    refine zx_iconst d_Mod_writePicks_70 zc_1 ?_
    refine zi_callV (hC := k) k_Mod_152 q1 (by decide) rfl rfl (Nat.le_of_ble_eq_true rfl) (Nat.le_of_ble_eq_true rfl) d_Mod_writePicks_71 (fun r I2 k => ?_)
    obtain ⟨rfl, k⟩ := k
    refine zx_iinc (L2 := [(0, .ref o0), (1, .int (x1 + 1)), (2, .int x2), (3, .int x3), (4, .int x4)]) d_Mod_writePicks_74 rfl (Nat.le_of_ble_eq_true rfl) zc_1 rfl ?_
    refine zx_goto (tgt := 6) d_Mod_writePicks_77 rfl ?_
    refine zx_locs [0, 1] rfl ?_
    exact k
  · have k := k.2 c
    refine zx_iload_n d_Mod_writePicks_52 rfl ?_
    refine zx_if_lt (tgt := 68) d_Mod_writePicks_53 rfl (fun c => ?_) (fun c => ?_)
    · have k := k.1 c
      refine zx_aload_n d_Mod_writePicks_68 rfl ?_
      refine zx_iconst d_Mod_writePicks_69 zc_0 ?_
      refine zx_iconst d_Mod_writePicks_70 zc_1 ?_
      refine zi_callV (hC := k) k_Mod_152 q1 (by decide) rfl rfl (Nat.le_of_ble_eq_true rfl) (Nat.le_of_ble_eq_true rfl) d_Mod_writePicks_71 (fun r I3 k => ?_)
      obtain ⟨rfl, k⟩ := k
      refine zx_iinc (L2 := [(0, .ref o0), (1, .int (x1 + 1)), (2, .int x2), (3, .int x3), (4, .int x4)]) d_Mod_writePicks_74 rfl (Nat.le_of_ble_eq_true rfl) zc_1 rfl ?_
      refine zx_goto (tgt := 6) d_Mod_writePicks_77 rfl ?_
      refine zx_locs [0, 1] rfl ?_
      exact k
    · have k := k.2 c
      refine zx_aload_n d_Mod_writePicks_56 rfl ?_
      refine zx_iconst d_Mod_writePicks_57 zc_1 ?_
      refine zx_iconst d_Mod_writePicks_58 zc_1 ?_
      refine zi_callV (hC := k) k_Mod_152 q1 (by decide) rfl rfl (Nat.le_of_ble_eq_true rfl) (Nat.le_of_ble_eq_true rfl) d_Mod_writePicks_59 (fun r I4 k => ?_)
      obtain ⟨rfl, k⟩ := k
      refine zx_iinc (L2 := [(0, .ref o0), (1, .int x1), (2, .int x2), (3, .int x3), (4, .int (x4 + 1))]) d_Mod_writePicks_62 rfl (Nat.le_of_ble_eq_true rfl) zc_1 rfl ?_
      refine zx_goto (tgt := 46) d_Mod_writePicks_65 rfl ?_
      exact k
set_option maxRecDepth 20000 in
theorem r_Mod_writeTable_0 (l : Launch) (d : Nat) {K : zx_Kt} {RJ : zx_RJ} {Q : zi_Q} {I : zi_I} (o0 : Nat) (x1 : Int32) (q1 : (K.2 o0).1 = 6) {r2 : Nat} (e3 : RJ.1 o0 26 = r2) (z4 : r2 ≠ 0) {n6 : Nat} (a5 : K.2 r2 = (0, n6))
    (k : ∃ j7, 260 * x1 = nI j7 ∧ j7 < n6 ∧ zi_C l (zx_rm d 0 0) M_Mod_write [.ref o0, .int (I r2 j7), .int 5] K RJ I (fun r I10 => r = none ∧ zi_X l (zx_rm (d + 1) 0 0) M_Mod_writeTable K RJ Q 19 [(0, .ref o0), (1, .int x1), (2, .int (I r2 j7)), (3, .int 0)] [] I10)) :
    zi_X l (zx_rm (d + 1) 0 0) M_Mod_writeTable K RJ Q 0 [(0, .ref o0), (1, .int x1)] [] I := by
  refine zx_aload_n d_Mod_writeTable_0 rfl ?_
  refine zi_getR f_Mod_42 q1 (by decide) e3 z4 d_Mod_writeTable_1 ?_
  refine zx_sipush d_Mod_writeTable_4 zs_260 ?_
  refine zx_iload_n d_Mod_writeTable_7 rfl ?_
  refine zx_imul d_Mod_writeTable_8 ?_
  obtain ⟨j7, e8, b9, k⟩ := k
  refine zi_iald j7 a5 e8 b9 d_Mod_writeTable_9 ?_
  refine zx_istore_n (L2 := [(0, .ref o0), (1, .int x1), (2, .int (I r2 j7))]) d_Mod_writeTable_10 (Nat.le_of_ble_eq_true rfl) rfl ?_
  refine zx_aload_n d_Mod_writeTable_11 rfl ?_
  refine zx_iload_n d_Mod_writeTable_12 rfl ?_
  refine zx_iconst d_Mod_writeTable_13 zc_5 ?_
  refine zi_callV (hC := k) k_Mod_152 q1 (by decide) rfl rfl (Nat.le_of_ble_eq_true rfl) (Nat.le_of_ble_eq_true rfl) d_Mod_writeTable_14 (fun r I10 k => ?_)
  obtain ⟨rfl, k⟩ := k
  refine zx_iconst d_Mod_writeTable_17 zc_0 ?_
  refine zx_istore_n (L2 := [(0, .ref o0), (1, .int x1), (2, .int (I r2 j7)), (3, .int 0)]) d_Mod_writeTable_18 (Nat.le_of_ble_eq_true rfl) rfl ?_
  exact k
set_option maxRecDepth 20000 in
theorem r_Mod_writeTable_19 (l : Launch) (d : Nat) {K : zx_Kt} {RJ : zx_RJ} {Q : zi_Q} {I : zi_I} (o0 : Nat) (x1 : Int32) (x2 : Int32) (x3 : Int32) (q1 : (K.2 o0).1 = 6)
    (k : ((((I o0 22) + 2) ≤ x3) → Q none I) ∧ ((¬ ((I o0 22) + 2) ≤ x3) → zi_X l (zx_rm (d + 1) 0 0) M_Mod_writeTable K RJ Q 29 [(0, .ref o0), (1, .int x1), (2, .int x2), (3, .int x3)] [] I)) :
    zi_X l (zx_rm (d + 1) 0 0) M_Mod_writeTable K RJ Q 19 [(0, .ref o0), (1, .int x1), (2, .int x2), (3, .int x3)] [] I := by
  refine zx_iload_n d_Mod_writeTable_19 rfl ?_
  refine zx_aload_n d_Mod_writeTable_20 rfl ?_
  refine zi_getI f_Mod_108 q1 (by decide) d_Mod_writeTable_21 ?_
  refine zx_iconst d_Mod_writeTable_24 zc_2 ?_
  refine zx_iadd d_Mod_writeTable_25 ?_
  refine zx_icmp_ge (tgt := 97) d_Mod_writeTable_26 rfl (fun c => ?_) (fun c => ?_)
  · have k := k.1 c
    exact zi_vret d_Mod_writeTable_97 rfl k
  · have k := k.2 c
    exact k
set_option maxRecDepth 20000 in
theorem r_Mod_writeTable_29 (l : Launch) (d : Nat) {K : zx_Kt} {RJ : zx_RJ} {Q : zi_Q} {I : zi_I} (o0 : Nat) (x1 : Int32) (x2 : Int32) (x3 : Int32) (q1 : (K.2 o0).1 = 6) {r2 : Nat} (e3 : RJ.1 o0 26 = r2) (z4 : r2 ≠ 0) {n6 : Nat} (a5 : K.2 r2 = (0, n6))
    (k : ∃ j7, (260 * x1) + x3 = nI j7 ∧ j7 < n6 ∧ (((I r2 j7) ≤ x2) → zi_X l (zx_rm (d + 1) 0 0) M_Mod_writeTable K RJ Q 57 [(0, .ref o0), (1, .int x1), (2, .int x2), (3, .int x3)] [] I) ∧ ((¬ (I r2 j7) ≤ x2) → zi_C l (zx_rm d 0 0) M_Mod_write [.ref o0, .int 2, .int 2] K RJ I (fun r I10 => r = none ∧ zi_X l (zx_rm (d + 1) 0 0) M_Mod_writeTable K RJ Q 29 [(0, .ref o0), (1, .int x1), (2, .int (x2 + 1)), (3, .int x3)] [] I10))) :
    zi_X l (zx_rm (d + 1) 0 0) M_Mod_writeTable K RJ Q 29 [(0, .ref o0), (1, .int x1), (2, .int x2), (3, .int x3)] [] I := by
  refine zx_iload_n d_Mod_writeTable_29 rfl ?_
  refine zx_aload_n d_Mod_writeTable_30 rfl ?_
  refine zi_getR f_Mod_42 q1 (by decide) e3 z4 d_Mod_writeTable_31 ?_
  refine zx_sipush d_Mod_writeTable_34 zs_260 ?_
  refine zx_iload_n d_Mod_writeTable_37 rfl ?_
  refine zx_imul d_Mod_writeTable_38 ?_
  refine zx_iload_n d_Mod_writeTable_39 rfl ?_
  refine zx_iadd d_Mod_writeTable_40 ?_
  obtain ⟨j7, e8, b9, k⟩ := k
  refine zi_iald j7 a5 e8 b9 d_Mod_writeTable_41 ?_
  refine zx_icmp_ge (tgt := 57) d_Mod_writeTable_42 rfl (fun c => ?_) (fun c => ?_)
  · have k := k.1 c
    exact k
  · have k := k.2 c
    refine zx_aload_n d_Mod_writeTable_45 rfl ?_
    refine zx_iconst d_Mod_writeTable_46 zc_2 ?_
    refine zx_iconst d_Mod_writeTable_47 zc_2 ?_
    refine zi_callV (hC := k) k_Mod_152 q1 (by decide) rfl rfl (Nat.le_of_ble_eq_true rfl) (Nat.le_of_ble_eq_true rfl) d_Mod_writeTable_48 (fun r I10 k => ?_)
    obtain ⟨rfl, k⟩ := k
    refine zx_iinc (L2 := [(0, .ref o0), (1, .int x1), (2, .int (x2 + 1)), (3, .int x3)]) d_Mod_writeTable_51 rfl (Nat.le_of_ble_eq_true rfl) zc_1 rfl ?_
    refine zx_goto (tgt := 29) d_Mod_writeTable_54 rfl ?_
    exact k
set_option maxRecDepth 20000 in
theorem r_Mod_writeTable_57 (l : Launch) (d : Nat) {K : zx_Kt} {RJ : zx_RJ} {Q : zi_Q} {I : zi_I} (o0 : Nat) (x1 : Int32) (x2 : Int32) (x3 : Int32) (q1 : (K.2 o0).1 = 6) {r2 : Nat} (e3 : RJ.1 o0 26 = r2) (z4 : r2 ≠ 0) {n6 : Nat} (a5 : K.2 r2 = (0, n6))
    (k : ∃ j7, (260 * x1) + x3 = nI j7 ∧ j7 < n6 ∧ ((x2 ≤ (I r2 j7)) → zi_C l (zx_rm d 0 0) M_Mod_write [.ref o0, .int 0, .int 1] K RJ I (fun r I10 => r = none ∧ zi_X l (zx_rm (d + 1) 0 0) M_Mod_writeTable K RJ Q 19 [(0, .ref o0), (1, .int x1), (2, .int x2), (3, .int (x3 + 1))] [] I10)) ∧ ((¬ x2 ≤ (I r2 j7)) → zi_C l (zx_rm d 0 0) M_Mod_write [.ref o0, .int 3, .int 2] K RJ I (fun r I11 => r = none ∧ zi_X l (zx_rm (d + 1) 0 0) M_Mod_writeTable K RJ Q 57 [(0, .ref o0), (1, .int x1), (2, .int (x2 + (-1))), (3, .int x3)] [] I11))) :
    zi_X l (zx_rm (d + 1) 0 0) M_Mod_writeTable K RJ Q 57 [(0, .ref o0), (1, .int x1), (2, .int x2), (3, .int x3)] [] I := by
  refine zx_iload_n d_Mod_writeTable_57 rfl ?_
  refine zx_aload_n d_Mod_writeTable_58 rfl ?_
  refine zi_getR f_Mod_42 q1 (by decide) e3 z4 d_Mod_writeTable_59 ?_
  refine zx_sipush d_Mod_writeTable_62 zs_260 ?_
  refine zx_iload_n d_Mod_writeTable_65 rfl ?_
  refine zx_imul d_Mod_writeTable_66 ?_
  refine zx_iload_n d_Mod_writeTable_67 rfl ?_
  refine zx_iadd d_Mod_writeTable_68 ?_
  obtain ⟨j7, e8, b9, k⟩ := k
  refine zi_iald j7 a5 e8 b9 d_Mod_writeTable_69 ?_
  refine zx_icmp_le (tgt := 85) d_Mod_writeTable_70 rfl (fun c => ?_) (fun c => ?_)
  · have k := k.1 c
    refine zx_aload_n d_Mod_writeTable_85 rfl ?_
    refine zx_iconst d_Mod_writeTable_86 zc_0 ?_
    refine zx_iconst d_Mod_writeTable_87 zc_1 ?_
    refine zi_callV (hC := k) k_Mod_152 q1 (by decide) rfl rfl (Nat.le_of_ble_eq_true rfl) (Nat.le_of_ble_eq_true rfl) d_Mod_writeTable_88 (fun r I10 k => ?_)
    obtain ⟨rfl, k⟩ := k
    refine zx_iinc (L2 := [(0, .ref o0), (1, .int x1), (2, .int x2), (3, .int (x3 + 1))]) d_Mod_writeTable_91 rfl (Nat.le_of_ble_eq_true rfl) zc_1 rfl ?_
    refine zx_goto (tgt := 19) d_Mod_writeTable_94 rfl ?_
    exact k
  · have k := k.2 c
    refine zx_aload_n d_Mod_writeTable_73 rfl ?_
    refine zx_iconst d_Mod_writeTable_74 zc_3 ?_
    refine zx_iconst d_Mod_writeTable_75 zc_2 ?_
    refine zi_callV (hC := k) k_Mod_152 q1 (by decide) rfl rfl (Nat.le_of_ble_eq_true rfl) (Nat.le_of_ble_eq_true rfl) d_Mod_writeTable_76 (fun r I11 k => ?_)
    obtain ⟨rfl, k⟩ := k
    refine zx_iinc (L2 := [(0, .ref o0), (1, .int x1), (2, .int (x2 + (-1))), (3, .int x3)]) d_Mod_writeTable_79 rfl (Nat.le_of_ble_eq_true rfl) zc_m1 rfl ?_
    refine zx_goto (tgt := 57) d_Mod_writeTable_82 rfl ?_
    exact k
set_option maxRecDepth 20000 in
theorem r_Mod_writeBlock_0 (l : Launch) (d : Nat) {K : zx_Kt} {RJ : zx_RJ} {Q : zi_Q} {I : zi_I} (o0 : Nat) (q1 : (K.2 o0).1 = 6)
    (k : zi_C l (zx_rm d 0 0) M_Mod_write [.ref o0, .int 3227993, .int 24] K RJ I (fun r I2 => r = none ∧ zi_C l (zx_rm d 0 0) M_Mod_write [.ref o0, .int (I2 o0 19), .int 16] K RJ I2 (fun r I3 => r = none ∧ zi_C l (zx_rm d 0 0) M_Mod_write [.ref o0, .int (I3 o0 21), .int 6] K RJ I3 (fun r I4 => r = none ∧ zi_C l (zx_rm d 0 0) M_Mod_writeMaps [.ref o0] K RJ I4 (fun r I5 => r = none ∧ zi_C l (zx_rm d 0 0) M_Mod_write [.ref o0, .int (I5 o0 25), .int 3] K RJ I5 (fun r I6 => r = none ∧ zi_C l (zx_rm d 0 0) M_Mod_write [.ref o0, .int (I6 o0 28), .int 6] K RJ I6 (fun r I7 => r = none ∧ zi_C l (zx_rm d 0 0) M_Mod_writePicks [.ref o0] K RJ I7 (fun r I8 => r = none ∧ zi_X l (zx_rm (d + 1) 0 0) M_Mod_writeBlock K RJ Q 57 [(0, .ref o0), (1, .int 0)] [] I8)))))))) :
    zi_X l (zx_rm (d + 1) 0 0) M_Mod_writeBlock K RJ Q 0 [(0, .ref o0)] [] I := by
  refine zx_aload_n d_Mod_writeBlock_0 rfl ?_
  refine zx_ldc w_Mod_162 d_Mod_writeBlock_1 ?_
  refine zx_bipush d_Mod_writeBlock_3 zb_24 ?_
  refine zi_callV (hC := k) k_Mod_152 q1 (by decide) rfl rfl (Nat.le_of_ble_eq_true rfl) (Nat.le_of_ble_eq_true rfl) d_Mod_writeBlock_5 (fun r I2 k => ?_)
  obtain ⟨rfl, k⟩ := k
  refine zx_aload_n d_Mod_writeBlock_8 rfl ?_
  refine zx_aload_n d_Mod_writeBlock_9 rfl ?_
  refine zi_getI f_Mod_163 q1 (by decide) d_Mod_writeBlock_10 ?_
  refine zx_bipush d_Mod_writeBlock_13 zb_16 ?_
  refine zi_callV (hC := k) k_Mod_152 q1 (by decide) rfl rfl (Nat.le_of_ble_eq_true rfl) (Nat.le_of_ble_eq_true rfl) d_Mod_writeBlock_15 (fun r I3 k => ?_)
  obtain ⟨rfl, k⟩ := k
  refine zx_aload_n d_Mod_writeBlock_18 rfl ?_
  refine zx_aload_n d_Mod_writeBlock_19 rfl ?_
  refine zi_getI f_Mod_105 q1 (by decide) d_Mod_writeBlock_20 ?_
  refine zx_bipush d_Mod_writeBlock_23 zb_6 ?_
  refine zi_callV (hC := k) k_Mod_152 q1 (by decide) rfl rfl (Nat.le_of_ble_eq_true rfl) (Nat.le_of_ble_eq_true rfl) d_Mod_writeBlock_25 (fun r I4 k => ?_)
  obtain ⟨rfl, k⟩ := k
  refine zx_aload_n d_Mod_writeBlock_28 rfl ?_
  refine zi_callV (hC := k) k_Mod_166 q1 (by decide) rfl rfl (Nat.le_of_ble_eq_true rfl) (Nat.le_of_ble_eq_true rfl) d_Mod_writeBlock_29 (fun r I5 k => ?_)
  obtain ⟨rfl, k⟩ := k
  refine zx_aload_n d_Mod_writeBlock_32 rfl ?_
  refine zx_aload_n d_Mod_writeBlock_33 rfl ?_
  refine zi_getI f_Mod_134 q1 (by decide) d_Mod_writeBlock_34 ?_
  refine zx_iconst d_Mod_writeBlock_37 zc_3 ?_
  refine zi_callV (hC := k) k_Mod_152 q1 (by decide) rfl rfl (Nat.le_of_ble_eq_true rfl) (Nat.le_of_ble_eq_true rfl) d_Mod_writeBlock_38 (fun r I6 k => ?_)
  obtain ⟨rfl, k⟩ := k
  refine zx_aload_n d_Mod_writeBlock_41 rfl ?_
  refine zx_aload_n d_Mod_writeBlock_42 rfl ?_
  refine zi_getI f_Mod_131 q1 (by decide) d_Mod_writeBlock_43 ?_
  refine zx_bipush d_Mod_writeBlock_46 zb_6 ?_
  refine zi_callV (hC := k) k_Mod_152 q1 (by decide) rfl rfl (Nat.le_of_ble_eq_true rfl) (Nat.le_of_ble_eq_true rfl) d_Mod_writeBlock_48 (fun r I7 k => ?_)
  obtain ⟨rfl, k⟩ := k
  refine zx_aload_n d_Mod_writeBlock_51 rfl ?_
  refine zi_callV (hC := k) k_Mod_169 q1 (by decide) rfl rfl (Nat.le_of_ble_eq_true rfl) (Nat.le_of_ble_eq_true rfl) d_Mod_writeBlock_52 (fun r I8 k => ?_)
  obtain ⟨rfl, k⟩ := k
  refine zx_iconst d_Mod_writeBlock_55 zc_0 ?_
  refine zx_istore_n (L2 := [(0, .ref o0), (1, .int 0)]) d_Mod_writeBlock_56 (Nat.le_of_ble_eq_true rfl) rfl ?_
  exact k
set_option maxRecDepth 20000 in
theorem r_Mod_writeBlock_57 (l : Launch) (d : Nat) {K : zx_Kt} {RJ : zx_RJ} {Q : zi_Q} {I : zi_I} (o0 : Nat) (x1 : Int32) (q1 : (K.2 o0).1 = 6)
    (k : (((I o0 25) ≤ x1) → zi_X l (zx_rm (d + 1) 0 0) M_Mod_writeBlock K RJ Q 78 [(0, .ref o0), (1, .int 0)] [] I) ∧ ((¬ (I o0 25) ≤ x1) → zi_C l (zx_rm d 0 0) M_Mod_writeTable [.ref o0, .int x1] K RJ I (fun r I2 => r = none ∧ zi_X l (zx_rm (d + 1) 0 0) M_Mod_writeBlock K RJ Q 57 [(0, .ref o0), (1, .int (x1 + 1))] [] I2))) :
    zi_X l (zx_rm (d + 1) 0 0) M_Mod_writeBlock K RJ Q 57 [(0, .ref o0), (1, .int x1)] [] I := by
  refine zx_iload_n d_Mod_writeBlock_57 rfl ?_
  refine zx_aload_n d_Mod_writeBlock_58 rfl ?_
  refine zi_getI f_Mod_134 q1 (by decide) d_Mod_writeBlock_59 ?_
  refine zx_icmp_ge (tgt := 76) d_Mod_writeBlock_62 rfl (fun c => ?_) (fun c => ?_)
  · have k := k.1 c
    refine zx_iconst d_Mod_writeBlock_76 zc_0 ?_
    refine zx_istore_n (L2 := [(0, .ref o0), (1, .int 0)]) d_Mod_writeBlock_77 (Nat.le_of_ble_eq_true rfl) rfl ?_
    exact k
  · have k := k.2 c
    refine zx_aload_n d_Mod_writeBlock_65 rfl ?_
    refine zx_iload_n d_Mod_writeBlock_66 rfl ?_
    refine zi_callV (hC := k) k_Mod_172 q1 (by decide) rfl rfl (Nat.le_of_ble_eq_true rfl) (Nat.le_of_ble_eq_true rfl) d_Mod_writeBlock_67 (fun r I2 k => ?_)
    obtain ⟨rfl, k⟩ := k
    refine zx_iinc (L2 := [(0, .ref o0), (1, .int (x1 + 1))]) d_Mod_writeBlock_70 rfl (Nat.le_of_ble_eq_true rfl) zc_1 rfl ?_
    refine zx_goto (tgt := 57) d_Mod_writeBlock_73 rfl ?_
    exact k
set_option maxRecDepth 20000 in
theorem r_Mod_writeBlock_78 (l : Launch) (d : Nat) {K : zx_Kt} {RJ : zx_RJ} {Q : zi_Q} {I : zi_I} (o0 : Nat) (x1 : Int32) (q1 : (K.2 o0).1 = 6) {r2 : Nat} (e3 : RJ.1 o0 29 = r2) (z4 : r2 ≠ 0) {n6 : Nat} (a5 : K.2 r2 = (0, n6)) {r10 : Nat} (e11 : RJ.1 o0 18 = r10) (z12 : r10 ≠ 0) {n14 : Nat} (a13 : K.2 r10 = (0, n14)) {r18 : Nat} (e19 : RJ.1 o0 27 = r18) (z20 : r18 ≠ 0) {n22 : Nat} (a21 : K.2 r18 = (0, n22)) {r26 : Nat} (e27 : RJ.1 o0 26 = r26) (z28 : r26 ≠ 0) {n30 : Nat} (a29 : K.2 r26 = (0, n30))
    (k : (((I o0 17) ≤ x1) → Q none I) ∧ ((¬ (I o0 17) ≤ x1) → ∃ j7, x1 / 8 = nI j7 ∧ j7 < n6 ∧ ∃ j15, x1 = nI j15 ∧ j15 < n14 ∧ ∃ j23, (260 * (I r2 j7)) + (I r10 j15) = nI j23 ∧ j23 < n22 ∧ ∃ j31, (260 * (I r2 j7)) + (I r10 j15) = nI j31 ∧ j31 < n30 ∧ zi_C l (zx_rm d 0 0) M_Mod_write [.ref o0, .int (I r18 j23), .int (I r26 j31)] K RJ I (fun r I34 => r = none ∧ zi_X l (zx_rm (d + 1) 0 0) M_Mod_writeBlock K RJ Q 78 [(0, .ref o0), (1, .int (x1 + 1))] [] I34))) :
    zi_X l (zx_rm (d + 1) 0 0) M_Mod_writeBlock K RJ Q 78 [(0, .ref o0), (1, .int x1)] [] I := by
  refine zx_iload_n d_Mod_writeBlock_78 rfl ?_
  refine zx_aload_n d_Mod_writeBlock_79 rfl ?_
  refine zi_getI f_Mod_111 q1 (by decide) d_Mod_writeBlock_80 ?_
  refine zx_icmp_ge (tgt := 129) d_Mod_writeBlock_83 rfl (fun c => ?_) (fun c => ?_)
  · have k := k.1 c
    exact zi_vret d_Mod_writeBlock_129 rfl k
  · have k := k.2 c
    refine zx_sipush d_Mod_writeBlock_86 zs_260 ?_
    refine zx_aload_n d_Mod_writeBlock_89 rfl ?_
    refine zi_getR f_Mod_48 q1 (by decide) e3 z4 d_Mod_writeBlock_90 ?_
    refine zx_iload_n d_Mod_writeBlock_93 rfl ?_
    refine zx_bipush d_Mod_writeBlock_94 zb_8 ?_
    refine zx_idiv d_Mod_writeBlock_96 (by decide) ?_
    obtain ⟨j7, e8, b9, k⟩ := k
    refine zi_iald j7 a5 e8 b9 d_Mod_writeBlock_97 ?_
    refine zx_imul d_Mod_writeBlock_98 ?_
    refine zx_aload_n d_Mod_writeBlock_99 rfl ?_
    refine zi_getR f_Mod_32 q1 (by decide) e11 z12 d_Mod_writeBlock_100 ?_
    refine zx_iload_n d_Mod_writeBlock_103 rfl ?_
    obtain ⟨j15, e16, b17, k⟩ := k
    refine zi_iald j15 a13 e16 b17 d_Mod_writeBlock_104 ?_
    refine zx_iadd d_Mod_writeBlock_105 ?_
    refine zx_istore_n (L2 := [(0, .ref o0), (1, .int x1), (2, .int ((260 * (I r2 j7)) + (I r10 j15)))]) d_Mod_writeBlock_106 (Nat.le_of_ble_eq_true rfl) rfl ?_
    refine zx_aload_n d_Mod_writeBlock_107 rfl ?_
    refine zx_aload_n d_Mod_writeBlock_108 rfl ?_
    refine zi_getR f_Mod_45 q1 (by decide) e19 z20 d_Mod_writeBlock_109 ?_
    refine zx_iload_n d_Mod_writeBlock_112 rfl ?_
    obtain ⟨j23, e24, b25, k⟩ := k
    refine zi_iald j23 a21 e24 b25 d_Mod_writeBlock_113 ?_
    refine zx_aload_n d_Mod_writeBlock_114 rfl ?_
    refine zi_getR f_Mod_42 q1 (by decide) e27 z28 d_Mod_writeBlock_115 ?_
    refine zx_iload_n d_Mod_writeBlock_118 rfl ?_
    obtain ⟨j31, e32, b33, k⟩ := k
    refine zi_iald j31 a29 e32 b33 d_Mod_writeBlock_119 ?_
    refine zi_callV (hC := k) k_Mod_152 q1 (by decide) rfl rfl (Nat.le_of_ble_eq_true rfl) (Nat.le_of_ble_eq_true rfl) d_Mod_writeBlock_120 (fun r I34 k => ?_)
    obtain ⟨rfl, k⟩ := k
    refine zx_iinc (L2 := [(0, .ref o0), (1, .int (x1 + 1)), (2, .int ((260 * (I r2 j7)) + (I r10 j15)))]) d_Mod_writeBlock_123 rfl (Nat.le_of_ble_eq_true rfl) zc_1 rfl ?_
    refine zx_goto (tgt := 78) d_Mod_writeBlock_126 rfl ?_
    refine zx_locs [0, 1] rfl ?_
    exact k
set_option maxRecDepth 20000 in
theorem r_Mod_packBlock_0 (l : Launch) (d : Nat) {K : zx_Kt} {RJ : zx_RJ} {Q : zi_Q} {I : zi_I} (o0 : Nat) (x1 : Int32) (x2 : Int32) 
    (k : zi_X l (zx_rm (d + 1) 0 0) M_Mod_packBlock K RJ Q 2 [(0, .ref o0), (1, .int x1), (2, .int x2), (3, .int 0)] [] I) :
    zi_X l (zx_rm (d + 1) 0 0) M_Mod_packBlock K RJ Q 0 [(0, .ref o0), (1, .int x1), (2, .int x2)] [] I := by
  refine zx_iconst d_Mod_packBlock_0 zc_0 ?_
  refine zx_istore_n (L2 := [(0, .ref o0), (1, .int x1), (2, .int x2), (3, .int 0)]) d_Mod_packBlock_1 (Nat.le_of_ble_eq_true rfl) rfl ?_
  exact k
set_option maxRecDepth 20000 in
theorem r_Mod_packBlock_2 (l : Launch) (d : Nat) {K : zx_Kt} {RJ : zx_RJ} {Q : zi_Q} {I : zi_I} (o0 : Nat) (x1 : Int32) (x2 : Int32) (x3 : Int32) (q1 : (K.2 o0).1 = 6)
    (k : (((I o0 1) ≤ (x1 + x3)) → zi_C l (zx_rm d 0 0) M_Mod_shorten [.ref o0, .int x1, .int x3] K RJ I (fun r I2 => ∃ v3, r = some (.int v3) ∧ zi_X l (zx_rm (d + 1) 0 0) M_Mod_packBlock K RJ Q 48 [(0, .ref o0), (1, .int x1), (2, .int x2), (3, .int x3), (4, .int 0)] [] (zx_u2 (zx_u2 I2 o0 14 v3) o0 12 x3))) ∧ ((¬ (I o0 1) ≤ (x1 + x3)) → zi_C l (zx_rm d 0 0) M_Mod_shorten [.ref o0, .int x1, .int (x3 + 1)] K RJ I (fun r I4 => ∃ v5, r = some (.int v5) ∧ ((x2 < v5) → zi_C l (zx_rm d 0 0) M_Mod_shorten [.ref o0, .int x1, .int x3] K RJ I4 (fun r I6 => ∃ v7, r = some (.int v7) ∧ zi_X l (zx_rm (d + 1) 0 0) M_Mod_packBlock K RJ Q 48 [(0, .ref o0), (1, .int x1), (2, .int x2), (3, .int x3), (4, .int 0)] [] (zx_u2 (zx_u2 I6 o0 14 v7) o0 12 x3))) ∧ ((¬ x2 < v5) → zi_X l (zx_rm (d + 1) 0 0) M_Mod_packBlock K RJ Q 2 [(0, .ref o0), (1, .int x1), (2, .int x2), (3, .int (x3 + 1))] [] I4)))) :
    zi_X l (zx_rm (d + 1) 0 0) M_Mod_packBlock K RJ Q 2 [(0, .ref o0), (1, .int x1), (2, .int x2), (3, .int x3)] [] I := by
  refine zx_iload_n d_Mod_packBlock_2 rfl ?_
  refine zx_iload_n d_Mod_packBlock_3 rfl ?_
  refine zx_iadd d_Mod_packBlock_4 ?_
  refine zx_aload_n d_Mod_packBlock_5 rfl ?_
  refine zi_getI f_Mod_78 q1 (by decide) d_Mod_packBlock_6 ?_
  refine zx_icmp_ge (tgt := 30) d_Mod_packBlock_9 rfl (fun c => ?_) (fun c => ?_)
  · have k := k.1 c
    refine zx_aload_n d_Mod_packBlock_30 rfl ?_
    refine zx_aload_n d_Mod_packBlock_31 rfl ?_
    refine zx_iload_n d_Mod_packBlock_32 rfl ?_
    refine zx_iload_n d_Mod_packBlock_33 rfl ?_
    refine zi_callV (hC := k) k_Mod_175 q1 (by decide) rfl rfl (Nat.le_of_ble_eq_true rfl) (Nat.le_of_ble_eq_true rfl) d_Mod_packBlock_34 (fun r I2 k => ?_)
    obtain ⟨v3, rfl, k⟩ := k
    refine zi_putI f_Mod_98 q1 (by decide) d_Mod_packBlock_37 ?_
    refine zx_aload_n d_Mod_packBlock_40 rfl ?_
    refine zx_iload_n d_Mod_packBlock_41 rfl ?_
    refine zi_putI f_Mod_91 q1 (by decide) d_Mod_packBlock_42 ?_
    refine zx_iconst d_Mod_packBlock_45 zc_0 ?_
    refine zx_istore (L2 := [(0, .ref o0), (1, .int x1), (2, .int x2), (3, .int x3), (4, .int 0)]) d_Mod_packBlock_46 (Nat.le_of_ble_eq_true rfl) rfl ?_
    exact k
  · have k := k.2 c
    refine zx_aload_n d_Mod_packBlock_12 rfl ?_
    refine zx_iload_n d_Mod_packBlock_13 rfl ?_
    refine zx_iload_n d_Mod_packBlock_14 rfl ?_
    refine zx_iconst d_Mod_packBlock_15 zc_1 ?_
    refine zx_iadd d_Mod_packBlock_16 ?_
    refine zi_callV (hC := k) k_Mod_175 q1 (by decide) rfl rfl (Nat.le_of_ble_eq_true rfl) (Nat.le_of_ble_eq_true rfl) d_Mod_packBlock_17 (fun r I4 k => ?_)
    obtain ⟨v5, rfl, k⟩ := k
    refine zx_iload_n d_Mod_packBlock_20 rfl ?_
    refine zx_icmp_gt (tgt := 30) d_Mod_packBlock_21 rfl (fun c => ?_) (fun c => ?_)
    · have k := k.1 c
      refine zx_aload_n d_Mod_packBlock_30 rfl ?_
      refine zx_aload_n d_Mod_packBlock_31 rfl ?_
      refine zx_iload_n d_Mod_packBlock_32 rfl ?_
      refine zx_iload_n d_Mod_packBlock_33 rfl ?_
      refine zi_callV (hC := k) k_Mod_175 q1 (by decide) rfl rfl (Nat.le_of_ble_eq_true rfl) (Nat.le_of_ble_eq_true rfl) d_Mod_packBlock_34 (fun r I6 k => ?_)
      obtain ⟨v7, rfl, k⟩ := k
      refine zi_putI f_Mod_98 q1 (by decide) d_Mod_packBlock_37 ?_
      refine zx_aload_n d_Mod_packBlock_40 rfl ?_
      refine zx_iload_n d_Mod_packBlock_41 rfl ?_
      refine zi_putI f_Mod_91 q1 (by decide) d_Mod_packBlock_42 ?_
      refine zx_iconst d_Mod_packBlock_45 zc_0 ?_
      refine zx_istore (L2 := [(0, .ref o0), (1, .int x1), (2, .int x2), (3, .int x3), (4, .int 0)]) d_Mod_packBlock_46 (Nat.le_of_ble_eq_true rfl) rfl ?_
      exact k
    · have k := k.2 c
      refine zx_iinc (L2 := [(0, .ref o0), (1, .int x1), (2, .int x2), (3, .int (x3 + 1))]) d_Mod_packBlock_24 rfl (Nat.le_of_ble_eq_true rfl) zc_1 rfl ?_
      refine zx_goto (tgt := 2) d_Mod_packBlock_27 rfl ?_
      exact k
set_option maxRecDepth 20000 in
theorem r_Mod_packBlock_48 (l : Launch) (d : Nat) {K : zx_Kt} {RJ : zx_RJ} {Q : zi_Q} {I : zi_I} (o0 : Nat) (x1 : Int32) (x2 : Int32) (x3 : Int32) (x4 : Int32) (q1 : (K.2 o0).1 = 6) {r8 : Nat} (e9 : RJ.1 o0 13 = r8) (z10 : r8 ≠ 0) {r11 : Nat} (e12 : RJ.1 o0 2 = r11) (z13 : r11 ≠ 0) {n15 : Nat} (a14 : K.2 r11 = (0, n15)) {n20 : Nat} (a19 : K.2 r8 = (0, n20))
    (k : ((x3 ≤ x4) → zi_C l (zx_rm d 0 0) M_Mod_checkOf [.ref o0] K RJ I (fun r I2 => ∃ v3, r = some (.int v3) ∧ zi_C l (zx_rm d 0 0) M_Mod_sort [.ref o0] K RJ (zx_u2 I2 o0 19 v3) (fun r I4 => r = none ∧ zi_C l (zx_rm d 0 0) M_Mod_makeSymbols [.ref o0] K RJ I4 (fun r I5 => r = none ∧ zi_C l (zx_rm d 0 0) M_Mod_pick [.ref o0] K RJ I5 (fun r I6 => r = none ∧ zi_C l (zx_rm d 0 0) M_Mod_writeBlock [.ref o0] K RJ I6 (fun r I7 => r = none ∧ Q (some (.int x3)) I7)))))) ∧ ((¬ x3 ≤ x4) → ∃ j16, x1 + x4 = nI j16 ∧ j16 < n15 ∧ ∃ j21, x4 = nI j21 ∧ j21 < n20 ∧ zi_X l (zx_rm (d + 1) 0 0) M_Mod_packBlock K RJ Q 48 [(0, .ref o0), (1, .int x1), (2, .int x2), (3, .int x3), (4, .int (x4 + 1))] [] (zx_u2 I r8 j21 (I r11 j16)))) :
    zi_X l (zx_rm (d + 1) 0 0) M_Mod_packBlock K RJ Q 48 [(0, .ref o0), (1, .int x1), (2, .int x2), (3, .int x3), (4, .int x4)] [] I := by
  refine zx_iload d_Mod_packBlock_48 rfl ?_
  refine zx_iload_n d_Mod_packBlock_50 rfl ?_
  refine zx_icmp_ge (tgt := 76) d_Mod_packBlock_51 rfl (fun c => ?_) (fun c => ?_)
  · have k := k.1 c
    refine zx_aload_n d_Mod_packBlock_76 rfl ?_
    refine zx_aload_n d_Mod_packBlock_77 rfl ?_
    refine zi_callV (hC := k) k_Mod_178 q1 (by decide) rfl rfl (Nat.le_of_ble_eq_true rfl) (Nat.le_of_ble_eq_true rfl) d_Mod_packBlock_78 (fun r I2 k => ?_)
    obtain ⟨v3, rfl, k⟩ := k
    refine zi_putI f_Mod_163 q1 (by decide) d_Mod_packBlock_81 ?_
    refine zx_aload_n d_Mod_packBlock_84 rfl ?_
    refine zi_callV (hC := k) k_Mod_182 q1 (by decide) rfl rfl (Nat.le_of_ble_eq_true rfl) (Nat.le_of_ble_eq_true rfl) d_Mod_packBlock_85 (fun r I4 k => ?_)
    obtain ⟨rfl, k⟩ := k
    refine zx_aload_n d_Mod_packBlock_88 rfl ?_
    refine zi_callV (hC := k) k_Mod_185 q1 (by decide) rfl rfl (Nat.le_of_ble_eq_true rfl) (Nat.le_of_ble_eq_true rfl) d_Mod_packBlock_89 (fun r I5 k => ?_)
    obtain ⟨rfl, k⟩ := k
    refine zx_aload_n d_Mod_packBlock_92 rfl ?_
    refine zi_callV (hC := k) k_Mod_188 q1 (by decide) rfl rfl (Nat.le_of_ble_eq_true rfl) (Nat.le_of_ble_eq_true rfl) d_Mod_packBlock_93 (fun r I6 k => ?_)
    obtain ⟨rfl, k⟩ := k
    refine zx_aload_n d_Mod_packBlock_96 rfl ?_
    refine zi_callV (hC := k) k_Mod_191 q1 (by decide) rfl rfl (Nat.le_of_ble_eq_true rfl) (Nat.le_of_ble_eq_true rfl) d_Mod_packBlock_97 (fun r I7 k => ?_)
    obtain ⟨rfl, k⟩ := k
    refine zx_iload_n d_Mod_packBlock_100 rfl ?_
    exact zi_iret d_Mod_packBlock_101 rfl k
  · have k := k.2 c
    refine zx_aload_n d_Mod_packBlock_54 rfl ?_
    refine zi_getR f_Mod_23 q1 (by decide) e9 z10 d_Mod_packBlock_55 ?_
    refine zx_iload d_Mod_packBlock_58 rfl ?_
    refine zx_aload_n d_Mod_packBlock_60 rfl ?_
    refine zi_getR f_Mod_7 q1 (by decide) e12 z13 d_Mod_packBlock_61 ?_
    refine zx_iload_n d_Mod_packBlock_64 rfl ?_
    refine zx_iload d_Mod_packBlock_65 rfl ?_
    refine zx_iadd d_Mod_packBlock_67 ?_
    obtain ⟨j16, e17, b18, k⟩ := k
    refine zi_iald j16 a14 e17 b18 d_Mod_packBlock_68 ?_
    obtain ⟨j21, e22, b23, k⟩ := k
    refine zi_iast j21 a19 e22 b23 d_Mod_packBlock_69 ?_
    refine zx_iinc (L2 := [(0, .ref o0), (1, .int x1), (2, .int x2), (3, .int x3), (4, .int (x4 + 1))]) d_Mod_packBlock_70 rfl (Nat.le_of_ble_eq_true rfl) zc_1 rfl ?_
    refine zx_goto (tgt := 48) d_Mod_packBlock_73 rfl ?_
    exact k
set_option maxRecDepth 20000 in
theorem r_Mod_remember_0 (l : Launch) (d : Nat) {K : zx_Kt} {RJ : zx_RJ} {Q : zi_Q} {I : zi_I} (o0 : Nat) (q1 : (K.2 o0).1 = 6)
    (k : zi_X l (zx_rm d 0 0) M_Mod_remember K RJ Q 58 [(0, .ref o0), (1, .int 0)] [] (zx_u2 (zx_u2 (zx_u2 (zx_u2 (zx_u2 (zx_u2 (zx_u2 I o0 35 (I o0 21)) o0 36 (I o0 14)) o0 37 (I o0 17)) o0 38 (I o0 25)) o0 39 (I o0 28)) o0 40 (I o0 22)) o0 41 (I o0 19))) :
    zi_X l (zx_rm d 0 0) M_Mod_remember K RJ Q 0 [(0, .ref o0)] [] I := by
  refine zx_aload_n d_Mod_remember_0 rfl ?_
  refine zx_aload_n d_Mod_remember_1 rfl ?_
  refine zi_getI f_Mod_105 q1 (by decide) d_Mod_remember_2 ?_
  refine zi_putI f_Mod_194 q1 (by decide) d_Mod_remember_5 ?_
  refine zx_aload_n d_Mod_remember_8 rfl ?_
  refine zx_aload_n d_Mod_remember_9 rfl ?_
  refine zi_getIe f_Mod_98 q1 (by decide) (zx_u2_k (by decide)) d_Mod_remember_10 ?_
  refine zi_putI f_Mod_197 q1 (by decide) d_Mod_remember_13 ?_
  refine zx_aload_n d_Mod_remember_16 rfl ?_
  refine zx_aload_n d_Mod_remember_17 rfl ?_
  refine zi_getIe f_Mod_111 q1 (by decide) ((zx_u2_k (by decide)).trans (zx_u2_k (by decide))) d_Mod_remember_18 ?_
  refine zi_putI f_Mod_200 q1 (by decide) d_Mod_remember_21 ?_
  refine zx_aload_n d_Mod_remember_24 rfl ?_
  refine zx_aload_n d_Mod_remember_25 rfl ?_
  refine zi_getIe f_Mod_134 q1 (by decide) ((zx_u2_k (by decide)).trans ((zx_u2_k (by decide)).trans (zx_u2_k (by decide)))) d_Mod_remember_26 ?_
  refine zi_putI f_Mod_203 q1 (by decide) d_Mod_remember_29 ?_
  refine zx_aload_n d_Mod_remember_32 rfl ?_
  refine zx_aload_n d_Mod_remember_33 rfl ?_
  refine zi_getIe f_Mod_131 q1 (by decide) ((zx_u2_k (by decide)).trans ((zx_u2_k (by decide)).trans ((zx_u2_k (by decide)).trans (zx_u2_k (by decide))))) d_Mod_remember_34 ?_
  refine zi_putI f_Mod_206 q1 (by decide) d_Mod_remember_37 ?_
  refine zx_aload_n d_Mod_remember_40 rfl ?_
  refine zx_aload_n d_Mod_remember_41 rfl ?_
  refine zi_getIe f_Mod_108 q1 (by decide) ((zx_u2_k (by decide)).trans ((zx_u2_k (by decide)).trans ((zx_u2_k (by decide)).trans ((zx_u2_k (by decide)).trans (zx_u2_k (by decide)))))) d_Mod_remember_42 ?_
  refine zi_putI f_Mod_209 q1 (by decide) d_Mod_remember_45 ?_
  refine zx_aload_n d_Mod_remember_48 rfl ?_
  refine zx_aload_n d_Mod_remember_49 rfl ?_
  refine zi_getIe f_Mod_163 q1 (by decide) ((zx_u2_k (by decide)).trans ((zx_u2_k (by decide)).trans ((zx_u2_k (by decide)).trans ((zx_u2_k (by decide)).trans ((zx_u2_k (by decide)).trans (zx_u2_k (by decide))))))) d_Mod_remember_50 ?_
  refine zi_putI f_Mod_212 q1 (by decide) d_Mod_remember_53 ?_
  refine zx_iconst d_Mod_remember_56 zc_0 ?_
  refine zx_istore_n (L2 := [(0, .ref o0), (1, .int 0)]) d_Mod_remember_57 (Nat.le_of_ble_eq_true rfl) rfl ?_
  exact k
set_option maxRecDepth 20000 in
theorem r_Mod_remember_58 (l : Launch) (d : Nat) {K : zx_Kt} {RJ : zx_RJ} {Q : zi_Q} {I : zi_I} (o0 : Nat) (x1 : Int32) (q1 : (K.2 o0).1 = 6) {r2 : Nat} (e3 : RJ.1 o0 42 = r2) (z4 : r2 ≠ 0) {r5 : Nat} (e6 : RJ.1 o0 16 = r5) (z7 : r5 ≠ 0) {n9 : Nat} (a8 : K.2 r5 = (0, n9)) {n14 : Nat} (a13 : K.2 r2 = (0, n14)) {r18 : Nat} (e19 : RJ.1 o0 43 = r18) (z20 : r18 ≠ 0) {r21 : Nat} (e22 : RJ.1 o0 18 = r21) (z23 : r21 ≠ 0) {n25 : Nat} (a24 : K.2 r21 = (0, n25)) {n30 : Nat} (a29 : K.2 r18 = (0, n30))
    (k : ((80 ≤ x1) → zi_X l (zx_rm d 0 0) M_Mod_remember K RJ Q 96 [(0, .ref o0), (1, .int 0)] [] I) ∧ ((¬ 80 ≤ x1) → ∃ j10, x1 = nI j10 ∧ j10 < n9 ∧ ∃ j15, x1 = nI j15 ∧ j15 < n14 ∧ ∃ j26, x1 = nI j26 ∧ j26 < n25 ∧ ∃ j31, x1 = nI j31 ∧ j31 < n30 ∧ zi_X l (zx_rm d 0 0) M_Mod_remember K RJ Q 58 [(0, .ref o0), (1, .int (x1 + 1))] [] (zx_u2 (zx_u2 I r2 j15 (I r5 j10)) r18 j31 ((zx_u2 I r2 j15 (I r5 j10)) r21 j26)))) :
    zi_X l (zx_rm d 0 0) M_Mod_remember K RJ Q 58 [(0, .ref o0), (1, .int x1)] [] I := by
  refine zx_iload_n d_Mod_remember_58 rfl ?_
  refine zx_bipush d_Mod_remember_59 zb_80 ?_
  refine zx_icmp_ge (tgt := 94) d_Mod_remember_61 rfl (fun c => ?_) (fun c => ?_)
  · have k := k.1 c
    refine zx_iconst d_Mod_remember_94 zc_0 ?_
    refine zx_istore_n (L2 := [(0, .ref o0), (1, .int 0)]) d_Mod_remember_95 (Nat.le_of_ble_eq_true rfl) rfl ?_
    exact k
  · have k := k.2 c
    refine zx_aload_n d_Mod_remember_64 rfl ?_
    refine zi_getR f_Mod_63 q1 (by decide) e3 z4 d_Mod_remember_65 ?_
    refine zx_iload_n d_Mod_remember_68 rfl ?_
    refine zx_aload_n d_Mod_remember_69 rfl ?_
    refine zi_getR f_Mod_29 q1 (by decide) e6 z7 d_Mod_remember_70 ?_
    refine zx_iload_n d_Mod_remember_73 rfl ?_
    obtain ⟨j10, e11, b12, k⟩ := k
    refine zi_iald j10 a8 e11 b12 d_Mod_remember_74 ?_
    obtain ⟨j15, e16, b17, k⟩ := k
    refine zi_iast j15 a13 e16 b17 d_Mod_remember_75 ?_
    refine zx_aload_n d_Mod_remember_76 rfl ?_
    refine zi_getR f_Mod_66 q1 (by decide) e19 z20 d_Mod_remember_77 ?_
    refine zx_iload_n d_Mod_remember_80 rfl ?_
    refine zx_aload_n d_Mod_remember_81 rfl ?_
    refine zi_getR f_Mod_32 q1 (by decide) e22 z23 d_Mod_remember_82 ?_
    refine zx_iload_n d_Mod_remember_85 rfl ?_
    obtain ⟨j26, e27, b28, k⟩ := k
    refine zi_iald j26 a24 e27 b28 d_Mod_remember_86 ?_
    obtain ⟨j31, e32, b33, k⟩ := k
    refine zi_iast j31 a29 e32 b33 d_Mod_remember_87 ?_
    refine zx_iinc (L2 := [(0, .ref o0), (1, .int (x1 + 1))]) d_Mod_remember_88 rfl (Nat.le_of_ble_eq_true rfl) zc_1 rfl ?_
    refine zx_goto (tgt := 58) d_Mod_remember_91 rfl ?_
    exact k
set_option maxRecDepth 20000 in
theorem r_Mod_remember_96 (l : Launch) (d : Nat) {K : zx_Kt} {RJ : zx_RJ} {Q : zi_Q} {I : zi_I} (o0 : Nat) (x1 : Int32) (q1 : (K.2 o0).1 = 6) {r2 : Nat} (e3 : RJ.1 o0 44 = r2) (z4 : r2 ≠ 0) {r5 : Nat} (e6 : RJ.1 o0 26 = r5) (z7 : r5 ≠ 0) {n9 : Nat} (a8 : K.2 r5 = (0, n9)) {n14 : Nat} (a13 : K.2 r2 = (0, n14))
    (k : ((1040 ≤ x1) → zi_X l (zx_rm d 0 0) M_Mod_remember K RJ Q 123 [(0, .ref o0), (1, .int 0)] [] I) ∧ ((¬ 1040 ≤ x1) → ∃ j10, x1 = nI j10 ∧ j10 < n9 ∧ ∃ j15, x1 = nI j15 ∧ j15 < n14 ∧ zi_X l (zx_rm d 0 0) M_Mod_remember K RJ Q 96 [(0, .ref o0), (1, .int (x1 + 1))] [] (zx_u2 I r2 j15 (I r5 j10)))) :
    zi_X l (zx_rm d 0 0) M_Mod_remember K RJ Q 96 [(0, .ref o0), (1, .int x1)] [] I := by
  refine zx_iload_n d_Mod_remember_96 rfl ?_
  refine zx_sipush d_Mod_remember_97 zs_1040 ?_
  refine zx_icmp_ge (tgt := 121) d_Mod_remember_100 rfl (fun c => ?_) (fun c => ?_)
  · have k := k.1 c
    refine zx_iconst d_Mod_remember_121 zc_0 ?_
    refine zx_istore_n (L2 := [(0, .ref o0), (1, .int 0)]) d_Mod_remember_122 (Nat.le_of_ble_eq_true rfl) rfl ?_
    exact k
  · have k := k.2 c
    refine zx_aload_n d_Mod_remember_103 rfl ?_
    refine zi_getR f_Mod_69 q1 (by decide) e3 z4 d_Mod_remember_104 ?_
    refine zx_iload_n d_Mod_remember_107 rfl ?_
    refine zx_aload_n d_Mod_remember_108 rfl ?_
    refine zi_getR f_Mod_42 q1 (by decide) e6 z7 d_Mod_remember_109 ?_
    refine zx_iload_n d_Mod_remember_112 rfl ?_
    obtain ⟨j10, e11, b12, k⟩ := k
    refine zi_iald j10 a8 e11 b12 d_Mod_remember_113 ?_
    obtain ⟨j15, e16, b17, k⟩ := k
    refine zi_iast j15 a13 e16 b17 d_Mod_remember_114 ?_
    refine zx_iinc (L2 := [(0, .ref o0), (1, .int (x1 + 1))]) d_Mod_remember_115 rfl (Nat.le_of_ble_eq_true rfl) zc_1 rfl ?_
    refine zx_goto (tgt := 96) d_Mod_remember_118 rfl ?_
    exact k
set_option maxRecDepth 20000 in
theorem r_Mod_remember_123 (l : Launch) (d : Nat) {K : zx_Kt} {RJ : zx_RJ} {Q : zi_Q} {I : zi_I} (o0 : Nat) (x1 : Int32) (q1 : (K.2 o0).1 = 6) {r2 : Nat} (e3 : RJ.1 o0 45 = r2) (z4 : r2 ≠ 0) {r5 : Nat} (e6 : RJ.1 o0 29 = r5) (z7 : r5 ≠ 0) {n9 : Nat} (a8 : K.2 r5 = (0, n9)) {n14 : Nat} (a13 : K.2 r2 = (0, n14))
    (k : ((64 ≤ x1) → Q none I) ∧ ((¬ 64 ≤ x1) → ∃ j10, x1 = nI j10 ∧ j10 < n9 ∧ ∃ j15, x1 = nI j15 ∧ j15 < n14 ∧ zi_X l (zx_rm d 0 0) M_Mod_remember K RJ Q 123 [(0, .ref o0), (1, .int (x1 + 1))] [] (zx_u2 I r2 j15 (I r5 j10)))) :
    zi_X l (zx_rm d 0 0) M_Mod_remember K RJ Q 123 [(0, .ref o0), (1, .int x1)] [] I := by
  refine zx_iload_n d_Mod_remember_123 rfl ?_
  refine zx_bipush d_Mod_remember_124 zb_64 ?_
  refine zx_icmp_ge (tgt := 147) d_Mod_remember_126 rfl (fun c => ?_) (fun c => ?_)
  · have k := k.1 c
    exact zi_vret d_Mod_remember_147 rfl k
  · have k := k.2 c
    refine zx_aload_n d_Mod_remember_129 rfl ?_
    refine zi_getR f_Mod_72 q1 (by decide) e3 z4 d_Mod_remember_130 ?_
    refine zx_iload_n d_Mod_remember_133 rfl ?_
    refine zx_aload_n d_Mod_remember_134 rfl ?_
    refine zi_getR f_Mod_48 q1 (by decide) e6 z7 d_Mod_remember_135 ?_
    refine zx_iload_n d_Mod_remember_138 rfl ?_
    obtain ⟨j10, e11, b12, k⟩ := k
    refine zi_iald j10 a8 e11 b12 d_Mod_remember_139 ?_
    obtain ⟨j15, e16, b17, k⟩ := k
    refine zi_iast j15 a13 e16 b17 d_Mod_remember_140 ?_
    refine zx_iinc (L2 := [(0, .ref o0), (1, .int (x1 + 1))]) d_Mod_remember_141 rfl (Nat.le_of_ble_eq_true rfl) zc_1 rfl ?_
    refine zx_goto (tgt := 123) d_Mod_remember_144 rfl ?_
    exact k
set_option maxRecDepth 20000 in
theorem r_Mod_pack_0 (l : Launch) (d : Nat) {K : zx_Kt} {RJ : zx_RJ} {Q : zi_Q} {I : zi_I} (o0 : Nat) (x1 : Int32) 
    (k : ((x1 < 1) → zi_X l (zx_rm (d + 1) 0 0) M_Mod_pack K RJ Q 12 [(0, .ref o0), (1, .int x1)] [.ref o0] I) ∧ ((¬ x1 < 1) → ((x1 ≤ 8) → zi_X l (zx_rm (d + 1) 0 0) M_Mod_pack K RJ Q 17 [(0, .ref o0), (1, .int x1)] [.int 0, .ref o0] I) ∧ ((¬ x1 ≤ 8) → zi_X l (zx_rm (d + 1) 0 0) M_Mod_pack K RJ Q 12 [(0, .ref o0), (1, .int x1)] [.ref o0] I))) :
    zi_X l (zx_rm (d + 1) 0 0) M_Mod_pack K RJ Q 0 [(0, .ref o0), (1, .int x1)] [] I := by
  refine zx_aload_n d_Mod_pack_0 rfl ?_
  refine zx_iload_n d_Mod_pack_1 rfl ?_
  refine zx_iconst d_Mod_pack_2 zc_1 ?_
  refine zx_icmp_lt (tgt := 12) d_Mod_pack_3 rfl (fun c => ?_) (fun c => ?_)
  · have k := k.1 c
    exact k
  · have k := k.2 c
    refine zx_iload_n d_Mod_pack_6 rfl ?_
    refine zx_bipush d_Mod_pack_7 zb_8 ?_
    refine zx_icmp_le (tgt := 16) d_Mod_pack_9 rfl (fun c => ?_) (fun c => ?_)
    · have k := k.1 c
      refine zx_iconst d_Mod_pack_16 zc_0 ?_
      exact k
    · have k := k.2 c
      exact k
set_option maxRecDepth 20000 in
theorem r_Mod_pack_12 (l : Launch) (d : Nat) {K : zx_Kt} {RJ : zx_RJ} {Q : zi_Q} {I : zi_I} (o0 : Nat) (x1 : Int32) (p0 : Nat) 
    (k : zi_X l (zx_rm (d + 1) 0 0) M_Mod_pack K RJ Q 17 [(0, .ref o0), (1, .int x1)] [.int 1, .ref p0] I) :
    zi_X l (zx_rm (d + 1) 0 0) M_Mod_pack K RJ Q 12 [(0, .ref o0), (1, .int x1)] [.ref p0] I := by
  refine zx_iconst d_Mod_pack_12 zc_1 ?_
  refine zx_goto (tgt := 17) d_Mod_pack_13 rfl ?_
  exact k
set_option maxRecDepth 20000 in
theorem r_Mod_pack_17 (l : Launch) (d : Nat) {K : zx_Kt} {RJ : zx_RJ} {Q : zi_Q} {I : zi_I} (o0 : Nat) (x1 : Int32) (y0 : Int32) (p1 : Nat) (q1 : (K.2 p1).1 = 6) (q2 : (K.2 o0).1 = 6)
    (k : ((((zx_u2 I p1 0 y0) o0 0) = 0) → zi_C l (zx_rm d 0 0) M_Mod_write [.ref o0, .int 83, .int 8] K RJ (zx_u2 (zx_u2 (zx_u2 I p1 0 y0) o0 5 0) o0 11 0) (fun r I3 => r = none ∧ zi_C l (zx_rm d 0 0) M_Mod_write [.ref o0, .int 66, .int 8] K RJ I3 (fun r I4 => r = none ∧ zi_C l (zx_rm d 0 0) M_Mod_write [.ref o0, .int x1, .int 8] K RJ I4 (fun r I5 => r = none ∧ zi_X l (zx_rm (d + 1) 0 0) M_Mod_pack K RJ Q 71 [(0, .ref o0), (1, .int x1), (2, .int 0), (3, .int 0)] [] (zx_u2 I5 o0 34 0))))) ∧ ((¬ ((zx_u2 I p1 0 y0) o0 0) = 0) → Q (some (.int 0)) (zx_u2 I p1 0 y0))) :
    zi_X l (zx_rm (d + 1) 0 0) M_Mod_pack K RJ Q 17 [(0, .ref o0), (1, .int x1)] [.int y0, .ref p1] I := by
  refine zi_putI f_Mod_75 q1 (by decide) d_Mod_pack_17 ?_
  refine zx_aload_n d_Mod_pack_20 rfl ?_
  refine zi_getI f_Mod_75 q2 (by decide) d_Mod_pack_21 ?_
  refine zx_if_eq (tgt := 29) d_Mod_pack_24 rfl (fun c => ?_) (fun c => ?_)
  · have k := k.1 c
    refine zx_aload_n d_Mod_pack_29 rfl ?_
    refine zx_iconst d_Mod_pack_30 zc_0 ?_
    refine zi_putI f_Mod_86 q2 (by decide) d_Mod_pack_31 ?_
    refine zx_aload_n d_Mod_pack_34 rfl ?_
    refine zx_iconst d_Mod_pack_35 zc_0 ?_
    refine zi_putI f_Mod_146 q2 (by decide) d_Mod_pack_36 ?_
    refine zx_aload_n d_Mod_pack_39 rfl ?_
    refine zx_bipush d_Mod_pack_40 zb_83 ?_
    refine zx_bipush d_Mod_pack_42 zb_8 ?_
    refine zi_callV (hC := k) k_Mod_152 q2 (by decide) rfl rfl (Nat.le_of_ble_eq_true rfl) (Nat.le_of_ble_eq_true rfl) d_Mod_pack_44 (fun r I3 k => ?_)
    obtain ⟨rfl, k⟩ := k
    refine zx_aload_n d_Mod_pack_47 rfl ?_
    refine zx_bipush d_Mod_pack_48 zb_66 ?_
    refine zx_bipush d_Mod_pack_50 zb_8 ?_
    refine zi_callV (hC := k) k_Mod_152 q2 (by decide) rfl rfl (Nat.le_of_ble_eq_true rfl) (Nat.le_of_ble_eq_true rfl) d_Mod_pack_52 (fun r I4 k => ?_)
    obtain ⟨rfl, k⟩ := k
    refine zx_aload_n d_Mod_pack_55 rfl ?_
    refine zx_iload_n d_Mod_pack_56 rfl ?_
    refine zx_bipush d_Mod_pack_57 zb_8 ?_
    refine zi_callV (hC := k) k_Mod_152 q2 (by decide) rfl rfl (Nat.le_of_ble_eq_true rfl) (Nat.le_of_ble_eq_true rfl) d_Mod_pack_59 (fun r I5 k => ?_)
    obtain ⟨rfl, k⟩ := k
    refine zx_iconst d_Mod_pack_62 zc_0 ?_
    refine zx_istore_n (L2 := [(0, .ref o0), (1, .int x1), (2, .int 0)]) d_Mod_pack_63 (Nat.le_of_ble_eq_true rfl) rfl ?_
    refine zx_iconst d_Mod_pack_64 zc_0 ?_
    refine zx_istore_n (L2 := [(0, .ref o0), (1, .int x1), (2, .int 0), (3, .int 0)]) d_Mod_pack_65 (Nat.le_of_ble_eq_true rfl) rfl ?_
    refine zx_aload_n d_Mod_pack_66 rfl ?_
    refine zx_iconst d_Mod_pack_67 zc_0 ?_
    refine zi_putI f_Mod_215 q2 (by decide) d_Mod_pack_68 ?_
    exact k
  · have k := k.2 c
    refine zx_iconst d_Mod_pack_27 zc_0 ?_
    exact zi_iret d_Mod_pack_28 rfl k
set_option maxRecDepth 20000 in
theorem r_Mod_pack_71 (l : Launch) (d : Nat) {K : zx_Kt} {RJ : zx_RJ} {Q : zi_Q} {I : zi_I} (o0 : Nat) (x1 : Int32) (x2 : Int32) (x3 : Int32) (q1 : (K.2 o0).1 = 6)
    (k : (((I o0 1) ≤ x3) → zi_C l (zx_rm d 0 0) M_Mod_write [.ref o0, .int 1536581, .int 24] K RJ I (fun r I2 => r = none ∧ zi_C l (zx_rm d 0 0) M_Mod_write [.ref o0, .int x2, .int 16] K RJ I2 (fun r I3 => r = none ∧ zi_C l (zx_rm d 0 0) M_Mod_takeOver [.ref o0] K RJ I3 (fun r I4 => r = none ∧ Q (some (.int (I4 o0 3))) I4)))) ∧ ((¬ (I o0 1) ≤ x3) → zi_C l (zx_rm d 0 0) M_Mod_packBlock [.ref o0, .int x3, .int (8 * x1)] K RJ I (fun r I5 => ∃ v6, r = some (.int v6) ∧ zi_C l (zx_rm d 0 0) M_Mod_addTotal [.int x2, .int (I5 o0 19)] K RJ I5 (fun r I7 => ∃ v8, r = some (.int v8) ∧ zi_C l (zx_rm d 0 0) M_Mod_remember [.ref o0] K RJ I7 (fun r I9 => r = none ∧ zi_X l (zx_rm (d + 1) 0 0) M_Mod_pack K RJ Q 71 [(0, .ref o0), (1, .int x1), (2, .int v8), (3, .int (x3 + v6))] [] (zx_u2 I9 o0 34 ((I9 o0 34) + 1))))))) :
    zi_X l (zx_rm (d + 1) 0 0) M_Mod_pack K RJ Q 71 [(0, .ref o0), (1, .int x1), (2, .int x2), (3, .int x3)] [] I := by
  refine zx_iload_n d_Mod_pack_71 rfl ?_
  refine zx_aload_n d_Mod_pack_72 rfl ?_
  refine zi_getI f_Mod_78 q1 (by decide) d_Mod_pack_73 ?_
  refine zx_icmp_ge (tgt := 117) d_Mod_pack_76 rfl (fun c => ?_) (fun c => ?_)
  · have k := k.1 c
    refine zx_aload_n d_Mod_pack_117 rfl ?_
    refine zx_ldc w_Mod_227 d_Mod_pack_118 ?_
    refine zx_bipush d_Mod_pack_120 zb_24 ?_
    refine zi_callV (hC := k) k_Mod_152 q1 (by decide) rfl rfl (Nat.le_of_ble_eq_true rfl) (Nat.le_of_ble_eq_true rfl) d_Mod_pack_122 (fun r I2 k => ?_)
    obtain ⟨rfl, k⟩ := k
    refine zx_aload_n d_Mod_pack_125 rfl ?_
    refine zx_iload_n d_Mod_pack_126 rfl ?_
    refine zx_bipush d_Mod_pack_127 zb_16 ?_
    refine zi_callV (hC := k) k_Mod_152 q1 (by decide) rfl rfl (Nat.le_of_ble_eq_true rfl) (Nat.le_of_ble_eq_true rfl) d_Mod_pack_129 (fun r I3 k => ?_)
    obtain ⟨rfl, k⟩ := k
    refine zx_aload_n d_Mod_pack_132 rfl ?_
    refine zi_callV (hC := k) k_Mod_228 q1 (by decide) rfl rfl (Nat.le_of_ble_eq_true rfl) (Nat.le_of_ble_eq_true rfl) d_Mod_pack_133 (fun r I4 k => ?_)
    obtain ⟨rfl, k⟩ := k
    refine zx_aload_n d_Mod_pack_136 rfl ?_
    refine zi_getI f_Mod_83 q1 (by decide) d_Mod_pack_137 ?_
    exact zi_iret d_Mod_pack_140 rfl k
  · have k := k.2 c
    refine zx_iload_n d_Mod_pack_79 rfl ?_
    refine zx_aload_n d_Mod_pack_80 rfl ?_
    refine zx_iload_n d_Mod_pack_81 rfl ?_
    refine zx_bipush d_Mod_pack_82 zb_8 ?_
    refine zx_iload_n d_Mod_pack_84 rfl ?_
    refine zx_imul d_Mod_pack_85 ?_
    refine zi_callV (hC := k) k_Mod_218 q1 (by decide) rfl rfl (Nat.le_of_ble_eq_true rfl) (Nat.le_of_ble_eq_true rfl) d_Mod_pack_86 (fun r I5 k => ?_)
    obtain ⟨v6, rfl, k⟩ := k
    refine zx_iadd d_Mod_pack_89 ?_
    refine zx_istore_n (L2 := [(0, .ref o0), (1, .int x1), (2, .int x2), (3, .int (x3 + v6))]) d_Mod_pack_90 (Nat.le_of_ble_eq_true rfl) rfl ?_
    refine zx_iload_n d_Mod_pack_91 rfl ?_
    refine zx_aload_n d_Mod_pack_92 rfl ?_
    refine zi_getI f_Mod_163 q1 (by decide) d_Mod_pack_93 ?_
    refine zi_callS (hC := k) k_Mod_221 rfl rfl (Nat.le_of_ble_eq_true rfl) (Nat.le_of_ble_eq_true rfl) d_Mod_pack_96 (fun r I7 k => ?_)
    obtain ⟨v8, rfl, k⟩ := k
    refine zx_istore_n (L2 := [(0, .ref o0), (1, .int x1), (2, .int v8), (3, .int (x3 + v6))]) d_Mod_pack_99 (Nat.le_of_ble_eq_true rfl) rfl ?_
    refine zx_aload_n d_Mod_pack_100 rfl ?_
    refine zi_callV (hC := k) k_Mod_224 q1 (by decide) rfl rfl (Nat.le_of_ble_eq_true rfl) (Nat.le_of_ble_eq_true rfl) d_Mod_pack_101 (fun r I9 k => ?_)
    obtain ⟨rfl, k⟩ := k
    refine zx_aload_n d_Mod_pack_104 rfl ?_
    refine zx_dup_a d_Mod_pack_105 ?_
    refine zi_getI f_Mod_215 q1 (by decide) d_Mod_pack_106 ?_
    refine zx_iconst d_Mod_pack_109 zc_1 ?_
    refine zx_iadd d_Mod_pack_110 ?_
    refine zi_putI f_Mod_215 q1 (by decide) d_Mod_pack_111 ?_
    refine zx_goto (tgt := 71) d_Mod_pack_114 rfl ?_
    exact k
