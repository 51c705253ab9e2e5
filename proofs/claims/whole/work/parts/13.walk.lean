/-! Regions of methods between loop heads: written by wip/whole/gen. -/
set_option maxRecDepth 20000 in
theorem r_Main_at_0 (l : Launch) (d : Nat) {K : zx_Kt} {RJ : zx_RJ} {Q : zi_Q} {I : zi_I} (o0 : Nat) (q1 : (K.2 o0).1 = 5)
    (k : Q (some (.int (I o0 11))) I) :
    zi_X l (zx_rm d 0 0) M_Main_at K RJ Q 0 [(0, .ref o0)] [] I := by
  refine zx_aload_n d_Main_at_0 rfl ?_
  refine zi_getI f_Main_73 q1 (by decide) d_Main_at_1 ?_
  exact zi_iret d_Main_at_4 rfl k
set_option maxRecDepth 20000 in
theorem r_Main_rescue_0 (l : Launch) (d : Nat) {K : zx_Kt} {RJ : zx_RJ} {Q : zi_Q} {I : zi_I} (o0 : Nat) (q1 : (K.2 o0).1 = 5) {r2 : Nat} (e3 : RJ.1 o0 2 = r2) (z4 : r2 ≠ 0) (q5 : (K.2 r2).1 = 16)
    (k : zi_C l (zx_rm d 0 0) M_Row_cut [.ref r2, .int 0] K RJ I (fun r I6 => r = none ∧ zi_X l (zx_rm (d + 1) 0 0) M_Main_rescue K RJ Q 17 [(0, .ref o0), (1, .int 0), (2, .int 0)] [] (zx_u2 I6 o0 9 0))) :
    zi_X l (zx_rm (d + 1) 0 0) M_Main_rescue K RJ Q 0 [(0, .ref o0)] [] I := by
  refine zx_aload_n d_Main_rescue_0 rfl ?_
  refine zi_getR f_Main_21 q1 (by decide) e3 z4 d_Main_rescue_1 ?_
  refine zx_iconst d_Main_rescue_4 zc_0 ?_
  refine zi_callV (hC := k) k_Main_100 q5 (by decide) rfl rfl (Nat.le_of_ble_eq_true rfl) (Nat.le_of_ble_eq_true rfl) d_Main_rescue_5 (fun r I6 k => ?_)
  obtain ⟨rfl, k⟩ := k
  refine zx_aload_n d_Main_rescue_8 rfl ?_
  refine zx_iconst d_Main_rescue_9 zc_0 ?_
  refine zi_putI f_Main_66 q1 (by decide) d_Main_rescue_10 ?_
  refine zx_iconst d_Main_rescue_13 zc_0 ?_
  refine zx_istore_n (L2 := [(0, .ref o0), (1, .int 0)]) d_Main_rescue_14 (Nat.le_of_ble_eq_true rfl) rfl ?_
  refine zx_iconst d_Main_rescue_15 zc_0 ?_
  refine zx_istore_n (L2 := [(0, .ref o0), (1, .int 0), (2, .int 0)]) d_Main_rescue_16 (Nat.le_of_ble_eq_true rfl) rfl ?_
  exact k
set_option maxRecDepth 20000 in
theorem r_Main_rescue_17 (l : Launch) (d : Nat) {K : zx_Kt} {RJ : zx_RJ} {Q : zi_Q} {I : zi_I} (o0 : Nat) (x1 : Int32) (x2 : Int32) (q1 : (K.2 o0).1 = 5) {r3 : Nat} (e4 : RJ.1 o0 3 = r3) (z5 : r3 ≠ 0) (q6 : (K.2 r3).1 = 7) {r10 : Nat} (e11 : RJ.1 o0 4 = r10) (z12 : r10 ≠ 0) {r13 : Nat} (e14 : RJ.1 o0 8 = r13) (z15 : r13 ≠ 0) {r16 : Nat} (e17 : RJ.1 o0 2 = r16) (z18 : r16 ≠ 0) (q19 : (K.2 r10).1 = 11)
    (k : ((3200 ≤ x2) → zi_C l (zx_rm d 0 0) M_Main_takeFresh [.ref o0] K RJ I (fun r I2 => r = none ∧ Q (some (.int (I2 o0 9))) I2)) ∧ ((¬ 3200 ≤ x2) → zi_C l (zx_rm d 0 0) M_BitReader_findMark [.ref r3, .int x1] K RJ I (fun r I7 => ∃ v8, r = some (.int v8) ∧ ((v8 = 0) → zi_C l (zx_rm d 0 0) M_Main_takeFresh [.ref o0] K RJ I7 (fun r I9 => r = none ∧ Q (some (.int (I9 o0 9))) I9)) ∧ ((¬ v8 = 0) → zi_C l (zx_rm d 0 0) M_BlockReader_readBlock [.ref r10, .ref r13, .int 64, .ref r16] K RJ I7 (fun r I20 => ∃ v21, r = some (.int v21) ∧ ((¬ v21 = 0) → zi_X l (zx_rm (d + 1) 0 0) M_Main_rescue K RJ Q 17 [(0, .ref o0), (1, .int (((I7 r3 1) - 24) + 1)), (2, .int (x2 + 1))] [] I20) ∧ ((v21 = 0) → zi_C l (zx_rm d 0 0) M_Main_tellNext [.ref o0] K RJ I20 (fun r I22 => r = none ∧ zi_X l (zx_rm (d + 1) 0 0) M_Main_rescue K RJ Q 17 [(0, .ref o0), (1, .int (I22 r3 1)), (2, .int (x2 + 1))] [] (zx_u2 I22 o0 9 ((I22 o0 9) + 1))))))))) :
    zi_X l (zx_rm (d + 1) 0 0) M_Main_rescue K RJ Q 17 [(0, .ref o0), (1, .int x1), (2, .int x2)] [] I := by
  refine zx_iload_n d_Main_rescue_17 rfl ?_
  refine zx_sipush d_Main_rescue_18 zs_3200 ?_
  refine zx_icmp_ge (tgt := 96) d_Main_rescue_21 rfl (fun c => ?_) (fun c => ?_)
  · have k := k.1 c
    refine zx_aload_n d_Main_rescue_96 rfl ?_
    refine zi_callV (hC := k) k_Main_159 q1 (by decide) rfl rfl (Nat.le_of_ble_eq_true rfl) (Nat.le_of_ble_eq_true rfl) d_Main_rescue_97 (fun r I2 k => ?_)
    obtain ⟨rfl, k⟩ := k
    refine zx_aload_n d_Main_rescue_100 rfl ?_
    refine zi_getI f_Main_66 q1 (by decide) d_Main_rescue_101 ?_
    exact zi_iret d_Main_rescue_104 rfl k
  · have k := k.2 c
    refine zx_aload_n d_Main_rescue_24 rfl ?_
    refine zi_getR f_Main_29 q1 (by decide) e4 z5 d_Main_rescue_25 ?_
    refine zx_iload_n d_Main_rescue_28 rfl ?_
    refine zi_callV (hC := k) k_Main_162 q6 (by decide) rfl rfl (Nat.le_of_ble_eq_true rfl) (Nat.le_of_ble_eq_true rfl) d_Main_rescue_29 (fun r I7 k => ?_)
    obtain ⟨v8, rfl, k⟩ := k
    refine zx_if_eq (tgt := 96) d_Main_rescue_32 rfl (fun c => ?_) (fun c => ?_)
    · have k := k.1 c
      refine zx_aload_n d_Main_rescue_96 rfl ?_
      refine zi_callV (hC := k) k_Main_159 q1 (by decide) rfl rfl (Nat.le_of_ble_eq_true rfl) (Nat.le_of_ble_eq_true rfl) d_Main_rescue_97 (fun r I9 k => ?_)
      obtain ⟨rfl, k⟩ := k
      refine zx_aload_n d_Main_rescue_100 rfl ?_
      refine zi_getI f_Main_66 q1 (by decide) d_Main_rescue_101 ?_
      exact zi_iret d_Main_rescue_104 rfl k
    · have k := k.2 c
      refine zx_aload_n d_Main_rescue_35 rfl ?_
      refine zi_getR f_Main_29 q1 (by decide) e4 z5 d_Main_rescue_36 ?_
      refine zi_getI f_Main_165 q6 (by decide) d_Main_rescue_39 ?_
      refine zx_bipush d_Main_rescue_42 zb_24 ?_
      refine zx_isub d_Main_rescue_44 ?_
      refine zx_iconst d_Main_rescue_45 zc_1 ?_
      refine zx_iadd d_Main_rescue_46 ?_
      refine zx_istore_n (L2 := [(0, .ref o0), (1, .int (((I7 r3 1) - 24) + 1)), (2, .int x2)]) d_Main_rescue_47 (Nat.le_of_ble_eq_true rfl) rfl ?_
      refine zx_aload_n d_Main_rescue_48 rfl ?_
      refine zi_getR f_Main_38 q1 (by decide) e11 z12 d_Main_rescue_49 ?_
      refine zx_aload_n d_Main_rescue_52 rfl ?_
      refine zi_getR f_Main_63 q1 (by decide) e14 z15 d_Main_rescue_53 ?_
      refine zx_bipush d_Main_rescue_56 zb_64 ?_
      refine zx_aload_n d_Main_rescue_58 rfl ?_
      refine zi_getR f_Main_21 q1 (by decide) e17 z18 d_Main_rescue_59 ?_
      refine zi_callV (hC := k) k_Main_168 q19 (by decide) rfl rfl (Nat.le_of_ble_eq_true rfl) (Nat.le_of_ble_eq_true rfl) d_Main_rescue_62 (fun r I20 k => ?_)
      obtain ⟨v21, rfl, k⟩ := k
      refine zx_if_ne (tgt := 90) d_Main_rescue_65 rfl (fun c => ?_) (fun c => ?_)
      · have k := k.1 c
        refine zx_iinc (L2 := [(0, .ref o0), (1, .int (((I7 r3 1) - 24) + 1)), (2, .int (x2 + 1))]) d_Main_rescue_90 rfl (Nat.le_of_ble_eq_true rfl) zc_1 rfl ?_
        refine zx_goto (tgt := 17) d_Main_rescue_93 rfl ?_
        exact k
      · have k := k.2 c
        refine zx_aload_n d_Main_rescue_68 rfl ?_
        refine zi_callV (hC := k) k_Main_156 q1 (by decide) rfl rfl (Nat.le_of_ble_eq_true rfl) (Nat.le_of_ble_eq_true rfl) d_Main_rescue_69 (fun r I22 k => ?_)
        obtain ⟨rfl, k⟩ := k
        refine zx_aload_n d_Main_rescue_72 rfl ?_
        refine zx_dup_a d_Main_rescue_73 ?_
        refine zi_getI f_Main_66 q1 (by decide) d_Main_rescue_74 ?_
        refine zx_iconst d_Main_rescue_77 zc_1 ?_
        refine zx_iadd d_Main_rescue_78 ?_
        refine zi_putI f_Main_66 q1 (by decide) d_Main_rescue_79 ?_
        refine zx_aload_n d_Main_rescue_82 rfl ?_
        refine zi_getR f_Main_29 q1 (by decide) e4 z5 d_Main_rescue_83 ?_
        refine zi_getIe f_Main_165 q6 (by decide) (zx_u2_o q1 q6 (by decide)) d_Main_rescue_86 ?_
        refine zx_istore_n (L2 := [(0, .ref o0), (1, .int (I22 r3 1)), (2, .int x2)]) d_Main_rescue_89 (Nat.le_of_ble_eq_true rfl) rfl ?_
        refine zx_iinc (L2 := [(0, .ref o0), (1, .int (I22 r3 1)), (2, .int (x2 + 1))]) d_Main_rescue_90 rfl (Nat.le_of_ble_eq_true rfl) zc_1 rfl ?_
        refine zx_goto (tgt := 17) d_Main_rescue_93 rfl ?_
        exact k
set_option maxRecDepth 20000 in
theorem r_Main_given_0 (l : Launch) (d : Nat) {K : zx_Kt} {RJ : zx_RJ} {Q : zi_Q} {I : zi_I} (o0 : Nat) (q1 : (K.2 o0).1 = 5) {r2 : Nat} (e3 : RJ.1 o0 0 = r2) (z4 : r2 ≠ 0) (q5 : (K.2 r2).1 = 16)
    (k : Q (some (.int (I r2 1))) I) :
    zi_X l (zx_rm d 0 0) M_Main_given K RJ Q 0 [(0, .ref o0)] [] I := by
  refine zx_aload_n d_Main_given_0 rfl ?_
  refine zi_getR f_Main_14 q1 (by decide) e3 z4 d_Main_given_1 ?_
  refine zi_getI f_Main_95 q5 (by decide) d_Main_given_4 ?_
  exact zi_iret d_Main_given_7 rfl k
set_option maxRecDepth 20000 in
theorem r_Main_size_0 (l : Launch) (d : Nat) {K : zx_Kt} {RJ : zx_RJ} {Q : zi_Q} {I : zi_I} (o0 : Nat) (q1 : (K.2 o0).1 = 5) {r2 : Nat} (e3 : RJ.1 o0 1 = r2) (z4 : r2 ≠ 0) (q5 : (K.2 r2).1 = 16)
    (k : Q (some (.int (I r2 1))) I) :
    zi_X l (zx_rm d 0 0) M_Main_size K RJ Q 0 [(0, .ref o0)] [] I := by
  refine zx_aload_n d_Main_size_0 rfl ?_
  refine zi_getR f_Main_18 q1 (by decide) e3 z4 d_Main_size_1 ?_
  refine zi_getI f_Main_95 q5 (by decide) d_Main_size_4 ?_
  exact zi_iret d_Main_size_7 rfl k
set_option maxRecDepth 20000 in
theorem r_Main_blocks_0 (l : Launch) (d : Nat) {K : zx_Kt} {RJ : zx_RJ} {Q : zi_Q} {I : zi_I} (o0 : Nat) (q1 : (K.2 o0).1 = 5)
    (k : Q (some (.int (I o0 9))) I) :
    zi_X l (zx_rm d 0 0) M_Main_blocks K RJ Q 0 [(0, .ref o0)] [] I := by
  refine zx_aload_n d_Main_blocks_0 rfl ?_
  refine zi_getI f_Main_66 q1 (by decide) d_Main_blocks_1 ?_
  exact zi_iret d_Main_blocks_4 rfl k
set_option maxRecDepth 20000 in
theorem r_Main_last_0 (l : Launch) (d : Nat) {K : zx_Kt} {RJ : zx_RJ} {Q : zi_Q} {I : zi_I} (o0 : Nat) (x1 : Int32) (q1 : (K.2 o0).1 = 5) {r2 : Nat} (e3 : RJ.1 o0 7 = r2) (z4 : r2 ≠ 0) (q5 : (K.2 r2).1 = 9) {r6 : Nat} (e7 : RJ.1 r2 4 = r6) (z8 : r6 ≠ 0) {n10 : Nat} (a9 : K.2 r6 = (0, n10))
    (k : (((I o0 9) ≤ 0) → Q (some (.int ((-1)))) I) ∧ ((¬ (I o0 9) ≤ 0) → ((x1 < 0) → Q (some (.int ((-1)))) I) ∧ ((¬ x1 < 0) → (((I r2 2) ≤ x1) → Q (some (.int ((-1)))) I) ∧ ((¬ (I r2 2) ≤ x1) → ∃ j11, x1 = nI j11 ∧ j11 < n10 ∧ Q (some (.int (I r6 j11))) I)))) :
    zi_X l (zx_rm d 0 0) M_Main_last K RJ Q 0 [(0, .ref o0), (1, .int x1)] [] I := by
  refine zx_aload_n d_Main_last_0 rfl ?_
  refine zi_getI f_Main_66 q1 (by decide) d_Main_last_1 ?_
  refine zx_if_le (tgt := 34) d_Main_last_4 rfl (fun c => ?_) (fun c => ?_)
  · have k := k.1 c
    refine zx_iconst d_Main_last_34 zc_m1 ?_
    exact zi_iret d_Main_last_35 rfl k
  · have k := k.2 c
    refine zx_iload_n d_Main_last_7 rfl ?_
    refine zx_if_lt (tgt := 34) d_Main_last_8 rfl (fun c => ?_) (fun c => ?_)
    · have k := k.1 c
      refine zx_iconst d_Main_last_34 zc_m1 ?_
      exact zi_iret d_Main_last_35 rfl k
    · have k := k.2 c
      refine zx_iload_n d_Main_last_11 rfl ?_
      refine zx_aload_n d_Main_last_12 rfl ?_
      refine zi_getR f_Main_59 q1 (by decide) e3 z4 d_Main_last_13 ?_
      refine zi_getI f_Main_181 q5 (by decide) d_Main_last_16 ?_
      refine zx_icmp_ge (tgt := 34) d_Main_last_19 rfl (fun c => ?_) (fun c => ?_)
      · have k := k.1 c
        refine zx_iconst d_Main_last_34 zc_m1 ?_
        exact zi_iret d_Main_last_35 rfl k
      · have k := k.2 c
        refine zx_aload_n d_Main_last_22 rfl ?_
        refine zi_getR f_Main_59 q1 (by decide) e3 z4 d_Main_last_23 ?_
        refine zi_getR f_Main_188 q5 (by decide) e7 z8 d_Main_last_26 ?_
        refine zx_iload_n d_Main_last_29 rfl ?_
        obtain ⟨j11, e12, b13, k⟩ := k
        refine zi_iald j11 a9 e12 b13 d_Main_last_30 ?_
        refine zx_goto (tgt := 35) d_Main_last_31 rfl ?_
        exact zi_iret d_Main_last_35 rfl k
set_option maxRecDepth 20000 in
theorem r_Main_symbol_0 (l : Launch) (d : Nat) {K : zx_Kt} {RJ : zx_RJ} {Q : zi_Q} {I : zi_I} (o0 : Nat) (x1 : Int32) (q1 : (K.2 o0).1 = 5) {r2 : Nat} (e3 : RJ.1 o0 7 = r2) (z4 : r2 ≠ 0) (q5 : (K.2 r2).1 = 9) {r6 : Nat} (e7 : RJ.1 r2 8 = r6) (z8 : r6 ≠ 0) {n10 : Nat} (a9 : K.2 r6 = (0, n10))
    (k : (((I o0 9) ≤ 0) → Q (some (.int ((-1)))) I) ∧ ((¬ (I o0 9) ≤ 0) → ((x1 < 0) → Q (some (.int ((-1)))) I) ∧ ((¬ x1 < 0) → (((I r2 7) ≤ x1) → Q (some (.int ((-1)))) I) ∧ ((¬ (I r2 7) ≤ x1) → ∃ j11, x1 = nI j11 ∧ j11 < n10 ∧ Q (some (.int (I r6 j11))) I)))) :
    zi_X l (zx_rm d 0 0) M_Main_symbol K RJ Q 0 [(0, .ref o0), (1, .int x1)] [] I := by
  refine zx_aload_n d_Main_symbol_0 rfl ?_
  refine zi_getI f_Main_66 q1 (by decide) d_Main_symbol_1 ?_
  refine zx_if_le (tgt := 34) d_Main_symbol_4 rfl (fun c => ?_) (fun c => ?_)
  · have k := k.1 c
    refine zx_iconst d_Main_symbol_34 zc_m1 ?_
    exact zi_iret d_Main_symbol_35 rfl k
  · have k := k.2 c
    refine zx_iload_n d_Main_symbol_7 rfl ?_
    refine zx_if_lt (tgt := 34) d_Main_symbol_8 rfl (fun c => ?_) (fun c => ?_)
    · have k := k.1 c
      refine zx_iconst d_Main_symbol_34 zc_m1 ?_
      exact zi_iret d_Main_symbol_35 rfl k
    · have k := k.2 c
      refine zx_iload_n d_Main_symbol_11 rfl ?_
      refine zx_aload_n d_Main_symbol_12 rfl ?_
      refine zi_getR f_Main_59 q1 (by decide) e3 z4 d_Main_symbol_13 ?_
      refine zi_getI f_Main_182 q5 (by decide) d_Main_symbol_16 ?_
      refine zx_icmp_ge (tgt := 34) d_Main_symbol_19 rfl (fun c => ?_) (fun c => ?_)
      · have k := k.1 c
        refine zx_iconst d_Main_symbol_34 zc_m1 ?_
        exact zi_iret d_Main_symbol_35 rfl k
      · have k := k.2 c
        refine zx_aload_n d_Main_symbol_22 rfl ?_
        refine zi_getR f_Main_59 q1 (by decide) e3 z4 d_Main_symbol_23 ?_
        refine zi_getR f_Main_192 q5 (by decide) e7 z8 d_Main_symbol_26 ?_
        refine zx_iload_n d_Main_symbol_29 rfl ?_
        obtain ⟨j11, e12, b13, k⟩ := k
        refine zi_iald j11 a9 e12 b13 d_Main_symbol_30 ?_
        refine zx_goto (tgt := 35) d_Main_symbol_31 rfl ?_
        exact zi_iret d_Main_symbol_35 rfl k
set_option maxRecDepth 20000 in
theorem r_Main_length_0 (l : Launch) (d : Nat) {K : zx_Kt} {RJ : zx_RJ} {Q : zi_Q} {I : zi_I} (o0 : Nat) (x1 : Int32) (x2 : Int32) (q1 : (K.2 o0).1 = 5) {r2 : Nat} (e3 : RJ.1 o0 7 = r2) (z4 : r2 ≠ 0) (q5 : (K.2 r2).1 = 9)
    (k : (((I o0 9) ≤ 0) → zi_X l (zx_rm (d + 1) 0 0) M_Main_length K RJ Q 41 [(0, .ref o0), (1, .int x1), (2, .int x2)] [] I) ∧ ((¬ (I o0 9) ≤ 0) → ((x1 < 0) → zi_X l (zx_rm (d + 1) 0 0) M_Main_length K RJ Q 41 [(0, .ref o0), (1, .int x1), (2, .int x2)] [] I) ∧ ((¬ x1 < 0) → (((I r2 9) ≤ x1) → zi_X l (zx_rm (d + 1) 0 0) M_Main_length K RJ Q 41 [(0, .ref o0), (1, .int x1), (2, .int x2)] [] I) ∧ ((¬ (I r2 9) ≤ x1) → ((x2 < 0) → zi_X l (zx_rm (d + 1) 0 0) M_Main_length K RJ Q 41 [(0, .ref o0), (1, .int x1), (2, .int x2)] [] I) ∧ ((¬ x2 < 0) → zi_C l (zx_rm d 0 0) M_Block_symbolKinds [.ref r2] K RJ I (fun r I6 => ∃ v7, r = some (.int v7) ∧ ((v7 ≤ x2) → zi_X l (zx_rm (d + 1) 0 0) M_Main_length K RJ Q 41 [(0, .ref o0), (1, .int x1), (2, .int x2)] [] I6) ∧ ((¬ v7 ≤ x2) → zi_X l (zx_rm (d + 1) 0 0) M_Main_length K RJ Q 42 [(0, .ref o0), (1, .int x1), (2, .int x2)] [.int 1] I6))))))) :
    zi_X l (zx_rm (d + 1) 0 0) M_Main_length K RJ Q 0 [(0, .ref o0), (1, .int x1), (2, .int x2)] [] I := by
  refine zx_aload_n d_Main_length_0 rfl ?_
  refine zi_getI f_Main_66 q1 (by decide) d_Main_length_1 ?_
  refine zx_if_le (tgt := 41) d_Main_length_4 rfl (fun c => ?_) (fun c => ?_)
  · have k := k.1 c
    exact k
  · have k := k.2 c
    refine zx_iload_n d_Main_length_7 rfl ?_
    refine zx_if_lt (tgt := 41) d_Main_length_8 rfl (fun c => ?_) (fun c => ?_)
    · have k := k.1 c
      exact k
    · have k := k.2 c
      refine zx_iload_n d_Main_length_11 rfl ?_
      refine zx_aload_n d_Main_length_12 rfl ?_
      refine zi_getR f_Main_59 q1 (by decide) e3 z4 d_Main_length_13 ?_
      refine zi_getI f_Main_185 q5 (by decide) d_Main_length_16 ?_
      refine zx_icmp_ge (tgt := 41) d_Main_length_19 rfl (fun c => ?_) (fun c => ?_)
      · have k := k.1 c
        exact k
      · have k := k.2 c
        refine zx_iload_n d_Main_length_22 rfl ?_
        refine zx_if_lt (tgt := 41) d_Main_length_23 rfl (fun c => ?_) (fun c => ?_)
        · have k := k.1 c
          exact k
        · have k := k.2 c
          refine zx_iload_n d_Main_length_26 rfl ?_
          refine zx_aload_n d_Main_length_27 rfl ?_
          refine zi_getR f_Main_59 q1 (by decide) e3 z4 d_Main_length_28 ?_
          refine zi_callV (hC := k) k_Main_195 q5 (by decide) rfl rfl (Nat.le_of_ble_eq_true rfl) (Nat.le_of_ble_eq_true rfl) d_Main_length_31 (fun r I6 k => ?_)
          obtain ⟨v7, rfl, k⟩ := k
          refine zx_icmp_ge (tgt := 41) d_Main_length_34 rfl (fun c => ?_) (fun c => ?_)
          · have k := k.1 c
            exact k
          · have k := k.2 c
            refine zx_iconst d_Main_length_37 zc_1 ?_
            refine zx_goto (tgt := 42) d_Main_length_38 rfl ?_
            exact k
set_option maxRecDepth 20000 in
theorem r_Main_length_41 (l : Launch) (d : Nat) {K : zx_Kt} {RJ : zx_RJ} {Q : zi_Q} {I : zi_I} (o0 : Nat) (x1 : Int32) (x2 : Int32) 
    (k : zi_X l (zx_rm (d + 1) 0 0) M_Main_length K RJ Q 42 [(0, .ref o0), (1, .int x1), (2, .int x2)] [.int 0] I) :
    zi_X l (zx_rm (d + 1) 0 0) M_Main_length K RJ Q 41 [(0, .ref o0), (1, .int x1), (2, .int x2)] [] I := by
  refine zx_iconst d_Main_length_41 zc_0 ?_
  exact k
set_option maxRecDepth 20000 in
theorem r_Main_length_42 (l : Launch) (d : Nat) {K : zx_Kt} {RJ : zx_RJ} {Q : zi_Q} {I : zi_I} (o0 : Nat) (x1 : Int32) (x2 : Int32) (y0 : Int32) (q1 : (K.2 o0).1 = 5) {r2 : Nat} (e3 : RJ.1 o0 7 = r2) (z4 : r2 ≠ 0) (q5 : (K.2 r2).1 = 9) {r6 : Nat} (e7 : RJ.1 r2 10 = r6) (z8 : r6 ≠ 0) {n10 : Nat} (a9 : K.2 r6 = (4, n10))
    (k : ((y0 = 0) → zi_X l (zx_rm (d + 1) 0 0) M_Main_length K RJ Q 62 [(0, .ref o0), (1, .int x1), (2, .int x2), (3, .int y0)] [.int ((-1))] I) ∧ ((¬ y0 = 0) → ∃ j11, x1 = nI j11 ∧ j11 < n10 ∧ ∃ r15, RJ.1 r6 j11 = r15 ∧ r15 ≠ 0 ∧ ∃ n18, K.2 r15 = (0, n18) ∧ ∃ j19, x2 = nI j19 ∧ j19 < n18 ∧ zi_X l (zx_rm (d + 1) 0 0) M_Main_length K RJ Q 62 [(0, .ref o0), (1, .int x1), (2, .int x2), (3, .int y0)] [.int (I r15 j19)] I)) :
    zi_X l (zx_rm (d + 1) 0 0) M_Main_length K RJ Q 42 [(0, .ref o0), (1, .int x1), (2, .int x2)] [.int y0] I := by
  refine zx_istore_n (L2 := [(0, .ref o0), (1, .int x1), (2, .int x2), (3, .int y0)]) d_Main_length_42 (Nat.le_of_ble_eq_true rfl) rfl ?_
  refine zx_iload_n d_Main_length_43 rfl ?_
  refine zx_if_eq (tgt := 61) d_Main_length_44 rfl (fun c => ?_) (fun c => ?_)
  · have k := k.1 c
    refine zx_iconst d_Main_length_61 zc_m1 ?_
    exact k
  · have k := k.2 c
    refine zx_aload_n d_Main_length_47 rfl ?_
    refine zi_getR f_Main_59 q1 (by decide) e3 z4 d_Main_length_48 ?_
    refine zi_getR f_Main_198 q5 (by decide) e7 z8 d_Main_length_51 ?_
    refine zx_iload_n d_Main_length_54 rfl ?_
    obtain ⟨j11, e12, b13, k⟩ := k
    obtain ⟨r15, e16, z14, k⟩ := k
    refine zi_aald4 j11 a9 e12 b13 e16 z14 d_Main_length_55 ?_
    refine zx_iload_n d_Main_length_56 rfl ?_
    obtain ⟨n18, a17, k⟩ := k
    obtain ⟨j19, e20, b21, k⟩ := k
    refine zi_iald j19 a17 e20 b21 d_Main_length_57 ?_
    refine zx_goto (tgt := 62) d_Main_length_58 rfl ?_
    exact k
set_option maxRecDepth 20000 in
theorem r_Main_length_62 (l : Launch) (d : Nat) {K : zx_Kt} {RJ : zx_RJ} {Q : zi_Q} {I : zi_I} (o0 : Nat) (x1 : Int32) (x2 : Int32) (x3 : Int32) (y0 : Int32) 
    (k : Q (some (.int y0)) I) :
    zi_X l (zx_rm (d + 1) 0 0) M_Main_length K RJ Q 62 [(0, .ref o0), (1, .int x1), (2, .int x2), (3, .int x3)] [.int y0] I := by
  exact zi_iret d_Main_length_62 rfl k
set_option maxRecDepth 20000 in
theorem r_Main_table_0 (l : Launch) (d : Nat) {K : zx_Kt} {RJ : zx_RJ} {Q : zi_Q} {I : zi_I} (o0 : Nat) (x1 : Int32) (q1 : (K.2 o0).1 = 5) {r2 : Nat} (e3 : RJ.1 o0 7 = r2) (z4 : r2 ≠ 0) (q5 : (K.2 r2).1 = 9) {r6 : Nat} (e7 : RJ.1 r2 12 = r6) (z8 : r6 ≠ 0) {n10 : Nat} (a9 : K.2 r6 = (0, n10))
    (k : (((I o0 9) ≤ 0) → Q (some (.int ((-1)))) I) ∧ ((¬ (I o0 9) ≤ 0) → ((x1 < 0) → Q (some (.int ((-1)))) I) ∧ ((¬ x1 < 0) → (((I r2 11) ≤ x1) → Q (some (.int ((-1)))) I) ∧ ((¬ (I r2 11) ≤ x1) → ∃ j11, x1 = nI j11 ∧ j11 < n10 ∧ Q (some (.int (I r6 j11))) I)))) :
    zi_X l (zx_rm d 0 0) M_Main_table K RJ Q 0 [(0, .ref o0), (1, .int x1)] [] I := by
  refine zx_aload_n d_Main_table_0 rfl ?_
  refine zi_getI f_Main_66 q1 (by decide) d_Main_table_1 ?_
  refine zx_if_le (tgt := 34) d_Main_table_4 rfl (fun c => ?_) (fun c => ?_)
  · have k := k.1 c
    refine zx_iconst d_Main_table_34 zc_m1 ?_
    exact zi_iret d_Main_table_35 rfl k
  · have k := k.2 c
    refine zx_iload_n d_Main_table_7 rfl ?_
    refine zx_if_lt (tgt := 34) d_Main_table_8 rfl (fun c => ?_) (fun c => ?_)
    · have k := k.1 c
      refine zx_iconst d_Main_table_34 zc_m1 ?_
      exact zi_iret d_Main_table_35 rfl k
    · have k := k.2 c
      refine zx_iload_n d_Main_table_11 rfl ?_
      refine zx_aload_n d_Main_table_12 rfl ?_
      refine zi_getR f_Main_59 q1 (by decide) e3 z4 d_Main_table_13 ?_
      refine zi_getI f_Main_202 q5 (by decide) d_Main_table_16 ?_
      refine zx_icmp_ge (tgt := 34) d_Main_table_19 rfl (fun c => ?_) (fun c => ?_)
      · have k := k.1 c
        refine zx_iconst d_Main_table_34 zc_m1 ?_
        exact zi_iret d_Main_table_35 rfl k
      · have k := k.2 c
        refine zx_aload_n d_Main_table_22 rfl ?_
        refine zi_getR f_Main_59 q1 (by decide) e3 z4 d_Main_table_23 ?_
        refine zi_getR f_Main_205 q5 (by decide) e7 z8 d_Main_table_26 ?_
        refine zx_iload_n d_Main_table_29 rfl ?_
        obtain ⟨j11, e12, b13, k⟩ := k
        refine zi_iald j11 a9 e12 b13 d_Main_table_30 ?_
        refine zx_goto (tgt := 35) d_Main_table_31 rfl ?_
        exact zi_iret d_Main_table_35 rfl k
set_option maxRecDepth 20000 in
theorem r_Main_readStream_0 (l : Launch) (d : Nat) {K : zx_Kt} {RJ : zx_RJ} {Q : zi_Q} {I : zi_I} (o0 : Nat) (q1 : (K.2 o0).1 = 5) {r4 : Nat} (e5 : RJ.1 o0 3 = r4) (z6 : r4 ≠ 0) (q7 : (K.2 r4).1 = 7)
    (k : zi_C l (zx_rm d 0 0) M_Main_readHead [.ref o0] K RJ I (fun r I2 => ∃ v3, r = some (.int v3) ∧ ((0 ≤ v3) → zi_C l (zx_rm d 0 0) M_BitReader_takeNumber [.ref r4, .int 24] K RJ I2 (fun r I8 => ∃ v9, r = some (.int v9) ∧ zi_X l (zx_rm (d + 1) 0 0) M_Main_readStream K RJ Q 26 [(0, .ref o0), (1, .int v3), (2, .int 0), (3, .int v9), (4, .int 0)] [] I8)) ∧ ((¬ 0 ≤ v3) → Q (some (.int v3)) I2))) :
    zi_X l (zx_rm (d + 1) 0 0) M_Main_readStream K RJ Q 0 [(0, .ref o0)] [] I := by
  refine zx_aload_n d_Main_readStream_0 rfl ?_
  refine zi_callV (hC := k) k_Main_208 q1 (by decide) rfl rfl (Nat.le_of_ble_eq_true rfl) (Nat.le_of_ble_eq_true rfl) d_Main_readStream_1 (fun r I2 k => ?_)
  obtain ⟨v3, rfl, k⟩ := k
  refine zx_istore_n (L2 := [(0, .ref o0), (1, .int v3)]) d_Main_readStream_4 (Nat.le_of_ble_eq_true rfl) rfl ?_
  refine zx_iload_n d_Main_readStream_5 rfl ?_
  refine zx_if_ge (tgt := 11) d_Main_readStream_6 rfl (fun c => ?_) (fun c => ?_)
  · have k := k.1 c
    refine zx_iconst d_Main_readStream_11 zc_0 ?_
    refine zx_istore_n (L2 := [(0, .ref o0), (1, .int v3), (2, .int 0)]) d_Main_readStream_12 (Nat.le_of_ble_eq_true rfl) rfl ?_
    refine zx_aload_n d_Main_readStream_13 rfl ?_
    refine zi_getR f_Main_29 q1 (by decide) e5 z6 d_Main_readStream_14 ?_
    refine zx_bipush d_Main_readStream_17 zb_24 ?_
    refine zi_callV (hC := k) k_Main_211 q7 (by decide) rfl rfl (Nat.le_of_ble_eq_true rfl) (Nat.le_of_ble_eq_true rfl) d_Main_readStream_19 (fun r I8 k => ?_)
    obtain ⟨v9, rfl, k⟩ := k
    refine zx_istore_n (L2 := [(0, .ref o0), (1, .int v3), (2, .int 0), (3, .int v9)]) d_Main_readStream_22 (Nat.le_of_ble_eq_true rfl) rfl ?_
    refine zx_iconst d_Main_readStream_23 zc_0 ?_
    refine zx_istore (L2 := [(0, .ref o0), (1, .int v3), (2, .int 0), (3, .int v9), (4, .int 0)]) d_Main_readStream_24 (Nat.le_of_ble_eq_true rfl) rfl ?_
    exact k
  · have k := k.2 c
    refine zx_iload_n d_Main_readStream_9 rfl ?_
    exact zi_iret d_Main_readStream_10 rfl k
set_option maxRecDepth 20000 in
theorem r_Main_readStream_26 (l : Launch) (d : Nat) {K : zx_Kt} {RJ : zx_RJ} {Q : zi_Q} {I : zi_I} (o0 : Nat) (x1 : Int32) (x2 : Int32) (x3 : Int32) (x4 : Int32) (q1 : (K.2 o0).1 = 5) {r6 : Nat} (e7 : RJ.1 o0 4 = r6) (z8 : r6 ≠ 0) {r9 : Nat} (e10 : RJ.1 o0 8 = r9) (z11 : r9 ≠ 0) {r12 : Nat} (e13 : RJ.1 o0 2 = r12) (z14 : r12 ≠ 0) (q15 : (K.2 r6).1 = 11) (q18 : (K.2 r9).1 = 9) {r21 : Nat} (e22 : RJ.1 o0 3 = r21) (z23 : r21 ≠ 0) (q24 : (K.2 r21).1 = 7)
    (k : ((3200 ≤ x4) → ((x3 = 1536581) → zi_C l (zx_rm d 0 0) M_Main_readTotal [.ref o0, .int x2] K RJ I (fun r I2 => ∃ v3, r = some (.int v3) ∧ Q (some (.int v3)) I2)) ∧ ((¬ x3 = 1536581) → ((0 ≤ x3) → Q (some (.int ((-4)))) I) ∧ ((¬ 0 ≤ x3) → Q (some (.int x3)) I))) ∧ ((¬ 3200 ≤ x4) → ((¬ x3 = 3227993) → ((x3 = 1536581) → zi_C l (zx_rm d 0 0) M_Main_readTotal [.ref o0, .int x2] K RJ I (fun r I4 => ∃ v5, r = some (.int v5) ∧ Q (some (.int v5)) I4)) ∧ ((¬ x3 = 1536581) → ((0 ≤ x3) → Q (some (.int ((-4)))) I) ∧ ((¬ 0 ≤ x3) → Q (some (.int x3)) I))) ∧ ((x3 = 3227993) → zi_C l (zx_rm d 0 0) M_BlockReader_readBlock [.ref r6, .ref r9, .int (8 * x1), .ref r12] K RJ I (fun r I16 => ∃ v17, r = some (.int v17) ∧ ((v17 = 0) → zi_C l (zx_rm d 0 0) M_Main_nextTotal [.int x2, .int (I16 r9 0)] K RJ I16 (fun r I19 => ∃ v20, r = some (.int v20) ∧ zi_C l (zx_rm d 0 0) M_BitReader_takeNumber [.ref r21, .int 24] K RJ (zx_u2 I19 o0 10 ((I19 o0 10) + 1)) (fun r I25 => ∃ v26, r = some (.int v26) ∧ zi_X l (zx_rm (d + 1) 0 0) M_Main_readStream K RJ Q 26 [(0, .ref o0), (1, .int x1), (2, .int v20), (3, .int v26), (4, .int (x4 + 1))] [] I25))) ∧ ((¬ v17 = 0) → Q (some (.int v17)) I16))))) :
    zi_X l (zx_rm (d + 1) 0 0) M_Main_readStream K RJ Q 26 [(0, .ref o0), (1, .int x1), (2, .int x2), (3, .int x3), (4, .int x4)] [] I := by
  refine zx_iload d_Main_readStream_26 rfl ?_
  refine zx_sipush d_Main_readStream_28 zs_3200 ?_
  refine zx_icmp_ge (tgt := 107) d_Main_readStream_31 rfl (fun c => ?_) (fun c => ?_)
  · have k := k.1 c
    refine zx_iload_n d_Main_readStream_107 rfl ?_
    refine zx_ldc w_Main_215 d_Main_readStream_108 ?_
    refine zx_icmp_eq (tgt := 124) d_Main_readStream_110 rfl (fun c => ?_) (fun c => ?_)
    · have k := k.1 c
      refine zx_aload_n d_Main_readStream_124 rfl ?_
      refine zx_iload_n d_Main_readStream_125 rfl ?_
      refine zi_callV (hC := k) k_Main_216 q1 (by decide) rfl rfl (Nat.le_of_ble_eq_true rfl) (Nat.le_of_ble_eq_true rfl) d_Main_readStream_126 (fun r I2 k => ?_)
      obtain ⟨v3, rfl, k⟩ := k
      exact zi_iret d_Main_readStream_129 rfl k
    · have k := k.2 c
      refine zx_iload_n d_Main_readStream_113 rfl ?_
      refine zx_if_ge (tgt := 121) d_Main_readStream_114 rfl (fun c => ?_) (fun c => ?_)
      · have k := k.1 c
        refine zx_bipush d_Main_readStream_121 zb_m4 ?_
        exact zi_iret d_Main_readStream_123 rfl k
      · have k := k.2 c
        refine zx_iload_n d_Main_readStream_117 rfl ?_
        refine zx_goto (tgt := 123) d_Main_readStream_118 rfl ?_
        exact zi_iret d_Main_readStream_123 rfl k
  · have k := k.2 c
    refine zx_iload_n d_Main_readStream_34 rfl ?_
    refine zx_ldc w_Main_214 d_Main_readStream_35 ?_
    refine zx_icmp_ne (tgt := 107) d_Main_readStream_37 rfl (fun c => ?_) (fun c => ?_)
    · have k := k.1 c
      refine zx_iload_n d_Main_readStream_107 rfl ?_
      refine zx_ldc w_Main_215 d_Main_readStream_108 ?_
      refine zx_icmp_eq (tgt := 124) d_Main_readStream_110 rfl (fun c => ?_) (fun c => ?_)
      · have k := k.1 c
        refine zx_aload_n d_Main_readStream_124 rfl ?_
        refine zx_iload_n d_Main_readStream_125 rfl ?_
        refine zi_callV (hC := k) k_Main_216 q1 (by decide) rfl rfl (Nat.le_of_ble_eq_true rfl) (Nat.le_of_ble_eq_true rfl) d_Main_readStream_126 (fun r I4 k => ?_)
        obtain ⟨v5, rfl, k⟩ := k
        exact zi_iret d_Main_readStream_129 rfl k
      · have k := k.2 c
        refine zx_iload_n d_Main_readStream_113 rfl ?_
        refine zx_if_ge (tgt := 121) d_Main_readStream_114 rfl (fun c => ?_) (fun c => ?_)
        · have k := k.1 c
          refine zx_bipush d_Main_readStream_121 zb_m4 ?_
          exact zi_iret d_Main_readStream_123 rfl k
        · have k := k.2 c
          refine zx_iload_n d_Main_readStream_117 rfl ?_
          refine zx_goto (tgt := 123) d_Main_readStream_118 rfl ?_
          exact zi_iret d_Main_readStream_123 rfl k
    · have k := k.2 c
      refine zx_aload_n d_Main_readStream_40 rfl ?_
      refine zi_getR f_Main_38 q1 (by decide) e7 z8 d_Main_readStream_41 ?_
      refine zx_aload_n d_Main_readStream_44 rfl ?_
      refine zi_getR f_Main_63 q1 (by decide) e10 z11 d_Main_readStream_45 ?_
      refine zx_bipush d_Main_readStream_48 zb_8 ?_
      refine zx_iload_n d_Main_readStream_50 rfl ?_
      refine zx_imul d_Main_readStream_51 ?_
      refine zx_aload_n d_Main_readStream_52 rfl ?_
      refine zi_getR f_Main_21 q1 (by decide) e13 z14 d_Main_readStream_53 ?_
      refine zi_callV (hC := k) k_Main_168 q15 (by decide) rfl rfl (Nat.le_of_ble_eq_true rfl) (Nat.le_of_ble_eq_true rfl) d_Main_readStream_56 (fun r I16 k => ?_)
      obtain ⟨v17, rfl, k⟩ := k
      refine zx_istore (L2 := [(0, .ref o0), (1, .int x1), (2, .int x2), (3, .int x3), (4, .int x4), (5, .int v17)]) d_Main_readStream_59 (Nat.le_of_ble_eq_true rfl) rfl ?_
      refine zx_iload d_Main_readStream_61 rfl ?_
      refine zx_if_eq (tgt := 69) d_Main_readStream_63 rfl (fun c => ?_) (fun c => ?_)
      · have k := k.1 c
        refine zx_iload_n d_Main_readStream_69 rfl ?_
        refine zx_aload_n d_Main_readStream_70 rfl ?_
        refine zi_getR f_Main_63 q1 (by decide) e10 z11 d_Main_readStream_71 ?_
        refine zi_getI f_Main_127 q18 (by decide) d_Main_readStream_74 ?_
        refine zi_callS (hC := k) k_Main_130 rfl rfl (Nat.le_of_ble_eq_true rfl) (Nat.le_of_ble_eq_true rfl) d_Main_readStream_77 (fun r I19 k => ?_)
        obtain ⟨v20, rfl, k⟩ := k
        refine zx_istore_n (L2 := [(0, .ref o0), (1, .int x1), (2, .int v20), (3, .int x3), (4, .int x4), (5, .int v17)]) d_Main_readStream_80 (Nat.le_of_ble_eq_true rfl) rfl ?_
        refine zx_aload_n d_Main_readStream_81 rfl ?_
        refine zx_dup_a d_Main_readStream_82 ?_
        refine zi_getI f_Main_70 q1 (by decide) d_Main_readStream_83 ?_
        refine zx_iconst d_Main_readStream_86 zc_1 ?_
        refine zx_iadd d_Main_readStream_87 ?_
        refine zi_putI f_Main_70 q1 (by decide) d_Main_readStream_88 ?_
        refine zx_aload_n d_Main_readStream_91 rfl ?_
        refine zi_getR f_Main_29 q1 (by decide) e22 z23 d_Main_readStream_92 ?_
        refine zx_bipush d_Main_readStream_95 zb_24 ?_
        refine zi_callV (hC := k) k_Main_211 q24 (by decide) rfl rfl (Nat.le_of_ble_eq_true rfl) (Nat.le_of_ble_eq_true rfl) d_Main_readStream_97 (fun r I25 k => ?_)
        obtain ⟨v26, rfl, k⟩ := k
        refine zx_istore_n (L2 := [(0, .ref o0), (1, .int x1), (2, .int v20), (3, .int v26), (4, .int x4), (5, .int v17)]) d_Main_readStream_100 (Nat.le_of_ble_eq_true rfl) rfl ?_
        refine zx_iinc (L2 := [(0, .ref o0), (1, .int x1), (2, .int v20), (3, .int v26), (4, .int (x4 + 1)), (5, .int v17)]) d_Main_readStream_101 rfl (Nat.le_of_ble_eq_true rfl) zc_1 rfl ?_
        refine zx_goto (tgt := 26) d_Main_readStream_104 rfl ?_
        refine zx_locs [0, 1, 2, 3, 4] rfl ?_
        exact k
      · have k := k.2 c
        refine zx_iload d_Main_readStream_66 rfl ?_
        exact zi_iret d_Main_readStream_68 rfl k
set_option maxRecDepth 20000 in
theorem r_Main_readTotal_0 (l : Launch) (d : Nat) {K : zx_Kt} {RJ : zx_RJ} {Q : zi_Q} {I : zi_I} (o0 : Nat) (x1 : Int32) (q1 : (K.2 o0).1 = 5) {r2 : Nat} (e3 : RJ.1 o0 3 = r2) (z4 : r2 ≠ 0) (q5 : (K.2 r2).1 = 7)
    (k : zi_C l (zx_rm d 0 0) M_BitReader_takeNumber [.ref r2, .int 16] K RJ I (fun r I6 => ∃ v7, r = some (.int v7) ∧ ((v7 = x1) → zi_C l (zx_rm d 0 0) M_BitReader_skipToByte [.ref r2] K RJ I6 (fun r I8 => r = none ∧ Q (some (.int 0)) I8)) ∧ ((¬ v7 = x1) → ((0 ≤ v7) → Q (some (.int ((-15)))) I6) ∧ ((¬ 0 ≤ v7) → Q (some (.int v7)) I6)))) :
    zi_X l (zx_rm (d + 1) 0 0) M_Main_readTotal K RJ Q 0 [(0, .ref o0), (1, .int x1)] [] I := by
  refine zx_aload_n d_Main_readTotal_0 rfl ?_
  refine zi_getR f_Main_29 q1 (by decide) e3 z4 d_Main_readTotal_1 ?_
  refine zx_bipush d_Main_readTotal_4 zb_16 ?_
  refine zi_callV (hC := k) k_Main_211 q5 (by decide) rfl rfl (Nat.le_of_ble_eq_true rfl) (Nat.le_of_ble_eq_true rfl) d_Main_readTotal_6 (fun r I6 k => ?_)
  obtain ⟨v7, rfl, k⟩ := k
  refine zx_istore_n (L2 := [(0, .ref o0), (1, .int x1), (2, .int v7)]) d_Main_readTotal_9 (Nat.le_of_ble_eq_true rfl) rfl ?_
  refine zx_iload_n d_Main_readTotal_10 rfl ?_
  refine zx_iload_n d_Main_readTotal_11 rfl ?_
  refine zx_icmp_eq (tgt := 26) d_Main_readTotal_12 rfl (fun c => ?_) (fun c => ?_)
  · have k := k.1 c
    refine zx_aload_n d_Main_readTotal_26 rfl ?_
    refine zi_getR f_Main_29 q1 (by decide) e3 z4 d_Main_readTotal_27 ?_
    refine zi_callV (hC := k) k_Main_219 q5 (by decide) rfl rfl (Nat.le_of_ble_eq_true rfl) (Nat.le_of_ble_eq_true rfl) d_Main_readTotal_30 (fun r I8 k => ?_)
    obtain ⟨rfl, k⟩ := k
    refine zx_iconst d_Main_readTotal_33 zc_0 ?_
    exact zi_iret d_Main_readTotal_34 rfl k
  · have k := k.2 c
    refine zx_iload_n d_Main_readTotal_15 rfl ?_
    refine zx_if_ge (tgt := 23) d_Main_readTotal_16 rfl (fun c => ?_) (fun c => ?_)
    · have k := k.1 c
      refine zx_bipush d_Main_readTotal_23 zb_m15 ?_
      exact zi_iret d_Main_readTotal_25 rfl k
    · have k := k.2 c
      refine zx_iload_n d_Main_readTotal_19 rfl ?_
      refine zx_goto (tgt := 25) d_Main_readTotal_20 rfl ?_
      exact zi_iret d_Main_readTotal_25 rfl k
set_option maxRecDepth 20000 in
theorem r_Main_readHead_0 (l : Launch) (d : Nat) {K : zx_Kt} {RJ : zx_RJ} {Q : zi_Q} {I : zi_I} (o0 : Nat) (q1 : (K.2 o0).1 = 5) {r2 : Nat} (e3 : RJ.1 o0 3 = r2) (z4 : r2 ≠ 0) (q5 : (K.2 r2).1 = 7)
    (k : zi_C l (zx_rm d 0 0) M_BitReader_takeNumber [.ref r2, .int 16] K RJ I (fun r I6 => ∃ v7, r = some (.int v7) ∧ ((v7 = 21314) → zi_C l (zx_rm d 0 0) M_BitReader_takeNumber [.ref r2, .int 8] K RJ I6 (fun r I8 => ∃ v9, r = some (.int v9) ∧ ((v9 = 0) → Q (some (.int ((-3)))) I8) ∧ ((¬ v9 = 0) → ((v9 ≤ 8) → Q (some (.int v9)) I8) ∧ ((¬ v9 ≤ 8) → Q (some (.int ((-3)))) I8)))) ∧ ((¬ v7 = 21314) → ((0 ≤ v7) → Q (some (.int ((-3)))) I6) ∧ ((¬ 0 ≤ v7) → Q (some (.int v7)) I6)))) :
    zi_X l (zx_rm (d + 1) 0 0) M_Main_readHead K RJ Q 0 [(0, .ref o0)] [] I := by
  refine zx_aload_n d_Main_readHead_0 rfl ?_
  refine zi_getR f_Main_29 q1 (by decide) e3 z4 d_Main_readHead_1 ?_
  refine zx_bipush d_Main_readHead_4 zb_16 ?_
  refine zi_callV (hC := k) k_Main_211 q5 (by decide) rfl rfl (Nat.le_of_ble_eq_true rfl) (Nat.le_of_ble_eq_true rfl) d_Main_readHead_6 (fun r I6 k => ?_)
  obtain ⟨v7, rfl, k⟩ := k
  refine zx_istore_n (L2 := [(0, .ref o0), (1, .int v7)]) d_Main_readHead_9 (Nat.le_of_ble_eq_true rfl) rfl ?_
  refine zx_iload_n d_Main_readHead_10 rfl ?_
  refine zx_sipush d_Main_readHead_11 zs_21314 ?_
  refine zx_icmp_eq (tgt := 28) d_Main_readHead_14 rfl (fun c => ?_) (fun c => ?_)
  · have k := k.1 c
    refine zx_aload_n d_Main_readHead_28 rfl ?_
    refine zi_getR f_Main_29 q1 (by decide) e3 z4 d_Main_readHead_29 ?_
    refine zx_bipush d_Main_readHead_32 zb_8 ?_
    refine zi_callV (hC := k) k_Main_211 q5 (by decide) rfl rfl (Nat.le_of_ble_eq_true rfl) (Nat.le_of_ble_eq_true rfl) d_Main_readHead_34 (fun r I8 k => ?_)
    obtain ⟨v9, rfl, k⟩ := k
    refine zx_istore_n (L2 := [(0, .ref o0), (1, .int v7), (2, .int v9)]) d_Main_readHead_37 (Nat.le_of_ble_eq_true rfl) rfl ?_
    refine zx_iload_n d_Main_readHead_38 rfl ?_
    refine zx_if_eq (tgt := 48) d_Main_readHead_39 rfl (fun c => ?_) (fun c => ?_)
    · have k := k.1 c
      refine zx_bipush d_Main_readHead_48 zb_m3 ?_
      exact zi_iret d_Main_readHead_50 rfl k
    · have k := k.2 c
      refine zx_iload_n d_Main_readHead_42 rfl ?_
      refine zx_bipush d_Main_readHead_43 zb_8 ?_
      refine zx_icmp_le (tgt := 51) d_Main_readHead_45 rfl (fun c => ?_) (fun c => ?_)
      · have k := k.1 c
        refine zx_iload_n d_Main_readHead_51 rfl ?_
        exact zi_iret d_Main_readHead_52 rfl k
      · have k := k.2 c
        refine zx_bipush d_Main_readHead_48 zb_m3 ?_
        exact zi_iret d_Main_readHead_50 rfl k
  · have k := k.2 c
    refine zx_iload_n d_Main_readHead_17 rfl ?_
    refine zx_if_ge (tgt := 25) d_Main_readHead_18 rfl (fun c => ?_) (fun c => ?_)
    · have k := k.1 c
      refine zx_bipush d_Main_readHead_25 zb_m3 ?_
      exact zi_iret d_Main_readHead_27 rfl k
    · have k := k.2 c
      refine zx_iload_n d_Main_readHead_21 rfl ?_
      refine zx_goto (tgt := 27) d_Main_readHead_22 rfl ?_
      exact zi_iret d_Main_readHead_27 rfl k
set_option maxRecDepth 20000 in
theorem r_Main_takeFresh_0 (l : Launch) (d : Nat) {K : zx_Kt} {RJ : zx_RJ} {Q : zi_Q} {I : zi_I} (o0 : Nat) (q1 : (K.2 o0).1 = 5) {r2 : Nat} (e3 : RJ.1 o0 1 = r2) (z4 : r2 ≠ 0) (q5 : (K.2 r2).1 = 16) {r7 : Nat} (e8 : RJ.1 o0 2 = r7) (z9 : r7 ≠ 0)
    (k : zi_C l (zx_rm d 0 0) M_Row_cut [.ref r2, .int 0] K RJ I (fun r I6 => r = none ∧ zi_C l (zx_rm d 0 0) M_Row_addAll [.ref r2, .ref r7] K RJ I6 (fun r I10 => r = none ∧ Q none I10))) :
    zi_X l (zx_rm (d + 1) 0 0) M_Main_takeFresh K RJ Q 0 [(0, .ref o0)] [] I := by
  refine zx_aload_n d_Main_takeFresh_0 rfl ?_
  refine zi_getR f_Main_18 q1 (by decide) e3 z4 d_Main_takeFresh_1 ?_
  refine zx_iconst d_Main_takeFresh_4 zc_0 ?_
  refine zi_callV (hC := k) k_Main_100 q5 (by decide) rfl rfl (Nat.le_of_ble_eq_true rfl) (Nat.le_of_ble_eq_true rfl) d_Main_takeFresh_5 (fun r I6 k => ?_)
  obtain ⟨rfl, k⟩ := k
  refine zx_aload_n d_Main_takeFresh_8 rfl ?_
  refine zi_getR f_Main_18 q1 (by decide) e3 z4 d_Main_takeFresh_9 ?_
  refine zx_aload_n d_Main_takeFresh_12 rfl ?_
  refine zi_getR f_Main_21 q1 (by decide) e8 z9 d_Main_takeFresh_13 ?_
  refine zi_callV (hC := k) k_Main_111 q5 (by decide) rfl rfl (Nat.le_of_ble_eq_true rfl) (Nat.le_of_ble_eq_true rfl) d_Main_takeFresh_16 (fun r I10 k => ?_)
  obtain ⟨rfl, k⟩ := k
  exact zi_vret d_Main_takeFresh_19 rfl k
set_option maxRecDepth 20000 in
theorem r_Main_nextTotal_0 (l : Launch) (d : Nat) {K : zx_Kt} {RJ : zx_RJ} {Q : zi_Q} {I : zi_I} (x0 : Int32) (x1 : Int32) 
    (k : Q (some (.int (((((x0 : Int32) <<< ((1 : Int32) &&& 31)) ||| (((x0 : Int32).toUInt32 >>> ((15 : Int32).toUInt32 &&& Int32.toUInt32 31)).toInt32)) &&& 65535) ^^^ x1))) I) :
    zi_X l (zx_rm d 0 0) M_Main_nextTotal K RJ Q 0 [(0, .int x0), (1, .int x1)] [] I := by
  refine zx_iload_n d_Main_nextTotal_0 rfl ?_
  refine zx_iconst d_Main_nextTotal_1 zc_1 ?_
  refine zx_ishl d_Main_nextTotal_2 ?_
  refine zx_iload_n d_Main_nextTotal_3 rfl ?_
  refine zx_bipush d_Main_nextTotal_4 zb_15 ?_
  refine zx_iushr d_Main_nextTotal_6 ?_
  refine zx_ior d_Main_nextTotal_7 ?_
  refine zx_ldc w_Main_222 d_Main_nextTotal_8 ?_
  refine zx_iand d_Main_nextTotal_10 ?_
  refine zx_iload_n d_Main_nextTotal_11 rfl ?_
  refine zx_ixor d_Main_nextTotal_12 ?_
  exact zi_iret d_Main_nextTotal_13 rfl k
set_option maxRecDepth 20000 in
theorem r_Main_mapBit_0 (l : Launch) (d : Nat) {K : zx_Kt} {RJ : zx_RJ} {Q : zi_Q} {I : zi_I} (x0 : Int32) 
    (k : Q (some (.int ((1 : Int32) <<< (((15 - x0) : Int32) &&& 31)))) I) :
    zi_X l (zx_rm d 0 0) M_Main_mapBit K RJ Q 0 [(0, .int x0)] [] I := by
  refine zx_iconst d_Main_mapBit_0 zc_1 ?_
  refine zx_bipush d_Main_mapBit_1 zb_15 ?_
  refine zx_iload_n d_Main_mapBit_3 rfl ?_
  refine zx_isub d_Main_mapBit_4 ?_
  refine zx_ishl d_Main_mapBit_5 ?_
  exact zi_iret d_Main_mapBit_6 rfl k
set_option maxRecDepth 20000 in
theorem r_Main_checkOf_0 (l : Launch) (d : Nat) {K : zx_Kt} {RJ : zx_RJ} {Q : zi_Q} {I : zi_I} (o0 : Nat) (x1 : Int32) (x2 : Int32) 
    (k : zi_X l (zx_rm (d + 1) 0 0) M_Main_checkOf K RJ Q 6 [(0, .ref o0), (1, .int x1), (2, .int x2), (3, .int 65535), (4, .int x1)] [] I) :
    zi_X l (zx_rm (d + 1) 0 0) M_Main_checkOf K RJ Q 0 [(0, .ref o0), (1, .int x1), (2, .int x2)] [] I := by
  refine zx_ldc w_Main_222 d_Main_checkOf_0 ?_
  refine zx_istore_n (L2 := [(0, .ref o0), (1, .int x1), (2, .int x2), (3, .int 65535)]) d_Main_checkOf_2 (Nat.le_of_ble_eq_true rfl) rfl ?_
  refine zx_iload_n d_Main_checkOf_3 rfl ?_
  refine zx_istore (L2 := [(0, .ref o0), (1, .int x1), (2, .int x2), (3, .int 65535), (4, .int x1)]) d_Main_checkOf_4 (Nat.le_of_ble_eq_true rfl) rfl ?_
  exact k
set_option maxRecDepth 20000 in
theorem r_Main_checkOf_6 (l : Launch) (d : Nat) {K : zx_Kt} {RJ : zx_RJ} {Q : zi_Q} {I : zi_I} (o0 : Nat) (x1 : Int32) (x2 : Int32) (x3 : Int32) (x4 : Int32) (q1 : (K.2 o0).1 = 16)
    (k : ((x2 ≤ x4) → Q (some (.int x3)) I) ∧ ((¬ x2 ≤ x4) → zi_C l (zx_rm d 0 0) M_Row_get [.ref o0, .int x4] K RJ I (fun r I2 => ∃ v3, r = some (.int v3) ∧ zi_X l (zx_rm (d + 1) 0 0) M_Main_checkOf K RJ Q 27 [(0, .ref o0), (1, .int x1), (2, .int x2), (3, .int (x3 ^^^ ((v3 : Int32) <<< ((8 : Int32) &&& 31)))), (4, .int x4), (5, .int 0)] [] I2))) :
    zi_X l (zx_rm (d + 1) 0 0) M_Main_checkOf K RJ Q 6 [(0, .ref o0), (1, .int x1), (2, .int x2), (3, .int x3), (4, .int x4)] [] I := by
  refine zx_iload d_Main_checkOf_6 rfl ?_
  refine zx_iload_n d_Main_checkOf_8 rfl ?_
  refine zx_icmp_ge (tgt := 65) d_Main_checkOf_9 rfl (fun c => ?_) (fun c => ?_)
  · have k := k.1 c
    refine zx_iload_n d_Main_checkOf_65 rfl ?_
    exact zi_iret d_Main_checkOf_66 rfl k
  · have k := k.2 c
    refine zx_iload_n d_Main_checkOf_12 rfl ?_
    refine zx_aload_n d_Main_checkOf_13 rfl ?_
    refine zx_iload d_Main_checkOf_14 rfl ?_
    refine zi_callV (hC := k) k_Main_174 q1 (by decide) rfl rfl (Nat.le_of_ble_eq_true rfl) (Nat.le_of_ble_eq_true rfl) d_Main_checkOf_16 (fun r I2 k => ?_)
    obtain ⟨v3, rfl, k⟩ := k
    refine zx_bipush d_Main_checkOf_19 zb_8 ?_
    refine zx_ishl d_Main_checkOf_21 ?_
    refine zx_ixor d_Main_checkOf_22 ?_
    refine zx_istore_n (L2 := [(0, .ref o0), (1, .int x1), (2, .int x2), (3, .int (x3 ^^^ ((v3 : Int32) <<< ((8 : Int32) &&& 31)))), (4, .int x4)]) d_Main_checkOf_23 (Nat.le_of_ble_eq_true rfl) rfl ?_
    refine zx_iconst d_Main_checkOf_24 zc_0 ?_
    refine zx_istore (L2 := [(0, .ref o0), (1, .int x1), (2, .int x2), (3, .int (x3 ^^^ ((v3 : Int32) <<< ((8 : Int32) &&& 31)))), (4, .int x4), (5, .int 0)]) d_Main_checkOf_25 (Nat.le_of_ble_eq_true rfl) rfl ?_
    exact k
set_option maxRecDepth 20000 in
theorem r_Main_checkOf_27 (l : Launch) (d : Nat) {K : zx_Kt} {RJ : zx_RJ} {Q : zi_Q} {I : zi_I} (o0 : Nat) (x1 : Int32) (x2 : Int32) (x3 : Int32) (x4 : Int32) (x5 : Int32) 
    (k : ((8 ≤ x5) → zi_X l (zx_rm (d + 1) 0 0) M_Main_checkOf K RJ Q 6 [(0, .ref o0), (1, .int x1), (2, .int x2), (3, .int x3), (4, .int (x4 + 1))] [] I) ∧ ((¬ 8 ≤ x5) → ((((x3 : Int32) <<< ((1 : Int32) &&& 31)) ≤ 65535) → zi_X l (zx_rm (d + 1) 0 0) M_Main_checkOf K RJ Q 27 [(0, .ref o0), (1, .int x1), (2, .int x2), (3, .int ((x3 : Int32) <<< ((1 : Int32) &&& 31))), (4, .int x4), (5, .int (x5 + 1))] [] I) ∧ ((¬ ((x3 : Int32) <<< ((1 : Int32) &&& 31)) ≤ 65535) → zi_X l (zx_rm (d + 1) 0 0) M_Main_checkOf K RJ Q 27 [(0, .ref o0), (1, .int x1), (2, .int x2), (3, .int ((((x3 : Int32) <<< ((1 : Int32) &&& 31)) &&& 65535) ^^^ 4129)), (4, .int x4), (5, .int (x5 + 1))] [] I))) :
    zi_X l (zx_rm (d + 1) 0 0) M_Main_checkOf K RJ Q 27 [(0, .ref o0), (1, .int x1), (2, .int x2), (3, .int x3), (4, .int x4), (5, .int x5)] [] I := by
  refine zx_iload d_Main_checkOf_27 rfl ?_
  refine zx_bipush d_Main_checkOf_29 zb_8 ?_
  refine zx_icmp_ge (tgt := 59) d_Main_checkOf_31 rfl (fun c => ?_) (fun c => ?_)
  · have k := k.1 c
    refine zx_iinc (L2 := [(0, .ref o0), (1, .int x1), (2, .int x2), (3, .int x3), (4, .int (x4 + 1)), (5, .int x5)]) d_Main_checkOf_59 rfl (Nat.le_of_ble_eq_true rfl) zc_1 rfl ?_
    refine zx_goto (tgt := 6) d_Main_checkOf_62 rfl ?_
    refine zx_locs [0, 1, 2, 3, 4] rfl ?_
    exact k
  · have k := k.2 c
    refine zx_iload_n d_Main_checkOf_34 rfl ?_
    refine zx_iconst d_Main_checkOf_35 zc_1 ?_
    refine zx_ishl d_Main_checkOf_36 ?_
    refine zx_istore_n (L2 := [(0, .ref o0), (1, .int x1), (2, .int x2), (3, .int ((x3 : Int32) <<< ((1 : Int32) &&& 31))), (4, .int x4), (5, .int x5)]) d_Main_checkOf_37 (Nat.le_of_ble_eq_true rfl) rfl ?_
    refine zx_iload_n d_Main_checkOf_38 rfl ?_
    refine zx_ldc w_Main_222 d_Main_checkOf_39 ?_
    refine zx_icmp_le (tgt := 53) d_Main_checkOf_41 rfl (fun c => ?_) (fun c => ?_)
    · have k := k.1 c
      refine zx_iinc (L2 := [(0, .ref o0), (1, .int x1), (2, .int x2), (3, .int ((x3 : Int32) <<< ((1 : Int32) &&& 31))), (4, .int x4), (5, .int (x5 + 1))]) d_Main_checkOf_53 rfl (Nat.le_of_ble_eq_true rfl) zc_1 rfl ?_
      refine zx_goto (tgt := 27) d_Main_checkOf_56 rfl ?_
      exact k
    · have k := k.2 c
      refine zx_iload_n d_Main_checkOf_44 rfl ?_
      refine zx_ldc w_Main_222 d_Main_checkOf_45 ?_
      refine zx_iand d_Main_checkOf_47 ?_
      refine zx_sipush d_Main_checkOf_48 zs_4129 ?_
      refine zx_ixor d_Main_checkOf_51 ?_
      refine zx_istore_n (L2 := [(0, .ref o0), (1, .int x1), (2, .int x2), (3, .int ((((x3 : Int32) <<< ((1 : Int32) &&& 31)) &&& 65535) ^^^ 4129)), (4, .int x4), (5, .int x5)]) d_Main_checkOf_52 (Nat.le_of_ble_eq_true rfl) rfl ?_
      refine zx_iinc (L2 := [(0, .ref o0), (1, .int x1), (2, .int x2), (3, .int ((((x3 : Int32) <<< ((1 : Int32) &&& 31)) &&& 65535) ^^^ 4129)), (4, .int x4), (5, .int (x5 + 1))]) d_Main_checkOf_53 rfl (Nat.le_of_ble_eq_true rfl) zc_1 rfl ?_
      refine zx_goto (tgt := 27) d_Main_checkOf_56 rfl ?_
      exact k
set_option maxRecDepth 20000 in
theorem r_BlockReader_readBlock_0 (l : Launch) (d : Nat) {K : zx_Kt} {RJ : zx_RJ} {Q : zi_Q} {I : zi_I} (o0 : Nat) (o1 : Nat) (x2 : Int32) (o3 : Nat) (q1 : (K.2 o0).1 = 11) {r2 : Nat} (e3 : RJ.1 o0 0 = r2) (z4 : r2 ≠ 0) (q5 : (K.2 r2).1 = 7) (q6 : (K.2 o3).1 = 16)
    (k : zi_C l (zx_rm d 0 0) M_BlockReader_readNumbers [.ref o0, .ref o1] K RJ I (fun r I7 => ∃ v8, r = some (.int v8) ∧ ((¬ v8 = 0) → zi_X l (zx_rm (d + 1) 0 0) M_BlockReader_readBlock K RJ Q 37 [(0, .ref o0), (1, .ref o1), (2, .int x2), (3, .ref o3), (4, .int (I r2 1)), (5, .int (I o3 1)), (6, .int v8)] [.int v8] I7) ∧ ((v8 = 0) → zi_C l (zx_rm d 0 0) M_BlockReader_readMap [.ref o0, .ref o1] K RJ I7 (fun r I9 => ∃ v10, r = some (.int v10) ∧ zi_X l (zx_rm (d + 1) 0 0) M_BlockReader_readBlock K RJ Q 37 [(0, .ref o0), (1, .ref o1), (2, .int x2), (3, .ref o3), (4, .int (I r2 1)), (5, .int (I o3 1)), (6, .int v8)] [.int v10] I9)))) :
    zi_X l (zx_rm (d + 1) 0 0) M_BlockReader_readBlock K RJ Q 0 [(0, .ref o0), (1, .ref o1), (2, .int x2), (3, .ref o3)] [] I := by
  refine zx_aload_n d_BlockReader_readBlock_0 rfl ?_
  refine zi_getR f_BlockReader_35 q1 (by decide) e3 z4 d_BlockReader_readBlock_1 ?_
  refine zi_getI f_BlockReader_42 q5 (by decide) d_BlockReader_readBlock_4 ?_
  refine zx_istore (L2 := [(0, .ref o0), (1, .ref o1), (2, .int x2), (3, .ref o3), (4, .int (I r2 1))]) d_BlockReader_readBlock_7 (Nat.le_of_ble_eq_true rfl) rfl ?_
  refine zx_aload_n d_BlockReader_readBlock_9 rfl ?_
  refine zi_getI f_BlockReader_47 q6 (by decide) d_BlockReader_readBlock_10 ?_
  refine zx_istore (L2 := [(0, .ref o0), (1, .ref o1), (2, .int x2), (3, .ref o3), (4, .int (I r2 1)), (5, .int (I o3 1))]) d_BlockReader_readBlock_13 (Nat.le_of_ble_eq_true rfl) rfl ?_
  refine zx_aload_n d_BlockReader_readBlock_15 rfl ?_
  refine zx_aload_n d_BlockReader_readBlock_16 rfl ?_
  refine zi_callV (hC := k) k_BlockReader_52 q1 (by decide) rfl rfl (Nat.le_of_ble_eq_true rfl) (Nat.le_of_ble_eq_true rfl) d_BlockReader_readBlock_17 (fun r I7 k => ?_)
  obtain ⟨v8, rfl, k⟩ := k
  refine zx_istore (L2 := [(0, .ref o0), (1, .ref o1), (2, .int x2), (3, .ref o3), (4, .int (I r2 1)), (5, .int (I o3 1)), (6, .int v8)]) d_BlockReader_readBlock_20 (Nat.le_of_ble_eq_true rfl) rfl ?_
  refine zx_iload d_BlockReader_readBlock_22 rfl ?_
  refine zx_if_ne (tgt := 35) d_BlockReader_readBlock_24 rfl (fun c => ?_) (fun c => ?_)
  · have k := k.1 c
    refine zx_iload d_BlockReader_readBlock_35 rfl ?_
    exact k
  · have k := k.2 c
    refine zx_aload_n d_BlockReader_readBlock_27 rfl ?_
    refine zx_aload_n d_BlockReader_readBlock_28 rfl ?_
    refine zi_callV (hC := k) k_BlockReader_56 q1 (by decide) rfl rfl (Nat.le_of_ble_eq_true rfl) (Nat.le_of_ble_eq_true rfl) d_BlockReader_readBlock_29 (fun r I9 k => ?_)
    obtain ⟨v10, rfl, k⟩ := k
    refine zx_goto (tgt := 37) d_BlockReader_readBlock_32 rfl ?_
    exact k
set_option maxRecDepth 20000 in
theorem r_BlockReader_readBlock_37 (l : Launch) (d : Nat) {K : zx_Kt} {RJ : zx_RJ} {Q : zi_Q} {I : zi_I} (o0 : Nat) (o1 : Nat) (x2 : Int32) (o3 : Nat) (x4 : Int32) (x5 : Int32) (x6 : Int32) (y0 : Int32) (q1 : (K.2 o0).1 = 11)
    (k : ((¬ y0 = 0) → zi_X l (zx_rm (d + 1) 0 0) M_BlockReader_readBlock K RJ Q 54 [(0, .ref o0), (1, .ref o1), (2, .int x2), (3, .ref o3), (4, .int x4), (5, .int x5), (6, .int y0)] [.int y0] I) ∧ ((y0 = 0) → zi_C l (zx_rm d 0 0) M_BlockReader_readCounts [.ref o0, .ref o1] K RJ I (fun r I2 => ∃ v3, r = some (.int v3) ∧ zi_X l (zx_rm (d + 1) 0 0) M_BlockReader_readBlock K RJ Q 54 [(0, .ref o0), (1, .ref o1), (2, .int x2), (3, .ref o3), (4, .int x4), (5, .int x5), (6, .int y0)] [.int v3] I2))) :
    zi_X l (zx_rm (d + 1) 0 0) M_BlockReader_readBlock K RJ Q 37 [(0, .ref o0), (1, .ref o1), (2, .int x2), (3, .ref o3), (4, .int x4), (5, .int x5), (6, .int x6)] [.int y0] I := by
  refine zx_istore (L2 := [(0, .ref o0), (1, .ref o1), (2, .int x2), (3, .ref o3), (4, .int x4), (5, .int x5), (6, .int y0)]) d_BlockReader_readBlock_37 (Nat.le_of_ble_eq_true rfl) rfl ?_
  refine zx_iload d_BlockReader_readBlock_39 rfl ?_
  refine zx_if_ne (tgt := 52) d_BlockReader_readBlock_41 rfl (fun c => ?_) (fun c => ?_)
  · have k := k.1 c
    refine zx_iload d_BlockReader_readBlock_52 rfl ?_
    exact k
  · have k := k.2 c
    refine zx_aload_n d_BlockReader_readBlock_44 rfl ?_
    refine zx_aload_n d_BlockReader_readBlock_45 rfl ?_
    refine zi_callV (hC := k) k_BlockReader_59 q1 (by decide) rfl rfl (Nat.le_of_ble_eq_true rfl) (Nat.le_of_ble_eq_true rfl) d_BlockReader_readBlock_46 (fun r I2 k => ?_)
    obtain ⟨v3, rfl, k⟩ := k
    refine zx_goto (tgt := 54) d_BlockReader_readBlock_49 rfl ?_
    exact k
set_option maxRecDepth 20000 in
theorem r_BlockReader_readBlock_54 (l : Launch) (d : Nat) {K : zx_Kt} {RJ : zx_RJ} {Q : zi_Q} {I : zi_I} (o0 : Nat) (o1 : Nat) (x2 : Int32) (o3 : Nat) (x4 : Int32) (x5 : Int32) (x6 : Int32) (y0 : Int32) (q1 : (K.2 o0).1 = 11)
    (k : ((¬ y0 = 0) → zi_X l (zx_rm (d + 1) 0 0) M_BlockReader_readBlock K RJ Q 71 [(0, .ref o0), (1, .ref o1), (2, .int x2), (3, .ref o3), (4, .int x4), (5, .int x5), (6, .int y0)] [.int y0] I) ∧ ((y0 = 0) → zi_C l (zx_rm d 0 0) M_BlockReader_readPicks [.ref o0, .ref o1] K RJ I (fun r I2 => ∃ v3, r = some (.int v3) ∧ zi_X l (zx_rm (d + 1) 0 0) M_BlockReader_readBlock K RJ Q 71 [(0, .ref o0), (1, .ref o1), (2, .int x2), (3, .ref o3), (4, .int x4), (5, .int x5), (6, .int y0)] [.int v3] I2))) :
    zi_X l (zx_rm (d + 1) 0 0) M_BlockReader_readBlock K RJ Q 54 [(0, .ref o0), (1, .ref o1), (2, .int x2), (3, .ref o3), (4, .int x4), (5, .int x5), (6, .int x6)] [.int y0] I := by
  refine zx_istore (L2 := [(0, .ref o0), (1, .ref o1), (2, .int x2), (3, .ref o3), (4, .int x4), (5, .int x5), (6, .int y0)]) d_BlockReader_readBlock_54 (Nat.le_of_ble_eq_true rfl) rfl ?_
  refine zx_iload d_BlockReader_readBlock_56 rfl ?_
  refine zx_if_ne (tgt := 69) d_BlockReader_readBlock_58 rfl (fun c => ?_) (fun c => ?_)
  · have k := k.1 c
    refine zx_iload d_BlockReader_readBlock_69 rfl ?_
    exact k
  · have k := k.2 c
    refine zx_aload_n d_BlockReader_readBlock_61 rfl ?_
    refine zx_aload_n d_BlockReader_readBlock_62 rfl ?_
    refine zi_callV (hC := k) k_BlockReader_62 q1 (by decide) rfl rfl (Nat.le_of_ble_eq_true rfl) (Nat.le_of_ble_eq_true rfl) d_BlockReader_readBlock_63 (fun r I2 k => ?_)
    obtain ⟨v3, rfl, k⟩ := k
    refine zx_goto (tgt := 71) d_BlockReader_readBlock_66 rfl ?_
    exact k
set_option maxRecDepth 20000 in
theorem r_BlockReader_readBlock_71 (l : Launch) (d : Nat) {K : zx_Kt} {RJ : zx_RJ} {Q : zi_Q} {I : zi_I} (o0 : Nat) (o1 : Nat) (x2 : Int32) (o3 : Nat) (x4 : Int32) (x5 : Int32) (x6 : Int32) (y0 : Int32) (q1 : (K.2 o0).1 = 11)
    (k : ((¬ y0 = 0) → zi_X l (zx_rm (d + 1) 0 0) M_BlockReader_readBlock K RJ Q 88 [(0, .ref o0), (1, .ref o1), (2, .int x2), (3, .ref o3), (4, .int x4), (5, .int x5), (6, .int y0)] [.int y0] I) ∧ ((y0 = 0) → zi_C l (zx_rm d 0 0) M_BlockReader_readTables [.ref o0, .ref o1] K RJ I (fun r I2 => ∃ v3, r = some (.int v3) ∧ zi_X l (zx_rm (d + 1) 0 0) M_BlockReader_readBlock K RJ Q 88 [(0, .ref o0), (1, .ref o1), (2, .int x2), (3, .ref o3), (4, .int x4), (5, .int x5), (6, .int y0)] [.int v3] I2))) :
    zi_X l (zx_rm (d + 1) 0 0) M_BlockReader_readBlock K RJ Q 71 [(0, .ref o0), (1, .ref o1), (2, .int x2), (3, .ref o3), (4, .int x4), (5, .int x5), (6, .int x6)] [.int y0] I := by
  refine zx_istore (L2 := [(0, .ref o0), (1, .ref o1), (2, .int x2), (3, .ref o3), (4, .int x4), (5, .int x5), (6, .int y0)]) d_BlockReader_readBlock_71 (Nat.le_of_ble_eq_true rfl) rfl ?_
  refine zx_iload d_BlockReader_readBlock_73 rfl ?_
  refine zx_if_ne (tgt := 86) d_BlockReader_readBlock_75 rfl (fun c => ?_) (fun c => ?_)
  · have k := k.1 c
    refine zx_iload d_BlockReader_readBlock_86 rfl ?_
    exact k
  · have k := k.2 c
    refine zx_aload_n d_BlockReader_readBlock_78 rfl ?_
    refine zx_aload_n d_BlockReader_readBlock_79 rfl ?_
    refine zi_callV (hC := k) k_BlockReader_65 q1 (by decide) rfl rfl (Nat.le_of_ble_eq_true rfl) (Nat.le_of_ble_eq_true rfl) d_BlockReader_readBlock_80 (fun r I2 k => ?_)
    obtain ⟨v3, rfl, k⟩ := k
    refine zx_goto (tgt := 88) d_BlockReader_readBlock_83 rfl ?_
    exact k
set_option maxRecDepth 20000 in
theorem r_BlockReader_readBlock_88 (l : Launch) (d : Nat) {K : zx_Kt} {RJ : zx_RJ} {Q : zi_Q} {I : zi_I} (o0 : Nat) (o1 : Nat) (x2 : Int32) (o3 : Nat) (x4 : Int32) (x5 : Int32) (x6 : Int32) (y0 : Int32) (q1 : (K.2 o0).1 = 11)
    (k : ((¬ y0 = 0) → zi_X l (zx_rm (d + 1) 0 0) M_BlockReader_readBlock K RJ Q 106 [(0, .ref o0), (1, .ref o1), (2, .int x2), (3, .ref o3), (4, .int x4), (5, .int x5), (6, .int y0)] [.int y0] I) ∧ ((y0 = 0) → zi_C l (zx_rm d 0 0) M_BlockReader_readSymbols [.ref o0, .ref o1, .int x2] K RJ I (fun r I2 => ∃ v3, r = some (.int v3) ∧ zi_X l (zx_rm (d + 1) 0 0) M_BlockReader_readBlock K RJ Q 106 [(0, .ref o0), (1, .ref o1), (2, .int x2), (3, .ref o3), (4, .int x4), (5, .int x5), (6, .int y0)] [.int v3] I2))) :
    zi_X l (zx_rm (d + 1) 0 0) M_BlockReader_readBlock K RJ Q 88 [(0, .ref o0), (1, .ref o1), (2, .int x2), (3, .ref o3), (4, .int x4), (5, .int x5), (6, .int x6)] [.int y0] I := by
  refine zx_istore (L2 := [(0, .ref o0), (1, .ref o1), (2, .int x2), (3, .ref o3), (4, .int x4), (5, .int x5), (6, .int y0)]) d_BlockReader_readBlock_88 (Nat.le_of_ble_eq_true rfl) rfl ?_
  refine zx_iload d_BlockReader_readBlock_90 rfl ?_
  refine zx_if_ne (tgt := 104) d_BlockReader_readBlock_92 rfl (fun c => ?_) (fun c => ?_)
  · have k := k.1 c
    refine zx_iload d_BlockReader_readBlock_104 rfl ?_
    exact k
  · have k := k.2 c
    refine zx_aload_n d_BlockReader_readBlock_95 rfl ?_
    refine zx_aload_n d_BlockReader_readBlock_96 rfl ?_
    refine zx_iload_n d_BlockReader_readBlock_97 rfl ?_
    refine zi_callV (hC := k) k_BlockReader_68 q1 (by decide) rfl rfl (Nat.le_of_ble_eq_true rfl) (Nat.le_of_ble_eq_true rfl) d_BlockReader_readBlock_98 (fun r I2 k => ?_)
    obtain ⟨v3, rfl, k⟩ := k
    refine zx_goto (tgt := 106) d_BlockReader_readBlock_101 rfl ?_
    exact k
set_option maxRecDepth 20000 in
theorem r_BlockReader_readBlock_106 (l : Launch) (d : Nat) {K : zx_Kt} {RJ : zx_RJ} {Q : zi_Q} {I : zi_I} (o0 : Nat) (o1 : Nat) (x2 : Int32) (o3 : Nat) (x4 : Int32) (x5 : Int32) (x6 : Int32) (y0 : Int32) (q1 : (K.2 o0).1 = 11)
    (k : ((¬ y0 = 0) → zi_X l (zx_rm (d + 1) 0 0) M_BlockReader_readBlock K RJ Q 123 [(0, .ref o0), (1, .ref o1), (2, .int x2), (3, .ref o3), (4, .int x4), (5, .int x5), (6, .int y0)] [.int y0] I) ∧ ((y0 = 0) → zi_C l (zx_rm d 0 0) M_BlockReader_unsort [.ref o0, .ref o1] K RJ I (fun r I2 => ∃ v3, r = some (.int v3) ∧ zi_X l (zx_rm (d + 1) 0 0) M_BlockReader_readBlock K RJ Q 123 [(0, .ref o0), (1, .ref o1), (2, .int x2), (3, .ref o3), (4, .int x4), (5, .int x5), (6, .int y0)] [.int v3] I2))) :
    zi_X l (zx_rm (d + 1) 0 0) M_BlockReader_readBlock K RJ Q 106 [(0, .ref o0), (1, .ref o1), (2, .int x2), (3, .ref o3), (4, .int x4), (5, .int x5), (6, .int x6)] [.int y0] I := by
  refine zx_istore (L2 := [(0, .ref o0), (1, .ref o1), (2, .int x2), (3, .ref o3), (4, .int x4), (5, .int x5), (6, .int y0)]) d_BlockReader_readBlock_106 (Nat.le_of_ble_eq_true rfl) rfl ?_
  refine zx_iload d_BlockReader_readBlock_108 rfl ?_
  refine zx_if_ne (tgt := 121) d_BlockReader_readBlock_110 rfl (fun c => ?_) (fun c => ?_)
  · have k := k.1 c
    refine zx_iload d_BlockReader_readBlock_121 rfl ?_
    exact k
  · have k := k.2 c
    refine zx_aload_n d_BlockReader_readBlock_113 rfl ?_
    refine zx_aload_n d_BlockReader_readBlock_114 rfl ?_
    refine zi_callV (hC := k) k_BlockReader_72 q1 (by decide) rfl rfl (Nat.le_of_ble_eq_true rfl) (Nat.le_of_ble_eq_true rfl) d_BlockReader_readBlock_115 (fun r I2 k => ?_)
    obtain ⟨v3, rfl, k⟩ := k
    refine zx_goto (tgt := 123) d_BlockReader_readBlock_118 rfl ?_
    exact k
set_option maxRecDepth 20000 in
theorem r_BlockReader_readBlock_123 (l : Launch) (d : Nat) {K : zx_Kt} {RJ : zx_RJ} {Q : zi_Q} {I : zi_I} (o0 : Nat) (o1 : Nat) (x2 : Int32) (o3 : Nat) (x4 : Int32) (x5 : Int32) (x6 : Int32) (y0 : Int32) 
    (k : ((¬ y0 = 0) → zi_X l (zx_rm (d + 1) 0 0) M_BlockReader_readBlock K RJ Q 140 [(0, .ref o0), (1, .ref o1), (2, .int x2), (3, .ref o3), (4, .int x4), (5, .int x5), (6, .int y0)] [.int y0] I) ∧ ((y0 = 0) → zi_C l (zx_rm d 0 0) M_BlockReader_lengthen [.ref o1, .ref o3] K RJ I (fun r I1 => ∃ v2, r = some (.int v2) ∧ zi_X l (zx_rm (d + 1) 0 0) M_BlockReader_readBlock K RJ Q 140 [(0, .ref o0), (1, .ref o1), (2, .int x2), (3, .ref o3), (4, .int x4), (5, .int x5), (6, .int y0)] [.int v2] I1))) :
    zi_X l (zx_rm (d + 1) 0 0) M_BlockReader_readBlock K RJ Q 123 [(0, .ref o0), (1, .ref o1), (2, .int x2), (3, .ref o3), (4, .int x4), (5, .int x5), (6, .int x6)] [.int y0] I := by
  refine zx_istore (L2 := [(0, .ref o0), (1, .ref o1), (2, .int x2), (3, .ref o3), (4, .int x4), (5, .int x5), (6, .int y0)]) d_BlockReader_readBlock_123 (Nat.le_of_ble_eq_true rfl) rfl ?_
  refine zx_iload d_BlockReader_readBlock_125 rfl ?_
  refine zx_if_ne (tgt := 138) d_BlockReader_readBlock_127 rfl (fun c => ?_) (fun c => ?_)
  · have k := k.1 c
    refine zx_iload d_BlockReader_readBlock_138 rfl ?_
    exact k
  · have k := k.2 c
    refine zx_aload_n d_BlockReader_readBlock_130 rfl ?_
    refine zx_aload_n d_BlockReader_readBlock_131 rfl ?_
    refine zi_callS (hC := k) k_BlockReader_75 rfl rfl (Nat.le_of_ble_eq_true rfl) (Nat.le_of_ble_eq_true rfl) d_BlockReader_readBlock_132 (fun r I1 k => ?_)
    obtain ⟨v2, rfl, k⟩ := k
    refine zx_goto (tgt := 140) d_BlockReader_readBlock_135 rfl ?_
    exact k
set_option maxRecDepth 20000 in
theorem r_BlockReader_readBlock_140 (l : Launch) (d : Nat) {K : zx_Kt} {RJ : zx_RJ} {Q : zi_Q} {I : zi_I} (o0 : Nat) (o1 : Nat) (x2 : Int32) (o3 : Nat) (x4 : Int32) (x5 : Int32) (x6 : Int32) (y0 : Int32) (q1 : (K.2 o3).1 = 16) (q4 : (K.2 o1).1 = 9) (q5 : (K.2 o0).1 = 11) {r6 : Nat} (e7 : RJ.1 o0 0 = r6) (z8 : r6 ≠ 0) (q9 : (K.2 r6).1 = 7)
    (k : ((¬ y0 = 0) → zi_X l (zx_rm (d + 1) 0 0) M_BlockReader_readBlock K RJ Q 177 [(0, .ref o0), (1, .ref o1), (2, .int x2), (3, .ref o3), (4, .int x4), (5, .int x5), (6, .int y0)] [] I) ∧ ((y0 = 0) → zi_C l (zx_rm d 0 0) M_Main_checkOf [.ref o3, .int x5, .int (I o3 1)] K RJ I (fun r I2 => ∃ v3, r = some (.int v3) ∧ ((v3 = (I2 o1 0)) → zi_X l (zx_rm (d + 1) 0 0) M_BlockReader_readBlock K RJ Q 177 [(0, .ref o0), (1, .ref o1), (2, .int x2), (3, .ref o3), (4, .int x4), (5, .int x5), (6, .int y0)] [] I2) ∧ ((¬ v3 = (I2 o1 0)) → zi_X l (zx_rm (d + 1) 0 0) M_BlockReader_readBlock K RJ Q 177 [(0, .ref o0), (1, .ref o1), (2, .int x2), (3, .ref o3), (4, .int x4), (5, .int x5), (6, .int ((-14)))] [] (zx_u2 I2 r6 2 x4))))) :
    zi_X l (zx_rm (d + 1) 0 0) M_BlockReader_readBlock K RJ Q 140 [(0, .ref o0), (1, .ref o1), (2, .int x2), (3, .ref o3), (4, .int x4), (5, .int x5), (6, .int x6)] [.int y0] I := by
  refine zx_istore (L2 := [(0, .ref o0), (1, .ref o1), (2, .int x2), (3, .ref o3), (4, .int x4), (5, .int x5), (6, .int y0)]) d_BlockReader_readBlock_140 (Nat.le_of_ble_eq_true rfl) rfl ?_
  refine zx_iload d_BlockReader_readBlock_142 rfl ?_
  refine zx_if_ne (tgt := 177) d_BlockReader_readBlock_144 rfl (fun c => ?_) (fun c => ?_)
  · have k := k.1 c
    exact k
  · have k := k.2 c
    refine zx_aload_n d_BlockReader_readBlock_147 rfl ?_
    refine zx_iload d_BlockReader_readBlock_148 rfl ?_
    refine zx_aload_n d_BlockReader_readBlock_150 rfl ?_
    refine zi_getI f_BlockReader_47 q1 (by decide) d_BlockReader_readBlock_151 ?_
    refine zi_callS (hC := k) k_BlockReader_79 rfl rfl (Nat.le_of_ble_eq_true rfl) (Nat.le_of_ble_eq_true rfl) d_BlockReader_readBlock_154 (fun r I2 k => ?_)
    obtain ⟨v3, rfl, k⟩ := k
    refine zx_aload_n d_BlockReader_readBlock_157 rfl ?_
    refine zi_getI f_BlockReader_83 q4 (by decide) d_BlockReader_readBlock_158 ?_
    refine zx_icmp_eq (tgt := 177) d_BlockReader_readBlock_161 rfl (fun c => ?_) (fun c => ?_)
    · have k := k.1 c
      exact k
    · have k := k.2 c
      refine zx_aload_n d_BlockReader_readBlock_164 rfl ?_
      refine zi_getR f_BlockReader_35 q5 (by decide) e7 z8 d_BlockReader_readBlock_165 ?_
      refine zx_iload d_BlockReader_readBlock_168 rfl ?_
      refine zi_putI f_BlockReader_88 q9 (by decide) d_BlockReader_readBlock_170 ?_
      refine zx_bipush d_BlockReader_readBlock_173 zb_m14 ?_
      refine zx_istore (L2 := [(0, .ref o0), (1, .ref o1), (2, .int x2), (3, .ref o3), (4, .int x4), (5, .int x5), (6, .int ((-14)))]) d_BlockReader_readBlock_175 (Nat.le_of_ble_eq_true rfl) rfl ?_
      exact k
set_option maxRecDepth 20000 in
theorem r_BlockReader_readBlock_177 (l : Launch) (d : Nat) {K : zx_Kt} {RJ : zx_RJ} {Q : zi_Q} {I : zi_I} (o0 : Nat) (o1 : Nat) (x2 : Int32) (o3 : Nat) (x4 : Int32) (x5 : Int32) (x6 : Int32) (q1 : (K.2 o3).1 = 16)
    (k : ((x6 = 0) → zi_X l (zx_rm (d + 1) 0 0) M_BlockReader_readBlock K RJ Q 188 [(0, .ref o0), (1, .ref o1), (2, .int x2), (3, .ref o3), (4, .int x4), (5, .int x5), (6, .int x6)] [] I) ∧ ((¬ x6 = 0) → zi_C l (zx_rm d 0 0) M_Row_cut [.ref o3, .int x5] K RJ I (fun r I2 => r = none ∧ zi_X l (zx_rm (d + 1) 0 0) M_BlockReader_readBlock K RJ Q 188 [(0, .ref o0), (1, .ref o1), (2, .int x2), (3, .ref o3), (4, .int x4), (5, .int x5), (6, .int x6)] [] I2))) :
    zi_X l (zx_rm (d + 1) 0 0) M_BlockReader_readBlock K RJ Q 177 [(0, .ref o0), (1, .ref o1), (2, .int x2), (3, .ref o3), (4, .int x4), (5, .int x5), (6, .int x6)] [] I := by
  refine zx_iload d_BlockReader_readBlock_177 rfl ?_
  refine zx_if_eq (tgt := 188) d_BlockReader_readBlock_179 rfl (fun c => ?_) (fun c => ?_)
  · have k := k.1 c
    exact k
  · have k := k.2 c
    refine zx_aload_n d_BlockReader_readBlock_182 rfl ?_
    refine zx_iload d_BlockReader_readBlock_183 rfl ?_
    refine zi_callV (hC := k) k_BlockReader_91 q1 (by decide) rfl rfl (Nat.le_of_ble_eq_true rfl) (Nat.le_of_ble_eq_true rfl) d_BlockReader_readBlock_185 (fun r I2 k => ?_)
    obtain ⟨rfl, k⟩ := k
    exact k
set_option maxRecDepth 20000 in
theorem r_BlockReader_readBlock_188 (l : Launch) (d : Nat) {K : zx_Kt} {RJ : zx_RJ} {Q : zi_Q} {I : zi_I} (o0 : Nat) (o1 : Nat) (x2 : Int32) (o3 : Nat) (x4 : Int32) (x5 : Int32) (x6 : Int32) 
    (k : Q (some (.int x6)) I) :
    zi_X l (zx_rm (d + 1) 0 0) M_BlockReader_readBlock K RJ Q 188 [(0, .ref o0), (1, .ref o1), (2, .int x2), (3, .ref o3), (4, .int x4), (5, .int x5), (6, .int x6)] [] I := by
  refine zx_iload d_BlockReader_readBlock_188 rfl ?_
  exact zi_iret d_BlockReader_readBlock_190 rfl k
set_option maxRecDepth 20000 in
theorem r_BlockReader_readNumbers_0 (l : Launch) (d : Nat) {K : zx_Kt} {RJ : zx_RJ} {Q : zi_Q} {I : zi_I} (o0 : Nat) (o1 : Nat) (q1 : (K.2 o0).1 = 11) {r2 : Nat} (e3 : RJ.1 o0 0 = r2) (z4 : r2 ≠ 0) (q5 : (K.2 r2).1 = 7) (q8 : (K.2 o1).1 = 9)
    (k : zi_C l (zx_rm d 0 0) M_BitReader_takeNumber [.ref r2, .int 16] K RJ I (fun r I6 => ∃ v7, r = some (.int v7) ∧ ((0 ≤ v7) → zi_C l (zx_rm d 0 0) M_BitReader_takeNumber [.ref r2, .int 6] K RJ (zx_u2 I6 o1 0 v7) (fun r I9 => ∃ v10, r = some (.int v10) ∧ ((0 ≤ v10) → Q (some (.int 0)) (zx_u2 I9 o1 1 v10)) ∧ ((¬ 0 ≤ v10) → Q (some (.int v10)) (zx_u2 I9 o1 1 v10)))) ∧ ((¬ 0 ≤ v7) → Q (some (.int v7)) (zx_u2 I6 o1 0 v7)))) :
    zi_X l (zx_rm (d + 1) 0 0) M_BlockReader_readNumbers K RJ Q 0 [(0, .ref o0), (1, .ref o1)] [] I := by
  refine zx_aload_n d_BlockReader_readNumbers_0 rfl ?_
  refine zx_aload_n d_BlockReader_readNumbers_1 rfl ?_
  refine zi_getR f_BlockReader_35 q1 (by decide) e3 z4 d_BlockReader_readNumbers_2 ?_
  refine zx_bipush d_BlockReader_readNumbers_5 zb_16 ?_
  refine zi_callV (hC := k) k_BlockReader_94 q5 (by decide) rfl rfl (Nat.le_of_ble_eq_true rfl) (Nat.le_of_ble_eq_true rfl) d_BlockReader_readNumbers_7 (fun r I6 k => ?_)
  obtain ⟨v7, rfl, k⟩ := k
  refine zi_putI f_BlockReader_83 q8 (by decide) d_BlockReader_readNumbers_10 ?_
  refine zx_aload_n d_BlockReader_readNumbers_13 rfl ?_
  refine zi_getIe f_BlockReader_83 q8 (by decide) zx_u2_s d_BlockReader_readNumbers_14 ?_
  refine zx_if_ge (tgt := 25) d_BlockReader_readNumbers_17 rfl (fun c => ?_) (fun c => ?_)
  · have k := k.1 c
    refine zx_aload_n d_BlockReader_readNumbers_25 rfl ?_
    refine zx_aload_n d_BlockReader_readNumbers_26 rfl ?_
    refine zi_getR f_BlockReader_35 q1 (by decide) e3 z4 d_BlockReader_readNumbers_27 ?_
    refine zx_bipush d_BlockReader_readNumbers_30 zb_6 ?_
    refine zi_callV (hC := k) k_BlockReader_94 q5 (by decide) rfl rfl (Nat.le_of_ble_eq_true rfl) (Nat.le_of_ble_eq_true rfl) d_BlockReader_readNumbers_32 (fun r I9 k => ?_)
    obtain ⟨v10, rfl, k⟩ := k
    refine zi_putI f_BlockReader_98 q8 (by decide) d_BlockReader_readNumbers_35 ?_
    refine zx_aload_n d_BlockReader_readNumbers_38 rfl ?_
    refine zi_getIe f_BlockReader_98 q8 (by decide) zx_u2_s d_BlockReader_readNumbers_39 ?_
    refine zx_if_ge (tgt := 52) d_BlockReader_readNumbers_42 rfl (fun c => ?_) (fun c => ?_)
    · have k := k.1 c
      refine zx_iconst d_BlockReader_readNumbers_52 zc_0 ?_
      exact zi_iret d_BlockReader_readNumbers_53 rfl k
    · have k := k.2 c
      refine zx_aload_n d_BlockReader_readNumbers_45 rfl ?_
      refine zi_getIe f_BlockReader_98 q8 (by decide) zx_u2_s d_BlockReader_readNumbers_46 ?_
      refine zx_goto (tgt := 53) d_BlockReader_readNumbers_49 rfl ?_
      exact zi_iret d_BlockReader_readNumbers_53 rfl k
  · have k := k.2 c
    refine zx_aload_n d_BlockReader_readNumbers_20 rfl ?_
    refine zi_getIe f_BlockReader_83 q8 (by decide) zx_u2_s d_BlockReader_readNumbers_21 ?_
    exact zi_iret d_BlockReader_readNumbers_24 rfl k
set_option maxRecDepth 20000 in
theorem r_BlockReader_readMap_0 (l : Launch) (d : Nat) {K : zx_Kt} {RJ : zx_RJ} {Q : zi_Q} {I : zi_I} (o0 : Nat) (o1 : Nat) (q1 : (K.2 o1).1 = 9) (q2 : (K.2 o0).1 = 11) {r3 : Nat} (e4 : RJ.1 o0 0 = r3) (z5 : r3 ≠ 0) (q6 : (K.2 r3).1 = 7)
    (k : zi_C l (zx_rm d 0 0) M_BitReader_takeNumber [.ref r3, .int 16] K RJ (zx_u2 I o1 5 0) (fun r I7 => ∃ v8, r = some (.int v8) ∧ ((0 ≤ v8) → zi_X l (zx_rm (d + 1) 0 0) M_BlockReader_readMap K RJ Q 23 [(0, .ref o0), (1, .ref o1), (2, .int v8), (3, .int 0)] [] I7) ∧ ((¬ 0 ≤ v8) → Q (some (.int v8)) I7))) :
    zi_X l (zx_rm (d + 1) 0 0) M_BlockReader_readMap K RJ Q 0 [(0, .ref o0), (1, .ref o1)] [] I := by
  refine zx_aload_n d_BlockReader_readMap_0 rfl ?_
  refine zx_iconst d_BlockReader_readMap_1 zc_0 ?_
  refine zi_putI f_BlockReader_101 q1 (by decide) d_BlockReader_readMap_2 ?_
  refine zx_aload_n d_BlockReader_readMap_5 rfl ?_
  refine zi_getR f_BlockReader_35 q2 (by decide) e4 z5 d_BlockReader_readMap_6 ?_
  refine zx_bipush d_BlockReader_readMap_9 zb_16 ?_
  refine zi_callV (hC := k) k_BlockReader_94 q6 (by decide) rfl rfl (Nat.le_of_ble_eq_true rfl) (Nat.le_of_ble_eq_true rfl) d_BlockReader_readMap_11 (fun r I7 k => ?_)
  obtain ⟨v8, rfl, k⟩ := k
  refine zx_istore_n (L2 := [(0, .ref o0), (1, .ref o1), (2, .int v8)]) d_BlockReader_readMap_14 (Nat.le_of_ble_eq_true rfl) rfl ?_
  refine zx_iload_n d_BlockReader_readMap_15 rfl ?_
  refine zx_if_ge (tgt := 21) d_BlockReader_readMap_16 rfl (fun c => ?_) (fun c => ?_)
  · have k := k.1 c
    refine zx_iconst d_BlockReader_readMap_21 zc_0 ?_
    refine zx_istore_n (L2 := [(0, .ref o0), (1, .ref o1), (2, .int v8), (3, .int 0)]) d_BlockReader_readMap_22 (Nat.le_of_ble_eq_true rfl) rfl ?_
    exact k
  · have k := k.2 c
    refine zx_iload_n d_BlockReader_readMap_19 rfl ?_
    exact zi_iret d_BlockReader_readMap_20 rfl k
set_option maxRecDepth 20000 in
theorem r_BlockReader_readMap_23 (l : Launch) (d : Nat) {K : zx_Kt} {RJ : zx_RJ} {Q : zi_Q} {I : zi_I} (o0 : Nat) (o1 : Nat) (x2 : Int32) (x3 : Int32) (q1 : (K.2 o1).1 = 9) (q4 : (K.2 o0).1 = 11) {r5 : Nat} (e6 : RJ.1 o0 0 = r5) (z7 : r5 ≠ 0) (q8 : (K.2 r5).1 = 7)
    (k : ((16 ≤ x3) → ((¬ (I o1 5) = 0) → Q (some (.int 0)) I) ∧ (((I o1 5) = 0) → Q (some (.int ((-5)))) I)) ∧ ((¬ 16 ≤ x3) → zi_C l (zx_rm d 0 0) M_Main_mapBit [.int x3] K RJ I (fun r I2 => ∃ v3, r = some (.int v3) ∧ (((x2 &&& v3) = 0) → zi_X l (zx_rm (d + 1) 0 0) M_BlockReader_readMap K RJ Q 23 [(0, .ref o0), (1, .ref o1), (2, .int x2), (3, .int (x3 + 1))] [] I2) ∧ ((¬ (x2 &&& v3) = 0) → zi_C l (zx_rm d 0 0) M_BitReader_takeNumber [.ref r5, .int 16] K RJ I2 (fun r I9 => ∃ v10, r = some (.int v10) ∧ ((0 ≤ v10) → zi_C l (zx_rm d 0 0) M_BlockReader_addKinds [.ref o1, .int (16 * x3), .int v10] K RJ I9 (fun r I11 => r = none ∧ zi_X l (zx_rm (d + 1) 0 0) M_BlockReader_readMap K RJ Q 23 [(0, .ref o0), (1, .ref o1), (2, .int x2), (3, .int (x3 + 1))] [] I11)) ∧ ((¬ 0 ≤ v10) → Q (some (.int v10)) I9)))))) :
    zi_X l (zx_rm (d + 1) 0 0) M_BlockReader_readMap K RJ Q 23 [(0, .ref o0), (1, .ref o1), (2, .int x2), (3, .int x3)] [] I := by
  refine zx_iload_n d_BlockReader_readMap_23 rfl ?_
  refine zx_bipush d_BlockReader_readMap_24 zb_16 ?_
  refine zx_icmp_ge (tgt := 73) d_BlockReader_readMap_26 rfl (fun c => ?_) (fun c => ?_)
  · have k := k.1 c
    refine zx_aload_n d_BlockReader_readMap_73 rfl ?_
    refine zi_getI f_BlockReader_101 q1 (by decide) d_BlockReader_readMap_74 ?_
    refine zx_if_ne (tgt := 85) d_BlockReader_readMap_77 rfl (fun c => ?_) (fun c => ?_)
    · have k := k.1 c
      refine zx_iconst d_BlockReader_readMap_85 zc_0 ?_
      exact zi_iret d_BlockReader_readMap_86 rfl k
    · have k := k.2 c
      refine zx_bipush d_BlockReader_readMap_80 zb_m5 ?_
      refine zx_goto (tgt := 86) d_BlockReader_readMap_82 rfl ?_
      exact zi_iret d_BlockReader_readMap_86 rfl k
  · have k := k.2 c
    refine zx_iload_n d_BlockReader_readMap_29 rfl ?_
    refine zx_iload_n d_BlockReader_readMap_30 rfl ?_
    refine zi_callS (hC := k) k_BlockReader_104 rfl rfl (Nat.le_of_ble_eq_true rfl) (Nat.le_of_ble_eq_true rfl) d_BlockReader_readMap_31 (fun r I2 k => ?_)
    obtain ⟨v3, rfl, k⟩ := k
    refine zx_iand d_BlockReader_readMap_34 ?_
    refine zx_if_eq (tgt := 67) d_BlockReader_readMap_35 rfl (fun c => ?_) (fun c => ?_)
    · have k := k.1 c
      refine zx_iinc (L2 := [(0, .ref o0), (1, .ref o1), (2, .int x2), (3, .int (x3 + 1))]) d_BlockReader_readMap_67 rfl (Nat.le_of_ble_eq_true rfl) zc_1 rfl ?_
      refine zx_goto (tgt := 23) d_BlockReader_readMap_70 rfl ?_
      exact k
    · have k := k.2 c
      refine zx_aload_n d_BlockReader_readMap_38 rfl ?_
      refine zi_getR f_BlockReader_35 q4 (by decide) e6 z7 d_BlockReader_readMap_39 ?_
      refine zx_bipush d_BlockReader_readMap_42 zb_16 ?_
      refine zi_callV (hC := k) k_BlockReader_94 q8 (by decide) rfl rfl (Nat.le_of_ble_eq_true rfl) (Nat.le_of_ble_eq_true rfl) d_BlockReader_readMap_44 (fun r I9 k => ?_)
      obtain ⟨v10, rfl, k⟩ := k
      refine zx_istore (L2 := [(0, .ref o0), (1, .ref o1), (2, .int x2), (3, .int x3), (4, .int v10)]) d_BlockReader_readMap_47 (Nat.le_of_ble_eq_true rfl) rfl ?_
      refine zx_iload d_BlockReader_readMap_49 rfl ?_
      refine zx_if_ge (tgt := 57) d_BlockReader_readMap_51 rfl (fun c => ?_) (fun c => ?_)
      · have k := k.1 c
        refine zx_aload_n d_BlockReader_readMap_57 rfl ?_
        refine zx_bipush d_BlockReader_readMap_58 zb_16 ?_
        refine zx_iload_n d_BlockReader_readMap_60 rfl ?_
        refine zx_imul d_BlockReader_readMap_61 ?_
        refine zx_iload d_BlockReader_readMap_62 rfl ?_
        refine zi_callS (hC := k) k_BlockReader_107 rfl rfl (Nat.le_of_ble_eq_true rfl) (Nat.le_of_ble_eq_true rfl) d_BlockReader_readMap_64 (fun r I11 k => ?_)
        obtain ⟨rfl, k⟩ := k
        refine zx_iinc (L2 := [(0, .ref o0), (1, .ref o1), (2, .int x2), (3, .int (x3 + 1)), (4, .int v10)]) d_BlockReader_readMap_67 rfl (Nat.le_of_ble_eq_true rfl) zc_1 rfl ?_
        refine zx_goto (tgt := 23) d_BlockReader_readMap_70 rfl ?_
        refine zx_locs [0, 1, 2, 3] rfl ?_
        exact k
      · have k := k.2 c
        refine zx_iload d_BlockReader_readMap_54 rfl ?_
        exact zi_iret d_BlockReader_readMap_56 rfl k
set_option maxRecDepth 20000 in
theorem r_BlockReader_addKinds_0 (l : Launch) (d : Nat) {K : zx_Kt} {RJ : zx_RJ} {Q : zi_Q} {I : zi_I} (o0 : Nat) (x1 : Int32) (x2 : Int32) 
    (k : zi_X l (zx_rm (d + 1) 0 0) M_BlockReader_addKinds K RJ Q 2 [(0, .ref o0), (1, .int x1), (2, .int x2), (3, .int 0)] [] I) :
    zi_X l (zx_rm (d + 1) 0 0) M_BlockReader_addKinds K RJ Q 0 [(0, .ref o0), (1, .int x1), (2, .int x2)] [] I := by
  refine zx_iconst d_BlockReader_addKinds_0 zc_0 ?_
  refine zx_istore_n (L2 := [(0, .ref o0), (1, .int x1), (2, .int x2), (3, .int 0)]) d_BlockReader_addKinds_1 (Nat.le_of_ble_eq_true rfl) rfl ?_
  exact k
set_option maxRecDepth 20000 in
theorem r_BlockReader_addKinds_2 (l : Launch) (d : Nat) {K : zx_Kt} {RJ : zx_RJ} {Q : zi_Q} {I : zi_I} (o0 : Nat) (x1 : Int32) (x2 : Int32) (x3 : Int32) (q3 : (K.2 o0).1 = 9)
    (k : ((16 ≤ x3) → Q none I) ∧ ((¬ 16 ≤ x3) → zi_C l (zx_rm d 0 0) M_Main_mapBit [.int x3] K RJ I (fun r I1 => ∃ v2, r = some (.int v2) ∧ (((x2 &&& v2) = 0) → zi_X l (zx_rm (d + 1) 0 0) M_BlockReader_addKinds K RJ Q 2 [(0, .ref o0), (1, .int x1), (2, .int x2), (3, .int (x3 + 1))] [] I1) ∧ ((¬ (x2 &&& v2) = 0) → zi_C l (zx_rm d 0 0) M_Block_addKind [.ref o0, .int (x1 + x3)] K RJ I1 (fun r I4 => r = none ∧ zi_X l (zx_rm (d + 1) 0 0) M_BlockReader_addKinds K RJ Q 2 [(0, .ref o0), (1, .int x1), (2, .int x2), (3, .int (x3 + 1))] [] I4))))) :
    zi_X l (zx_rm (d + 1) 0 0) M_BlockReader_addKinds K RJ Q 2 [(0, .ref o0), (1, .int x1), (2, .int x2), (3, .int x3)] [] I := by
  refine zx_iload_n d_BlockReader_addKinds_2 rfl ?_
  refine zx_bipush d_BlockReader_addKinds_3 zb_16 ?_
  refine zx_icmp_ge (tgt := 30) d_BlockReader_addKinds_5 rfl (fun c => ?_) (fun c => ?_)
  · have k := k.1 c
    exact zi_vret d_BlockReader_addKinds_30 rfl k
  · have k := k.2 c
    refine zx_iload_n d_BlockReader_addKinds_8 rfl ?_
    refine zx_iload_n d_BlockReader_addKinds_9 rfl ?_
    refine zi_callS (hC := k) k_BlockReader_104 rfl rfl (Nat.le_of_ble_eq_true rfl) (Nat.le_of_ble_eq_true rfl) d_BlockReader_addKinds_10 (fun r I1 k => ?_)
    obtain ⟨v2, rfl, k⟩ := k
    refine zx_iand d_BlockReader_addKinds_13 ?_
    refine zx_if_eq (tgt := 24) d_BlockReader_addKinds_14 rfl (fun c => ?_) (fun c => ?_)
    · have k := k.1 c
      refine zx_iinc (L2 := [(0, .ref o0), (1, .int x1), (2, .int x2), (3, .int (x3 + 1))]) d_BlockReader_addKinds_24 rfl (Nat.le_of_ble_eq_true rfl) zc_1 rfl ?_
      refine zx_goto (tgt := 2) d_BlockReader_addKinds_27 rfl ?_
      exact k
    · have k := k.2 c
      refine zx_aload_n d_BlockReader_addKinds_17 rfl ?_
      refine zx_iload_n d_BlockReader_addKinds_18 rfl ?_
      refine zx_iload_n d_BlockReader_addKinds_19 rfl ?_
      refine zx_iadd d_BlockReader_addKinds_20 ?_
      refine zi_callV (hC := k) k_BlockReader_111 q3 (by decide) rfl rfl (Nat.le_of_ble_eq_true rfl) (Nat.le_of_ble_eq_true rfl) d_BlockReader_addKinds_21 (fun r I4 k => ?_)
      obtain ⟨rfl, k⟩ := k
      refine zx_iinc (L2 := [(0, .ref o0), (1, .int x1), (2, .int x2), (3, .int (x3 + 1))]) d_BlockReader_addKinds_24 rfl (Nat.le_of_ble_eq_true rfl) zc_1 rfl ?_
      refine zx_goto (tgt := 2) d_BlockReader_addKinds_27 rfl ?_
      exact k
set_option maxRecDepth 20000 in
theorem r_BlockReader_readCounts_0 (l : Launch) (d : Nat) {K : zx_Kt} {RJ : zx_RJ} {Q : zi_Q} {I : zi_I} (o0 : Nat) (o1 : Nat) (q1 : (K.2 o0).1 = 11) {r2 : Nat} (e3 : RJ.1 o0 0 = r2) (z4 : r2 ≠ 0) (q5 : (K.2 r2).1 = 7) (q8 : (K.2 o1).1 = 9)
    (k : zi_C l (zx_rm d 0 0) M_BitReader_takeNumber [.ref r2, .int 3] K RJ I (fun r I6 => ∃ v7, r = some (.int v7) ∧ ((0 ≤ v7) → ((v7 < 1) → Q (some (.int ((-6)))) (zx_u2 I6 o1 9 v7)) ∧ ((¬ v7 < 1) → ((v7 ≤ 4) → zi_C l (zx_rm d 0 0) M_BitReader_takeNumber [.ref r2, .int 6] K RJ (zx_u2 I6 o1 9 v7) (fun r I9 => ∃ v10, r = some (.int v10) ∧ ((0 ≤ v10) → ((¬ v10 = 0) → Q (some (.int 0)) (zx_u2 I9 o1 11 v10)) ∧ ((v10 = 0) → Q (some (.int ((-7)))) (zx_u2 I9 o1 11 v10))) ∧ ((¬ 0 ≤ v10) → Q (some (.int v10)) (zx_u2 I9 o1 11 v10)))) ∧ ((¬ v7 ≤ 4) → Q (some (.int ((-6)))) (zx_u2 I6 o1 9 v7)))) ∧ ((¬ 0 ≤ v7) → Q (some (.int v7)) (zx_u2 I6 o1 9 v7)))) :
    zi_X l (zx_rm (d + 1) 0 0) M_BlockReader_readCounts K RJ Q 0 [(0, .ref o0), (1, .ref o1)] [] I := by
  refine zx_aload_n d_BlockReader_readCounts_0 rfl ?_
  refine zx_aload_n d_BlockReader_readCounts_1 rfl ?_
  refine zi_getR f_BlockReader_35 q1 (by decide) e3 z4 d_BlockReader_readCounts_2 ?_
  refine zx_iconst d_BlockReader_readCounts_5 zc_3 ?_
  refine zi_callV (hC := k) k_BlockReader_94 q5 (by decide) rfl rfl (Nat.le_of_ble_eq_true rfl) (Nat.le_of_ble_eq_true rfl) d_BlockReader_readCounts_6 (fun r I6 k => ?_)
  obtain ⟨v7, rfl, k⟩ := k
  refine zi_putI f_BlockReader_114 q8 (by decide) d_BlockReader_readCounts_9 ?_
  refine zx_aload_n d_BlockReader_readCounts_12 rfl ?_
  refine zi_getIe f_BlockReader_114 q8 (by decide) zx_u2_s d_BlockReader_readCounts_13 ?_
  refine zx_if_ge (tgt := 24) d_BlockReader_readCounts_16 rfl (fun c => ?_) (fun c => ?_)
  · have k := k.1 c
    refine zx_aload_n d_BlockReader_readCounts_24 rfl ?_
    refine zi_getIe f_BlockReader_114 q8 (by decide) zx_u2_s d_BlockReader_readCounts_25 ?_
    refine zx_iconst d_BlockReader_readCounts_28 zc_1 ?_
    refine zx_icmp_lt (tgt := 40) d_BlockReader_readCounts_29 rfl (fun c => ?_) (fun c => ?_)
    · have k := k.1 c
      refine zx_bipush d_BlockReader_readCounts_40 zb_m6 ?_
      exact zi_iret d_BlockReader_readCounts_42 rfl k
    · have k := k.2 c
      refine zx_aload_n d_BlockReader_readCounts_32 rfl ?_
      refine zi_getIe f_BlockReader_114 q8 (by decide) zx_u2_s d_BlockReader_readCounts_33 ?_
      refine zx_iconst d_BlockReader_readCounts_36 zc_4 ?_
      refine zx_icmp_le (tgt := 43) d_BlockReader_readCounts_37 rfl (fun c => ?_) (fun c => ?_)
      · have k := k.1 c
        refine zx_aload_n d_BlockReader_readCounts_43 rfl ?_
        refine zx_aload_n d_BlockReader_readCounts_44 rfl ?_
        refine zi_getR f_BlockReader_35 q1 (by decide) e3 z4 d_BlockReader_readCounts_45 ?_
        refine zx_bipush d_BlockReader_readCounts_48 zb_6 ?_
        refine zi_callV (hC := k) k_BlockReader_94 q5 (by decide) rfl rfl (Nat.le_of_ble_eq_true rfl) (Nat.le_of_ble_eq_true rfl) d_BlockReader_readCounts_50 (fun r I9 k => ?_)
        obtain ⟨v10, rfl, k⟩ := k
        refine zi_putI f_BlockReader_117 q8 (by decide) d_BlockReader_readCounts_53 ?_
        refine zx_aload_n d_BlockReader_readCounts_56 rfl ?_
        refine zi_getIe f_BlockReader_117 q8 (by decide) zx_u2_s d_BlockReader_readCounts_57 ?_
        refine zx_if_ge (tgt := 68) d_BlockReader_readCounts_60 rfl (fun c => ?_) (fun c => ?_)
        · have k := k.1 c
          refine zx_aload_n d_BlockReader_readCounts_68 rfl ?_
          refine zi_getIe f_BlockReader_117 q8 (by decide) zx_u2_s d_BlockReader_readCounts_69 ?_
          refine zx_if_ne (tgt := 80) d_BlockReader_readCounts_72 rfl (fun c => ?_) (fun c => ?_)
          · have k := k.1 c
            refine zx_iconst d_BlockReader_readCounts_80 zc_0 ?_
            exact zi_iret d_BlockReader_readCounts_81 rfl k
          · have k := k.2 c
            refine zx_bipush d_BlockReader_readCounts_75 zb_m7 ?_
            refine zx_goto (tgt := 81) d_BlockReader_readCounts_77 rfl ?_
            exact zi_iret d_BlockReader_readCounts_81 rfl k
        · have k := k.2 c
          refine zx_aload_n d_BlockReader_readCounts_63 rfl ?_
          refine zi_getIe f_BlockReader_117 q8 (by decide) zx_u2_s d_BlockReader_readCounts_64 ?_
          exact zi_iret d_BlockReader_readCounts_67 rfl k
      · have k := k.2 c
        refine zx_bipush d_BlockReader_readCounts_40 zb_m6 ?_
        exact zi_iret d_BlockReader_readCounts_42 rfl k
  · have k := k.2 c
    refine zx_aload_n d_BlockReader_readCounts_19 rfl ?_
    refine zi_getIe f_BlockReader_114 q8 (by decide) zx_u2_s d_BlockReader_readCounts_20 ?_
    exact zi_iret d_BlockReader_readCounts_23 rfl k
set_option maxRecDepth 20000 in
theorem r_BlockReader_readPicks_0 (l : Launch) (d : Nat) {K : zx_Kt} {RJ : zx_RJ} {Q : zi_Q} {I : zi_I} (o0 : Nat) (o1 : Nat) (q1 : (K.2 o0).1 = 11) {r2 : Nat} (e3 : RJ.1 o0 1 = r2) (z4 : r2 ≠ 0) (q5 : (K.2 o1).1 = 9) (q6 : (K.2 r2).1 = 14)
    (k : zi_C l (zx_rm d 0 0) M_MoveList_setToNumbers [.ref r2, .int (I o1 9)] K RJ I (fun r I7 => r = none ∧ zi_X l (zx_rm (d + 1) 0 0) M_BlockReader_readPicks K RJ Q 13 [(0, .ref o0), (1, .ref o1), (2, .int 0)] [] I7)) :
    zi_X l (zx_rm (d + 1) 0 0) M_BlockReader_readPicks K RJ Q 0 [(0, .ref o0), (1, .ref o1)] [] I := by
  refine zx_aload_n d_BlockReader_readPicks_0 rfl ?_
  refine zi_getR f_BlockReader_12 q1 (by decide) e3 z4 d_BlockReader_readPicks_1 ?_
  refine zx_aload_n d_BlockReader_readPicks_4 rfl ?_
  refine zi_getI f_BlockReader_114 q5 (by decide) d_BlockReader_readPicks_5 ?_
  refine zi_callV (hC := k) k_BlockReader_120 q6 (by decide) rfl rfl (Nat.le_of_ble_eq_true rfl) (Nat.le_of_ble_eq_true rfl) d_BlockReader_readPicks_8 (fun r I7 k => ?_)
  obtain ⟨rfl, k⟩ := k
  refine zx_iconst d_BlockReader_readPicks_11 zc_0 ?_
  refine zx_istore_n (L2 := [(0, .ref o0), (1, .ref o1), (2, .int 0)]) d_BlockReader_readPicks_12 (Nat.le_of_ble_eq_true rfl) rfl ?_
  exact k
set_option maxRecDepth 20000 in
theorem r_BlockReader_readPicks_13 (l : Launch) (d : Nat) {K : zx_Kt} {RJ : zx_RJ} {Q : zi_Q} {I : zi_I} (o0 : Nat) (o1 : Nat) (x2 : Int32) (q1 : (K.2 o1).1 = 9) (q2 : (K.2 o0).1 = 11) {r5 : Nat} (e6 : RJ.1 o1 12 = r5) (z7 : r5 ≠ 0) {r8 : Nat} (e9 : RJ.1 o0 1 = r8) (z10 : r8 ≠ 0) (q11 : (K.2 r8).1 = 14) {n15 : Nat} (a14 : K.2 r5 = (0, n15))
    (k : (((I o1 11) ≤ x2) → Q (some (.int 0)) I) ∧ ((¬ (I o1 11) ≤ x2) → zi_C l (zx_rm d 0 0) M_BlockReader_readPick [.ref o0, .int (I o1 9)] K RJ I (fun r I3 => ∃ v4, r = some (.int v4) ∧ ((0 ≤ v4) → zi_C l (zx_rm d 0 0) M_MoveList_movePlace [.ref r8, .int v4] K RJ I3 (fun r I12 => ∃ v13, r = some (.int v13) ∧ ∃ j16, x2 = nI j16 ∧ j16 < n15 ∧ zi_X l (zx_rm (d + 1) 0 0) M_BlockReader_readPicks K RJ Q 13 [(0, .ref o0), (1, .ref o1), (2, .int (x2 + 1))] [] (zx_u2 I12 r5 j16 v13))) ∧ ((¬ 0 ≤ v4) → Q (some (.int v4)) I3)))) :
    zi_X l (zx_rm (d + 1) 0 0) M_BlockReader_readPicks K RJ Q 13 [(0, .ref o0), (1, .ref o1), (2, .int x2)] [] I := by
  refine zx_iload_n d_BlockReader_readPicks_13 rfl ?_
  refine zx_aload_n d_BlockReader_readPicks_14 rfl ?_
  refine zi_getI f_BlockReader_117 q1 (by decide) d_BlockReader_readPicks_15 ?_
  refine zx_icmp_ge (tgt := 56) d_BlockReader_readPicks_18 rfl (fun c => ?_) (fun c => ?_)
  · have k := k.1 c
    refine zx_iconst d_BlockReader_readPicks_56 zc_0 ?_
    exact zi_iret d_BlockReader_readPicks_57 rfl k
  · have k := k.2 c
    refine zx_aload_n d_BlockReader_readPicks_21 rfl ?_
    refine zx_aload_n d_BlockReader_readPicks_22 rfl ?_
    refine zi_getI f_BlockReader_114 q1 (by decide) d_BlockReader_readPicks_23 ?_
    refine zi_callV (hC := k) k_BlockReader_123 q2 (by decide) rfl rfl (Nat.le_of_ble_eq_true rfl) (Nat.le_of_ble_eq_true rfl) d_BlockReader_readPicks_26 (fun r I3 k => ?_)
    obtain ⟨v4, rfl, k⟩ := k
    refine zx_istore_n (L2 := [(0, .ref o0), (1, .ref o1), (2, .int x2), (3, .int v4)]) d_BlockReader_readPicks_29 (Nat.le_of_ble_eq_true rfl) rfl ?_
    refine zx_iload_n d_BlockReader_readPicks_30 rfl ?_
    refine zx_if_ge (tgt := 36) d_BlockReader_readPicks_31 rfl (fun c => ?_) (fun c => ?_)
    · have k := k.1 c
      refine zx_aload_n d_BlockReader_readPicks_36 rfl ?_
      refine zi_getR f_BlockReader_126 q1 (by decide) e6 z7 d_BlockReader_readPicks_37 ?_
      refine zx_iload_n d_BlockReader_readPicks_40 rfl ?_
      refine zx_aload_n d_BlockReader_readPicks_41 rfl ?_
      refine zi_getR f_BlockReader_12 q2 (by decide) e9 z10 d_BlockReader_readPicks_42 ?_
      refine zx_iload_n d_BlockReader_readPicks_45 rfl ?_
      refine zi_callV (hC := k) k_BlockReader_129 q11 (by decide) rfl rfl (Nat.le_of_ble_eq_true rfl) (Nat.le_of_ble_eq_true rfl) d_BlockReader_readPicks_46 (fun r I12 k => ?_)
      obtain ⟨v13, rfl, k⟩ := k
      obtain ⟨j16, e17, b18, k⟩ := k
      refine zi_iast j16 a14 e17 b18 d_BlockReader_readPicks_49 ?_
      refine zx_iinc (L2 := [(0, .ref o0), (1, .ref o1), (2, .int (x2 + 1)), (3, .int v4)]) d_BlockReader_readPicks_50 rfl (Nat.le_of_ble_eq_true rfl) zc_1 rfl ?_
      refine zx_goto (tgt := 13) d_BlockReader_readPicks_53 rfl ?_
      refine zx_locs [0, 1, 2] rfl ?_
      exact k
    · have k := k.2 c
      refine zx_iload_n d_BlockReader_readPicks_34 rfl ?_
      exact zi_iret d_BlockReader_readPicks_35 rfl k
set_option maxRecDepth 20000 in
theorem r_BlockReader_readPick_0 (l : Launch) (d : Nat) {K : zx_Kt} {RJ : zx_RJ} {Q : zi_Q} {I : zi_I} (o0 : Nat) (x1 : Int32) (q1 : (K.2 o0).1 = 11) {r2 : Nat} (e3 : RJ.1 o0 0 = r2) (z4 : r2 ≠ 0) (q5 : (K.2 r2).1 = 7)
    (k : zi_C l (zx_rm d 0 0) M_BitReader_beginNumber [.ref r2] K RJ I (fun r I6 => r = none ∧ zi_X l (zx_rm (d + 1) 0 0) M_BlockReader_readPick K RJ Q 9 [(0, .ref o0), (1, .int x1), (2, .int 0)] [] I6)) :
    zi_X l (zx_rm (d + 1) 0 0) M_BlockReader_readPick K RJ Q 0 [(0, .ref o0), (1, .int x1)] [] I := by
  refine zx_aload_n d_BlockReader_readPick_0 rfl ?_
  refine zi_getR f_BlockReader_35 q1 (by decide) e3 z4 d_BlockReader_readPick_1 ?_
  refine zi_callV (hC := k) k_BlockReader_132 q5 (by decide) rfl rfl (Nat.le_of_ble_eq_true rfl) (Nat.le_of_ble_eq_true rfl) d_BlockReader_readPick_4 (fun r I6 k => ?_)
  obtain ⟨rfl, k⟩ := k
  refine zx_iconst d_BlockReader_readPick_7 zc_0 ?_
  refine zx_istore_n (L2 := [(0, .ref o0), (1, .int x1), (2, .int 0)]) d_BlockReader_readPick_8 (Nat.le_of_ble_eq_true rfl) rfl ?_
  exact k
set_option maxRecDepth 20000 in
theorem r_BlockReader_readPick_9 (l : Launch) (d : Nat) {K : zx_Kt} {RJ : zx_RJ} {Q : zi_Q} {I : zi_I} (o0 : Nat) (x1 : Int32) (x2 : Int32) (q1 : (K.2 o0).1 = 11) {r2 : Nat} (e3 : RJ.1 o0 0 = r2) (z4 : r2 ≠ 0) (q5 : (K.2 r2).1 = 7)
    (k : ((x1 ≤ x2) → Q (some (.int ((-8)))) I) ∧ ((¬ x1 ≤ x2) → zi_C l (zx_rm d 0 0) M_BitReader_takeBit [.ref r2] K RJ I (fun r I6 => ∃ v7, r = some (.int v7) ∧ ((0 < v7) → zi_X l (zx_rm (d + 1) 0 0) M_BlockReader_readPick K RJ Q 9 [(0, .ref o0), (1, .int x1), (2, .int (x2 + 1))] [] I6) ∧ ((¬ 0 < v7) → ((0 ≤ v7) → Q (some (.int x2)) I6) ∧ ((¬ 0 ≤ v7) → Q (some (.int v7)) I6))))) :
    zi_X l (zx_rm (d + 1) 0 0) M_BlockReader_readPick K RJ Q 9 [(0, .ref o0), (1, .int x1), (2, .int x2)] [] I := by
  refine zx_iload_n d_BlockReader_readPick_9 rfl ?_
  refine zx_iload_n d_BlockReader_readPick_10 rfl ?_
  refine zx_icmp_ge (tgt := 42) d_BlockReader_readPick_11 rfl (fun c => ?_) (fun c => ?_)
  · have k := k.1 c
    refine zx_bipush d_BlockReader_readPick_42 zb_m8 ?_
    exact zi_iret d_BlockReader_readPick_44 rfl k
  · have k := k.2 c
    refine zx_aload_n d_BlockReader_readPick_14 rfl ?_
    refine zi_getR f_BlockReader_35 q1 (by decide) e3 z4 d_BlockReader_readPick_15 ?_
    refine zi_callV (hC := k) k_BlockReader_135 q5 (by decide) rfl rfl (Nat.le_of_ble_eq_true rfl) (Nat.le_of_ble_eq_true rfl) d_BlockReader_readPick_18 (fun r I6 k => ?_)
    obtain ⟨v7, rfl, k⟩ := k
    refine zx_istore_n (L2 := [(0, .ref o0), (1, .int x1), (2, .int x2), (3, .int v7)]) d_BlockReader_readPick_21 (Nat.le_of_ble_eq_true rfl) rfl ?_
    refine zx_iload_n d_BlockReader_readPick_22 rfl ?_
    refine zx_if_gt (tgt := 36) d_BlockReader_readPick_23 rfl (fun c => ?_) (fun c => ?_)
    · have k := k.1 c
      refine zx_iinc (L2 := [(0, .ref o0), (1, .int x1), (2, .int (x2 + 1)), (3, .int v7)]) d_BlockReader_readPick_36 rfl (Nat.le_of_ble_eq_true rfl) zc_1 rfl ?_
      refine zx_goto (tgt := 9) d_BlockReader_readPick_39 rfl ?_
      refine zx_locs [0, 1, 2] rfl ?_
      exact k
    · have k := k.2 c
      refine zx_iload_n d_BlockReader_readPick_26 rfl ?_
      refine zx_if_ge (tgt := 34) d_BlockReader_readPick_27 rfl (fun c => ?_) (fun c => ?_)
      · have k := k.1 c
        refine zx_iload_n d_BlockReader_readPick_34 rfl ?_
        exact zi_iret d_BlockReader_readPick_35 rfl k
      · have k := k.2 c
        refine zx_iload_n d_BlockReader_readPick_30 rfl ?_
        refine zx_goto (tgt := 35) d_BlockReader_readPick_31 rfl ?_
        exact zi_iret d_BlockReader_readPick_35 rfl k
set_option maxRecDepth 20000 in
theorem r_BlockReader_readTables_0 (l : Launch) (d : Nat) {K : zx_Kt} {RJ : zx_RJ} {Q : zi_Q} {I : zi_I} (o0 : Nat) (o1 : Nat) 
    (k : zi_X l (zx_rm (d + 1) 0 0) M_BlockReader_readTables K RJ Q 2 [(0, .ref o0), (1, .ref o1), (2, .int 0)] [] I) :
    zi_X l (zx_rm (d + 1) 0 0) M_BlockReader_readTables K RJ Q 0 [(0, .ref o0), (1, .ref o1)] [] I := by
  refine zx_iconst d_BlockReader_readTables_0 zc_0 ?_
  refine zx_istore_n (L2 := [(0, .ref o0), (1, .ref o1), (2, .int 0)]) d_BlockReader_readTables_1 (Nat.le_of_ble_eq_true rfl) rfl ?_
  exact k
set_option maxRecDepth 20000 in
theorem r_BlockReader_readTables_2 (l : Launch) (d : Nat) {K : zx_Kt} {RJ : zx_RJ} {Q : zi_Q} {I : zi_I} (o0 : Nat) (o1 : Nat) (x2 : Int32) (q1 : (K.2 o1).1 = 9) {r2 : Nat} (e3 : RJ.1 o1 10 = r2) (z4 : r2 ≠ 0) {n6 : Nat} (a5 : K.2 r2 = (4, n6)) (q15 : (K.2 o0).1 = 11) {r18 : Nat} (e19 : RJ.1 o0 2 = r18) (z20 : r18 ≠ 0) {n22 : Nat} (a21 : K.2 r18 = (3, n22))
    (k : (((I o1 9) ≤ x2) → Q (some (.int 0)) I) ∧ ((¬ (I o1 9) ≤ x2) → ∃ j7, x2 = nI j7 ∧ j7 < n6 ∧ ∃ r11, RJ.1 r2 j7 = r11 ∧ r11 ≠ 0 ∧ zi_C l (zx_rm d 0 0) M_Block_symbolKinds [.ref o1] K RJ I (fun r I13 => ∃ v14, r = some (.int v14) ∧ zi_C l (zx_rm d 0 0) M_BlockReader_readLengths [.ref o0, .ref r11, .int v14] K RJ I13 (fun r I16 => ∃ v17, r = some (.int v17) ∧ ((v17 = 0) → ∃ j23, x2 = nI j23 ∧ j23 < n22 ∧ ∃ r27, RJ.1 r18 j23 = r27 ∧ r27 ≠ 0 ∧ ∃ j29, x2 = nI j29 ∧ j29 < n6 ∧ ∃ r33, RJ.1 r2 j29 = r33 ∧ r33 ≠ 0 ∧ zi_C l (zx_rm d 0 0) M_Block_symbolKinds [.ref o1] K RJ I16 (fun r I35 => ∃ v36, r = some (.int v36) ∧ (K.2 r27).1 = 13 ∧ zi_C l (zx_rm d 0 0) M_Codes_setTo [.ref r27, .ref r33, .int v36] K RJ I35 (fun r I38 => r = none ∧ zi_X l (zx_rm (d + 1) 0 0) M_BlockReader_readTables K RJ Q 2 [(0, .ref o0), (1, .ref o1), (2, .int (x2 + 1))] [] I38))) ∧ ((¬ v17 = 0) → Q (some (.int v17)) I16))))) :
    zi_X l (zx_rm (d + 1) 0 0) M_BlockReader_readTables K RJ Q 2 [(0, .ref o0), (1, .ref o1), (2, .int x2)] [] I := by
  refine zx_iload_n d_BlockReader_readTables_2 rfl ?_
  refine zx_aload_n d_BlockReader_readTables_3 rfl ?_
  refine zi_getI f_BlockReader_114 q1 (by decide) d_BlockReader_readTables_4 ?_
  refine zx_icmp_ge (tgt := 56) d_BlockReader_readTables_7 rfl (fun c => ?_) (fun c => ?_)
  · have k := k.1 c
    refine zx_iconst d_BlockReader_readTables_56 zc_0 ?_
    exact zi_iret d_BlockReader_readTables_57 rfl k
  · have k := k.2 c
    refine zx_aload_n d_BlockReader_readTables_10 rfl ?_
    refine zx_aload_n d_BlockReader_readTables_11 rfl ?_
    refine zi_getR f_BlockReader_139 q1 (by decide) e3 z4 d_BlockReader_readTables_12 ?_
    refine zx_iload_n d_BlockReader_readTables_15 rfl ?_
    obtain ⟨j7, e8, b9, k⟩ := k
    obtain ⟨r11, e12, z10, k⟩ := k
    refine zi_aald4 j7 a5 e8 b9 e12 z10 d_BlockReader_readTables_16 ?_
    refine zx_aload_n d_BlockReader_readTables_17 rfl ?_
    refine zi_callV (hC := k) k_BlockReader_143 q1 (by decide) rfl rfl (Nat.le_of_ble_eq_true rfl) (Nat.le_of_ble_eq_true rfl) d_BlockReader_readTables_18 (fun r I13 k => ?_)
    obtain ⟨v14, rfl, k⟩ := k
    refine zi_callV (hC := k) k_BlockReader_146 q15 (by decide) rfl rfl (Nat.le_of_ble_eq_true rfl) (Nat.le_of_ble_eq_true rfl) d_BlockReader_readTables_21 (fun r I16 k => ?_)
    obtain ⟨v17, rfl, k⟩ := k
    refine zx_istore_n (L2 := [(0, .ref o0), (1, .ref o1), (2, .int x2), (3, .int v17)]) d_BlockReader_readTables_24 (Nat.le_of_ble_eq_true rfl) rfl ?_
    refine zx_iload_n d_BlockReader_readTables_25 rfl ?_
    refine zx_if_eq (tgt := 31) d_BlockReader_readTables_26 rfl (fun c => ?_) (fun c => ?_)
    · have k := k.1 c
      refine zx_aload_n d_BlockReader_readTables_31 rfl ?_
      refine zi_getR f_BlockReader_20 q15 (by decide) e19 z20 d_BlockReader_readTables_32 ?_
      refine zx_iload_n d_BlockReader_readTables_35 rfl ?_
      obtain ⟨j23, e24, b25, k⟩ := k
      obtain ⟨r27, e28, z26, k⟩ := k
      refine zi_aald3 j23 a21 e24 b25 e28 z26 d_BlockReader_readTables_36 ?_
      refine zx_aload_n d_BlockReader_readTables_37 rfl ?_
      refine zi_getR f_BlockReader_139 q1 (by decide) e3 z4 d_BlockReader_readTables_38 ?_
      refine zx_iload_n d_BlockReader_readTables_41 rfl ?_
      obtain ⟨j29, e30, b31, k⟩ := k
      obtain ⟨r33, e34, z32, k⟩ := k
      refine zi_aald4 j29 a5 e30 b31 e34 z32 d_BlockReader_readTables_42 ?_
      refine zx_aload_n d_BlockReader_readTables_43 rfl ?_
      refine zi_callV (hC := k) k_BlockReader_143 q1 (by decide) rfl rfl (Nat.le_of_ble_eq_true rfl) (Nat.le_of_ble_eq_true rfl) d_BlockReader_readTables_44 (fun r I35 k => ?_)
      obtain ⟨v36, rfl, k⟩ := k
      obtain ⟨q37, k⟩ := k
      refine zi_callV (hC := k) k_BlockReader_150 q37 (by decide) rfl rfl (Nat.le_of_ble_eq_true rfl) (Nat.le_of_ble_eq_true rfl) d_BlockReader_readTables_47 (fun r I38 k => ?_)
      obtain ⟨rfl, k⟩ := k
      refine zx_iinc (L2 := [(0, .ref o0), (1, .ref o1), (2, .int (x2 + 1)), (3, .int v17)]) d_BlockReader_readTables_50 rfl (Nat.le_of_ble_eq_true rfl) zc_1 rfl ?_
      refine zx_goto (tgt := 2) d_BlockReader_readTables_53 rfl ?_
      refine zx_locs [0, 1, 2] rfl ?_
      exact k
    · have k := k.2 c
      refine zx_iload_n d_BlockReader_readTables_29 rfl ?_
      exact zi_iret d_BlockReader_readTables_30 rfl k
set_option maxRecDepth 20000 in
theorem r_BlockReader_readLengths_0 (l : Launch) (d : Nat) {K : zx_Kt} {RJ : zx_RJ} {Q : zi_Q} {I : zi_I} (o0 : Nat) (o1 : Nat) (x2 : Int32) (q1 : (K.2 o0).1 = 11) {r2 : Nat} (e3 : RJ.1 o0 0 = r2) (z4 : r2 ≠ 0) (q5 : (K.2 r2).1 = 7)
    (k : zi_C l (zx_rm d 0 0) M_BitReader_takeNumber [.ref r2, .int 5] K RJ I (fun r I6 => ∃ v7, r = some (.int v7) ∧ ((v7 < 0) → zi_X l (zx_rm (d + 1) 0 0) M_BlockReader_readLengths K RJ Q 26 [(0, .ref o0), (1, .ref o1), (2, .int x2), (3, .int v7), (4, .int 0)] [] I6) ∧ ((¬ v7 < 0) → zi_C l (zx_rm d 0 0) M_Codes_isLength [.int v7] K RJ I6 (fun r I8 => ∃ v9, r = some (.int v9) ∧ ((¬ v9 = 0) → zi_X l (zx_rm (d + 1) 0 0) M_BlockReader_readLengths K RJ Q 26 [(0, .ref o0), (1, .ref o1), (2, .int x2), (3, .int v7), (4, .int 0)] [] I8) ∧ ((v9 = 0) → Q (some (.int ((-9)))) I8))))) :
    zi_X l (zx_rm (d + 1) 0 0) M_BlockReader_readLengths K RJ Q 0 [(0, .ref o0), (1, .ref o1), (2, .int x2)] [] I := by
  refine zx_aload_n d_BlockReader_readLengths_0 rfl ?_
  refine zi_getR f_BlockReader_35 q1 (by decide) e3 z4 d_BlockReader_readLengths_1 ?_
  refine zx_iconst d_BlockReader_readLengths_4 zc_5 ?_
  refine zi_callV (hC := k) k_BlockReader_94 q5 (by decide) rfl rfl (Nat.le_of_ble_eq_true rfl) (Nat.le_of_ble_eq_true rfl) d_BlockReader_readLengths_5 (fun r I6 k => ?_)
  obtain ⟨v7, rfl, k⟩ := k
  refine zx_istore_n (L2 := [(0, .ref o0), (1, .ref o1), (2, .int x2), (3, .int v7)]) d_BlockReader_readLengths_8 (Nat.le_of_ble_eq_true rfl) rfl ?_
  refine zx_iload_n d_BlockReader_readLengths_9 rfl ?_
  refine zx_if_lt (tgt := 23) d_BlockReader_readLengths_10 rfl (fun c => ?_) (fun c => ?_)
  · have k := k.1 c
    refine zx_iconst d_BlockReader_readLengths_23 zc_0 ?_
    refine zx_istore (L2 := [(0, .ref o0), (1, .ref o1), (2, .int x2), (3, .int v7), (4, .int 0)]) d_BlockReader_readLengths_24 (Nat.le_of_ble_eq_true rfl) rfl ?_
    exact k
  · have k := k.2 c
    refine zx_iload_n d_BlockReader_readLengths_13 rfl ?_
    refine zi_callS (hC := k) k_BlockReader_154 rfl rfl (Nat.le_of_ble_eq_true rfl) (Nat.le_of_ble_eq_true rfl) d_BlockReader_readLengths_14 (fun r I8 k => ?_)
    obtain ⟨v9, rfl, k⟩ := k
    refine zx_if_ne (tgt := 23) d_BlockReader_readLengths_17 rfl (fun c => ?_) (fun c => ?_)
    · have k := k.1 c
      refine zx_iconst d_BlockReader_readLengths_23 zc_0 ?_
      refine zx_istore (L2 := [(0, .ref o0), (1, .ref o1), (2, .int x2), (3, .int v7), (4, .int 0)]) d_BlockReader_readLengths_24 (Nat.le_of_ble_eq_true rfl) rfl ?_
      exact k
    · have k := k.2 c
      refine zx_bipush d_BlockReader_readLengths_20 zb_m9 ?_
      exact zi_iret d_BlockReader_readLengths_22 rfl k
set_option maxRecDepth 20000 in
theorem r_BlockReader_readLengths_26 (l : Launch) (d : Nat) {K : zx_Kt} {RJ : zx_RJ} {Q : zi_Q} {I : zi_I} (o0 : Nat) (o1 : Nat) (x2 : Int32) (x3 : Int32) (x4 : Int32) (q1 : (K.2 o0).1 = 11) {n5 : Nat} (a4 : K.2 o1 = (0, n5))
    (k : ((x2 ≤ x4) → ((0 ≤ x3) → Q (some (.int 0)) I) ∧ ((¬ 0 ≤ x3) → Q (some (.int x3)) I)) ∧ ((¬ x2 ≤ x4) → ((x3 ≤ 0) → ((0 ≤ x3) → Q (some (.int 0)) I) ∧ ((¬ 0 ≤ x3) → Q (some (.int x3)) I)) ∧ ((¬ x3 ≤ 0) → zi_C l (zx_rm d 0 0) M_BlockReader_readLength [.ref o0, .int x3] K RJ I (fun r I2 => ∃ v3, r = some (.int v3) ∧ ∃ j6, x4 = nI j6 ∧ j6 < n5 ∧ zi_X l (zx_rm (d + 1) 0 0) M_BlockReader_readLengths K RJ Q 26 [(0, .ref o0), (1, .ref o1), (2, .int x2), (3, .int v3), (4, .int (x4 + 1))] [] (zx_u2 I2 o1 j6 v3))))) :
    zi_X l (zx_rm (d + 1) 0 0) M_BlockReader_readLengths K RJ Q 26 [(0, .ref o0), (1, .ref o1), (2, .int x2), (3, .int x3), (4, .int x4)] [] I := by
  refine zx_iload d_BlockReader_readLengths_26 rfl ?_
  refine zx_iload_n d_BlockReader_readLengths_28 rfl ?_
  refine zx_icmp_ge (tgt := 53) d_BlockReader_readLengths_29 rfl (fun c => ?_) (fun c => ?_)
  · have k := k.1 c
    refine zx_iload_n d_BlockReader_readLengths_53 rfl ?_
    refine zx_if_ge (tgt := 61) d_BlockReader_readLengths_54 rfl (fun c => ?_) (fun c => ?_)
    · have k := k.1 c
      refine zx_iconst d_BlockReader_readLengths_61 zc_0 ?_
      exact zi_iret d_BlockReader_readLengths_62 rfl k
    · have k := k.2 c
      refine zx_iload_n d_BlockReader_readLengths_57 rfl ?_
      refine zx_goto (tgt := 62) d_BlockReader_readLengths_58 rfl ?_
      exact zi_iret d_BlockReader_readLengths_62 rfl k
  · have k := k.2 c
    refine zx_iload_n d_BlockReader_readLengths_32 rfl ?_
    refine zx_if_le (tgt := 53) d_BlockReader_readLengths_33 rfl (fun c => ?_) (fun c => ?_)
    · have k := k.1 c
      refine zx_iload_n d_BlockReader_readLengths_53 rfl ?_
      refine zx_if_ge (tgt := 61) d_BlockReader_readLengths_54 rfl (fun c => ?_) (fun c => ?_)
      · have k := k.1 c
        refine zx_iconst d_BlockReader_readLengths_61 zc_0 ?_
        exact zi_iret d_BlockReader_readLengths_62 rfl k
      · have k := k.2 c
        refine zx_iload_n d_BlockReader_readLengths_57 rfl ?_
        refine zx_goto (tgt := 62) d_BlockReader_readLengths_58 rfl ?_
        exact zi_iret d_BlockReader_readLengths_62 rfl k
    · have k := k.2 c
      refine zx_aload_n d_BlockReader_readLengths_36 rfl ?_
      refine zx_iload_n d_BlockReader_readLengths_37 rfl ?_
      refine zi_callV (hC := k) k_BlockReader_158 q1 (by decide) rfl rfl (Nat.le_of_ble_eq_true rfl) (Nat.le_of_ble_eq_true rfl) d_BlockReader_readLengths_38 (fun r I2 k => ?_)
      obtain ⟨v3, rfl, k⟩ := k
      refine zx_istore_n (L2 := [(0, .ref o0), (1, .ref o1), (2, .int x2), (3, .int v3), (4, .int x4)]) d_BlockReader_readLengths_41 (Nat.le_of_ble_eq_true rfl) rfl ?_
      refine zx_aload_n d_BlockReader_readLengths_42 rfl ?_
      refine zx_iload d_BlockReader_readLengths_43 rfl ?_
      refine zx_iload_n d_BlockReader_readLengths_45 rfl ?_
      obtain ⟨j6, e7, b8, k⟩ := k
      refine zi_iast j6 a4 e7 b8 d_BlockReader_readLengths_46 ?_
      refine zx_iinc (L2 := [(0, .ref o0), (1, .ref o1), (2, .int x2), (3, .int v3), (4, .int (x4 + 1))]) d_BlockReader_readLengths_47 rfl (Nat.le_of_ble_eq_true rfl) zc_1 rfl ?_
      refine zx_goto (tgt := 26) d_BlockReader_readLengths_50 rfl ?_
      exact k
set_option maxRecDepth 20000 in
theorem r_BlockReader_readLength_0 (l : Launch) (d : Nat) {K : zx_Kt} {RJ : zx_RJ} {Q : zi_Q} {I : zi_I} (o0 : Nat) (x1 : Int32) 
    (k : zi_X l (zx_rm (d + 1) 0 0) M_BlockReader_readLength K RJ Q 4 [(0, .ref o0), (1, .int x1), (2, .int x1), (3, .int 0)] [] I) :
    zi_X l (zx_rm (d + 1) 0 0) M_BlockReader_readLength K RJ Q 0 [(0, .ref o0), (1, .int x1)] [] I := by
  refine zx_iload_n d_BlockReader_readLength_0 rfl ?_
  refine zx_istore_n (L2 := [(0, .ref o0), (1, .int x1), (2, .int x1)]) d_BlockReader_readLength_1 (Nat.le_of_ble_eq_true rfl) rfl ?_
  refine zx_iconst d_BlockReader_readLength_2 zc_0 ?_
  refine zx_istore_n (L2 := [(0, .ref o0), (1, .int x1), (2, .int x1), (3, .int 0)]) d_BlockReader_readLength_3 (Nat.le_of_ble_eq_true rfl) rfl ?_
  exact k
set_option maxRecDepth 20000 in
theorem r_BlockReader_readLength_4 (l : Launch) (d : Nat) {K : zx_Kt} {RJ : zx_RJ} {Q : zi_Q} {I : zi_I} (o0 : Nat) (x1 : Int32) (x2 : Int32) (x3 : Int32) (q1 : (K.2 o0).1 = 11) {r2 : Nat} (e3 : RJ.1 o0 0 = r2) (z4 : r2 ≠ 0) (q5 : (K.2 r2).1 = 7)
    (k : ((3200 ≤ x3) → Q (some (.int ((-2)))) I) ∧ ((¬ 3200 ≤ x3) → zi_C l (zx_rm d 0 0) M_BitReader_beginNumber [.ref r2] K RJ I (fun r I6 => r = none ∧ zi_C l (zx_rm d 0 0) M_BitReader_takeBit [.ref r2] K RJ I6 (fun r I7 => ∃ v8, r = some (.int v8) ∧ ((0 < v8) → zi_C l (zx_rm d 0 0) M_BitReader_takeBit [.ref r2] K RJ I7 (fun r I9 => ∃ v10, r = some (.int v10) ∧ ((0 ≤ v10) → ((¬ v10 = 0) → zi_C l (zx_rm d 0 0) M_Codes_isLength [.int (x2 + ((-1)))] K RJ I9 (fun r I11 => ∃ v12, r = some (.int v12) ∧ ((¬ v12 = 0) → zi_X l (zx_rm (d + 1) 0 0) M_BlockReader_readLength K RJ Q 4 [(0, .ref o0), (1, .int x1), (2, .int (x2 + ((-1)))), (3, .int (x3 + 1))] [] I11) ∧ ((v12 = 0) → Q (some (.int ((-9)))) I11))) ∧ ((v10 = 0) → zi_C l (zx_rm d 0 0) M_Codes_isLength [.int (x2 + 1)] K RJ I9 (fun r I13 => ∃ v14, r = some (.int v14) ∧ ((¬ v14 = 0) → zi_X l (zx_rm (d + 1) 0 0) M_BlockReader_readLength K RJ Q 4 [(0, .ref o0), (1, .int x1), (2, .int (x2 + 1)), (3, .int (x3 + 1))] [] I13) ∧ ((v14 = 0) → Q (some (.int ((-9)))) I13)))) ∧ ((¬ 0 ≤ v10) → Q (some (.int v10)) I9))) ∧ ((¬ 0 < v8) → ((0 ≤ v8) → Q (some (.int x2)) I7) ∧ ((¬ 0 ≤ v8) → Q (some (.int v8)) I7)))))) :
    zi_X l (zx_rm (d + 1) 0 0) M_BlockReader_readLength K RJ Q 4 [(0, .ref o0), (1, .int x1), (2, .int x2), (3, .int x3)] [] I := by
  refine zx_iload_n d_BlockReader_readLength_4 rfl ?_
  refine zx_sipush d_BlockReader_readLength_5 zs_3200 ?_
  refine zx_icmp_ge (tgt := 90) d_BlockReader_readLength_8 rfl (fun c => ?_) (fun c => ?_)
  · have k := k.1 c
    refine zx_bipush d_BlockReader_readLength_90 zb_m2 ?_
    exact zi_iret d_BlockReader_readLength_92 rfl k
  · have k := k.2 c
    refine zx_aload_n d_BlockReader_readLength_11 rfl ?_
    refine zi_getR f_BlockReader_35 q1 (by decide) e3 z4 d_BlockReader_readLength_12 ?_
    refine zi_callV (hC := k) k_BlockReader_132 q5 (by decide) rfl rfl (Nat.le_of_ble_eq_true rfl) (Nat.le_of_ble_eq_true rfl) d_BlockReader_readLength_15 (fun r I6 k => ?_)
    obtain ⟨rfl, k⟩ := k
    refine zx_aload_n d_BlockReader_readLength_18 rfl ?_
    refine zi_getR f_BlockReader_35 q1 (by decide) e3 z4 d_BlockReader_readLength_19 ?_
    refine zi_callV (hC := k) k_BlockReader_135 q5 (by decide) rfl rfl (Nat.le_of_ble_eq_true rfl) (Nat.le_of_ble_eq_true rfl) d_BlockReader_readLength_22 (fun r I7 k => ?_)
    obtain ⟨v8, rfl, k⟩ := k
    refine zx_istore (L2 := [(0, .ref o0), (1, .int x1), (2, .int x2), (3, .int x3), (4, .int v8)]) d_BlockReader_readLength_25 (Nat.le_of_ble_eq_true rfl) rfl ?_
    refine zx_iload d_BlockReader_readLength_27 rfl ?_
    refine zx_if_gt (tgt := 44) d_BlockReader_readLength_29 rfl (fun c => ?_) (fun c => ?_)
    · have k := k.1 c
      refine zx_aload_n d_BlockReader_readLength_44 rfl ?_
      refine zi_getR f_BlockReader_35 q1 (by decide) e3 z4 d_BlockReader_readLength_45 ?_
      refine zi_callV (hC := k) k_BlockReader_135 q5 (by decide) rfl rfl (Nat.le_of_ble_eq_true rfl) (Nat.le_of_ble_eq_true rfl) d_BlockReader_readLength_48 (fun r I9 k => ?_)
      obtain ⟨v10, rfl, k⟩ := k
      refine zx_istore (L2 := [(0, .ref o0), (1, .int x1), (2, .int x2), (3, .int x3), (4, .int v8), (5, .int v10)]) d_BlockReader_readLength_51 (Nat.le_of_ble_eq_true rfl) rfl ?_
      refine zx_iload d_BlockReader_readLength_53 rfl ?_
      refine zx_if_ge (tgt := 61) d_BlockReader_readLength_55 rfl (fun c => ?_) (fun c => ?_)
      · have k := k.1 c
        refine zx_iload_n d_BlockReader_readLength_61 rfl ?_
        refine zx_iload d_BlockReader_readLength_62 rfl ?_
        refine zx_if_ne (tgt := 71) d_BlockReader_readLength_64 rfl (fun c => ?_) (fun c => ?_)
        · have k := k.1 c
          refine zx_iconst d_BlockReader_readLength_71 zc_m1 ?_
          refine zx_iadd d_BlockReader_readLength_72 ?_
          refine zx_istore_n (L2 := [(0, .ref o0), (1, .int x1), (2, .int (x2 + ((-1)))), (3, .int x3), (4, .int v8), (5, .int v10)]) d_BlockReader_readLength_73 (Nat.le_of_ble_eq_true rfl) rfl ?_
          refine zx_iload_n d_BlockReader_readLength_74 rfl ?_
          refine zi_callS (hC := k) k_BlockReader_154 rfl rfl (Nat.le_of_ble_eq_true rfl) (Nat.le_of_ble_eq_true rfl) d_BlockReader_readLength_75 (fun r I11 k => ?_)
          obtain ⟨v12, rfl, k⟩ := k
          refine zx_if_ne (tgt := 84) d_BlockReader_readLength_78 rfl (fun c => ?_) (fun c => ?_)
          · have k := k.1 c
            refine zx_iinc (L2 := [(0, .ref o0), (1, .int x1), (2, .int (x2 + ((-1)))), (3, .int (x3 + 1)), (4, .int v8), (5, .int v10)]) d_BlockReader_readLength_84 rfl (Nat.le_of_ble_eq_true rfl) zc_1 rfl ?_
            refine zx_goto (tgt := 4) d_BlockReader_readLength_87 rfl ?_
            refine zx_locs [0, 1, 2, 3] rfl ?_
            exact k
          · have k := k.2 c
            refine zx_bipush d_BlockReader_readLength_81 zb_m9 ?_
            exact zi_iret d_BlockReader_readLength_83 rfl k
        · have k := k.2 c
          refine zx_iconst d_BlockReader_readLength_67 zc_1 ?_
          refine zx_goto (tgt := 72) d_BlockReader_readLength_68 rfl ?_
          refine zx_iadd d_BlockReader_readLength_72 ?_
          refine zx_istore_n (L2 := [(0, .ref o0), (1, .int x1), (2, .int (x2 + 1)), (3, .int x3), (4, .int v8), (5, .int v10)]) d_BlockReader_readLength_73 (Nat.le_of_ble_eq_true rfl) rfl ?_
          refine zx_iload_n d_BlockReader_readLength_74 rfl ?_
          refine zi_callS (hC := k) k_BlockReader_154 rfl rfl (Nat.le_of_ble_eq_true rfl) (Nat.le_of_ble_eq_true rfl) d_BlockReader_readLength_75 (fun r I13 k => ?_)
          obtain ⟨v14, rfl, k⟩ := k
          refine zx_if_ne (tgt := 84) d_BlockReader_readLength_78 rfl (fun c => ?_) (fun c => ?_)
          · have k := k.1 c
            refine zx_iinc (L2 := [(0, .ref o0), (1, .int x1), (2, .int (x2 + 1)), (3, .int (x3 + 1)), (4, .int v8), (5, .int v10)]) d_BlockReader_readLength_84 rfl (Nat.le_of_ble_eq_true rfl) zc_1 rfl ?_
            refine zx_goto (tgt := 4) d_BlockReader_readLength_87 rfl ?_
            refine zx_locs [0, 1, 2, 3] rfl ?_
            exact k
          · have k := k.2 c
            refine zx_bipush d_BlockReader_readLength_81 zb_m9 ?_
            exact zi_iret d_BlockReader_readLength_83 rfl k
      · have k := k.2 c
        refine zx_iload d_BlockReader_readLength_58 rfl ?_
        exact zi_iret d_BlockReader_readLength_60 rfl k
    · have k := k.2 c
      refine zx_iload d_BlockReader_readLength_32 rfl ?_
      refine zx_if_ge (tgt := 42) d_BlockReader_readLength_34 rfl (fun c => ?_) (fun c => ?_)
      · have k := k.1 c
        refine zx_iload_n d_BlockReader_readLength_42 rfl ?_
        exact zi_iret d_BlockReader_readLength_43 rfl k
      · have k := k.2 c
        refine zx_iload d_BlockReader_readLength_37 rfl ?_
        refine zx_goto (tgt := 43) d_BlockReader_readLength_39 rfl ?_
        exact zi_iret d_BlockReader_readLength_43 rfl k
set_option maxRecDepth 20000 in
theorem r_BlockReader_readSymbols_0 (l : Launch) (d : Nat) {K : zx_Kt} {RJ : zx_RJ} {Q : zi_Q} {I : zi_I} (o0 : Nat) (o1 : Nat) (x2 : Int32) (q1 : (K.2 o0).1 = 11) {r2 : Nat} (e3 : RJ.1 o0 1 = r2) (z4 : r2 ≠ 0) (q5 : (K.2 o1).1 = 9) {r6 : Nat} (e7 : RJ.1 o1 6 = r6) (z8 : r6 ≠ 0) (q9 : (K.2 r2).1 = 14)
    (k : zi_C l (zx_rm d 0 0) M_MoveList_setTo [.ref r2, .ref r6, .int (I o1 5)] K RJ I (fun r I10 => r = none ∧ zi_X l (zx_rm (d + 1) 0 0) M_BlockReader_readSymbols K RJ Q 32 [(0, .ref o0), (1, .ref o1), (2, .int x2), (3, .int 0)] [] (zx_u2 (zx_u2 (zx_u2 I10 o1 7 0) o1 2 0) o0 5 1))) :
    zi_X l (zx_rm (d + 1) 0 0) M_BlockReader_readSymbols K RJ Q 0 [(0, .ref o0), (1, .ref o1), (2, .int x2)] [] I := by
  refine zx_aload_n d_BlockReader_readSymbols_0 rfl ?_
  refine zi_getR f_BlockReader_12 q1 (by decide) e3 z4 d_BlockReader_readSymbols_1 ?_
  refine zx_aload_n d_BlockReader_readSymbols_4 rfl ?_
  refine zi_getR f_BlockReader_161 q5 (by decide) e7 z8 d_BlockReader_readSymbols_5 ?_
  refine zx_aload_n d_BlockReader_readSymbols_8 rfl ?_
  refine zi_getI f_BlockReader_101 q5 (by decide) d_BlockReader_readSymbols_9 ?_
  refine zi_callV (hC := k) k_BlockReader_164 q9 (by decide) rfl rfl (Nat.le_of_ble_eq_true rfl) (Nat.le_of_ble_eq_true rfl) d_BlockReader_readSymbols_12 (fun r I10 k => ?_)
  obtain ⟨rfl, k⟩ := k
  refine zx_aload_n d_BlockReader_readSymbols_15 rfl ?_
  refine zx_iconst d_BlockReader_readSymbols_16 zc_0 ?_
  refine zi_putI f_BlockReader_165 q5 (by decide) d_BlockReader_readSymbols_17 ?_
  refine zx_aload_n d_BlockReader_readSymbols_20 rfl ?_
  refine zx_iconst d_BlockReader_readSymbols_21 zc_0 ?_
  refine zi_putI f_BlockReader_168 q5 (by decide) d_BlockReader_readSymbols_22 ?_
  refine zx_aload_n d_BlockReader_readSymbols_25 rfl ?_
  refine zx_iconst d_BlockReader_readSymbols_26 zc_1 ?_
  refine zi_putI f_BlockReader_31 q1 (by decide) d_BlockReader_readSymbols_27 ?_
  refine zx_iconst d_BlockReader_readSymbols_30 zc_0 ?_
  refine zx_istore_n (L2 := [(0, .ref o0), (1, .ref o1), (2, .int x2), (3, .int 0)]) d_BlockReader_readSymbols_31 (Nat.le_of_ble_eq_true rfl) rfl ?_
  exact k
set_option maxRecDepth 20000 in
theorem r_BlockReader_readSymbols_32 (l : Launch) (d : Nat) {K : zx_Kt} {RJ : zx_RJ} {Q : zi_Q} {I : zi_I} (o0 : Nat) (o1 : Nat) (x2 : Int32) (x3 : Int32) (q1 : (K.2 o1).1 = 9) (q2 : (K.2 o0).1 = 11) {r3 : Nat} (e4 : RJ.1 o0 0 = r3) (z5 : r3 ≠ 0) (q6 : (K.2 r3).1 = 7) {r8 : Nat} (e9 : RJ.1 o0 2 = r8) (z10 : r8 ≠ 0) {n14 : Nat} (a13 : K.2 r8 = (3, n14))
    (k : (((8 * (I o1 11)) ≤ x3) → zi_C l (zx_rm d 0 0) M_BitReader_beginNumber [.ref r3] K RJ I (fun r I7 => r = none ∧ Q (some (.int ((-11)))) I7)) ∧ ((¬ (8 * (I o1 11)) ≤ x3) → zi_C l (zx_rm d 0 0) M_Block_pickOfSymbol [.ref o1, .int x3] K RJ I (fun r I11 => ∃ v12, r = some (.int v12) ∧ ∃ j15, v12 = nI j15 ∧ j15 < n14 ∧ ∃ r19, RJ.1 r8 j15 = r19 ∧ r19 ≠ 0 ∧ zi_C l (zx_rm d 0 0) M_BlockReader_readSymbol [.ref o0, .ref r19] K RJ I11 (fun r I21 => ∃ v22, r = some (.int v22) ∧ ((0 ≤ v22) → zi_C l (zx_rm d 0 0) M_Block_addSymbol [.ref o1, .int v22] K RJ I21 (fun r I23 => r = none ∧ zi_C l (zx_rm d 0 0) M_Block_endSymbol [.ref o1] K RJ I23 (fun r I24 => ∃ v25, r = some (.int v25) ∧ ((¬ v22 = v25) → zi_C l (zx_rm d 0 0) M_BlockReader_addBytes [.ref o0, .ref o1, .int v22, .int x2] K RJ I24 (fun r I26 => ∃ v27, r = some (.int v27) ∧ ((¬ v27 = 0) → zi_X l (zx_rm (d + 1) 0 0) M_BlockReader_readSymbols K RJ Q 32 [(0, .ref o0), (1, .ref o1), (2, .int x2), (3, .int (x3 + 1))] [] I26) ∧ ((v27 = 0) → Q (some (.int ((-11)))) I26))) ∧ ((v22 = v25) → Q (some (.int 0)) I24)))) ∧ ((¬ 0 ≤ v22) → Q (some (.int v22)) I21))))) :
    zi_X l (zx_rm (d + 1) 0 0) M_BlockReader_readSymbols K RJ Q 32 [(0, .ref o0), (1, .ref o1), (2, .int x2), (3, .int x3)] [] I := by
  refine zx_iload_n d_BlockReader_readSymbols_32 rfl ?_
  refine zx_bipush d_BlockReader_readSymbols_33 zb_8 ?_
  refine zx_aload_n d_BlockReader_readSymbols_35 rfl ?_
  refine zi_getI f_BlockReader_117 q1 (by decide) d_BlockReader_readSymbols_36 ?_
  refine zx_imul d_BlockReader_readSymbols_39 ?_
  refine zx_icmp_ge (tgt := 104) d_BlockReader_readSymbols_40 rfl (fun c => ?_) (fun c => ?_)
  · have k := k.1 c
    refine zx_aload_n d_BlockReader_readSymbols_104 rfl ?_
    refine zi_getR f_BlockReader_35 q2 (by decide) e4 z5 d_BlockReader_readSymbols_105 ?_
    refine zi_callV (hC := k) k_BlockReader_132 q6 (by decide) rfl rfl (Nat.le_of_ble_eq_true rfl) (Nat.le_of_ble_eq_true rfl) d_BlockReader_readSymbols_108 (fun r I7 k => ?_)
    obtain ⟨rfl, k⟩ := k
    refine zx_bipush d_BlockReader_readSymbols_111 zb_m11 ?_
    exact zi_iret d_BlockReader_readSymbols_113 rfl k
  · have k := k.2 c
    refine zx_aload_n d_BlockReader_readSymbols_43 rfl ?_
    refine zx_aload_n d_BlockReader_readSymbols_44 rfl ?_
    refine zi_getR f_BlockReader_20 q2 (by decide) e9 z10 d_BlockReader_readSymbols_45 ?_
    refine zx_aload_n d_BlockReader_readSymbols_48 rfl ?_
    refine zx_iload_n d_BlockReader_readSymbols_49 rfl ?_
    refine zi_callV (hC := k) k_BlockReader_169 q1 (by decide) rfl rfl (Nat.le_of_ble_eq_true rfl) (Nat.le_of_ble_eq_true rfl) d_BlockReader_readSymbols_50 (fun r I11 k => ?_)
    obtain ⟨v12, rfl, k⟩ := k
    obtain ⟨j15, e16, b17, k⟩ := k
    obtain ⟨r19, e20, z18, k⟩ := k
    refine zi_aald3 j15 a13 e16 b17 e20 z18 d_BlockReader_readSymbols_53 ?_
    refine zi_callV (hC := k) k_BlockReader_172 q2 (by decide) rfl rfl (Nat.le_of_ble_eq_true rfl) (Nat.le_of_ble_eq_true rfl) d_BlockReader_readSymbols_54 (fun r I21 k => ?_)
    obtain ⟨v22, rfl, k⟩ := k
    refine zx_istore (L2 := [(0, .ref o0), (1, .ref o1), (2, .int x2), (3, .int x3), (4, .int v22)]) d_BlockReader_readSymbols_57 (Nat.le_of_ble_eq_true rfl) rfl ?_
    refine zx_iload d_BlockReader_readSymbols_59 rfl ?_
    refine zx_if_ge (tgt := 67) d_BlockReader_readSymbols_61 rfl (fun c => ?_) (fun c => ?_)
    · have k := k.1 c
      refine zx_aload_n d_BlockReader_readSymbols_67 rfl ?_
      refine zx_iload d_BlockReader_readSymbols_68 rfl ?_
      refine zi_callV (hC := k) k_BlockReader_176 q1 (by decide) rfl rfl (Nat.le_of_ble_eq_true rfl) (Nat.le_of_ble_eq_true rfl) d_BlockReader_readSymbols_70 (fun r I23 k => ?_)
      obtain ⟨rfl, k⟩ := k
      refine zx_iload d_BlockReader_readSymbols_73 rfl ?_
      refine zx_aload_n d_BlockReader_readSymbols_75 rfl ?_
      refine zi_callV (hC := k) k_BlockReader_179 q1 (by decide) rfl rfl (Nat.le_of_ble_eq_true rfl) (Nat.le_of_ble_eq_true rfl) d_BlockReader_readSymbols_76 (fun r I24 k => ?_)
      obtain ⟨v25, rfl, k⟩ := k
      refine zx_icmp_ne (tgt := 84) d_BlockReader_readSymbols_79 rfl (fun c => ?_) (fun c => ?_)
      · have k := k.1 c
        refine zx_aload_n d_BlockReader_readSymbols_84 rfl ?_
        refine zx_aload_n d_BlockReader_readSymbols_85 rfl ?_
        refine zx_iload d_BlockReader_readSymbols_86 rfl ?_
        refine zx_iload_n d_BlockReader_readSymbols_88 rfl ?_
        refine zi_callV (hC := k) k_BlockReader_182 q2 (by decide) rfl rfl (Nat.le_of_ble_eq_true rfl) (Nat.le_of_ble_eq_true rfl) d_BlockReader_readSymbols_89 (fun r I26 k => ?_)
        obtain ⟨v27, rfl, k⟩ := k
        refine zx_if_ne (tgt := 98) d_BlockReader_readSymbols_92 rfl (fun c => ?_) (fun c => ?_)
        · have k := k.1 c
          refine zx_iinc (L2 := [(0, .ref o0), (1, .ref o1), (2, .int x2), (3, .int (x3 + 1)), (4, .int v22)]) d_BlockReader_readSymbols_98 rfl (Nat.le_of_ble_eq_true rfl) zc_1 rfl ?_
          refine zx_goto (tgt := 32) d_BlockReader_readSymbols_101 rfl ?_
          refine zx_locs [0, 1, 2, 3] rfl ?_
          exact k
        · have k := k.2 c
          refine zx_bipush d_BlockReader_readSymbols_95 zb_m11 ?_
          exact zi_iret d_BlockReader_readSymbols_97 rfl k
      · have k := k.2 c
        refine zx_iconst d_BlockReader_readSymbols_82 zc_0 ?_
        exact zi_iret d_BlockReader_readSymbols_83 rfl k
    · have k := k.2 c
      refine zx_iload d_BlockReader_readSymbols_64 rfl ?_
      exact zi_iret d_BlockReader_readSymbols_66 rfl k
set_option maxRecDepth 20000 in
theorem r_BlockReader_readSymbol_0 (l : Launch) (d : Nat) {K : zx_Kt} {RJ : zx_RJ} {Q : zi_Q} {I : zi_I} (o0 : Nat) (o1 : Nat) (q1 : (K.2 o0).1 = 11) {r2 : Nat} (e3 : RJ.1 o0 0 = r2) (z4 : r2 ≠ 0) (q5 : (K.2 r2).1 = 7)
    (k : zi_C l (zx_rm d 0 0) M_BitReader_beginNumber [.ref r2] K RJ I (fun r I6 => r = none ∧ zi_X l (zx_rm (d + 1) 0 0) M_BlockReader_readSymbol K RJ Q 11 [(0, .ref o0), (1, .ref o1), (2, .int 0), (3, .int 1)] [] I6)) :
    zi_X l (zx_rm (d + 1) 0 0) M_BlockReader_readSymbol K RJ Q 0 [(0, .ref o0), (1, .ref o1)] [] I := by
  refine zx_aload_n d_BlockReader_readSymbol_0 rfl ?_
  refine zi_getR f_BlockReader_35 q1 (by decide) e3 z4 d_BlockReader_readSymbol_1 ?_
  refine zi_callV (hC := k) k_BlockReader_132 q5 (by decide) rfl rfl (Nat.le_of_ble_eq_true rfl) (Nat.le_of_ble_eq_true rfl) d_BlockReader_readSymbol_4 (fun r I6 k => ?_)
  obtain ⟨rfl, k⟩ := k
  refine zx_iconst d_BlockReader_readSymbol_7 zc_0 ?_
  refine zx_istore_n (L2 := [(0, .ref o0), (1, .ref o1), (2, .int 0)]) d_BlockReader_readSymbol_8 (Nat.le_of_ble_eq_true rfl) rfl ?_
  refine zx_iconst d_BlockReader_readSymbol_9 zc_1 ?_
  refine zx_istore_n (L2 := [(0, .ref o0), (1, .ref o1), (2, .int 0), (3, .int 1)]) d_BlockReader_readSymbol_10 (Nat.le_of_ble_eq_true rfl) rfl ?_
  exact k
set_option maxRecDepth 20000 in
theorem r_BlockReader_readSymbol_11 (l : Launch) (d : Nat) {K : zx_Kt} {RJ : zx_RJ} {Q : zi_Q} {I : zi_I} (o0 : Nat) (o1 : Nat) (x2 : Int32) (x3 : Int32) (q1 : (K.2 o0).1 = 11) {r2 : Nat} (e3 : RJ.1 o0 0 = r2) (z4 : r2 ≠ 0) (q5 : (K.2 r2).1 = 7) (q8 : (K.2 o1).1 = 13)
    (k : ((12 < x3) → Q (some (.int ((-10)))) I) ∧ ((¬ 12 < x3) → zi_C l (zx_rm d 0 0) M_BitReader_takeBit [.ref r2] K RJ I (fun r I6 => ∃ v7, r = some (.int v7) ∧ ((0 ≤ v7) → zi_C l (zx_rm d 0 0) M_Codes_find [.ref o1, .int (((x2 : Int32) <<< ((1 : Int32) &&& 31)) ||| v7), .int x3] K RJ I6 (fun r I9 => ∃ v10, r = some (.int v10) ∧ ((v10 < 0) → zi_X l (zx_rm (d + 1) 0 0) M_BlockReader_readSymbol K RJ Q 11 [(0, .ref o0), (1, .ref o1), (2, .int (((x2 : Int32) <<< ((1 : Int32) &&& 31)) ||| v7)), (3, .int (x3 + 1))] [] I9) ∧ ((¬ v10 < 0) → Q (some (.int v10)) I9))) ∧ ((¬ 0 ≤ v7) → Q (some (.int v7)) I6)))) :
    zi_X l (zx_rm (d + 1) 0 0) M_BlockReader_readSymbol K RJ Q 11 [(0, .ref o0), (1, .ref o1), (2, .int x2), (3, .int x3)] [] I := by
  refine zx_iload_n d_BlockReader_readSymbol_11 rfl ?_
  refine zx_bipush d_BlockReader_readSymbol_12 zb_12 ?_
  refine zx_icmp_gt (tgt := 63) d_BlockReader_readSymbol_14 rfl (fun c => ?_) (fun c => ?_)
  · have k := k.1 c
    refine zx_bipush d_BlockReader_readSymbol_63 zb_m10 ?_
    exact zi_iret d_BlockReader_readSymbol_65 rfl k
  · have k := k.2 c
    refine zx_aload_n d_BlockReader_readSymbol_17 rfl ?_
    refine zi_getR f_BlockReader_35 q1 (by decide) e3 z4 d_BlockReader_readSymbol_18 ?_
    refine zi_callV (hC := k) k_BlockReader_135 q5 (by decide) rfl rfl (Nat.le_of_ble_eq_true rfl) (Nat.le_of_ble_eq_true rfl) d_BlockReader_readSymbol_21 (fun r I6 k => ?_)
    obtain ⟨v7, rfl, k⟩ := k
    refine zx_istore (L2 := [(0, .ref o0), (1, .ref o1), (2, .int x2), (3, .int x3), (4, .int v7)]) d_BlockReader_readSymbol_24 (Nat.le_of_ble_eq_true rfl) rfl ?_
    refine zx_iload d_BlockReader_readSymbol_26 rfl ?_
    refine zx_if_ge (tgt := 34) d_BlockReader_readSymbol_28 rfl (fun c => ?_) (fun c => ?_)
    · have k := k.1 c
      refine zx_iload_n d_BlockReader_readSymbol_34 rfl ?_
      refine zx_iconst d_BlockReader_readSymbol_35 zc_1 ?_
      refine zx_ishl d_BlockReader_readSymbol_36 ?_
      refine zx_iload d_BlockReader_readSymbol_37 rfl ?_
      refine zx_ior d_BlockReader_readSymbol_39 ?_
      refine zx_istore_n (L2 := [(0, .ref o0), (1, .ref o1), (2, .int (((x2 : Int32) <<< ((1 : Int32) &&& 31)) ||| v7)), (3, .int x3), (4, .int v7)]) d_BlockReader_readSymbol_40 (Nat.le_of_ble_eq_true rfl) rfl ?_
      refine zx_aload_n d_BlockReader_readSymbol_41 rfl ?_
      refine zx_iload_n d_BlockReader_readSymbol_42 rfl ?_
      refine zx_iload_n d_BlockReader_readSymbol_43 rfl ?_
      refine zi_callV (hC := k) k_BlockReader_186 q8 (by decide) rfl rfl (Nat.le_of_ble_eq_true rfl) (Nat.le_of_ble_eq_true rfl) d_BlockReader_readSymbol_44 (fun r I9 k => ?_)
      obtain ⟨v10, rfl, k⟩ := k
      refine zx_istore (L2 := [(0, .ref o0), (1, .ref o1), (2, .int (((x2 : Int32) <<< ((1 : Int32) &&& 31)) ||| v7)), (3, .int x3), (4, .int v7), (5, .int v10)]) d_BlockReader_readSymbol_47 (Nat.le_of_ble_eq_true rfl) rfl ?_
      refine zx_iload d_BlockReader_readSymbol_49 rfl ?_
      refine zx_if_lt (tgt := 57) d_BlockReader_readSymbol_51 rfl (fun c => ?_) (fun c => ?_)
      · have k := k.1 c
        refine zx_iinc (L2 := [(0, .ref o0), (1, .ref o1), (2, .int (((x2 : Int32) <<< ((1 : Int32) &&& 31)) ||| v7)), (3, .int (x3 + 1)), (4, .int v7), (5, .int v10)]) d_BlockReader_readSymbol_57 rfl (Nat.le_of_ble_eq_true rfl) zc_1 rfl ?_
        refine zx_goto (tgt := 11) d_BlockReader_readSymbol_60 rfl ?_
        refine zx_locs [0, 1, 2, 3] rfl ?_
        exact k
      · have k := k.2 c
        refine zx_iload d_BlockReader_readSymbol_54 rfl ?_
        exact zi_iret d_BlockReader_readSymbol_56 rfl k
    · have k := k.2 c
      refine zx_iload d_BlockReader_readSymbol_31 rfl ?_
      exact zi_iret d_BlockReader_readSymbol_33 rfl k
set_option maxRecDepth 20000 in
theorem r_BlockReader_addBytes_0 (l : Launch) (d : Nat) {K : zx_Kt} {RJ : zx_RJ} {Q : zi_Q} {I : zi_I} (o0 : Nat) (o1 : Nat) (x2 : Int32) (x3 : Int32) 
    (k : ((2 ≤ x2) → zi_X l (zx_rm (d + 1) 0 0) M_BlockReader_addBytes K RJ Q 10 [(0, .ref o0), (1, .ref o1), (2, .int x2), (3, .int x3)] [.int 0] I) ∧ ((¬ 2 ≤ x2) → zi_X l (zx_rm (d + 1) 0 0) M_BlockReader_addBytes K RJ Q 10 [(0, .ref o0), (1, .ref o1), (2, .int x2), (3, .int x3)] [.int 1] I)) :
    zi_X l (zx_rm (d + 1) 0 0) M_BlockReader_addBytes K RJ Q 0 [(0, .ref o0), (1, .ref o1), (2, .int x2), (3, .int x3)] [] I := by
  refine zx_iload_n d_BlockReader_addBytes_0 rfl ?_
  refine zx_iconst d_BlockReader_addBytes_1 zc_2 ?_
  refine zx_icmp_ge (tgt := 9) d_BlockReader_addBytes_2 rfl (fun c => ?_) (fun c => ?_)
  · have k := k.1 c
    refine zx_iconst d_BlockReader_addBytes_9 zc_0 ?_
    exact k
  · have k := k.2 c
    refine zx_iconst d_BlockReader_addBytes_5 zc_1 ?_
    refine zx_goto (tgt := 10) d_BlockReader_addBytes_6 rfl ?_
    exact k
set_option maxRecDepth 20000 in
theorem r_BlockReader_addBytes_10 (l : Launch) (d : Nat) {K : zx_Kt} {RJ : zx_RJ} {Q : zi_Q} {I : zi_I} (o0 : Nat) (o1 : Nat) (x2 : Int32) (x3 : Int32) (y0 : Int32) (q1 : (K.2 o0).1 = 11)
    (k : ((y0 = 0) → zi_X l (zx_rm (d + 1) 0 0) M_BlockReader_addBytes K RJ Q 27 [(0, .ref o0), (1, .ref o1), (2, .int x2), (3, .int x3), (4, .int y0)] [.int 1] I) ∧ ((¬ y0 = 0) → zi_X l (zx_rm (d + 1) 0 0) M_BlockReader_addBytes K RJ Q 27 [(0, .ref o0), (1, .ref o1), (2, .int x2), (3, .int x3), (4, .int y0)] [.int (((I o0 5) : Int32) <<< ((x2 : Int32) &&& 31))] I)) :
    zi_X l (zx_rm (d + 1) 0 0) M_BlockReader_addBytes K RJ Q 10 [(0, .ref o0), (1, .ref o1), (2, .int x2), (3, .int x3)] [.int y0] I := by
  refine zx_istore (L2 := [(0, .ref o0), (1, .ref o1), (2, .int x2), (3, .int x3), (4, .int y0)]) d_BlockReader_addBytes_10 (Nat.le_of_ble_eq_true rfl) rfl ?_
  refine zx_iload d_BlockReader_addBytes_12 rfl ?_
  refine zx_if_eq (tgt := 26) d_BlockReader_addBytes_14 rfl (fun c => ?_) (fun c => ?_)
  · have k := k.1 c
    refine zx_iconst d_BlockReader_addBytes_26 zc_1 ?_
    exact k
  · have k := k.2 c
    refine zx_aload_n d_BlockReader_addBytes_17 rfl ?_
    refine zi_getI f_BlockReader_31 q1 (by decide) d_BlockReader_addBytes_18 ?_
    refine zx_iload_n d_BlockReader_addBytes_21 rfl ?_
    refine zx_ishl d_BlockReader_addBytes_22 ?_
    refine zx_goto (tgt := 27) d_BlockReader_addBytes_23 rfl ?_
    exact k
set_option maxRecDepth 20000 in
theorem r_BlockReader_addBytes_27 (l : Launch) (d : Nat) {K : zx_Kt} {RJ : zx_RJ} {Q : zi_Q} {I : zi_I} (o0 : Nat) (o1 : Nat) (x2 : Int32) (x3 : Int32) (x4 : Int32) (y0 : Int32) (q1 : (K.2 o1).1 = 9) (q2 : (K.2 o0).1 = 11) {r3 : Nat} (e4 : RJ.1 o0 1 = r3) (z5 : r3 ≠ 0)
    (k : ((((I o1 2) + y0) ≤ x3) → ((x4 = 0) → zi_X l (zx_rm (d + 1) 0 0) M_BlockReader_addBytes K RJ Q 58 [(0, .ref o0), (1, .ref o1), (2, .int x2), (3, .int x3), (4, .int x4), (5, .int y0)] [.int (x2 - 1), .ref r3] I) ∧ ((¬ x4 = 0) → zi_X l (zx_rm (d + 1) 0 0) M_BlockReader_addBytes K RJ Q 58 [(0, .ref o0), (1, .ref o1), (2, .int x2), (3, .int x3), (4, .int x4), (5, .int y0)] [.int 0, .ref r3] I)) ∧ ((¬ ((I o1 2) + y0) ≤ x3) → Q (some (.int 0)) I)) :
    zi_X l (zx_rm (d + 1) 0 0) M_BlockReader_addBytes K RJ Q 27 [(0, .ref o0), (1, .ref o1), (2, .int x2), (3, .int x3), (4, .int x4)] [.int y0] I := by
  refine zx_istore (L2 := [(0, .ref o0), (1, .ref o1), (2, .int x2), (3, .int x3), (4, .int x4), (5, .int y0)]) d_BlockReader_addBytes_27 (Nat.le_of_ble_eq_true rfl) rfl ?_
  refine zx_aload_n d_BlockReader_addBytes_29 rfl ?_
  refine zi_getI f_BlockReader_168 q1 (by decide) d_BlockReader_addBytes_30 ?_
  refine zx_iload d_BlockReader_addBytes_33 rfl ?_
  refine zx_iadd d_BlockReader_addBytes_35 ?_
  refine zx_iload_n d_BlockReader_addBytes_36 rfl ?_
  refine zx_icmp_le (tgt := 42) d_BlockReader_addBytes_37 rfl (fun c => ?_) (fun c => ?_)
  · have k := k.1 c
    refine zx_aload_n d_BlockReader_addBytes_42 rfl ?_
    refine zi_getR f_BlockReader_12 q2 (by decide) e4 z5 d_BlockReader_addBytes_43 ?_
    refine zx_iload d_BlockReader_addBytes_46 rfl ?_
    refine zx_if_eq (tgt := 55) d_BlockReader_addBytes_48 rfl (fun c => ?_) (fun c => ?_)
    · have k := k.1 c
      refine zx_iload_n d_BlockReader_addBytes_55 rfl ?_
      refine zx_iconst d_BlockReader_addBytes_56 zc_1 ?_
      refine zx_isub d_BlockReader_addBytes_57 ?_
      exact k
    · have k := k.2 c
      refine zx_iconst d_BlockReader_addBytes_51 zc_0 ?_
      refine zx_goto (tgt := 58) d_BlockReader_addBytes_52 rfl ?_
      exact k
  · have k := k.2 c
    refine zx_iconst d_BlockReader_addBytes_40 zc_0 ?_
    exact zi_zret d_BlockReader_addBytes_41 rfl rfl k
set_option maxRecDepth 20000 in
theorem r_BlockReader_addBytes_58 (l : Launch) (d : Nat) {K : zx_Kt} {RJ : zx_RJ} {Q : zi_Q} {I : zi_I} (o0 : Nat) (o1 : Nat) (x2 : Int32) (x3 : Int32) (x4 : Int32) (x5 : Int32) (y0 : Int32) (p1 : Nat) (q1 : (K.2 p1).1 = 14)
    (k : zi_C l (zx_rm d 0 0) M_MoveList_movePlace [.ref p1, .int y0] K RJ I (fun r I2 => ∃ v3, r = some (.int v3) ∧ zi_X l (zx_rm (d + 1) 0 0) M_BlockReader_addBytes K RJ Q 66 [(0, .ref o0), (1, .ref o1), (2, .int x2), (3, .int x3), (4, .int x4), (5, .int x5), (6, .int v3), (7, .int 0)] [] I2)) :
    zi_X l (zx_rm (d + 1) 0 0) M_BlockReader_addBytes K RJ Q 58 [(0, .ref o0), (1, .ref o1), (2, .int x2), (3, .int x3), (4, .int x4), (5, .int x5)] [.int y0, .ref p1] I := by
  refine zi_callV (hC := k) k_BlockReader_129 q1 (by decide) rfl rfl (Nat.le_of_ble_eq_true rfl) (Nat.le_of_ble_eq_true rfl) d_BlockReader_addBytes_58 (fun r I2 k => ?_)
  obtain ⟨v3, rfl, k⟩ := k
  refine zx_istore (L2 := [(0, .ref o0), (1, .ref o1), (2, .int x2), (3, .int x3), (4, .int x4), (5, .int x5), (6, .int v3)]) d_BlockReader_addBytes_61 (Nat.le_of_ble_eq_true rfl) rfl ?_
  refine zx_iconst d_BlockReader_addBytes_63 zc_0 ?_
  refine zx_istore (L2 := [(0, .ref o0), (1, .ref o1), (2, .int x2), (3, .int x3), (4, .int x4), (5, .int x5), (6, .int v3), (7, .int 0)]) d_BlockReader_addBytes_64 (Nat.le_of_ble_eq_true rfl) rfl ?_
  exact k
set_option maxRecDepth 20000 in
theorem r_BlockReader_addBytes_66 (l : Launch) (d : Nat) {K : zx_Kt} {RJ : zx_RJ} {Q : zi_Q} {I : zi_I} (o0 : Nat) (o1 : Nat) (x2 : Int32) (x3 : Int32) (x4 : Int32) (x5 : Int32) (x6 : Int32) (x7 : Int32) (q1 : (K.2 o0).1 = 11) (q2 : (K.2 o1).1 = 9)
    (k : ((x5 ≤ x7) → ((x4 = 0) → zi_X l (zx_rm (d + 1) 0 0) M_BlockReader_addBytes K RJ Q 101 [(0, .ref o0), (1, .ref o1), (2, .int x2), (3, .int x3), (4, .int x4), (5, .int x5), (6, .int x6), (7, .int x7)] [.int 1, .ref o0] I) ∧ ((¬ x4 = 0) → zi_X l (zx_rm (d + 1) 0 0) M_BlockReader_addBytes K RJ Q 101 [(0, .ref o0), (1, .ref o1), (2, .int x2), (3, .int x3), (4, .int x4), (5, .int x5), (6, .int x6), (7, .int x7)] [.int (2 * (I o0 5)), .ref o0] I)) ∧ ((¬ x5 ≤ x7) → zi_C l (zx_rm d 0 0) M_Block_addToColumn [.ref o1, .int x6] K RJ I (fun r I3 => r = none ∧ zi_X l (zx_rm (d + 1) 0 0) M_BlockReader_addBytes K RJ Q 66 [(0, .ref o0), (1, .ref o1), (2, .int x2), (3, .int x3), (4, .int x4), (5, .int x5), (6, .int x6), (7, .int (x7 + 1))] [] I3))) :
    zi_X l (zx_rm (d + 1) 0 0) M_BlockReader_addBytes K RJ Q 66 [(0, .ref o0), (1, .ref o1), (2, .int x2), (3, .int x3), (4, .int x4), (5, .int x5), (6, .int x6), (7, .int x7)] [] I := by
  refine zx_iload d_BlockReader_addBytes_66 rfl ?_
  refine zx_iload d_BlockReader_addBytes_68 rfl ?_
  refine zx_icmp_ge (tgt := 85) d_BlockReader_addBytes_70 rfl (fun c => ?_) (fun c => ?_)
  · have k := k.1 c
    refine zx_aload_n d_BlockReader_addBytes_85 rfl ?_
    refine zx_iload d_BlockReader_addBytes_86 rfl ?_
    refine zx_if_eq (tgt := 100) d_BlockReader_addBytes_88 rfl (fun c => ?_) (fun c => ?_)
    · have k := k.1 c
      refine zx_iconst d_BlockReader_addBytes_100 zc_1 ?_
      exact k
    · have k := k.2 c
      refine zx_iconst d_BlockReader_addBytes_91 zc_2 ?_
      refine zx_aload_n d_BlockReader_addBytes_92 rfl ?_
      refine zi_getI f_BlockReader_31 q1 (by decide) d_BlockReader_addBytes_93 ?_
      refine zx_imul d_BlockReader_addBytes_96 ?_
      refine zx_goto (tgt := 101) d_BlockReader_addBytes_97 rfl ?_
      exact k
  · have k := k.2 c
    refine zx_aload_n d_BlockReader_addBytes_73 rfl ?_
    refine zx_iload d_BlockReader_addBytes_74 rfl ?_
    refine zi_callV (hC := k) k_BlockReader_190 q2 (by decide) rfl rfl (Nat.le_of_ble_eq_true rfl) (Nat.le_of_ble_eq_true rfl) d_BlockReader_addBytes_76 (fun r I3 k => ?_)
    obtain ⟨rfl, k⟩ := k
    refine zx_iinc (L2 := [(0, .ref o0), (1, .ref o1), (2, .int x2), (3, .int x3), (4, .int x4), (5, .int x5), (6, .int x6), (7, .int (x7 + 1))]) d_BlockReader_addBytes_79 rfl (Nat.le_of_ble_eq_true rfl) zc_1 rfl ?_
    refine zx_goto (tgt := 66) d_BlockReader_addBytes_82 rfl ?_
    exact k
set_option maxRecDepth 20000 in
theorem r_BlockReader_addBytes_101 (l : Launch) (d : Nat) {K : zx_Kt} {RJ : zx_RJ} {Q : zi_Q} {I : zi_I} (o0 : Nat) (o1 : Nat) (x2 : Int32) (x3 : Int32) (x4 : Int32) (x5 : Int32) (x6 : Int32) (x7 : Int32) (y0 : Int32) (p1 : Nat) (q1 : (K.2 p1).1 = 11)
    (k : Q (some (.int 1)) (zx_u2 I p1 5 y0)) :
    zi_X l (zx_rm (d + 1) 0 0) M_BlockReader_addBytes K RJ Q 101 [(0, .ref o0), (1, .ref o1), (2, .int x2), (3, .int x3), (4, .int x4), (5, .int x5), (6, .int x6), (7, .int x7)] [.int y0, .ref p1] I := by
  refine zi_putI f_BlockReader_31 q1 (by decide) d_BlockReader_addBytes_101 ?_
  refine zx_iconst d_BlockReader_addBytes_104 zc_1 ?_
  exact zi_zret d_BlockReader_addBytes_105 rfl rfl k
set_option maxRecDepth 20000 in
theorem r_BlockReader_unsort_0 (l : Launch) (d : Nat) {K : zx_Kt} {RJ : zx_RJ} {Q : zi_Q} {I : zi_I} (o0 : Nat) (o1 : Nat) (q1 : (K.2 o1).1 = 9) (q2 : (K.2 o0).1 = 11)
    (k : (((I o1 1) < (I o1 2)) → zi_C l (zx_rm d 0 0) M_BlockReader_findFollowers [.ref o0, .ref o1] K RJ I (fun r I3 => r = none ∧ zi_X l (zx_rm (d + 1) 0 0) M_BlockReader_unsort K RJ Q 26 [(0, .ref o0), (1, .ref o1), (2, .int (I3 o1 1)), (3, .int 0)] [] I3)) ∧ ((¬ (I o1 1) < (I o1 2)) → Q (some (.int ((-12)))) I)) :
    zi_X l (zx_rm (d + 1) 0 0) M_BlockReader_unsort K RJ Q 0 [(0, .ref o0), (1, .ref o1)] [] I := by
  refine zx_aload_n d_BlockReader_unsort_0 rfl ?_
  refine zi_getI f_BlockReader_98 q1 (by decide) d_BlockReader_unsort_1 ?_
  refine zx_aload_n d_BlockReader_unsort_4 rfl ?_
  refine zi_getI f_BlockReader_168 q1 (by decide) d_BlockReader_unsort_5 ?_
  refine zx_icmp_lt (tgt := 14) d_BlockReader_unsort_8 rfl (fun c => ?_) (fun c => ?_)
  · have k := k.1 c
    refine zx_aload_n d_BlockReader_unsort_14 rfl ?_
    refine zx_aload_n d_BlockReader_unsort_15 rfl ?_
    refine zi_callV (hC := k) k_BlockReader_193 q2 (by decide) rfl rfl (Nat.le_of_ble_eq_true rfl) (Nat.le_of_ble_eq_true rfl) d_BlockReader_unsort_16 (fun r I3 k => ?_)
    obtain ⟨rfl, k⟩ := k
    refine zx_aload_n d_BlockReader_unsort_19 rfl ?_
    refine zi_getI f_BlockReader_98 q1 (by decide) d_BlockReader_unsort_20 ?_
    refine zx_istore_n (L2 := [(0, .ref o0), (1, .ref o1), (2, .int (I3 o1 1))]) d_BlockReader_unsort_23 (Nat.le_of_ble_eq_true rfl) rfl ?_
    refine zx_iconst d_BlockReader_unsort_24 zc_0 ?_
    refine zx_istore_n (L2 := [(0, .ref o0), (1, .ref o1), (2, .int (I3 o1 1)), (3, .int 0)]) d_BlockReader_unsort_25 (Nat.le_of_ble_eq_true rfl) rfl ?_
    exact k
  · have k := k.2 c
    refine zx_bipush d_BlockReader_unsort_11 zb_m12 ?_
    exact zi_iret d_BlockReader_unsort_13 rfl k
set_option maxRecDepth 20000 in
theorem r_BlockReader_unsort_26 (l : Launch) (d : Nat) {K : zx_Kt} {RJ : zx_RJ} {Q : zi_Q} {I : zi_I} (o0 : Nat) (o1 : Nat) (x2 : Int32) (x3 : Int32) (q1 : (K.2 o1).1 = 9) (q2 : (K.2 o0).1 = 11) {r3 : Nat} (e4 : RJ.1 o0 3 = r3) (z5 : r3 ≠ 0) {n7 : Nat} (a6 : K.2 r3 = (0, n7)) {r11 : Nat} (e12 : RJ.1 o1 3 = r11) (z13 : r11 ≠ 0) {r14 : Nat} (e15 : RJ.1 o1 4 = r14) (z16 : r14 ≠ 0) {n18 : Nat} (a17 : K.2 r14 = (0, n18)) {n23 : Nat} (a22 : K.2 r11 = (0, n23))
    (k : (((I o1 2) ≤ x3) → Q (some (.int 0)) I) ∧ ((¬ (I o1 2) ≤ x3) → ∃ j8, x2 = nI j8 ∧ j8 < n7 ∧ ∃ j19, I r3 j8 = nI j19 ∧ j19 < n18 ∧ ∃ j24, x3 = nI j24 ∧ j24 < n23 ∧ zi_X l (zx_rm (d + 1) 0 0) M_BlockReader_unsort K RJ Q 26 [(0, .ref o0), (1, .ref o1), (2, .int (I r3 j8)), (3, .int (x3 + 1))] [] (zx_u2 I r11 j24 (I r14 j19)))) :
    zi_X l (zx_rm (d + 1) 0 0) M_BlockReader_unsort K RJ Q 26 [(0, .ref o0), (1, .ref o1), (2, .int x2), (3, .int x3)] [] I := by
  refine zx_iload_n d_BlockReader_unsort_26 rfl ?_
  refine zx_aload_n d_BlockReader_unsort_27 rfl ?_
  refine zi_getI f_BlockReader_168 q1 (by decide) d_BlockReader_unsort_28 ?_
  refine zx_icmp_ge (tgt := 59) d_BlockReader_unsort_31 rfl (fun c => ?_) (fun c => ?_)
  · have k := k.1 c
    refine zx_iconst d_BlockReader_unsort_59 zc_0 ?_
    exact zi_iret d_BlockReader_unsort_60 rfl k
  · have k := k.2 c
    refine zx_aload_n d_BlockReader_unsort_34 rfl ?_
    refine zi_getR f_BlockReader_24 q2 (by decide) e4 z5 d_BlockReader_unsort_35 ?_
    refine zx_iload_n d_BlockReader_unsort_38 rfl ?_
    obtain ⟨j8, e9, b10, k⟩ := k
    refine zi_iald j8 a6 e9 b10 d_BlockReader_unsort_39 ?_
    refine zx_istore_n (L2 := [(0, .ref o0), (1, .ref o1), (2, .int (I r3 j8)), (3, .int x3)]) d_BlockReader_unsort_40 (Nat.le_of_ble_eq_true rfl) rfl ?_
    refine zx_aload_n d_BlockReader_unsort_41 rfl ?_
    refine zi_getR f_BlockReader_197 q1 (by decide) e12 z13 d_BlockReader_unsort_42 ?_
    refine zx_iload_n d_BlockReader_unsort_45 rfl ?_
    refine zx_aload_n d_BlockReader_unsort_46 rfl ?_
    refine zi_getR f_BlockReader_200 q1 (by decide) e15 z16 d_BlockReader_unsort_47 ?_
    refine zx_iload_n d_BlockReader_unsort_50 rfl ?_
    obtain ⟨j19, e20, b21, k⟩ := k
    refine zi_iald j19 a17 e20 b21 d_BlockReader_unsort_51 ?_
    obtain ⟨j24, e25, b26, k⟩ := k
    refine zi_iast j24 a22 e25 b26 d_BlockReader_unsort_52 ?_
    refine zx_iinc (L2 := [(0, .ref o0), (1, .ref o1), (2, .int (I r3 j8)), (3, .int (x3 + 1))]) d_BlockReader_unsort_53 rfl (Nat.le_of_ble_eq_true rfl) zc_1 rfl ?_
    refine zx_goto (tgt := 26) d_BlockReader_unsort_56 rfl ?_
    exact k
set_option maxRecDepth 20000 in
theorem r_BlockReader_findFollowers_0 (l : Launch) (d : Nat) {K : zx_Kt} {RJ : zx_RJ} {Q : zi_Q} {I : zi_I} (o0 : Nat) (o1 : Nat) (q1 : (K.2 o0).1 = 11) {r2 : Nat} (e3 : RJ.1 o0 4 = r2) (z4 : r2 ≠ 0)
    (k : zi_C l (zx_rm d 0 0) M_Arrays_fill [.ref r2, .int 0] K RJ I (fun r I5 => r = none ∧ zi_X l (zx_rm (d + 1) 0 0) M_BlockReader_findFollowers K RJ Q 10 [(0, .ref o0), (1, .ref o1), (2, .int 0)] [] I5)) :
    zi_X l (zx_rm (d + 1) 0 0) M_BlockReader_findFollowers K RJ Q 0 [(0, .ref o0), (1, .ref o1)] [] I := by
  refine zx_aload_n d_BlockReader_findFollowers_0 rfl ?_
  refine zi_getR f_BlockReader_28 q1 (by decide) e3 z4 d_BlockReader_findFollowers_1 ?_
  refine zx_iconst d_BlockReader_findFollowers_4 zc_0 ?_
  refine zi_callS (hC := k) k_BlockReader_203 rfl rfl (Nat.le_of_ble_eq_true rfl) (Nat.le_of_ble_eq_true rfl) d_BlockReader_findFollowers_5 (fun r I5 k => ?_)
  obtain ⟨rfl, k⟩ := k
  refine zx_iconst d_BlockReader_findFollowers_8 zc_0 ?_
  refine zx_istore_n (L2 := [(0, .ref o0), (1, .ref o1), (2, .int 0)]) d_BlockReader_findFollowers_9 (Nat.le_of_ble_eq_true rfl) rfl ?_
  exact k
set_option maxRecDepth 20000 in
theorem r_BlockReader_findFollowers_10 (l : Launch) (d : Nat) {K : zx_Kt} {RJ : zx_RJ} {Q : zi_Q} {I : zi_I} (o0 : Nat) (o1 : Nat) (x2 : Int32) (q1 : (K.2 o1).1 = 9) (q2 : (K.2 o0).1 = 11) {r3 : Nat} (e4 : RJ.1 o0 4 = r3) (z5 : r3 ≠ 0) {r6 : Nat} (e7 : RJ.1 o1 4 = r6) (z8 : r6 ≠ 0) {n10 : Nat} (a9 : K.2 r6 = (0, n10)) {n15 : Nat} (a14 : K.2 r3 = (0, n15))
    (k : (((I o1 2) ≤ x2) → zi_X l (zx_rm (d + 1) 0 0) M_BlockReader_findFollowers K RJ Q 43 [(0, .ref o0), (1, .ref o1), (2, .int 0), (3, .int 0)] [] I) ∧ ((¬ (I o1 2) ≤ x2) → ∃ j11, x2 = nI j11 ∧ j11 < n10 ∧ ∃ j16, I r6 j11 = nI j16 ∧ j16 < n15 ∧ ∃ j19, I r6 j11 = nI j19 ∧ j19 < n15 ∧ zi_X l (zx_rm (d + 1) 0 0) M_BlockReader_findFollowers K RJ Q 10 [(0, .ref o0), (1, .ref o1), (2, .int (x2 + 1))] [] (zx_u2 I r3 j19 ((I r3 j16) + 1)))) :
    zi_X l (zx_rm (d + 1) 0 0) M_BlockReader_findFollowers K RJ Q 10 [(0, .ref o0), (1, .ref o1), (2, .int x2)] [] I := by
  refine zx_iload_n d_BlockReader_findFollowers_10 rfl ?_
  refine zx_aload_n d_BlockReader_findFollowers_11 rfl ?_
  refine zi_getI f_BlockReader_168 q1 (by decide) d_BlockReader_findFollowers_12 ?_
  refine zx_icmp_ge (tgt := 39) d_BlockReader_findFollowers_15 rfl (fun c => ?_) (fun c => ?_)
  · have k := k.1 c
    refine zx_iconst d_BlockReader_findFollowers_39 zc_0 ?_
    refine zx_istore_n (L2 := [(0, .ref o0), (1, .ref o1), (2, .int 0)]) d_BlockReader_findFollowers_40 (Nat.le_of_ble_eq_true rfl) rfl ?_
    refine zx_iconst d_BlockReader_findFollowers_41 zc_0 ?_
    refine zx_istore_n (L2 := [(0, .ref o0), (1, .ref o1), (2, .int 0), (3, .int 0)]) d_BlockReader_findFollowers_42 (Nat.le_of_ble_eq_true rfl) rfl ?_
    exact k
  · have k := k.2 c
    refine zx_aload_n d_BlockReader_findFollowers_18 rfl ?_
    refine zi_getR f_BlockReader_28 q2 (by decide) e4 z5 d_BlockReader_findFollowers_19 ?_
    refine zx_aload_n d_BlockReader_findFollowers_22 rfl ?_
    refine zi_getR f_BlockReader_200 q1 (by decide) e7 z8 d_BlockReader_findFollowers_23 ?_
    refine zx_iload_n d_BlockReader_findFollowers_26 rfl ?_
    obtain ⟨j11, e12, b13, k⟩ := k
    refine zi_iald j11 a9 e12 b13 d_BlockReader_findFollowers_27 ?_
    refine zx_dup2_ai d_BlockReader_findFollowers_28 ?_
    obtain ⟨j16, e17, b18, k⟩ := k
    refine zi_iald j16 a14 e17 b18 d_BlockReader_findFollowers_29 ?_
    refine zx_iconst d_BlockReader_findFollowers_30 zc_1 ?_
    refine zx_iadd d_BlockReader_findFollowers_31 ?_
    obtain ⟨j19, e20, b21, k⟩ := k
    refine zi_iast j19 a14 e20 b21 d_BlockReader_findFollowers_32 ?_
    refine zx_iinc (L2 := [(0, .ref o0), (1, .ref o1), (2, .int (x2 + 1))]) d_BlockReader_findFollowers_33 rfl (Nat.le_of_ble_eq_true rfl) zc_1 rfl ?_
    refine zx_goto (tgt := 10) d_BlockReader_findFollowers_36 rfl ?_
    exact k
set_option maxRecDepth 20000 in
theorem r_BlockReader_findFollowers_43 (l : Launch) (d : Nat) {K : zx_Kt} {RJ : zx_RJ} {Q : zi_Q} {I : zi_I} (o0 : Nat) (o1 : Nat) (x2 : Int32) (x3 : Int32) (q1 : (K.2 o0).1 = 11) {r2 : Nat} (e3 : RJ.1 o0 4 = r2) (z4 : r2 ≠ 0) {n6 : Nat} (a5 : K.2 r2 = (0, n6))
    (k : ((256 ≤ x3) → zi_X l (zx_rm (d + 1) 0 0) M_BlockReader_findFollowers K RJ Q 78 [(0, .ref o0), (1, .ref o1), (2, .int x2), (3, .int 0)] [] I) ∧ ((¬ 256 ≤ x3) → ∃ j7, x3 = nI j7 ∧ j7 < n6 ∧ ∃ j10, x3 = nI j10 ∧ j10 < n6 ∧ zi_X l (zx_rm (d + 1) 0 0) M_BlockReader_findFollowers K RJ Q 43 [(0, .ref o0), (1, .ref o1), (2, .int (x2 + (I r2 j7))), (3, .int (x3 + 1))] [] (zx_u2 I r2 j10 x2))) :
    zi_X l (zx_rm (d + 1) 0 0) M_BlockReader_findFollowers K RJ Q 43 [(0, .ref o0), (1, .ref o1), (2, .int x2), (3, .int x3)] [] I := by
  refine zx_iload_n d_BlockReader_findFollowers_43 rfl ?_
  refine zx_sipush d_BlockReader_findFollowers_44 zs_256 ?_
  refine zx_icmp_ge (tgt := 76) d_BlockReader_findFollowers_47 rfl (fun c => ?_) (fun c => ?_)
  · have k := k.1 c
    refine zx_iconst d_BlockReader_findFollowers_76 zc_0 ?_
    refine zx_istore_n (L2 := [(0, .ref o0), (1, .ref o1), (2, .int x2), (3, .int 0)]) d_BlockReader_findFollowers_77 (Nat.le_of_ble_eq_true rfl) rfl ?_
    exact k
  · have k := k.2 c
    refine zx_aload_n d_BlockReader_findFollowers_50 rfl ?_
    refine zi_getR f_BlockReader_28 q1 (by decide) e3 z4 d_BlockReader_findFollowers_51 ?_
    refine zx_iload_n d_BlockReader_findFollowers_54 rfl ?_
    obtain ⟨j7, e8, b9, k⟩ := k
    refine zi_iald j7 a5 e8 b9 d_BlockReader_findFollowers_55 ?_
    refine zx_istore (L2 := [(0, .ref o0), (1, .ref o1), (2, .int x2), (3, .int x3), (4, .int (I r2 j7))]) d_BlockReader_findFollowers_56 (Nat.le_of_ble_eq_true rfl) rfl ?_
    refine zx_aload_n d_BlockReader_findFollowers_58 rfl ?_
    refine zi_getR f_BlockReader_28 q1 (by decide) e3 z4 d_BlockReader_findFollowers_59 ?_
    refine zx_iload_n d_BlockReader_findFollowers_62 rfl ?_
    refine zx_iload_n d_BlockReader_findFollowers_63 rfl ?_
    obtain ⟨j10, e11, b12, k⟩ := k
    refine zi_iast j10 a5 e11 b12 d_BlockReader_findFollowers_64 ?_
    refine zx_iload_n d_BlockReader_findFollowers_65 rfl ?_
    refine zx_iload d_BlockReader_findFollowers_66 rfl ?_
    refine zx_iadd d_BlockReader_findFollowers_68 ?_
    refine zx_istore_n (L2 := [(0, .ref o0), (1, .ref o1), (2, .int (x2 + (I r2 j7))), (3, .int x3), (4, .int (I r2 j7))]) d_BlockReader_findFollowers_69 (Nat.le_of_ble_eq_true rfl) rfl ?_
    refine zx_iinc (L2 := [(0, .ref o0), (1, .ref o1), (2, .int (x2 + (I r2 j7))), (3, .int (x3 + 1)), (4, .int (I r2 j7))]) d_BlockReader_findFollowers_70 rfl (Nat.le_of_ble_eq_true rfl) zc_1 rfl ?_
    refine zx_goto (tgt := 43) d_BlockReader_findFollowers_73 rfl ?_
    refine zx_locs [0, 1, 2, 3] rfl ?_
    exact k
set_option maxRecDepth 20000 in
theorem r_BlockReader_findFollowers_78 (l : Launch) (d : Nat) {K : zx_Kt} {RJ : zx_RJ} {Q : zi_Q} {I : zi_I} (o0 : Nat) (o1 : Nat) (x2 : Int32) (x3 : Int32) (q1 : (K.2 o1).1 = 9) {r2 : Nat} (e3 : RJ.1 o1 4 = r2) (z4 : r2 ≠ 0) {n6 : Nat} (a5 : K.2 r2 = (0, n6)) (q10 : (K.2 o0).1 = 11) {r11 : Nat} (e12 : RJ.1 o0 3 = r11) (z13 : r11 ≠ 0) {r14 : Nat} (e15 : RJ.1 o0 4 = r14) (z16 : r14 ≠ 0) {n18 : Nat} (a17 : K.2 r14 = (0, n18)) {n23 : Nat} (a22 : K.2 r11 = (0, n23))
    (k : (((I o1 2) ≤ x3) → Q none I) ∧ ((¬ (I o1 2) ≤ x3) → ∃ j7, x3 = nI j7 ∧ j7 < n6 ∧ ∃ j19, I r2 j7 = nI j19 ∧ j19 < n18 ∧ ∃ j24, I r14 j19 = nI j24 ∧ j24 < n23 ∧ ∃ j27, I r2 j7 = nI j27 ∧ j27 < n18 ∧ ∃ j30, I r2 j7 = nI j30 ∧ j30 < n18 ∧ zi_X l (zx_rm (d + 1) 0 0) M_BlockReader_findFollowers K RJ Q 78 [(0, .ref o0), (1, .ref o1), (2, .int x2), (3, .int (x3 + 1))] [] (zx_u2 (zx_u2 I r11 j24 x3) r14 j30 (((zx_u2 I r11 j24 x3) r14 j27) + 1)))) :
    zi_X l (zx_rm (d + 1) 0 0) M_BlockReader_findFollowers K RJ Q 78 [(0, .ref o0), (1, .ref o1), (2, .int x2), (3, .int x3)] [] I := by
  refine zx_iload_n d_BlockReader_findFollowers_78 rfl ?_
  refine zx_aload_n d_BlockReader_findFollowers_79 rfl ?_
  refine zi_getI f_BlockReader_168 q1 (by decide) d_BlockReader_findFollowers_80 ?_
  refine zx_icmp_ge (tgt := 124) d_BlockReader_findFollowers_83 rfl (fun c => ?_) (fun c => ?_)
  · have k := k.1 c
    exact zi_vret d_BlockReader_findFollowers_124 rfl k
  · have k := k.2 c
    refine zx_aload_n d_BlockReader_findFollowers_86 rfl ?_
    refine zi_getR f_BlockReader_200 q1 (by decide) e3 z4 d_BlockReader_findFollowers_87 ?_
    refine zx_iload_n d_BlockReader_findFollowers_90 rfl ?_
    obtain ⟨j7, e8, b9, k⟩ := k
    refine zi_iald j7 a5 e8 b9 d_BlockReader_findFollowers_91 ?_
    refine zx_istore (L2 := [(0, .ref o0), (1, .ref o1), (2, .int x2), (3, .int x3), (4, .int (I r2 j7))]) d_BlockReader_findFollowers_92 (Nat.le_of_ble_eq_true rfl) rfl ?_
    refine zx_aload_n d_BlockReader_findFollowers_94 rfl ?_
    refine zi_getR f_BlockReader_24 q10 (by decide) e12 z13 d_BlockReader_findFollowers_95 ?_
    refine zx_aload_n d_BlockReader_findFollowers_98 rfl ?_
    refine zi_getR f_BlockReader_28 q10 (by decide) e15 z16 d_BlockReader_findFollowers_99 ?_
    refine zx_iload d_BlockReader_findFollowers_102 rfl ?_
    obtain ⟨j19, e20, b21, k⟩ := k
    refine zi_iald j19 a17 e20 b21 d_BlockReader_findFollowers_104 ?_
    refine zx_iload_n d_BlockReader_findFollowers_105 rfl ?_
    obtain ⟨j24, e25, b26, k⟩ := k
    refine zi_iast j24 a22 e25 b26 d_BlockReader_findFollowers_106 ?_
    refine zx_aload_n d_BlockReader_findFollowers_107 rfl ?_
    refine zi_getR f_BlockReader_28 q10 (by decide) e15 z16 d_BlockReader_findFollowers_108 ?_
    refine zx_iload d_BlockReader_findFollowers_111 rfl ?_
    refine zx_dup2_ai d_BlockReader_findFollowers_113 ?_
    obtain ⟨j27, e28, b29, k⟩ := k
    refine zi_iald j27 a17 e28 b29 d_BlockReader_findFollowers_114 ?_
    refine zx_iconst d_BlockReader_findFollowers_115 zc_1 ?_
    refine zx_iadd d_BlockReader_findFollowers_116 ?_
    obtain ⟨j30, e31, b32, k⟩ := k
    refine zi_iast j30 a17 e31 b32 d_BlockReader_findFollowers_117 ?_
    refine zx_iinc (L2 := [(0, .ref o0), (1, .ref o1), (2, .int x2), (3, .int (x3 + 1)), (4, .int (I r2 j7))]) d_BlockReader_findFollowers_118 rfl (Nat.le_of_ble_eq_true rfl) zc_1 rfl ?_
    refine zx_goto (tgt := 78) d_BlockReader_findFollowers_121 rfl ?_
    refine zx_locs [0, 1, 2, 3] rfl ?_
    exact k
set_option maxRecDepth 20000 in
theorem r_BlockReader_lengthen_0 (l : Launch) (d : Nat) {K : zx_Kt} {RJ : zx_RJ} {Q : zi_Q} {I : zi_I} (o0 : Nat) (o1 : Nat) (q1 : (K.2 o1).1 = 16)
    (k : zi_X l (zx_rm (d + 1) 0 0) M_BlockReader_lengthen K RJ Q 13 [(0, .ref o0), (1, .ref o1), (2, .int 0), (3, .int (I o1 1)), (4, .int 0), (5, .int 0)] [] I) :
    zi_X l (zx_rm (d + 1) 0 0) M_BlockReader_lengthen K RJ Q 0 [(0, .ref o0), (1, .ref o1)] [] I := by
  refine zx_iconst d_BlockReader_lengthen_0 zc_0 ?_
  refine zx_istore_n (L2 := [(0, .ref o0), (1, .ref o1), (2, .int 0)]) d_BlockReader_lengthen_1 (Nat.le_of_ble_eq_true rfl) rfl ?_
  refine zx_aload_n d_BlockReader_lengthen_2 rfl ?_
  refine zi_getI f_BlockReader_47 q1 (by decide) d_BlockReader_lengthen_3 ?_
  refine zx_istore_n (L2 := [(0, .ref o0), (1, .ref o1), (2, .int 0), (3, .int (I o1 1))]) d_BlockReader_lengthen_6 (Nat.le_of_ble_eq_true rfl) rfl ?_
  refine zx_iconst d_BlockReader_lengthen_7 zc_0 ?_
  refine zx_istore (L2 := [(0, .ref o0), (1, .ref o1), (2, .int 0), (3, .int (I o1 1)), (4, .int 0)]) d_BlockReader_lengthen_8 (Nat.le_of_ble_eq_true rfl) rfl ?_
  refine zx_iconst d_BlockReader_lengthen_10 zc_0 ?_
  refine zx_istore (L2 := [(0, .ref o0), (1, .ref o1), (2, .int 0), (3, .int (I o1 1)), (4, .int 0), (5, .int 0)]) d_BlockReader_lengthen_11 (Nat.le_of_ble_eq_true rfl) rfl ?_
  exact k
set_option maxRecDepth 20000 in
theorem r_BlockReader_lengthen_13 (l : Launch) (d : Nat) {K : zx_Kt} {RJ : zx_RJ} {Q : zi_Q} {I : zi_I} (o0 : Nat) (o1 : Nat) (x2 : Int32) (x3 : Int32) (x4 : Int32) (x5 : Int32) (q1 : (K.2 o0).1 = 9) (q2 : (K.2 o1).1 = 16) {r3 : Nat} (e4 : RJ.1 o1 0 = r3) (z5 : r3 ≠ 0) {n7 : Nat} (a6 : K.2 r3 = (0, n7)) {r8 : Nat} (e9 : RJ.1 o0 3 = r8) (z10 : r8 ≠ 0) {n12 : Nat} (a11 : K.2 r8 = (0, n12))
    (k : (((I o0 2) ≤ x5) → ((¬ x2 = 4) → ((x3 ≤ (nI n7)) → zi_X l (zx_rm (d + 1) 0 0) M_BlockReader_lengthen K RJ Q 132 [(0, .ref o0), (1, .ref o1), (2, .int x2), (3, .int x3), (4, .int x4), (5, .int x5)] [.int 0] I) ∧ ((¬ x3 ≤ (nI n7)) → zi_X l (zx_rm (d + 1) 0 0) M_BlockReader_lengthen K RJ Q 132 [(0, .ref o0), (1, .ref o1), (2, .int x2), (3, .int x3), (4, .int x4), (5, .int x5)] [.int 1] I)) ∧ ((x2 = 4) → Q (some (.int ((-13)))) I)) ∧ ((¬ (I o0 2) ≤ x5) → ((¬ x2 = 4) → ((x2 ≤ 0) → zi_X l (zx_rm (d + 1) 0 0) M_BlockReader_lengthen K RJ Q 66 [(0, .ref o0), (1, .ref o1), (2, .int x2), (3, .int x3), (4, .int x4), (5, .int x5), (6, .int 1)] [] I) ∧ ((¬ x2 ≤ 0) → ∃ j13, x5 = nI j13 ∧ j13 < n12 ∧ ((¬ (I r8 j13) = x4) → zi_X l (zx_rm (d + 1) 0 0) M_BlockReader_lengthen K RJ Q 66 [(0, .ref o0), (1, .ref o1), (2, .int x2), (3, .int x3), (4, .int x4), (5, .int x5), (6, .int 1)] [] I) ∧ (((I r8 j13) = x4) → zi_X l (zx_rm (d + 1) 0 0) M_BlockReader_lengthen K RJ Q 67 [(0, .ref o0), (1, .ref o1), (2, .int x2), (3, .int x3), (4, .int x4), (5, .int x5), (6, .int 1)] [.int (x2 + 1)] I))) ∧ ((x2 = 4) → ∃ j16, x5 = nI j16 ∧ j16 < n12 ∧ zi_X l (zx_rm (d + 1) 0 0) M_BlockReader_lengthen K RJ Q 77 [(0, .ref o0), (1, .ref o1), (2, .int 0), (3, .int x3), (4, .int x4), (5, .int x5), (6, .int (I r8 j16))] [] I))) :
    zi_X l (zx_rm (d + 1) 0 0) M_BlockReader_lengthen K RJ Q 13 [(0, .ref o0), (1, .ref o1), (2, .int x2), (3, .int x3), (4, .int x4), (5, .int x5)] [] I := by
  refine zx_iload d_BlockReader_lengthen_13 rfl ?_
  refine zx_aload_n d_BlockReader_lengthen_15 rfl ?_
  refine zi_getI f_BlockReader_168 q1 (by decide) d_BlockReader_lengthen_16 ?_
  refine zx_icmp_ge (tgt := 110) d_BlockReader_lengthen_19 rfl (fun c => ?_) (fun c => ?_)
  · have k := k.1 c
    refine zx_iload_n d_BlockReader_lengthen_110 rfl ?_
    refine zx_iconst d_BlockReader_lengthen_111 zc_4 ?_
    refine zx_icmp_ne (tgt := 118) d_BlockReader_lengthen_112 rfl (fun c => ?_) (fun c => ?_)
    · have k := k.1 c
      refine zx_iload_n d_BlockReader_lengthen_118 rfl ?_
      refine zx_aload_n d_BlockReader_lengthen_119 rfl ?_
      refine zi_getR f_BlockReader_211 q2 (by decide) e4 z5 d_BlockReader_lengthen_120 ?_
      refine zi_alen a6 d_BlockReader_lengthen_123 ?_
      refine zx_icmp_le (tgt := 131) d_BlockReader_lengthen_124 rfl (fun c => ?_) (fun c => ?_)
      · have k := k.1 c
        refine zx_iconst d_BlockReader_lengthen_131 zc_0 ?_
        exact k
      · have k := k.2 c
        refine zx_iconst d_BlockReader_lengthen_127 zc_1 ?_
        refine zx_goto (tgt := 132) d_BlockReader_lengthen_128 rfl ?_
        exact k
    · have k := k.2 c
      refine zx_bipush d_BlockReader_lengthen_115 zb_m13 ?_
      exact zi_iret d_BlockReader_lengthen_117 rfl k
  · have k := k.2 c
    refine zx_iconst d_BlockReader_lengthen_22 zc_1 ?_
    refine zx_istore (L2 := [(0, .ref o0), (1, .ref o1), (2, .int x2), (3, .int x3), (4, .int x4), (5, .int x5), (6, .int 1)]) d_BlockReader_lengthen_23 (Nat.le_of_ble_eq_true rfl) rfl ?_
    refine zx_iload_n d_BlockReader_lengthen_25 rfl ?_
    refine zx_iconst d_BlockReader_lengthen_26 zc_4 ?_
    refine zx_icmp_ne (tgt := 44) d_BlockReader_lengthen_27 rfl (fun c => ?_) (fun c => ?_)
    · have k := k.1 c
      refine zx_iload_n d_BlockReader_lengthen_44 rfl ?_
      refine zx_if_le (tgt := 66) d_BlockReader_lengthen_45 rfl (fun c => ?_) (fun c => ?_)
      · have k := k.1 c
        exact k
      · have k := k.2 c
        refine zx_aload_n d_BlockReader_lengthen_48 rfl ?_
        refine zi_getR f_BlockReader_197 q1 (by decide) e9 z10 d_BlockReader_lengthen_49 ?_
        refine zx_iload d_BlockReader_lengthen_52 rfl ?_
        obtain ⟨j13, e14, b15, k⟩ := k
        refine zi_iald j13 a11 e14 b15 d_BlockReader_lengthen_54 ?_
        refine zx_iload d_BlockReader_lengthen_55 rfl ?_
        refine zx_icmp_ne (tgt := 66) d_BlockReader_lengthen_57 rfl (fun c => ?_) (fun c => ?_)
        · have k := k.1 c
          exact k
        · have k := k.2 c
          refine zx_iload_n d_BlockReader_lengthen_60 rfl ?_
          refine zx_iconst d_BlockReader_lengthen_61 zc_1 ?_
          refine zx_iadd d_BlockReader_lengthen_62 ?_
          refine zx_goto (tgt := 67) d_BlockReader_lengthen_63 rfl ?_
          exact k
    · have k := k.2 c
      refine zx_aload_n d_BlockReader_lengthen_30 rfl ?_
      refine zi_getR f_BlockReader_197 q1 (by decide) e9 z10 d_BlockReader_lengthen_31 ?_
      refine zx_iload d_BlockReader_lengthen_34 rfl ?_
      obtain ⟨j16, e17, b18, k⟩ := k
      refine zi_iald j16 a11 e17 b18 d_BlockReader_lengthen_36 ?_
      refine zx_istore (L2 := [(0, .ref o0), (1, .ref o1), (2, .int x2), (3, .int x3), (4, .int x4), (5, .int x5), (6, .int (I r8 j16))]) d_BlockReader_lengthen_37 (Nat.le_of_ble_eq_true rfl) rfl ?_
      refine zx_iconst d_BlockReader_lengthen_39 zc_0 ?_
      refine zx_istore_n (L2 := [(0, .ref o0), (1, .ref o1), (2, .int 0), (3, .int x3), (4, .int x4), (5, .int x5), (6, .int (I r8 j16))]) d_BlockReader_lengthen_40 (Nat.le_of_ble_eq_true rfl) rfl ?_
      refine zx_goto (tgt := 77) d_BlockReader_lengthen_41 rfl ?_
      exact k
set_option maxRecDepth 20000 in
theorem r_BlockReader_lengthen_66 (l : Launch) (d : Nat) {K : zx_Kt} {RJ : zx_RJ} {Q : zi_Q} {I : zi_I} (o0 : Nat) (o1 : Nat) (x2 : Int32) (x3 : Int32) (x4 : Int32) (x5 : Int32) (x6 : Int32) 
    (k : zi_X l (zx_rm (d + 1) 0 0) M_BlockReader_lengthen K RJ Q 67 [(0, .ref o0), (1, .ref o1), (2, .int x2), (3, .int x3), (4, .int x4), (5, .int x5), (6, .int x6)] [.int 1] I) :
    zi_X l (zx_rm (d + 1) 0 0) M_BlockReader_lengthen K RJ Q 66 [(0, .ref o0), (1, .ref o1), (2, .int x2), (3, .int x3), (4, .int x4), (5, .int x5), (6, .int x6)] [] I := by
  refine zx_iconst d_BlockReader_lengthen_66 zc_1 ?_
  exact k
set_option maxRecDepth 20000 in
theorem r_BlockReader_lengthen_67 (l : Launch) (d : Nat) {K : zx_Kt} {RJ : zx_RJ} {Q : zi_Q} {I : zi_I} (o0 : Nat) (o1 : Nat) (x2 : Int32) (x3 : Int32) (x4 : Int32) (x5 : Int32) (x6 : Int32) (y0 : Int32) (q1 : (K.2 o0).1 = 9) {r2 : Nat} (e3 : RJ.1 o0 3 = r2) (z4 : r2 ≠ 0) {n6 : Nat} (a5 : K.2 r2 = (0, n6))
    (k : ∃ j7, x5 = nI j7 ∧ j7 < n6 ∧ zi_X l (zx_rm (d + 1) 0 0) M_BlockReader_lengthen K RJ Q 77 [(0, .ref o0), (1, .ref o1), (2, .int y0), (3, .int x3), (4, .int (I r2 j7)), (5, .int x5), (6, .int x6)] [] I) :
    zi_X l (zx_rm (d + 1) 0 0) M_BlockReader_lengthen K RJ Q 67 [(0, .ref o0), (1, .ref o1), (2, .int x2), (3, .int x3), (4, .int x4), (5, .int x5), (6, .int x6)] [.int y0] I := by
  refine zx_istore_n (L2 := [(0, .ref o0), (1, .ref o1), (2, .int y0), (3, .int x3), (4, .int x4), (5, .int x5), (6, .int x6)]) d_BlockReader_lengthen_67 (Nat.le_of_ble_eq_true rfl) rfl ?_
  refine zx_aload_n d_BlockReader_lengthen_68 rfl ?_
  refine zi_getR f_BlockReader_197 q1 (by decide) e3 z4 d_BlockReader_lengthen_69 ?_
  refine zx_iload d_BlockReader_lengthen_72 rfl ?_
  obtain ⟨j7, e8, b9, k⟩ := k
  refine zi_iald j7 a5 e8 b9 d_BlockReader_lengthen_74 ?_
  refine zx_istore (L2 := [(0, .ref o0), (1, .ref o1), (2, .int y0), (3, .int x3), (4, .int (I r2 j7)), (5, .int x5), (6, .int x6)]) d_BlockReader_lengthen_75 (Nat.le_of_ble_eq_true rfl) rfl ?_
  exact k
set_option maxRecDepth 20000 in
theorem r_BlockReader_lengthen_77 (l : Launch) (d : Nat) {K : zx_Kt} {RJ : zx_RJ} {Q : zi_Q} {I : zi_I} (o0 : Nat) (o1 : Nat) (x2 : Int32) (x3 : Int32) (x4 : Int32) (x5 : Int32) (x6 : Int32) 
    (k : zi_X l (zx_rm (d + 1) 0 0) M_BlockReader_lengthen K RJ Q 85 [(0, .ref o0), (1, .ref o1), (2, .int x2), (3, .int (x3 + x6)), (4, .int x4), (5, .int x5), (6, .int x6), (7, .int 0)] [] I) :
    zi_X l (zx_rm (d + 1) 0 0) M_BlockReader_lengthen K RJ Q 77 [(0, .ref o0), (1, .ref o1), (2, .int x2), (3, .int x3), (4, .int x4), (5, .int x5), (6, .int x6)] [] I := by
  refine zx_iload_n d_BlockReader_lengthen_77 rfl ?_
  refine zx_iload d_BlockReader_lengthen_78 rfl ?_
  refine zx_iadd d_BlockReader_lengthen_80 ?_
  refine zx_istore_n (L2 := [(0, .ref o0), (1, .ref o1), (2, .int x2), (3, .int (x3 + x6)), (4, .int x4), (5, .int x5), (6, .int x6)]) d_BlockReader_lengthen_81 (Nat.le_of_ble_eq_true rfl) rfl ?_
  refine zx_iconst d_BlockReader_lengthen_82 zc_0 ?_
  refine zx_istore (L2 := [(0, .ref o0), (1, .ref o1), (2, .int x2), (3, .int (x3 + x6)), (4, .int x4), (5, .int x5), (6, .int x6), (7, .int 0)]) d_BlockReader_lengthen_83 (Nat.le_of_ble_eq_true rfl) rfl ?_
  exact k
set_option maxRecDepth 20000 in
theorem r_BlockReader_lengthen_85 (l : Launch) (d : Nat) {K : zx_Kt} {RJ : zx_RJ} {Q : zi_Q} {I : zi_I} (o0 : Nat) (o1 : Nat) (x2 : Int32) (x3 : Int32) (x4 : Int32) (x5 : Int32) (x6 : Int32) (x7 : Int32) (q1 : (K.2 o1).1 = 16)
    (k : ((x6 ≤ x7) → zi_X l (zx_rm (d + 1) 0 0) M_BlockReader_lengthen K RJ Q 13 [(0, .ref o0), (1, .ref o1), (2, .int x2), (3, .int x3), (4, .int x4), (5, .int (x5 + 1))] [] I) ∧ ((¬ x6 ≤ x7) → zi_C l (zx_rm d 0 0) M_Row_add [.ref o1, .int x4] K RJ I (fun r I2 => r = none ∧ zi_X l (zx_rm (d + 1) 0 0) M_BlockReader_lengthen K RJ Q 85 [(0, .ref o0), (1, .ref o1), (2, .int x2), (3, .int x3), (4, .int x4), (5, .int x5), (6, .int x6), (7, .int (x7 + 1))] [] I2))) :
    zi_X l (zx_rm (d + 1) 0 0) M_BlockReader_lengthen K RJ Q 85 [(0, .ref o0), (1, .ref o1), (2, .int x2), (3, .int x3), (4, .int x4), (5, .int x5), (6, .int x6), (7, .int x7)] [] I := by
  refine zx_iload d_BlockReader_lengthen_85 rfl ?_
  refine zx_iload d_BlockReader_lengthen_87 rfl ?_
  refine zx_icmp_ge (tgt := 104) d_BlockReader_lengthen_89 rfl (fun c => ?_) (fun c => ?_)
  · have k := k.1 c
    refine zx_iinc (L2 := [(0, .ref o0), (1, .ref o1), (2, .int x2), (3, .int x3), (4, .int x4), (5, .int (x5 + 1)), (6, .int x6), (7, .int x7)]) d_BlockReader_lengthen_104 rfl (Nat.le_of_ble_eq_true rfl) zc_1 rfl ?_
    refine zx_goto (tgt := 13) d_BlockReader_lengthen_107 rfl ?_
    refine zx_locs [0, 1, 2, 3, 4, 5] rfl ?_
    exact k
  · have k := k.2 c
    refine zx_aload_n d_BlockReader_lengthen_92 rfl ?_
    refine zx_iload d_BlockReader_lengthen_93 rfl ?_
    refine zi_callV (hC := k) k_BlockReader_208 q1 (by decide) rfl rfl (Nat.le_of_ble_eq_true rfl) (Nat.le_of_ble_eq_true rfl) d_BlockReader_lengthen_95 (fun r I2 k => ?_)
    obtain ⟨rfl, k⟩ := k
    refine zx_iinc (L2 := [(0, .ref o0), (1, .ref o1), (2, .int x2), (3, .int x3), (4, .int x4), (5, .int x5), (6, .int x6), (7, .int (x7 + 1))]) d_BlockReader_lengthen_98 rfl (Nat.le_of_ble_eq_true rfl) zc_1 rfl ?_
    refine zx_goto (tgt := 85) d_BlockReader_lengthen_101 rfl ?_
    exact k
set_option maxRecDepth 20000 in
theorem r_BlockReader_lengthen_132 (l : Launch) (d : Nat) {K : zx_Kt} {RJ : zx_RJ} {Q : zi_Q} {I : zi_I} (o0 : Nat) (o1 : Nat) (x2 : Int32) (x3 : Int32) (x4 : Int32) (x5 : Int32) (y0 : Int32) 
    (k : Q (some (.int y0)) I) :
    zi_X l (zx_rm (d + 1) 0 0) M_BlockReader_lengthen K RJ Q 132 [(0, .ref o0), (1, .ref o1), (2, .int x2), (3, .int x3), (4, .int x4), (5, .int x5)] [.int y0] I := by
  exact zi_iret d_BlockReader_lengthen_132 rfl k
