/-! The law's seventeen calls: written by wip/whole/gen/genlaw.py. -/
def lk_K (l : Launch) (kc ks i Ln : Nat) (xs : Nat → Int32) (K : zx_Kt) : Prop := ∀ (kc2 ks2 : Nat) (I3 : zi_I) (RJ3 : zx_RJ) (s3 : ab_S), kc2 ≤ kc + 1 → ks2 ≤ ks + 6 → lw_I K I3 RJ3 s3 → la_X l kc2 ks2 (zl_Y Ln xs) 694 (lL i) [] (K, I3, RJ3)
section LK
variable {l : Launch} {kc ks : Nat} {i Ln : Nat} {xs : Nat → Int32} {K : zx_Kt} {RJ : zx_RJ} {I : zi_I} {s : ab_S}
theorem op_feed_k {w : Int64} {x : Int32} : (op_feed s w x).1 < 3 := by
  unfold op_feed
  split
  · exact Nat.le_of_ble_eq_true rfl
  · split <;> exact Nat.le_of_ble_eq_true rfl
theorem op_keep_k {x : Int32} : (op_keep s x).1 < 3 := by
  unfold op_keep
  split <;> exact Nat.le_of_ble_eq_true rfl
theorem op_damage_k {x : Int32} : (op_damage s x).1 < 3 := by
  unfold op_damage
  split <;> exact Nat.le_of_ble_eq_true rfl
theorem op_append_k : (op_append s).1 < 3 := by
  unfold op_append
  split <;> exact Nat.le_of_ble_eq_true rfl
theorem op_pack_k {x : Int32} : (op_pack s x).1 < 3 := by
  unfold op_pack
  split <;> exact Nat.le_of_ble_eq_true rfl
theorem op_unpack_k : (op_unpack s).1 < 3 := by
  unfold op_unpack
  split
  · split <;> exact Nat.le_of_ble_eq_true rfl
  · exact Nat.le_of_ble_eq_true rfl
theorem op_out_k {x : Int32} : (op_out s x).1 < 3 := by
  unfold op_out
  split <;> exact Nat.le_of_ble_eq_true rfl
set_option maxRecDepth 20000 in
theorem lk_6 (htr : l.flags = pinnedFlags ++ [noTraceFlag]) (hI : lw_I K I RJ s) (h1 : kc + 1 ≤ 601024) (h2 : ks + 6 ≤ 7293034) (hi : i + 4 ≤ Ln) (hL : Ln ≤ 2048) (kk : lk_K l kc ks i Ln xs K) : la_X l kc ks (zl_Y Ln xs) 436 (lL i) [] (K, I, RJ) := by
  refine zx_aload_n d_Law_law_436 rfl ?_
  exact lb_go (Al := []) (n := 0) (p2 := 441) (p3 := 444) hI (fun tl nx g a => zi_up (c_at l 7 g a) (fun r I2 q => ⟨q.1, by rw [q.2]; exact cls_stay g a⟩)) (fun I2 RJ2 g a => c_mat l 7 g a) k_Law_75 k_Law_78 rfl (Nat.le_of_ble_eq_true rfl) (Nat.le_of_ble_eq_true rfl) (by omega) (by omega) d_Law_law_437 d_Law_law_440 (fun _ _ z => z) d_Law_law_441 rfl d_Law_law_444 (by decide) (fun I3 RJ3 q => kk _ _ _ _ _ (by omega) (by omega) q)
set_option maxRecDepth 20000 in
theorem lk_7 (htr : l.flags = pinnedFlags ++ [noTraceFlag]) (hI : lw_I K I RJ s) (h1 : kc + 1 ≤ 601024) (h2 : ks + 6 ≤ 7293034) (hi : i + 4 ≤ Ln) (hL : Ln ≤ 2048) (kk : lk_K l kc ks i Ln xs K) : la_X l kc ks (zl_Y Ln xs) 449 (lL i) [] (K, I, RJ) := by
  refine zx_aload_n d_Law_law_449 rfl ?_
  exact lb_go (Al := []) (n := 0) (p2 := 454) (p3 := 457) hI (fun tl nx g a => c_rescue_ret l g a) (fun I2 RJ2 g a => c_mrescue2 l g a) k_Law_79 k_Law_82 rfl (Nat.le_of_ble_eq_true rfl) (Nat.le_of_ble_eq_true rfl) (by omega) (by omega) d_Law_law_450 d_Law_law_453 (fun _ _ z => z) d_Law_law_454 rfl d_Law_law_457 (by decide) (fun I3 RJ3 q => kk _ _ _ _ _ (by omega) (by omega) q)
set_option maxRecDepth 20000 in
theorem lk_8 (htr : l.flags = pinnedFlags ++ [noTraceFlag]) (hI : lw_I K I RJ s) (h1 : kc + 1 ≤ 601024) (h2 : ks + 6 ≤ 7293034) (hi : i + 4 ≤ Ln) (hL : Ln ≤ 2048) (kk : lk_K l kc ks i Ln xs K) : la_X l kc ks (zl_Y Ln xs) 462 (lL i) [] (K, I, RJ) := by
  refine zx_aload_n d_Law_law_462 rfl ?_
  exact lb_go (Al := []) (n := 0) (p2 := 467) (p3 := 470) hI (fun tl nx g a => zi_up (c_given l 7 g a) (fun r I2 q => ⟨q.1, by rw [q.2]; exact cls_stay g a⟩)) (fun I2 RJ2 g a => c_mgiven l 7 g a) k_Law_83 k_Law_86 rfl (Nat.le_of_ble_eq_true rfl) (Nat.le_of_ble_eq_true rfl) (by omega) (by omega) d_Law_law_463 d_Law_law_466 (fun _ _ z => z) d_Law_law_467 rfl d_Law_law_470 (by decide) (fun I3 RJ3 q => kk _ _ _ _ _ (by omega) (by omega) q)
set_option maxRecDepth 20000 in
theorem lk_9 (htr : l.flags = pinnedFlags ++ [noTraceFlag]) (hI : lw_I K I RJ s) (h1 : kc + 1 ≤ 601024) (h2 : ks + 6 ≤ 7293034) (hi : i + 4 ≤ Ln) (hL : Ln ≤ 2048) (kk : lk_K l kc ks i Ln xs K) : la_X l kc ks (zl_Y Ln xs) 475 (lL i) [] (K, I, RJ) := by
  refine zx_aload_n d_Law_law_475 rfl ?_
  exact lb_go (Al := []) (n := 0) (p2 := 480) (p3 := 483) hI (fun tl nx g a => zi_up (c_size l 7 g a) (fun r I2 q => ⟨q.1, by rw [q.2]; exact cls_stay g a⟩)) (fun I2 RJ2 g a => c_msize l 7 g a) k_Law_87 k_Law_90 rfl (Nat.le_of_ble_eq_true rfl) (Nat.le_of_ble_eq_true rfl) (by omega) (by omega) d_Law_law_476 d_Law_law_479 (fun _ _ z => z) d_Law_law_480 rfl d_Law_law_483 (by decide) (fun I3 RJ3 q => kk _ _ _ _ _ (by omega) (by omega) q)
set_option maxRecDepth 20000 in
theorem lk_11 (htr : l.flags = pinnedFlags ++ [noTraceFlag]) (hI : lw_I K I RJ s) (h1 : kc + 1 ≤ 601024) (h2 : ks + 6 ≤ 7293034) (hi : i + 4 ≤ Ln) (hL : Ln ≤ 2048) (kk : lk_K l kc ks i Ln xs K) : la_X l kc ks (zl_Y Ln xs) 544 (lL i) [] (K, I, RJ) := by
  refine zx_aload_n d_Law_law_544 rfl ?_
  exact lb_go (Al := []) (n := 0) (p2 := 549) (p3 := 552) hI (fun tl nx g a => zi_up (c_blocks l 7 g a) (fun r I2 q => ⟨q.1, by rw [q.2]; exact cls_stay g a⟩)) (fun I2 RJ2 g a => c_mblocks l 7 g a) k_Law_94 k_Law_97 rfl (Nat.le_of_ble_eq_true rfl) (Nat.le_of_ble_eq_true rfl) (by omega) (by omega) d_Law_law_545 d_Law_law_548 (fun _ _ z => z) d_Law_law_549 rfl d_Law_law_552 (by decide) (fun I3 RJ3 q => kk _ _ _ _ _ (by omega) (by omega) q)
set_option maxRecDepth 20000 in
theorem lk_12 (htr : l.flags = pinnedFlags ++ [noTraceFlag]) (hI : lw_I K I RJ s) (h1 : kc + 1 ≤ 601024) (h2 : ks + 6 ≤ 7293034) (hi : i + 4 ≤ Ln) (hL : Ln ≤ 2048) (kk : lk_K l kc ks i Ln xs K) : la_X l kc ks (zl_Y Ln xs) 557 (lL i) [] (K, I, RJ) := by
  refine zx_aload_n d_Law_law_557 rfl ?_
  refine la_arg (i := i) (k := 1) d_Law_law_558 d_Law_law_559 d_Law_law_561 (by decide) d_Law_law_562 d_Law_law_563 rfl rfl (by omega) hL ?_
  exact lb_go (Al := [.int (xs (i + 1))]) (n := 1) (p2 := 574) (p3 := 577) hI (fun tl nx g a => zi_up (c_block l 6 g a) (fun r I2 q => ⟨q.1, by rw [q.2]; exact cls_stay g a⟩)) (fun I2 RJ2 g a => c_mblock l 7 g a) k_Law_98 k_Law_101 rfl (Nat.le_of_ble_eq_true rfl) (Nat.le_of_ble_eq_true rfl) (by omega) (by omega) d_Law_law_564 d_Law_law_567 (fun _ _ z => (la_arg (i := i) (k := 1) d_Law_law_568 d_Law_law_569 d_Law_law_571 (by decide) d_Law_law_572 d_Law_law_573 rfl rfl (by omega) hL z)) d_Law_law_574 rfl d_Law_law_577 (by decide) (fun I3 RJ3 q => kk _ _ _ _ _ (by omega) (by omega) q)
set_option maxRecDepth 20000 in
theorem lk_13 (htr : l.flags = pinnedFlags ++ [noTraceFlag]) (hI : lw_I K I RJ s) (h1 : kc + 1 ≤ 601024) (h2 : ks + 6 ≤ 7293034) (hi : i + 4 ≤ Ln) (hL : Ln ≤ 2048) (kk : lk_K l kc ks i Ln xs K) : la_X l kc ks (zl_Y Ln xs) 582 (lL i) [] (K, I, RJ) := by
  refine zx_aload_n d_Law_law_582 rfl ?_
  refine la_arg (i := i) (k := 1) d_Law_law_583 d_Law_law_584 d_Law_law_586 (by decide) d_Law_law_587 d_Law_law_588 rfl rfl (by omega) hL ?_
  exact lb_go (Al := [.int (xs (i + 1))]) (n := 1) (p2 := 599) (p3 := 602) hI (fun tl nx g a => zi_up (c_last l 7 g a) (fun r I2 q => ⟨q.1, by rw [q.2]; exact cls_stay g a⟩)) (fun I2 RJ2 g a => c_mlast l 7 g a) k_Law_102 k_Law_105 rfl (Nat.le_of_ble_eq_true rfl) (Nat.le_of_ble_eq_true rfl) (by omega) (by omega) d_Law_law_589 d_Law_law_592 (fun _ _ z => (la_arg (i := i) (k := 1) d_Law_law_593 d_Law_law_594 d_Law_law_596 (by decide) d_Law_law_597 d_Law_law_598 rfl rfl (by omega) hL z)) d_Law_law_599 rfl d_Law_law_602 (by decide) (fun I3 RJ3 q => kk _ _ _ _ _ (by omega) (by omega) q)
set_option maxRecDepth 20000 in
theorem lk_14 (htr : l.flags = pinnedFlags ++ [noTraceFlag]) (hI : lw_I K I RJ s) (h1 : kc + 1 ≤ 601024) (h2 : ks + 6 ≤ 7293034) (hi : i + 4 ≤ Ln) (hL : Ln ≤ 2048) (kk : lk_K l kc ks i Ln xs K) : la_X l kc ks (zl_Y Ln xs) 607 (lL i) [] (K, I, RJ) := by
  refine zx_aload_n d_Law_law_607 rfl ?_
  refine la_arg (i := i) (k := 1) d_Law_law_608 d_Law_law_609 d_Law_law_611 (by decide) d_Law_law_612 d_Law_law_613 rfl rfl (by omega) hL ?_
  exact lb_go (Al := [.int (xs (i + 1))]) (n := 1) (p2 := 624) (p3 := 627) hI (fun tl nx g a => zi_up (c_symbol l 7 g a) (fun r I2 q => ⟨q.1, by rw [q.2]; exact cls_stay g a⟩)) (fun I2 RJ2 g a => c_msymbol l 7 g a) k_Law_106 k_Law_109 rfl (Nat.le_of_ble_eq_true rfl) (Nat.le_of_ble_eq_true rfl) (by omega) (by omega) d_Law_law_614 d_Law_law_617 (fun _ _ z => (la_arg (i := i) (k := 1) d_Law_law_618 d_Law_law_619 d_Law_law_621 (by decide) d_Law_law_622 d_Law_law_623 rfl rfl (by omega) hL z)) d_Law_law_624 rfl d_Law_law_627 (by decide) (fun I3 RJ3 q => kk _ _ _ _ _ (by omega) (by omega) q)
set_option maxRecDepth 20000 in
theorem lk_15 (htr : l.flags = pinnedFlags ++ [noTraceFlag]) (hI : lw_I K I RJ s) (h1 : kc + 1 ≤ 601024) (h2 : ks + 6 ≤ 7293034) (hi : i + 4 ≤ Ln) (hL : Ln ≤ 2048) (kk : lk_K l kc ks i Ln xs K) : la_X l kc ks (zl_Y Ln xs) 632 (lL i) [] (K, I, RJ) := by
  refine zx_aload_n d_Law_law_632 rfl ?_
  refine la_arg (i := i) (k := 1) d_Law_law_633 d_Law_law_634 d_Law_law_636 (by decide) d_Law_law_637 d_Law_law_638 rfl rfl (by omega) hL ?_
  refine la_arg (i := i) (k := 2) d_Law_law_639 d_Law_law_640 d_Law_law_642 (by decide) d_Law_law_643 d_Law_law_644 rfl rfl (by omega) hL ?_
  exact lb_go (Al := [.int (xs (i + 1)), .int (xs (i + 2))]) (n := 2) (p2 := 661) (p3 := 664) hI (fun tl nx g a => zi_up (c_length l 6 g a) (fun r I2 q => ⟨q.1, by rw [q.2]; exact cls_stay g a⟩)) (fun I2 RJ2 g a => c_mlength l 7 g a) k_Law_110 k_Law_114 rfl (Nat.le_of_ble_eq_true rfl) (Nat.le_of_ble_eq_true rfl) (by omega) (by omega) d_Law_law_645 d_Law_law_648 (fun _ _ z => (la_arg (i := i) (k := 1) d_Law_law_649 d_Law_law_650 d_Law_law_652 (by decide) d_Law_law_653 d_Law_law_654 rfl rfl (by omega) hL (la_arg (i := i) (k := 2) d_Law_law_655 d_Law_law_656 d_Law_law_658 (by decide) d_Law_law_659 d_Law_law_660 rfl rfl (by omega) hL z))) d_Law_law_661 rfl d_Law_law_664 (by decide) (fun I3 RJ3 q => kk _ _ _ _ _ (by omega) (by omega) q)
set_option maxRecDepth 20000 in
theorem lk_16 (htr : l.flags = pinnedFlags ++ [noTraceFlag]) (hI : lw_I K I RJ s) (h1 : kc + 1 ≤ 601024) (h2 : ks + 6 ≤ 7293034) (hi : i + 4 ≤ Ln) (hL : Ln ≤ 2048) (kk : lk_K l kc ks i Ln xs K) : la_X l kc ks (zl_Y Ln xs) 669 (lL i) [] (K, I, RJ) := by
  refine zx_aload_n d_Law_law_669 rfl ?_
  refine la_arg (i := i) (k := 1) d_Law_law_670 d_Law_law_671 d_Law_law_673 (by decide) d_Law_law_674 d_Law_law_675 rfl rfl (by omega) hL ?_
  exact lb_go (Al := [.int (xs (i + 1))]) (n := 1) (p2 := 686) (p3 := 689) hI (fun tl nx g a => zi_up (c_table l 7 g a) (fun r I2 q => ⟨q.1, by rw [q.2]; exact cls_stay g a⟩)) (fun I2 RJ2 g a => c_mtable l 7 g a) k_Law_115 k_Law_118 rfl (Nat.le_of_ble_eq_true rfl) (Nat.le_of_ble_eq_true rfl) (by omega) (by omega) d_Law_law_676 d_Law_law_679 (fun _ _ z => (la_arg (i := i) (k := 1) d_Law_law_680 d_Law_law_681 d_Law_law_683 (by decide) d_Law_law_684 d_Law_law_685 rfl rfl (by omega) hL z)) d_Law_law_686 rfl d_Law_law_689 (by decide) (fun I3 RJ3 q => kk _ _ _ _ _ (by omega) (by omega) q)
set_option maxRecDepth 20000 in
theorem lk_0 (htr : l.flags = pinnedFlags ++ [noTraceFlag]) (hI : lw_I K I RJ s) (h1 : kc + 1 ≤ 601024) (h2 : ks + 6 ≤ 7293034) (hi : i + 4 ≤ Ln) (hL : Ln ≤ 2048) (kk : lk_K l kc ks i Ln xs K) : la_X l kc ks (zl_Y Ln xs) 120 (lL i) [] (K, I, RJ) := by
  obtain ⟨⟨tl, nx, g, a⟩, gm, am, ho⟩ := hI
  refine zx_aload_n d_Law_law_120 rfl ?_
  refine la_arg (i := i) (k := 1) d_Law_law_121 d_Law_law_122 d_Law_law_124 (by decide) d_Law_law_125 d_Law_law_126 rfl rfl (by omega) hL ?_
  refine zx_i2l d_Law_law_127 ?_
  refine zx_bipush (v := 32) d_Law_law_128 (by decide) ?_
  refine zx_lshl d_Law_law_130 ?_
  refine la_arg (i := i) (k := 2) d_Law_law_131 d_Law_law_132 d_Law_law_134 (by decide) d_Law_law_135 d_Law_law_136 rfl rfl (by omega) hL ?_
  refine zx_i2l d_Law_law_137 ?_
  refine zx_ldc2 w_Law_46 d_Law_law_138 ?_
  refine zx_land d_Law_law_141 ?_
  refine zx_lor d_Law_law_142 ?_
  refine la_arg (i := i) (k := 3) d_Law_law_143 d_Law_law_144 d_Law_law_146 (by decide) d_Law_law_147 d_Law_law_148 rfl rfl (by omega) hL ?_
  refine zx_aload_n d_Law_law_149 rfl ?_
  refine la_help (S2 := []) (h_feed l htr g a ho (by decide)) kc_Law_feed ki_Law kd_Law_feed kl_Law_48 ks_Law_feed rfl rfl (Nat.zero_le _) (Nat.le_of_ble_eq_true rfl) h1 h2 d_Law_law_150 ?_
  rintro r h3 ⟨rfl, I2, RJ2, tl2, nx2, rfl, g2, r3, a2, z2, hj⟩
  obtain ⟨gm2, am2⟩ := lw_I.cls (s := s) ⟨⟨tl, nx, g, a⟩, gm, am, ho⟩ r3 z2
  exact lh_ans (Al := [.long (((xs (i + 1)).toInt64 <<< ((32 : Int32).toInt64 &&& 63)) ||| ((xs (i + 2)).toInt64 &&& 4294967295)), .int (xs (i + 3))]) (n := 2) (p2 := 184) op_feed_k g2 a2 gm2 ho hj (c_mfeed l 7 gm2 am2) k_Law_53 rfl (Nat.le_of_ble_eq_true rfl) (by omega) (by omega) d_Law_law_153 d_Law_law_155 (fun z => by
      refine la_arg (i := i) (k := 1) d_Law_law_156 d_Law_law_157 d_Law_law_159 (by decide) d_Law_law_160 d_Law_law_161 rfl rfl (by omega) hL ?_
      refine zx_i2l d_Law_law_162 ?_
      refine zx_bipush (v := 32) d_Law_law_163 (by decide) ?_
      refine zx_lshl d_Law_law_165 ?_
      refine la_arg (i := i) (k := 2) d_Law_law_166 d_Law_law_167 d_Law_law_169 (by decide) d_Law_law_170 d_Law_law_171 rfl rfl (by omega) hL ?_
      refine zx_i2l d_Law_law_172 ?_
      refine zx_ldc2 w_Law_46 d_Law_law_173 ?_
      refine zx_land d_Law_law_176 ?_
      refine zx_lor d_Law_law_177 ?_
      refine la_arg (i := i) (k := 3) d_Law_law_178 d_Law_law_179 d_Law_law_181 (by decide) d_Law_law_182 d_Law_law_183 rfl rfl (by omega) hL ?_
      exact z) d_Law_law_184 d_Law_law_187 (fun I3 hp3 => lt_thrown (p1 := 200) gm2 hp3.1 rfl rfl (by omega) (by omega) d_Law_law_189 d_Law_law_190 d_Law_law_193 d_Law_law_195 rfl (lt_answer (p1 := 217) op_feed_k ho hj rfl rfl rfl d_Law_law_200 d_Law_law_202 d_Law_law_205 d_Law_law_206 d_Law_law_207 d_Law_law_208 d_Law_law_210 d_Law_law_211 d_Law_law_212 rfl (lt_back (i := i) (by simp) d_Law_law_217 (by decide) (kk _ _ _ _ _ (Nat.le_refl _) (Nat.le_refl _) (lw_I.mod g2 a2 gm2 hp3 ho)))))
set_option maxRecDepth 20000 in
theorem lk_1 (htr : l.flags = pinnedFlags ++ [noTraceFlag]) (hI : lw_I K I RJ s) (h1 : kc + 1 ≤ 601024) (h2 : ks + 6 ≤ 7293034) (hi : i + 4 ≤ Ln) (hL : Ln ≤ 2048) (kk : lk_K l kc ks i Ln xs K) : la_X l kc ks (zl_Y Ln xs) 220 (lL i) [] (K, I, RJ) := by
  obtain ⟨⟨tl, nx, g, a⟩, gm, am, ho⟩ := hI
  refine zx_aload_n d_Law_law_220 rfl ?_
  refine la_arg (i := i) (k := 1) d_Law_law_221 d_Law_law_222 d_Law_law_224 (by decide) d_Law_law_225 d_Law_law_226 rfl rfl (by omega) hL ?_
  refine la_help (S2 := []) (h_keep l htr g a) kc_Law_keep ki_Law kd_Law_keep kl_Law_57 ks_Law_keep rfl rfl (Nat.zero_le _) (Nat.le_of_ble_eq_true rfl) h1 h2 d_Law_law_227 ?_
  rintro r h3 ⟨rfl, I2, RJ2, tl2, nx2, rfl, g2, r3, a2, z2, hj⟩
  obtain ⟨gm2, am2⟩ := lw_I.cls (s := s) ⟨⟨tl, nx, g, a⟩, gm, am, ho⟩ r3 z2
  exact lh_non (Al := [.int (xs (i + 1))]) (n := 1) (p2 := 239) gm2 (c_mkeep l 7 gm2 am2) k_Law_60 rfl (Nat.le_of_ble_eq_true rfl) (by omega) (by omega) d_Law_law_230 d_Law_law_232 (fun z => by
      refine la_arg (i := i) (k := 1) d_Law_law_233 d_Law_law_234 d_Law_law_236 (by decide) d_Law_law_237 d_Law_law_238 rfl rfl (by omega) hL ?_
      exact z) d_Law_law_239 (fun I3 hp3 => lt_thrown (p1 := 253) gm2 hp3.1 rfl rfl (by omega) (by omega) d_Law_law_242 d_Law_law_243 d_Law_law_246 d_Law_law_248 rfl (lt_back (i := i) (by simp) d_Law_law_253 (by decide) (kk _ _ _ _ _ (Nat.le_refl _) (Nat.le_refl _) (lw_I.mod g2 a2 gm2 hp3 ho))))
set_option maxRecDepth 20000 in
theorem lk_2 (htr : l.flags = pinnedFlags ++ [noTraceFlag]) (hI : lw_I K I RJ s) (h1 : kc + 1 ≤ 601024) (h2 : ks + 6 ≤ 7293034) (hi : i + 4 ≤ Ln) (hL : Ln ≤ 2048) (kk : lk_K l kc ks i Ln xs K) : la_X l kc ks (zl_Y Ln xs) 256 (lL i) [] (K, I, RJ) := by
  obtain ⟨⟨tl, nx, g, a⟩, gm, am, ho⟩ := hI
  refine zx_aload_n d_Law_law_256 rfl ?_
  refine la_arg (i := i) (k := 1) d_Law_law_257 d_Law_law_258 d_Law_law_260 (by decide) d_Law_law_261 d_Law_law_262 rfl rfl (by omega) hL ?_
  refine la_help (S2 := []) (h_damage l htr g a) kc_Law_damage ki_Law kd_Law_damage kl_Law_61 ks_Law_damage rfl rfl (Nat.zero_le _) (Nat.le_of_ble_eq_true rfl) h1 h2 d_Law_law_263 ?_
  rintro r h3 ⟨rfl, I2, RJ2, tl2, nx2, rfl, g2, r3, a2, z2, hj⟩
  obtain ⟨gm2, am2⟩ := lw_I.cls (s := s) ⟨⟨tl, nx, g, a⟩, gm, am, ho⟩ r3 z2
  exact lh_non (Al := [.int (xs (i + 1))]) (n := 1) (p2 := 275) gm2 (c_mdamage l 7 gm2 am2) k_Law_63 rfl (Nat.le_of_ble_eq_true rfl) (by omega) (by omega) d_Law_law_266 d_Law_law_268 (fun z => by
      refine la_arg (i := i) (k := 1) d_Law_law_269 d_Law_law_270 d_Law_law_272 (by decide) d_Law_law_273 d_Law_law_274 rfl rfl (by omega) hL ?_
      exact z) d_Law_law_275 (fun I3 hp3 => lt_thrown (p1 := 289) gm2 hp3.1 rfl rfl (by omega) (by omega) d_Law_law_278 d_Law_law_279 d_Law_law_282 d_Law_law_284 rfl (lt_back (i := i) (by simp) d_Law_law_289 (by decide) (kk _ _ _ _ _ (Nat.le_refl _) (Nat.le_refl _) (lw_I.mod g2 a2 gm2 hp3 ho))))
set_option maxRecDepth 20000 in
theorem lk_3 (htr : l.flags = pinnedFlags ++ [noTraceFlag]) (hI : lw_I K I RJ s) (h1 : kc + 1 ≤ 601024) (h2 : ks + 6 ≤ 7293034) (hi : i + 4 ≤ Ln) (hL : Ln ≤ 2048) (kk : lk_K l kc ks i Ln xs K) : la_X l kc ks (zl_Y Ln xs) 292 (lL i) [] (K, I, RJ) := by
  obtain ⟨⟨tl, nx, g, a⟩, gm, am, ho⟩ := hI
  refine zx_aload_n d_Law_law_292 rfl ?_
  refine zx_aload_n d_Law_law_293 rfl ?_
  refine la_help (S2 := []) (h_append l htr g a ho (by decide)) kc_Law_append ki_Law kd_Law_append kl_Law_64 ks_Law_append rfl rfl (Nat.zero_le _) (Nat.le_of_ble_eq_true rfl) h1 h2 d_Law_law_294 ?_
  rintro r h3 ⟨rfl, I2, RJ2, tl2, nx2, rfl, g2, r3, a2, z2, hj⟩
  obtain ⟨gm2, am2⟩ := lw_I.cls (s := s) ⟨⟨tl, nx, g, a⟩, gm, am, ho⟩ r3 z2
  exact lh_ans (Al := []) (n := 0) (p2 := 300) op_append_k g2 a2 gm2 ho hj (c_mappend l 7 gm2 am2 a.2.1.2.2.2) k_Law_67 rfl (Nat.le_of_ble_eq_true rfl) (by omega) (by omega) d_Law_law_297 d_Law_law_299 (fun z => z) d_Law_law_300 d_Law_law_303 (fun I3 hp3 => lt_thrown (p1 := 316) gm2 hp3.1 rfl rfl (by omega) (by omega) d_Law_law_305 d_Law_law_306 d_Law_law_309 d_Law_law_311 rfl (lt_answer (p1 := 333) op_append_k ho hj rfl rfl rfl d_Law_law_316 d_Law_law_318 d_Law_law_321 d_Law_law_322 d_Law_law_323 d_Law_law_324 d_Law_law_326 d_Law_law_327 d_Law_law_328 rfl (lt_back (i := i) (by simp) d_Law_law_333 (by decide) (kk _ _ _ _ _ (Nat.le_refl _) (Nat.le_refl _) (lw_I.mod g2 a2 gm2 hp3 ho)))))
set_option maxRecDepth 20000 in
theorem lk_4 (htr : l.flags = pinnedFlags ++ [noTraceFlag]) (hI : lw_I K I RJ s) (h1 : kc + 1 ≤ 601024) (h2 : ks + 6 ≤ 7293034) (hi : i + 4 ≤ Ln) (hL : Ln ≤ 2048) (kk : lk_K l kc ks i Ln xs K) : la_X l kc ks (zl_Y Ln xs) 336 (lL i) [] (K, I, RJ) := by
  obtain ⟨⟨tl, nx, g, a⟩, gm, am, ho⟩ := hI
  refine zx_aload_n d_Law_law_336 rfl ?_
  refine la_arg (i := i) (k := 1) d_Law_law_337 d_Law_law_338 d_Law_law_340 (by decide) d_Law_law_341 d_Law_law_342 rfl rfl (by omega) hL ?_
  refine zx_aload_n d_Law_law_343 rfl ?_
  refine la_help (S2 := []) (h_pack l htr g a ho (by decide)) kc_Law_pack ki_Law kd_Law_pack kl_Law_68 ks_Law_pack rfl rfl (Nat.zero_le _) (Nat.le_of_ble_eq_true rfl) h1 h2 d_Law_law_344 ?_
  rintro r h3 ⟨rfl, I2, RJ2, tl2, nx2, rfl, g2, r3, a2, z2, hj⟩
  obtain ⟨gm2, am2⟩ := lw_I.cls (s := s) ⟨⟨tl, nx, g, a⟩, gm, am, ho⟩ r3 z2
  exact lh_ans (Al := [.int (xs (i + 1))]) (n := 1) (p2 := 356) op_pack_k g2 a2 gm2 ho hj (c_mpack2 l gm2 am2) k_Law_71 rfl (Nat.le_of_ble_eq_true rfl) (by omega) (by omega) d_Law_law_347 d_Law_law_349 (fun z => by
      refine la_arg (i := i) (k := 1) d_Law_law_350 d_Law_law_351 d_Law_law_353 (by decide) d_Law_law_354 d_Law_law_355 rfl rfl (by omega) hL ?_
      exact z) d_Law_law_356 d_Law_law_359 (fun I3 hp3 => lt_thrown (p1 := 372) gm2 hp3.1 rfl rfl (by omega) (by omega) d_Law_law_361 d_Law_law_362 d_Law_law_365 d_Law_law_367 rfl (lt_answer (p1 := 389) op_pack_k ho hj rfl rfl rfl d_Law_law_372 d_Law_law_374 d_Law_law_377 d_Law_law_378 d_Law_law_379 d_Law_law_380 d_Law_law_382 d_Law_law_383 d_Law_law_384 rfl (lt_back (i := i) (by simp) d_Law_law_389 (by decide) (kk _ _ _ _ _ (Nat.le_refl _) (Nat.le_refl _) (lw_I.mod g2 a2 gm2 hp3 ho)))))
set_option maxRecDepth 20000 in
theorem lk_5 (htr : l.flags = pinnedFlags ++ [noTraceFlag]) (hI : lw_I K I RJ s) (h1 : kc + 1 ≤ 601024) (h2 : ks + 6 ≤ 7293034) (hi : i + 4 ≤ Ln) (hL : Ln ≤ 2048) (kk : lk_K l kc ks i Ln xs K) : la_X l kc ks (zl_Y Ln xs) 392 (lL i) [] (K, I, RJ) := by
  obtain ⟨⟨tl, nx, g, a⟩, gm, am, ho⟩ := hI
  refine zx_aload_n d_Law_law_392 rfl ?_
  refine zx_aload_n d_Law_law_393 rfl ?_
  refine la_help (S2 := []) (h_unpack l htr g a ho (by decide)) kc_Law_unpack ki_Law kd_Law_unpack kl_Law_72 ks_Law_unpack rfl rfl (Nat.zero_le _) (Nat.le_of_ble_eq_true rfl) h1 h2 d_Law_law_394 ?_
  rintro r h3 ⟨rfl, I2, RJ2, tl2, nx2, rfl, g2, r3, a2, z2, hj⟩
  obtain ⟨gm2, am2⟩ := lw_I.cls (s := s) ⟨⟨tl, nx, g, a⟩, gm, am, ho⟩ r3 z2
  have hl : ∀ v, rd_all s.1 400 [] 0 s.2.2.2.2 0 = .inr v → v.1.1.length ≤ 4600 ∧ v.1.2.1 ≤ 4000 := fun v hv => by
    have e : (op_unpack s).2.2 = (s.1, v.1.1, -1, v.1.2.1, v.1.2.2) := by
      unfold op_unpack
      rw [hv]
    rw [e] at a2
    exact ⟨a2.2.1.1, a2.2.2.2.2.2.2.2.1⟩
  exact lh_ans (Al := []) (n := 0) (p2 := 400) op_unpack_k g2 a2 gm2 ho hj (c_munpack2 l gm2 am2 hl) k_Law_74 rfl (Nat.le_of_ble_eq_true rfl) (by omega) (by omega) d_Law_law_397 d_Law_law_399 (fun z => z) d_Law_law_400 d_Law_law_403 (fun I3 hp3 => lt_thrown (p1 := 416) gm2 hp3.1 rfl rfl (by omega) (by omega) d_Law_law_405 d_Law_law_406 d_Law_law_409 d_Law_law_411 rfl (lt_answer (p1 := 433) op_unpack_k ho hj rfl rfl rfl d_Law_law_416 d_Law_law_418 d_Law_law_421 d_Law_law_422 d_Law_law_423 d_Law_law_424 d_Law_law_426 d_Law_law_427 d_Law_law_428 rfl (lt_back (i := i) (by simp) d_Law_law_433 (by decide) (kk _ _ _ _ _ (Nat.le_refl _) (Nat.le_refl _) (lw_I.mod g2 a2 gm2 hp3 ho)))))
set_option maxRecDepth 20000 in
theorem lk_10 (htr : l.flags = pinnedFlags ++ [noTraceFlag]) (hI : lw_I K I RJ s) (h1 : kc + 1 ≤ 601024) (h2 : ks + 6 ≤ 7293034) (hi : i + 4 ≤ Ln) (hL : Ln ≤ 2048) (kk : lk_K l kc ks i Ln xs K) : la_X l kc ks (zl_Y Ln xs) 488 (lL i) [] (K, I, RJ) := by
  obtain ⟨⟨tl, nx, g, a⟩, gm, am, ho⟩ := hI
  refine zx_aload_n d_Law_law_488 rfl ?_
  refine la_arg (i := i) (k := 1) d_Law_law_489 d_Law_law_490 d_Law_law_492 (by decide) d_Law_law_493 d_Law_law_494 rfl rfl (by omega) hL ?_
  refine zx_aload_n d_Law_law_495 rfl ?_
  refine la_help (S2 := []) (h_out l htr g a ho (by decide)) kc_Law_out ki_Law kd_Law_out kl_Law_91 ks_Law_out rfl rfl (Nat.zero_le _) (Nat.le_of_ble_eq_true rfl) h1 h2 d_Law_law_496 ?_
  rintro r h3 ⟨rfl, I2, RJ2, tl2, nx2, rfl, g2, r3, a2, z2, hj⟩
  obtain ⟨gm2, am2⟩ := lw_I.cls (s := s) ⟨⟨tl, nx, g, a⟩, gm, am, ho⟩ r3 z2
  exact lh_ans (Al := [.int (xs (i + 1))]) (n := 1) (p2 := 508) op_out_k g2 a2 gm2 ho hj (c_mout l 7 gm2 am2) k_Law_93 rfl (Nat.le_of_ble_eq_true rfl) (by omega) (by omega) d_Law_law_499 d_Law_law_501 (fun z => by
      refine la_arg (i := i) (k := 1) d_Law_law_502 d_Law_law_503 d_Law_law_505 (by decide) d_Law_law_506 d_Law_law_507 rfl rfl (by omega) hL ?_
      exact z) d_Law_law_508 d_Law_law_511 (fun I3 hp3 => lt_thrown (p1 := 524) gm2 hp3.1 rfl rfl (by omega) (by omega) d_Law_law_513 d_Law_law_514 d_Law_law_517 d_Law_law_519 rfl (lt_answer (p1 := 541) op_out_k ho hj rfl rfl rfl d_Law_law_524 d_Law_law_526 d_Law_law_529 d_Law_law_530 d_Law_law_531 d_Law_law_532 d_Law_law_534 d_Law_law_535 d_Law_law_536 rfl (lt_back (i := i) (by simp) d_Law_law_541 (by decide) (kk _ _ _ _ _ (Nat.le_refl _) (Nat.le_refl _) (lw_I.mod g2 a2 gm2 hp3 ho)))))
end LK
